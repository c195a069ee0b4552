/-! The soundness of runs. -/
/-- the three methods of text constants, as steps (proved in a part of their own) -/
def ax_FS : Prop := ∀ (p : Program) (l : Launch) (e : Env) (R : Room) (s : State) (mid : MethodId) (args : Array Value) (below : List Frame) (meth : Method) (c : Code) (H : Heap) (locs : List Loc) (cells slots : Nat) (Q : State → Prop) (G : ax_G) (X : Nat × (Nat → Int32)) (m pc j k : Nat) (lsM : Array Slot) (rest : List Value), ax_Cx G X p s mid args meth c m → va_S (ax_A G) s.heap H locs → c.maxLocals = lsM.size → 6 ≤ R.frames → 240 ≤ R.locals → (rest.map fun v => v.category).sum ≤ 8 → cells ≤ R.cells → slots ≤ R.slots → decode (ax_mt m).2.1 pc = .ok (.invokevirtual j, 3) → k ≤ 1 →
  (ax_lk (ax_own m) j = (5, 2) → W p l e R s mid args below meth c H locs cells slots Q (F0 mid (pc + 3) lsM (.int (Int32.ofNat (ax_str k).length) :: rest)) → W p l e R s mid args below meth c H locs cells slots Q (F0 mid pc lsM (.ref (G.2.2.1 k) :: rest))) ∧
  (∀ i : Int32, ax_lk (ax_own m) j = (5, 3) → ¬ (i < 0 ∨ (ax_str k).length ≤ i.toNatClampNeg) → W p l e R s mid args below meth c H locs cells slots Q (F0 mid (pc + 3) lsM (.int (Int32.ofNat ((ax_str k).getD i.toNatClampNeg 0)) :: rest)) → W p l e R s mid args below meth c H locs cells slots Q (F0 mid pc lsM (.int i :: .ref (G.2.2.1 k) :: rest))) ∧
  (∀ i : Int32, ax_lk (ax_own m) j = (5, 4) → ¬ (i < 0 ∨ 256 ≤ i.toNatClampNeg) → W p l e R s mid args below meth c H locs cells slots Q (F0 mid (pc + 3) lsM (.int (ax_find i.toNatClampNeg (ax_str k) 0) :: rest)) → W p l e R s mid args below meth c H locs cells slots Q (F0 mid pc lsM (.int i :: .ref (G.2.2.1 k) :: rest)))
abbrev ax_FF : Prop := ax_F1 ∧ ax_Fn ∧ ax_Fl ∧ ax_FS
section
variable {p : Program} {l : Launch} {e : Env} {R : Room} {s : State} {mid : MethodId} {args : Array Value} {below : List Frame} {meth : Method} {c : Code} {Q : State → Prop} {G : ax_G} {X : Nat × (Nat → Int32)} {m : Nat}
variable {cells slots pc : Nat} {ls st : List Value} {h h1 : ax_H} {lsM : Array Slot} {H : Heap} {locs : List Loc}
theorem ax_cat_map (st : List Value) : ((st.map (ax_cv G)).map fun v => v.category).sum = ax_cat st := by
  unfold ax_cat
  rw [List.map_map]
  congr 1
  apply List.map_congr_left
  intro v _
  exact ax_cat_cv G v
set_option maxHeartbeats 4000000 in
theorem ax_prim_ok (F : ax_FF) (C : ax_Cx G X p s mid args meth c m) {i : Instr} {len pc' j q : Nat} {ls' st' : List Value} (hd : decode (ax_mt m).2.1 pc = .ok (i, len)) (hln : ax_ln (ax_maxL m) pc i len = true) (hj : ax_call i = j + 2) (hlk : ax_lk (ax_own m) j = (5, q)) (hiv : ax_iv i = ax_kk 5 q) (hcat : ax_cat st ≤ 9) (hlv : ax_pl q ≤ ax_lvl m) (hfr : ax_lvl m + 1 ≤ R.frames) (hlo : 40 * (ax_lvl m + 1) ≤ R.locals) (hL : ax_Lv G lsM (ax_maxL m) ls) (hR : ax_Rep G h H) (hS : va_S (ax_A G) s.heap H locs) (hst : ax_prim pc q ls st h ax_ret = some (pc', ls', st', h1)) (hc0 : cells ≤ R.cells) (hs0 : slots ≤ R.slots) (hc : cells + (h1.length - h.length) ≤ R.cells) (hs : slots + (ax_hsz h1 - ax_hsz h) ≤ R.slots)
    (K : ax_Go p l e R s mid args below meth c Q G m h cells slots pc' ls' st' h1) : W p l e R s mid args below meth c H locs cells slots Q (F0 mid pc lsM (st.map (ax_cv G))) := by
  have C0 := C
  obtain ⟨hx, hb, hml, hown, hts, hini, hSt⟩ := C
  have hml2 : c.maxLocals = lsM.size := by rw [hml, hL.1]
  have hF := F.2.2.1 (ax_own m) j
  rw [hlk] at hF
  have room : ∀ {r : List Value} {k : Nat}, ax_cat r + k ≤ 40 → ((r.map (ax_cv G)).map fun v => v.category).sum + k ≤ R.locals := fun {r k} q => by rw [ax_cat_map]; omega
  have f1 : 1 ≤ R.frames := by omega
  have special : ax_iv i = 2 → i = .invokespecial j ∧ len = 3 := by
    intro q
    cases i <;> first | cases q | skip
    cases hj
    exact ⟨rfl, Nat.eq_of_beq_eq_true hln⟩
  have static : ax_iv i = 1 → i = .invokestatic j ∧ len = 3 := by
    intro q
    cases i <;> first | cases q | skip
    cases hj
    exact ⟨rfl, Nat.eq_of_beq_eq_true hln⟩
  have virtual : ax_iv i = 0 → i = .invokevirtual j ∧ len = 3 := by
    intro q
    cases i <;> first | cases q | skip
    cases hj
    exact ⟨rfl, Nat.eq_of_beq_eq_true hln⟩
  unfold ax_prim at hst
  split at hst
  · obtain ⟨rfl, rfl⟩ := special hiv
    obtain ⟨g1, g2, g3⟩ := hF
    split at hst
    · rename_i a r
      cases hst
      have hr : ax_cat st' ≤ 12 := by simp [ax_cat] at hcat ⊢; omega
      exact W.objInit hx hb hown (hts _ g1) (hts _ g2) (hts _ g3) rfl hml2.symm rfl hd f1 (by show 2 * 0 + _ + 12 ≤ _; have := room (r := st') (k := 12) (by omega); omega) (ax_K0 K rfl rfl hL hR hS)
    · cases hst
  · obtain ⟨rfl, rfl⟩ := static hiv
    obtain ⟨g1, g2, g3, g4⟩ := hF
    split at hst
    · rename_i n dp d sp a r
      have hr : ax_cat r ≤ 12 := by simp [ax_cat] at hcat ⊢; omega
      have h18 : nativeFrameWords "java/lang/System" "arraycopy" 5 + 11 = 18 := by decide
      have hloc := room (r := r) (k := nativeFrameWords "java/lang/System" "arraycopy" 5 + 11) (by rw [h18]; omega)
      split at hst
      · rename_i t1 n1 c1 t2 n2 c2 ha hd2
        split at hst
        · cases hst
        · rename_i hq
          have q1 : ¬ n < 0 := fun z => hq (Or.inl z)
          have q2 : ¬ sp < 0 := fun z => hq (Or.inr (Or.inl z))
          have q3 : ¬ dp < 0 := fun z => hq (Or.inr (Or.inr (Or.inl z)))
          have q4 : sp.toNatClampNeg + n.toNatClampNeg ≤ n1 := Nat.not_lt.mp fun z => hq (Or.inr (Or.inr (Or.inr (Or.inl z))))
          have q5 : dp.toNatClampNeg + n.toNatClampNeg ≤ n2 := Nat.not_lt.mp fun z => hq (Or.inr (Or.inr (Or.inr (Or.inr z))))
          split at hst
          · cases hst
            exact ax_rcopyi hx hb hml2 hown (hts _ g1) (hts _ g2) (hts _ g3) (hts _ g4) hSt.1 hR hS ha hd2 q2 q3 q1 q4 q5 f1 hloc hd (fun H1 locs1 hR1 hS1 => ax_K0 K (List.length_set ..) (ax_hsz_set _ _ _ _ hd2 rfl) hL hR1 hS1)
          · rcases ax_bif_s hst with ⟨hel, hk⟩ | ⟨_, hk⟩
            · cases hk
              exact ax_rcopyq hx hb hml2 hown (hts _ g1) (hts _ g2) (hts _ g3) (hts _ g4) hSt.1 hR hS ha hd2 q2 q3 q1 q4 q5 hel f1 hloc hd (fun H1 locs1 hR1 hS1 => ax_K0 K (List.length_set ..) (ax_hsz_set _ _ _ _ hd2 rfl) hL hR1 hS1)
            · cases hk
          · cases hst
      · cases hst
    · cases hst
  · obtain ⟨rfl, rfl⟩ := virtual hiv
    have h6 : 6 ≤ ax_lvl m := hlv
    split at hst
    · rename_i k r
      rcases ax_bif_s hst with ⟨hk1, hk⟩ | ⟨_, hk⟩
      · cases hk
        have hr : ax_cat r ≤ 8 := by have h9 : 1 + ax_cat r ≤ 9 := hcat; omega
        exact (F.2.2.2 p l e R s mid args below meth c H locs cells slots Q G X m pc j k lsM (r.map (ax_cv G)) C0 hS hml2 (by omega) (by omega) (by rw [ax_cat_map]; exact hr) hc0 hs0 hd (Nat.le_of_ble_eq_true hk1)).1 hlk (ax_K0 K rfl rfl hL hR hS)
      · cases hk
    · cases hst
  · obtain ⟨rfl, rfl⟩ := virtual hiv
    have h6 : 6 ≤ ax_lvl m := hlv
    split at hst
    · rename_i i k r
      rcases ax_bif_s hst with ⟨hk1, hk⟩ | ⟨_, hk⟩
      · split at hk
        · cases hk
        · rename_i hq
          cases hk
          have hr : ax_cat r ≤ 8 := by have h9 : 1 + (1 + ax_cat r) ≤ 9 := hcat; omega
          exact (F.2.2.2 p l e R s mid args below meth c H locs cells slots Q G X m pc j k lsM (r.map (ax_cv G)) C0 hS hml2 (by omega) (by omega) (by rw [ax_cat_map]; exact hr) hc0 hs0 hd (Nat.le_of_ble_eq_true hk1)).2.1 i hlk hq (ax_K0 K rfl rfl hL hR hS)
      · cases hk
    · cases hst
  · obtain ⟨rfl, rfl⟩ := virtual hiv
    have h6 : 6 ≤ ax_lvl m := hlv
    split at hst
    · rename_i i k r
      rcases ax_bif_s hst with ⟨hk1, hk⟩ | ⟨_, hk⟩
      · split at hk
        · cases hk
        · rename_i hq
          cases hk
          have hr : ax_cat r ≤ 8 := by have h9 : 1 + (1 + ax_cat r) ≤ 9 := hcat; omega
          exact (F.2.2.2 p l e R s mid args below meth c H locs cells slots Q G X m pc j k lsM (r.map (ax_cv G)) C0 hS hml2 (by omega) (by omega) (by rw [ax_cat_map]; exact hr) hc0 hs0 hd (Nat.le_of_ble_eq_true hk1)).2.2 i hlk hq (ax_K0 K rfl rfl hL hR hS)
      · cases hk
    · cases hst
  · obtain ⟨rfl, rfl⟩ := virtual hiv
    obtain ⟨g1, g2, g3, g4, g5, g6⟩ := hF
    split at hst
    · rename_i a r
      split at hst
      · rename_i n f ha
        cases hst
        have hr : ax_cat r ≤ 12 := by simp [ax_cat] at hcat ⊢; omega
        rw [ax_hsz_app, Nat.add_sub_cancel_left] at hs
        rw [List.length_append, Nat.add_sub_cancel_left] at hc
        exact ax_rclone hx hb hml2 hown (hts _ g1) (hts _ g2) (hts _ g3) (hts _ g4) (hts _ g5) (hSt.2.2.2.2.1 _ g6) hSt.1 hR hS ha f1 (room (by omega)) hc hs hd (fun H1 locs1 hR1 hS1 => ax_K1 K rfl hL hR1 hS1)
      · cases hst
    · cases hst
  · obtain ⟨rfl, rfl⟩ := static hiv
    obtain ⟨g1, g2, g3, g4⟩ := hF
    obtain ⟨x, y, r, rfl, hk⟩ := ax_i2_s hst
    cases hk
    have hr : ax_cat r ≤ 12 := by simp [ax_cat] at hcat ⊢; omega
    exact va_mmax hx hb hml2 hown (hts _ g1) (hts _ g2) (hts _ g3) (hts _ g4) f1 (room (by omega)) hc0 hs0 hd (ax_K0 K rfl rfl hL hR hS)
  · obtain ⟨rfl, rfl⟩ := static hiv
    obtain ⟨g1, g2, g3, g4⟩ := hF
    obtain ⟨x, y, r, rfl, hk⟩ := ax_i2_s hst
    cases hk
    have hr : ax_cat r ≤ 12 := by simp [ax_cat] at hcat ⊢; omega
    exact va_mmin hx hb hml2 hown (hts _ g1) (hts _ g2) (hts _ g3) (hts _ g4) f1 (room (by omega)) hc0 hs0 hd (ax_K0 K rfl rfl hL hR hS)
  · obtain ⟨rfl, rfl⟩ := static hiv
    obtain ⟨g1, g2, g3, g4⟩ := hF
    obtain ⟨x, y, r, rfl, hk⟩ := ax_l2_s hst
    cases hk
    have hr : ax_cat r ≤ 12 := by simp [ax_cat] at hcat ⊢; omega
    exact va_mmax_long hx hb hml2 hown (hts _ g1) (hts _ g2) (hts _ g3) (hts _ g4) f1 (room (by omega)) hc0 hs0 hd (ax_K0 K rfl rfl hL hR hS)
  · obtain ⟨rfl, rfl⟩ := static hiv
    obtain ⟨g1, g2, g3, g4⟩ := hF
    obtain ⟨x, y, r, rfl, hk⟩ := ax_l2_s hst
    cases hk
    have hr : ax_cat r ≤ 12 := by simp [ax_cat] at hcat ⊢; omega
    exact va_mmin_long hx hb hml2 hown (hts _ g1) (hts _ g2) (hts _ g3) (hts _ g4) f1 (room (by omega)) hc0 hs0 hd (ax_K0 K rfl rfl hL hR hS)
  · cases hst
end
