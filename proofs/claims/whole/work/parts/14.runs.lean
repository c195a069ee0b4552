/-! Every run. -/
theorem ax_take_s {ρ : Type} {q : ρ} : ∀ (n : Nat) (st acc : List Value) (k : List Value → List Value → Option ρ), ax_take n st acc k = some q → ∃ As r, st = As.reverse ++ r ∧ As.length = n ∧ k (As ++ acc) r = some q
  | 0, st, acc, k, h => ⟨[], st, rfl, rfl, h⟩
  | n + 1, [], _, _, h => by cases h
  | n + 1, v :: st, acc, k, h => by
    obtain ⟨As, r, e1, e2, e3⟩ := ax_take_s n st (v :: acc) k h
    refine ⟨As ++ [v], r, ?_, by simp [e2], ?_⟩
    · rw [e1]; simp
    · rw [← e3]; simp
theorem ax_end_h {m : Nat} {i : Instr} {st : List Value} {h h' : ax_H} {v : Option Value} (hh : ax_end m i st h = some (v, h')) : h = h' := by
  unfold ax_end at hh
  split at hh
  · split at hh
    · split at hh
      · cases hh; rfl
      · split at hh
        · cases hh; rfl
        · split at hh
          · cases hh; rfl
          · cases hh
      · cases hh
    · cases hh
  · split at hh
    · rcases ax_bif_s hh with ⟨_, hk⟩ | ⟨_, hk⟩ <;> cases hk; rfl
    · cases hh
  · split at hh
    · rcases ax_bif_s hh with ⟨_, hk⟩ | ⟨_, hk⟩ <;> cases hk; rfl
    · rcases ax_bif_s hh with ⟨_, hk⟩ | ⟨_, hk⟩ <;> cases hk; rfl
    · cases hh
  · split at hh
    · rcases ax_bif_s hh with ⟨_, hk⟩ | ⟨_, hk⟩ <;> cases hk; rfl
    · cases hh
  · cases hh
theorem ax_into_s {run : Nat → Nat → Nat → List Value → List Value → ax_H → ax_O} {d m pc c : Nat} {ls As r : List Value} {h h' : ax_H} {v : Option Value} (hh : ax_into run d m pc ls c As r h = some (v, h')) : (ax_ent As).length ≤ ax_maxL c ∧ ∃ d1 v1 h1, ((d1 = d ∧ ax_lvl c < ax_lvl m) ∨ d = d1 + 1) ∧ run d1 c 0 (ax_pad (ax_maxL c) (ax_ent As)) [] h = some (v1, h1) ∧ run d m (pc + 3) ls (v1.toList ++ r) h1 = some (v, h') := by
  unfold ax_into at hh
  rcases ax_bif_s hh with ⟨hl, hk⟩ | ⟨_, hk⟩
  · refine ⟨Nat.le_of_ble_eq_true hl, ?_⟩
    split at hk
    · cases hk
    · rename_i v1 h1 hc
      rcases ax_bif_s hc with ⟨h2, hc⟩ | ⟨h2, hc⟩
      · split at hc
        · cases hc
        · exact ⟨_, v1, h1, Or.inr rfl, hc, hk⟩
      · refine ⟨d, v1, h1, Or.inl ⟨rfl, ?_⟩, hc, hk⟩
        refine Nat.lt_of_not_le fun q => ?_
        rw [Nat.ble_eq_true_of_le q] at h2
        cases h2
  · cases hk
/-- what a run of so much fuel is on the machine -/
def ax_Snd (l : Launch) (G : ax_G) (X : Nat × (Nat → Int32)) (n : Nat) : Prop := ∀ (d m pc : Nat) (ls st : List Value) (h : ax_H) (v : Option Value) (h' : ax_H), ax_run X n d m pc ls st h = some (v, h') → (h.length ≤ h'.length ∧ ax_hsz h ≤ ax_hsz h') ∧
  ∀ (p : Program) (e : Env) (R : Room) (s : State) (mid : MethodId) (args : Array Value) (below : List Frame) (meth : Method) (c : Code) (Q : State → Prop) (lsM : Array Slot) (H : Heap) (locs : List Loc) (cells slots mc ms : Nat), ax_fr m d ≤ R.frames → 40 * ax_fr m d ≤ R.locals → mc ≤ R.cells → ms ≤ R.slots → ax_Cx G X p s mid args meth c m → ax_Lv G lsM (ax_maxL m) ls → ax_Rep G h H → va_S (ax_A G) s.heap H locs → cells + (h'.length - h.length) = mc → slots + (ax_hsz h' - ax_hsz h) = ms →
    (∀ (pc1 : Nat) (i : Instr) (st1 : List Value) (lsM1 : Array Slot) (H1 : Heap) (locs1 : List Loc), ax_fetch m pc1 = some i → ax_end m i st1 h' = some (v, h') → ax_Rep G h' H1 → va_S (ax_A G) s.heap H1 locs1 → W p l e R s mid args below meth c H1 locs1 mc ms Q (F0 mid pc1 lsM1 (st1.map (ax_cv G)))) →
    W p l e R s mid args below meth c H locs cells slots Q (F0 mid pc lsM (st.map (ax_cv G)))
theorem ax_met (F : ax_FF) {l : Launch} {G : ax_G} {X : Nat × (Nat → Int32)} {n : Nat} (I : ax_Snd l G X n) {d m : Nat} {As : List Value} {h h' : ax_H} {v : Option Value} (hm : m < 312 ∧ m ≠ 308) (hr : ax_run X n d m 0 (ax_pad (ax_maxL m) (ax_ent As)) [] h = some (v, h')) (hn : (ax_ent As).length ≤ ax_maxL m) :
    Met l (ax_mt m).1 (ax_wd m) (ax_rm m d (h'.length - h.length) (ax_hsz h' - ax_hsz h)) (va_Pc (As.map (ax_cv G)) (ax_Pre G X h)) (ax_Qc G v h') (h'.length - h.length) (ax_hsz h' - ax_hsz h) (ax_A G) := by
  obtain ⟨f1, f2, f3, f4, f5, k0, k1, k2, k3, k4⟩ := F.2.1 m hm.1 hm.2
  refine Met.ofW (cc := (ax_mt m).2.1) (maxL := ax_maxL m) (ret := (ax_mt m).2.2.2.1) f3 rfl ?_
  intro p e s mid args below meth c s₁ B hml hv
  obtain ⟨rfl, hRep, hSt⟩ := hv
  have hts := atoms_spec (ws := ax_wd m) B.pre
  have hx := B.exec
  have hb := B.bytes
  have hr2 := B.returns
  have hlocks := B.notSynchronized
  have hown : s.vm.findClass (ax_on (ax_own m)) = some mid.cls := by
    rw [← (F.1.2.2.2.2 m).1]; exact findClass_of_methodNamed B.named
  rw [lg_entry_eq]
  refine (I d m 0 _ [] h v h' hr).2 p e _ s mid _ below meth c _ _ s.heap [] 0 0 _ _ (Nat.le_refl _) (Nat.le_refl _) (Nat.le_refl _) (Nat.le_refl _) ⟨hx, hb, hml, hown, fun w hw => hts w (List.mem_cons_of_mem _ hw), fun hi => ?_, hSt⟩ (ax_Lv.entry hn) hRep va_S.rf (Nat.zero_add _) (Nat.zero_add _) ?_
  · rw [(name_of_methodNamed B.named B.method).1]
    exact (F.1.2.2.2.2 m).2.1 hi
  · intro pc1 i st1 lsM1 H1 locs1 hf he hR1 hS1
    obtain ⟨len, hd, hln⟩ := F.1.2.2.2.1 m pc1 i hf
    have fin : ∀ t : State, t.heap = H1 → ∀ o : Outcome, o = .returned (v.map (ax_cv G)) → ax_Qc G v h' (As.map (ax_cv G)).toArray s o t := fun t ht o ho => ⟨ho, by rw [ht]; exact hR1, hS1.F ht⟩
    unfold ax_end at he
    split at he
    · obtain rfl := Nat.eq_of_beq_eq_true hln
      split at he
      · split at he
        · rename_i hk
          cases he
          exact W.iret hx hb (by rw [hr2, k1 hk]) (fun t ht _ => fin t ht _ rfl) hS1.2.2 hd
        · rename_i hk
          split at he
          · rename_i hv; subst hv; cases he
            exact W.zret (ty := .boolean) hx hb (by rw [hr2, k2 hk]) rfl (fun t ht _ => fin t ht _ rfl) hS1.2.2 hd
          · split at he
            · rename_i hv; subst hv; cases he
              exact W.zret (ty := .boolean) hx hb (by rw [hr2, k2 hk]) rfl (fun t ht _ => fin t ht _ rfl) hS1.2.2 hd
            · cases he
        · cases he
      · cases he
    · obtain rfl := Nat.eq_of_beq_eq_true hln
      split at he
      · rcases ax_bif_s he with ⟨hk, he⟩ | ⟨_, he⟩
        · cases he
          exact W.lret hx hb (by rw [hr2, k3 (Nat.eq_of_beq_eq_true hk)]) (fun t ht _ => fin t ht _ rfl) hS1.2.2 hd
        · cases he
      · cases he
    · obtain rfl := Nat.eq_of_beq_eq_true hln
      split at he
      · rcases ax_bif_s he with ⟨hk, he⟩ | ⟨_, he⟩
        · cases he
          obtain ⟨rt, h1, h2⟩ := k4 (Nat.eq_of_beq_eq_true hk)
          exact W.aret hx hb (by rw [hr2, h1]) h2 (Or.inr ⟨_, rfl⟩) (fun t ht _ => fin t ht _ rfl) hS1.2.2 hd
        · cases he
      · rcases ax_bif_s he with ⟨hk, he⟩ | ⟨_, he⟩
        · cases he
          obtain ⟨rt, h1, h2⟩ := k4 (Nat.eq_of_beq_eq_true hk)
          exact W.aret hx hb (by rw [hr2, h1]) h2 (Or.inl rfl) (fun t ht _ => fin t ht _ rfl) hS1.2.2 hd
        · cases he
      · cases he
    · obtain rfl := Nat.eq_of_beq_eq_true hln
      split at he
      · rcases ax_bif_s he with ⟨hk, he⟩ | ⟨_, he⟩
        · cases he
          exact W.vret hx hb (by rw [hr2, k0 (Nat.eq_of_beq_eq_true hk)]) (fun t ht _ => fin t ht _ rfl) hS1.2.2 hd
        · cases he
      · cases he
    · cases he
