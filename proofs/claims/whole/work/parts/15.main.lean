/-! Soundness, by the fuel. -/
theorem ax_rest_cat {G : ax_G} (r : List Value) (h : ax_cat r ≤ 8) : ((r.map (ax_cv G)).map fun v => v.category).sum ≤ 8 := by rw [ax_cat_map]; exact h
set_option maxHeartbeats 8000000 in
theorem ax_main (F : ax_FF) (l : Launch) (G : ax_G) (X : Nat × (Nat → Int32)) : ∀ n, ax_Snd l G X n := by
  intro n
  induction n with
  | zero => intro d m pc ls st h v h' hr; cases hr
  | succ n I =>
    intro d m pc ls st h v h' hr
    unfold ax_run at hr
    split at hr
    · cases hr
    · rename_i i hf
      obtain ⟨len, hd, hln⟩ := F.1.2.2.2.1 m pc i hf
      split at hr
      · rw [ax_step_b] at hr
        obtain ⟨q, hq, hk⟩ := Option.bind_eq_some_iff.mp hr
        obtain ⟨pc', ls', st', h1⟩ := q
        have m1 := ax_step_mono hq
        obtain ⟨m2, w2⟩ := I d m pc' ls' st' h1 v h' hk
        refine ⟨⟨Nat.le_trans m1.1 m2.1, Nat.le_trans m1.2 m2.2⟩, ?_⟩
        intro p e R s mid args below meth c Q lsM H locs cells slots mc ms r1 r2 r3 r4 C hL hR hS ec es hend
        exact ax_step_ok F.1 C hd hln hL hR hS hq (by omega) (by omega) (fun lsM1 H1 locs1 hL1 hR1 hS1 => w2 p e R s mid args below meth c Q lsM1 H1 locs1 _ _ mc ms r1 r2 r3 r4 C hL1 hR1 hS1 (by omega) (by omega) hend)
      · have e0 := ax_end_h hr
        subst e0
        refine ⟨⟨Nat.le_refl _, Nat.le_refl _⟩, ?_⟩
        intro p e R s mid args below meth c Q lsM H locs cells slots mc ms r1 r2 r3 r4 C hL hR hS ec es hend
        rw [Nat.sub_self, Nat.add_zero] at ec es
        subst ec; subst es
        exact hend pc i st lsM H locs hf hr hR hS
      · rename_i j hj
        rcases ax_bif_s hr with ⟨hiv0, hrA⟩ | ⟨_, hrA⟩
        · have hiv := Nat.eq_of_beq_eq_true hiv0
          clear hr hiv0
          generalize hlk : ax_lk (ax_own m) j = lk at hrA hiv
          obtain ⟨kd, q⟩ := lk
          dsimp only at hrA hiv
          rcases ax_bif_s hrA with ⟨h5, hrB⟩ | ⟨h5, hrB⟩
          · have e5 := Nat.eq_of_beq_eq_true h5
            clear hrA h5
            subst e5
            rcases ax_bif_s hrB with ⟨hg, hrC⟩ | ⟨_, hrC⟩
            · obtain ⟨hg1, hg2⟩ := Bool.and_eq_true_iff.mp hg
              rw [ax_prim_b] at hrC
              obtain ⟨z, hq, hk⟩ := Option.bind_eq_some_iff.mp hrC
              obtain ⟨pc', ls', st', h1⟩ := z
              have m1 := ax_prim_mono hq
              obtain ⟨m2, w2⟩ := I d m pc' ls' st' h1 v h' hk
              refine ⟨⟨Nat.le_trans m1.1 m2.1, Nat.le_trans m1.2 m2.2⟩, ?_⟩
              intro p e R s mid args below meth c Q lsM H locs cells slots mc ms r1 r2 r3 r4 C hL hR hS ec es hend
              have hfr : ax_lvl m + 1 ≤ ax_fr m d := by unfold ax_fr; omega
              exact ax_prim_ok F C hd hln hj hlk hiv (Nat.le_of_ble_eq_true hg1) (Nat.le_of_ble_eq_true hg2) (by omega) (by omega) hL hR hS hq (by omega) (by omega) (by omega) (by omega) (fun lsM1 H1 locs1 hL1 hR1 hS1 => w2 p e R s mid args below meth c Q lsM1 H1 locs1 _ _ mc ms r1 r2 r3 r4 C hL1 hR1 hS1 (by omega) (by omega) hend)
            · cases hrC
          · rcases ax_bif_s hrB with ⟨h4, hrC⟩ | ⟨_, hrC⟩
            · obtain ⟨As, r, est, hAn, hrD⟩ := ax_take_s _ _ _ _ hrC
              rw [List.append_nil] at hrD
              clear hrA hrB hrC
              subst est
              rcases ax_bif_s hrD with ⟨h80, hr⟩ | ⟨_, hr⟩
              · have h8 := Nat.le_of_ble_eq_true h80
                clear hrD h80
                have hFl := F.2.2.1 (ax_own m) j
                rw [hlk] at hFl
                have hk5 : kd ≤ 4 := Nat.le_of_ble_eq_true h4
                -- the callee's run and the rest
                have key : ∃ (d1 : Nat) (v1 : Option Value) (h1 : ax_H), ((d1 = d ∧ ax_lvl q < ax_lvl m) ∨ d = d1 + 1) ∧ (ax_ent As).length ≤ ax_maxL q ∧ ax_run X n d1 q 0 (ax_pad (ax_maxL q) (ax_ent As)) [] h = some (v1, h1) ∧ ax_run X n d m (pc + 3) ls (v1.toList ++ r) h1 = some (v, h') ∧ (ax_inst kd = true → ∃ a As' fs, As = .ref (a + 1) :: As' ∧ ax_at h a = some (.inr (ax_own q, fs))) := by
                  rcases ax_bif_s hr with ⟨h0, hx⟩ | ⟨h0, hx⟩
                  · unfold ax_recv at hx
                    split at hx
                    · rename_i a As'
                      split at hx
                      · rename_i ci fs he
                        rcases ax_bif_s hx with ⟨hci, hy⟩ | ⟨_, hy⟩
                        · obtain ⟨g1, d1, v1, h1, g2, g3, g4⟩ := ax_into_s hy
                          have := Nat.eq_of_beq_eq_true hci
                          rw [this] at he
                          exact ⟨d1, v1, h1, g2, g1, g3, g4, fun _ => ⟨a, As', fs, rfl, he⟩⟩
                        · cases hy
                      · cases hx
                    · cases hx
                  · obtain ⟨g1, d1, v1, h1, g2, g3, g4⟩ := ax_into_s hx
                    exact ⟨d1, v1, h1, g2, g1, g3, g4, fun z => by rw [z] at h0; cases h0⟩
                clear hr
                obtain ⟨d1, v1, h1, hdd, hen, hr1, hr2, hrec⟩ := key
                obtain ⟨m1, -⟩ := I d1 q 0 _ [] h v1 h1 hr1
                obtain ⟨m2, w2⟩ := I d m (pc + 3) ls (v1.toList ++ r) h1 v h' hr2
                refine ⟨⟨Nat.le_trans m1.1 m2.1, Nat.le_trans m1.2 m2.2⟩, ?_⟩
                intro p e R s mid args below meth c Q lsM H locs cells slots mc ms r1 r2 r3 r4 C hL hR hS ec es hend
                have C0 := C
                obtain ⟨hx, hb, hml, hown, hts, hini, hSt⟩ := C
                have hq : q < 312 ∧ q ≠ 308 := by
                  rcases (by omega : kd = 0 ∨ kd = 1 ∨ kd = 2 ∨ kd = 3 ∨ kd = 4) with rfl | rfl | rfl | rfl | rfl <;> exact hFl.1
                obtain ⟨f1, f2, f3, f4, ⟨f5, f6⟩, -⟩ := F.2.1 q hq.1 hq.2
                have hM := ax_met F I hq hr1 hen
                have hfr : ax_fr q d1 + 1 ≤ ax_fr m d := by
                  unfold ax_fr
                  rcases hdd with ⟨rfl, h⟩ | rfl <;> omega
                have hroom : (ax_rm q d1 (h1.length - h.length) (ax_hsz h1 - ax_hsz h)).frames + 1 ≤ R.frames ∧ 8 + (ax_maxL q + 11) + (ax_rm q d1 (h1.length - h.length) (ax_hsz h1 - ax_hsz h)).locals ≤ R.locals := by
                  show ax_fr q d1 + 1 ≤ R.frames ∧ 8 + (ax_maxL q + 11) + 40 * ax_fr q d1 ≤ R.locals
                  omega
                have hbud : cells + (h1.length - h.length) ≤ R.cells ∧ slots + (ax_hsz h1 - ax_hsz h) ≤ R.slots := by omega
                have hG := ax_tb_good q f1
                have hpre : ∀ U : State, U.heap = H → s.WarmedH U.vm → va_Pc (As.map (ax_cv G)) (ax_Pre G X h) (As.map (ax_cv G)).toArray U := fun U hU hW => ⟨rfl, by rw [hU]; exact hR, hSt.warm hS hU hW⟩
                have behind : ∀ (H1 : Heap) (locs1 : List Loc), ax_Rep G h1 H1 → va_S (ax_A G) s.heap H1 locs1 → W p l e R s mid args below meth c H1 locs1 (cells + (h1.length - h.length)) (slots + (ax_hsz h1 - ax_hsz h)) Q (F0 mid (pc + 3) lsM ((v1.map (ax_cv G)).toList ++ r.map (ax_cv G))) := by
                  intro H1 locs1 hR1 hS1
                  have w := w2 p e R s mid args below meth c Q lsM H1 locs1 (cells + (h1.length - h.length)) (slots + (ax_hsz h1 - ax_hsz h)) mc ms r1 r2 r3 r4 C0 hL hR1 hS1 (by omega) (by omega) hend
                  have est : (v1.toList ++ r).map (ax_cv G) = (v1.map (ax_cv G)).toList ++ r.map (ax_cv G) := by cases v1 <;> rfl
                  rw [est] at w
                  exact w
                have hst2 : (As.reverse ++ r).map (ax_cv G) = (As.map (ax_cv G)).reverse ++ r.map (ax_cv G) := by rw [List.map_append, List.map_reverse]
                rw [hst2]
                have special : ax_iv i = 2 → i = .invokespecial j ∧ len = 3 := by
                  intro z
                  cases i <;> first | cases z | skip
                  cases hj
                  exact ⟨rfl, Nat.eq_of_beq_eq_true hln⟩
                have static : ax_iv i = 1 → i = .invokestatic j ∧ len = 3 := by
                  intro z
                  cases i <;> first | cases z | skip
                  cases hj
                  exact ⟨rfl, Nat.eq_of_beq_eq_true hln⟩
                have virtual : ax_iv i = 0 → i = .invokevirtual j ∧ len = 3 := by
                  intro z
                  cases i <;> first | cases z | skip
                  cases hj
                  exact ⟨rfl, Nat.eq_of_beq_eq_true hln⟩
                rcases (by omega : kd = 0 ∨ kd = 1 ∨ kd = 2 ∨ kd = 3 ∨ kd = 4) with rfl | rfl | rfl | rfl | rfl
                · obtain ⟨rfl, rfl⟩ := virtual hiv
                  obtain ⟨-, g1, g2, g3, g4, na, g5, g6⟩ := hFl
                  obtain ⟨a, As', fs, rfl, he⟩ := hrec rfl
                  have hcl := (F.1.1 (ax_own q) g4).1
                  have hcn : (ax_mt q).1.cls = ax_cn (ax_own q) := by rw [(F.1.2.2.2.2 q).1]; exact (F.1.2.2.2.2 q).2.2 g4
                  refine ax_calla (va_runV (As := As'.map (ax_cv G)) (rest := r.map (ax_cv G)) (b := G.2.1 + a) (C := (ax_mt q).1.cls) (n := na) ⟨hx, hb, hml, hown, hts⟩ hM ⟨callB_of na hts hG rfl rfl rfl (hts _ f2) (hts _ g1) ⟨f4.1, f4.2, g6⟩ hroom, hts _ g2, hts _ g3⟩ ⟨ax_blind, ?_, hpre⟩ rfl ?_ hL.1 ?_ (lv_room (ax_rest_cat r h8)) hd hbud) hS behind
                  · rw [hcn]
                    exact va_recv hSt.1 (hR.one he) hcl (q0 := 0) rfl
                  · have g7 : ax_na q = na + 1 := g5
                    rw [List.length_map]; simp only [List.length_cons] at hAn; omega
                  · simp [ax_cv, ax_cr]
                · obtain ⟨rfl, rfl⟩ := static hiv
                  obtain ⟨-, g1, g2, g3⟩ := hFl
                  exact ax_calla (va_runS (As := As.map (ax_cv G)) (rest := r.map (ax_cv G)) (n := ax_na q) ⟨hx, hb, hml, hown, hts⟩ hM ⟨callB_of (ax_na q) hts hG rfl rfl rfl (hts _ f2) (hts _ g1) ⟨f4.1, f4.2, g3⟩ hroom, hts _ g2⟩ ⟨ax_blind, hpre⟩ rfl (by rw [List.length_map]; exact hAn) hL.1 rfl (lv_room (ax_rest_cat r h8)) hd hbud) hS behind
                · obtain ⟨rfl, rfl⟩ := special hiv
                  obtain ⟨-, g1, g2, g3, g4, na, g5, g6⟩ := hFl
                  obtain ⟨a, As', fs, rfl, he⟩ := hrec rfl
                  have hw : ax_wd q = Cond.code (ax_mt q).1 (ax_mt q).2.1 (ax_maxL q) none :: ax_tb := by unfold ax_wd; rw [g4]
                  refine ax_calla (va_runI (As := As'.map (ax_cv G)) (rest := r.map (ax_cv G)) (b := G.2.1 + a) (n := na) ⟨hx, hb, hml, hown, hts⟩ hM ⟨callB_of na hts hG hw rfl rfl (hts _ f2) (hts _ g1) ⟨f4.1, f4.2, g6⟩ hroom, g3, hts _ g2⟩ ⟨ax_blind, hpre⟩ rfl ?_ hL.1 ?_ (lv_room (ax_rest_cat r h8)) hd hbud) hS behind
                  · have g7 : ax_na q = na + 1 := g5
                    rw [List.length_map]; simp only [List.length_cons] at hAn; omega
                  · simp [ax_cv, ax_cr]
                · obtain ⟨rfl, rfl⟩ := static hiv
                  obtain ⟨-, g1, g2, g3⟩ := hFl
                  exact ax_calla (va_runSN (As := As.map (ax_cv G)) (rest := r.map (ax_cv G)) (n := ax_na q) (host := "LargePages") ⟨hx, hb, hml, hown, hts⟩ hM ⟨va_cnB (ax_na q) hts hG rfl rfl rfl (hSt.2.2.2.2.1 _ g1) (hts _ f2) ⟨f4.1, f4.2, g3⟩ hroom, hts _ g2, trivial⟩ ⟨ax_blind, hpre⟩ rfl (by rw [List.length_map]; exact hAn) hL.1 rfl (lv_room (ax_rest_cat r h8)) hd hbud) hS behind
                · obtain ⟨rfl, rfl⟩ := special hiv
                  obtain ⟨-, g1, g2, g3, g4, na, g5, g6⟩ := hFl
                  obtain ⟨a, As', fs, rfl, he⟩ := hrec rfl
                  have hw : ax_wd q = Cond.code (ax_mt q).1 (ax_mt q).2.1 (ax_maxL q) none :: ax_tb := by unfold ax_wd; rw [g4]
                  refine ax_calla (va_runIN (As := As'.map (ax_cv G)) (rest := r.map (ax_cv G)) (b := G.2.1 + a) (n := na) (host := "LargePages") ⟨hx, hb, hml, hown, hts⟩ hM ⟨va_cnB na hts hG hw rfl rfl (hSt.2.2.2.2.1 _ g1) (hts _ f2) ⟨f4.1, f4.2, g6⟩ hroom, g3, hts _ g2⟩ ⟨ax_blind, hpre⟩ rfl ?_ hL.1 ?_ (lv_room (ax_rest_cat r h8)) hd hbud) hS behind
                  · have g7 : ax_na q = na + 1 := g5
                    rw [List.length_map]; simp only [List.length_cons] at hAn; omega
                  · simp [ax_cv, ax_cr]
              · cases hr
            · cases hrC
        · cases hrA
