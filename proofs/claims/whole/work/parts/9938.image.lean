/-! The image, and back. -/
def tCp (w v : bS) : bS := bI (bI (bI (bI (bC (bC (bC (bC w 0 (ay_cpy (v.2 0) (w.2 0) 0 0 4)) 1 (ay_cpy (v.2 1) (w.2 1) 0 0 4)) 2 (ay_cpy (v.2 2) (w.2 2) 0 0 8)) 3 (ay_cpy (v.2 3) (w.2 3) 0 0 8)) 4 (v.1 4)) 5 (v.1 5)) 6 (v.1 6)) 7 (v.1 7)
section
variable {n n' B Kt T k j i o p f s M b N : Nat} {z zp : Nat → Nat} {c : Nat → bS} {U U' : bH} {m w v tt kk xx m' : bS} {a a' t2 : Nat → Int} {a1 a2 a3 a4 a5 x y : Int} {T0 : bH}
theorem cpy4 {g h : Nat → Int} (hi : i < k) : ay_cpy g h 0 0 k i = g i := by
  show (if 0 ≤ i ∧ i < 0 + k then g (0 + (i - 0)) else h i) = g i
  rw [if_pos ⟨Nat.zero_le _, by omega⟩, Nat.sub_zero, Nat.zero_add]
theorem tCp_0 (hi : i < 4) : (tCp w v).2 0 i = v.2 0 i := cpy4 hi
theorem tCp_1 (hi : i < 4) : (tCp w v).2 1 i = v.2 1 i := cpy4 hi
theorem tCp_2 (hi : i < 8) : (tCp w v).2 2 i = v.2 2 i := cpy4 hi
theorem tCp_3 (hi : i < 8) : (tCp w v).2 3 i = v.2 3 i := cpy4 hi
theorem TO_cp (O : TO z v a) (e : ∀ i, i < 10 → a' i = a i) : TO z (tCp w v) a' := by
  obtain ⟨O1, q, q1, q2, q3, q4, q5⟩ := O
  refine ⟨fun o ho => ?_, q, q1, q2, by rw [e 0 (by omega)]; exact q3, q4, q5⟩
  rw [tCp_0 ho, e (6 + o) (by omega)]
  exact O1 o ho
theorem TD_cp (D : TD v U a t2) (e : ∀ i, i < 1275 → a' i = a i) (hU : ∀ j x, uX U j x → uX U' j x) : TD (tCp w v) U' a' t2 := by
  obtain ⟨N, S, h1, h2, h3, h4, h5, h6, h7⟩ := D
  refine ⟨N, S, h1, ⟨h2.1, by rw [e 1 (by omega)]; exact h2.2⟩, by rw [e 2 (by omega)]; exact h3, ⟨h4.1, by rw [e 4 (by omega)]; exact h4.2⟩, fun j hj => ?_, fun i hi => ?_, fun j hj => ?_⟩
  · obtain ⟨jx, x, g1, g2, g3⟩ := h5 j hj
    exact ⟨jx, x, by rw [tCp_1 (by omega)]; exact g1, hU _ _ g2, g3⟩
  · obtain ⟨p, v', g1, g2, g3, g4, g5, g6⟩ := h6 i hi
    exact ⟨p, v', g1, g2, by rw [tCp_2 (by omega)]; exact g3, by rw [tCp_3 (by omega)]; exact g4, by rw [e _ (by omega)]; exact g5, by rw [e _ (by omega)]; exact g6⟩
  · rw [tCp_1 hj]
    rcases h7 j hj with g | ⟨jx, x, g1, g2⟩
    · exact Or.inl g
    · exact Or.inr ⟨jx, x, g1, hU _ _ g2⟩
theorem elq_ok (H7 : ∀ j, j < 4 → v.2 1 j = 0 ∨ ∃ (jx : Nat) (x : bS), v.2 1 j = ((jx + 83 : Nat) : Int) ∧ uX U jx x) : ∀ k, k ≤ 4 → ay_elq (hP (c, mC m ++ U)) (fun i => (v.2 1 i).toNat) 0 k = true
  | 0, _ => rfl
  | k + 1, h => by
    rw [ay_elq, elq_ok H7 k (by omega), Bool.true_and]
    rw [Nat.zero_add]
    rcases H7 k (by omega) with g | ⟨jx, x, g1, g2⟩
    · rw [g]; rfl
    · rw [g1, Int.toNat_natCast]
      have g3 : ax_at (hP (c, mC m ++ U)) (jx + 81) = _ := g2.1
      show (match ax_at (hP (c, mC m ++ U)) (jx + 81) with | some (.inr (.inr (5, _))) => true | _ => false) = true
      rw [g3]
      rfl
theorem TD_7 (D : TD v U a t2) : ∀ j, j < 4 → v.2 1 j = 0 ∨ ∃ (jx : Nat) (x : bS), v.2 1 j = ((jx + 83 : Nat) : Int) ∧ uX U jx x := by
  obtain ⟨N, S, h1, h2, h3, h4, h5, h6, h7⟩ := D
  exact h7
theorem W_c30 {s : pS} : W_copy30 n s = some (0, (bU s.1 3 (wCp (s.1 3) (s.1 0)), s.2)) := rfl
theorem W_c03 {s : pS} : W_copy03 n s = some (0, (bU s.1 0 (wCp (s.1 0) (s.1 3)), s.2)) := rfl
theorem W_c60 {s : pS} : W_copy60 n s = some (0, (bU s.1 6 (wCp (s.1 6) (s.1 0)), s.2)) := rfl
theorem T_c41 (H7 : ∀ j, j < 4 → (c 1).2 1 j = 0 ∨ ∃ (jx : Nat) (x : bS), (c 1).2 1 j = ((jx + 83 : Nat) : Int) ∧ uX U jx x) : T_copy41 n (c, mC m ++ U) = some (0, (bU c 4 (tCp (c 4) (c 1)), mC m ++ U)) := by
  unfold T_copy41
  exact if_pos (elq_ok H7 4 (Nat.le_refl _))
theorem T_c14 (H7 : ∀ j, j < 4 → (c 4).2 1 j = 0 ∨ ∃ (jx : Nat) (x : bS), (c 4).2 1 j = ((jx + 83 : Nat) : Int) ∧ uX U jx x) : T_copy14 n (c, mC m ++ U) = some (0, (bU c 1 (tCp (c 1) (c 4)), mC m ++ U)) := by
  unfold T_copy14
  exact if_pos (elq_ok H7 4 (Nat.le_refl _))
theorem GB_r (e : ∀ i, i < 38745 → a' i = a i) {f' : Nat} (hf : f' < 30) (H : GB z w (rwa a (1275 + 1249 * f')) B) : GB z w (rwa a' (1275 + 1249 * f')) B := GB_a (fun i i1 i2 => by
  unfold rwa
  exact e _ (by omega)) H
theorem L_image (H : GI z zp B Kt c U m) : ∃ c' U' m', LStep 43 c U m a1 a2 a3 a4 a5 c' U' m' ∧ NX1 B Kt c' U' m' := by
  obtain ⟨⟨A1, A2, A3, A4⟩, ⟨B1, B2, B3, B4⟩, h1, h2, ⟨L, h3, h4⟩, h5, h6, h7⟩ := H
  obtain ⟨F, C, f, ⟨s1, s2, s3⟩, ⟨s4, s5⟩, ⟨s6, s7⟩, s8⟩ := A3
  obtain ⟨ap, hap⟩ : ∃ ap : Nat → Int, ap = fun j => if 0 ≤ j ∧ j < 38745 then m.2 0 j else m.2 1 j := ⟨_, rfl⟩
  have ea : ∀ i, i < 38745 → ap i = m.2 0 i := fun i hi => by rw [hap]; exact if_pos ⟨Nat.zero_le _, hi⟩
  obtain ⟨c1, hc1⟩ : ∃ c1, c1 = bU c 3 (wCp (c 3) (c 0)) := ⟨_, rfl⟩
  obtain ⟨c2, hc2⟩ : ∃ c2, c2 = bU c1 4 (tCp (c1 4) (c1 1)) := ⟨_, rfl⟩
  have k1 : ∀ k, k ≠ 3 → c1 k = c k := fun k hk => by rw [hc1]; exact bU_n hk
  have k2 : ∀ k, k ≠ 3 → k ≠ 4 → c2 k = c k := fun k hk hk' => by rw [hc2, bU_n hk', k1 k hk]
  have k23 : c2 3 = wCp (c 3) (c 0) := by rw [hc2, bU_n (by decide), hc1, bU_e]
  have k24 : c2 4 = tCp (c 4) (c 1) := by rw [hc2, bU_e, k1 4 (by decide), k1 1 (by decide)]
  obtain ⟨c3, hc3⟩ : ∃ c3, c3 = bU c2 5 (bI (bI (c2 5) 1 0) 2 ((c2 2).1 2)) := ⟨_, rfl⟩
  have k3 : ∀ k, k ≠ 5 → c3 k = c2 k := fun k hk => by rw [hc3]; exact bU_n hk
  have k35 : c3 5 = bI (bI (c 5) 1 0) 2 (C : Int) := by rw [hc3, bU_e, k2 5 (by decide) (by decide), k2 2 (by decide) (by decide), s5]
  have k32 : c3 2 = c 2 := by rw [k3 2 (by decide), k2 2 (by decide) (by decide)]
  obtain ⟨c4, U4, t1, t2, t3, t4, t5, t6, t7⟩ := cpg_ok (m := m) (Or.inl ⟨rfl, rfl⟩) s1 s2 s3 C 100 0 c3 U (by omega) (by omega) (HS_2 h2 (by rw [k32]) (by rw [k35]; rfl)) (by rw [k35, bI_1 (by decide), bI_e]) (by rw [k35, bI_e]) (by rw [k32]; exact s4) (by rw [k32]; exact s8) (fun i' hi' => absurd hi' (Nat.not_lt_zero _))
  have k4 : ∀ k, k ≠ 3 → k ≠ 4 → k ≠ 5 → c4 k = c k := fun k a b d => by rw [t3 k d, k3 k d, k2 k a b]
  have k43 : c4 3 = wCp (c 3) (c 0) := by rw [t3 3 (by decide), k3 3 (by decide), k23]
  have k44 : c4 4 = tCp (c 4) (c 1) := by rw [t3 4 (by decide), k3 4 (by decide), k24]
  refine ⟨c4, U4, bC m 1 ap, ⟨100, 40000, (c 0).1 14, ?_, ?_⟩, ⟨z, z, GI_m (B := B) (Kt := Kt) (by omega) (by omega) ⟨⟨?_, ?_, ?_, ?_⟩, ⟨?_, ?_, ?_, ?_⟩, ?_, t2, ⟨L, ?_, ?_⟩, ?_, h6, ?_⟩⟩⟩
  · unfold P_image
    rw [bb_s W_c30]
    dsimp only
    rw [← hc1, bb_s (T_c41 (by rw [k1 1 (by decide)]; exact TD_7 A4)), ← hc2]
    unfold S_copyTo
    dsimp only
    rw [← hc3, cpg_to]
    have t1' : S_cpg 5 2 100 (c3, mC m ++ U) 0 = some (0, (c4, mC m ++ U4)) := t1
    rw [bb_s t1']
    dsimp only
    rw [k4 0 (by decide) (by decide) (by decide)]
  · unfold R_image R_copyRow_3_4
    have := cr34 38745 40000 0 m (by omega) (by omega)
    have t : R_copyRow_3_4_2 40000 m 0 = _ := this
    rw [bb_s t, ← hap]
    obtain ⟨T, X, _⟩ := A1
    rw [X.1.1.2.2.2.1]
    rfl
  · rw [k4 0 (by decide) (by decide) (by decide)]; exact A1
  · rw [k4 1 (by decide) (by decide) (by decide)]; exact A2
  · exact ⟨F, C, f, ⟨s1, s2, s3⟩, by rw [k4 2 (by decide) (by decide) (by decide)]; exact ⟨s4, s5⟩, ⟨s6, s7⟩, t6⟩
  · rw [k4 1 (by decide) (by decide) (by decide)]
    exact TD_c A4 rfl rfl rfl rfl rfl rfl (fun _ _ => rfl) t7
  · rw [k43]
    exact GB_a (fun i i1 i2 => ea i (by omega)) (GB_e (wCp_E (c 3) (c 0)) A1)
  · rw [k44]
    exact TO_cp A2 (fun i hi => ea i (by omega))
  · refine ⟨0, C, f, ⟨by omega, s2, s3⟩, ?_, ⟨(ea 3 (by omega)).trans s6, (ea 5 (by omega)).trans s7⟩, fun i hi => ?_⟩
    · rw [t4, k35]
      exact ⟨by rw [bI_1 (by decide), bI_e]; rfl, bI_e⟩
    · obtain ⟨j, w, g1, g2, g3⟩ := t5 i hi
      refine ⟨j, w, ?_, g2, GB_r ea (Nat.mod_lt _ (by decide)) g3⟩
      rw [Nat.zero_add, Nat.mod_eq_of_lt (by omega)]
      exact g1
  · rw [k44]
    exact TD_cp A4 (fun i hi => ea i (by omega)) t7
  · show ap 1 ≤ m.2 0 1
    rw [ea 1 (by omega)]; exact Int.le_refl _
  · rw [k4 7 (by decide) (by decide) (by decide)]; exact h3
  · rw [k4 7 (by decide) (by decide) (by decide)]; exact h4
  · rw [k4 8 (by decide) (by decide) (by decide), k4 10 (by decide) (by decide) (by decide)]; exact h5
  · rw [k4 12 (by decide) (by decide) (by decide)]; exact h7
theorem L_back (H : GI z zp B Kt c U m) : ∃ c' U' m', LStep 44 c U m a1 a2 a3 a4 a5 c' U' m' ∧ NX1 B Kt c' U' m' := by
  obtain ⟨⟨B1, B2, B3, B4⟩, ⟨A1, A2, A3, A4⟩, h1, h2, ⟨L, h3, h4⟩, h5, h6, h7⟩ := H
  obtain ⟨F, C, f, ⟨s1, s2, s3⟩, ⟨s4, s5⟩, ⟨s6, s7⟩, s8⟩ := A3
  obtain ⟨ap, hap⟩ : ∃ ap : Nat → Int, ap = fun j => if 0 ≤ j ∧ j < 38745 then m.2 1 j else m.2 0 j := ⟨_, rfl⟩
  have ea : ∀ i, i < 38745 → ap i = m.2 1 i := fun i hi => by rw [hap]; exact if_pos ⟨Nat.zero_le _, hi⟩
  obtain ⟨c1, hc1⟩ : ∃ c1, c1 = bU c 0 (wCp (c 0) (c 3)) := ⟨_, rfl⟩
  obtain ⟨c2, hc2⟩ : ∃ c2, c2 = bU c1 1 (tCp (c1 1) (c1 4)) := ⟨_, rfl⟩
  have k1 : ∀ k, k ≠ 0 → c1 k = c k := fun k hk => by rw [hc1]; exact bU_n hk
  have k2 : ∀ k, k ≠ 0 → k ≠ 1 → c2 k = c k := fun k hk hk' => by rw [hc2, bU_n hk', k1 k hk]
  have k23 : c2 0 = wCp (c 0) (c 3) := by rw [hc2, bU_n (by decide), hc1, bU_e]
  have k24 : c2 1 = tCp (c 1) (c 4) := by rw [hc2, bU_e, k1 4 (by decide), k1 1 (by decide)]
  obtain ⟨c3, hc3⟩ : ∃ c3, c3 = bU c2 2 (bI (bI (c2 2) 1 0) 2 ((c2 5).1 2)) := ⟨_, rfl⟩
  have k3 : ∀ k, k ≠ 2 → c3 k = c2 k := fun k hk => by rw [hc3]; exact bU_n hk
  have k35 : c3 2 = bI (bI (c 2) 1 0) 2 (C : Int) := by rw [hc3, bU_e, k2 5 (by decide) (by decide), k2 2 (by decide) (by decide), s5]
  have k32 : c3 5 = c 5 := by rw [k3 5 (by decide), k2 5 (by decide) (by decide)]
  obtain ⟨c4, U4, t1, t2, t3, t4, t5, t6, t7⟩ := cpg_ok (m := m) (Or.inr ⟨rfl, rfl⟩) s1 s2 s3 C 100 0 c3 U (by omega) (by omega) (HS_2 h2 (by rw [k35]; rfl) (by rw [k32])) (by rw [k35, bI_1 (by decide), bI_e]) (by rw [k35, bI_e]) (by rw [k32]; exact s4) (by rw [k32]; exact s8) (fun i' hi' => absurd hi' (Nat.not_lt_zero _))
  have k4 : ∀ k, k ≠ 0 → k ≠ 1 → k ≠ 2 → c4 k = c k := fun k a b d => by rw [t3 k d, k3 k d, k2 k a b]
  have k43 : c4 0 = wCp (c 0) (c 3) := by rw [t3 0 (by decide), k3 0 (by decide), k23]
  have k44 : c4 1 = tCp (c 1) (c 4) := by rw [t3 1 (by decide), k3 1 (by decide), k24]
  have G0 : GB zp (c4 0) ap B := by
    rw [k43]
    exact GB_a (fun i i1 i2 => ea i (by omega)) (GB_e (wCp_E (c 0) (c 3)) A1)
  refine ⟨c4, U4, bC m 0 ap, ⟨100, 40000, (c4 0).1 14, ?_, ?_⟩, ⟨zp, zp, GI_m (B := B) (Kt := Kt) (by omega) (by omega) ⟨⟨G0, ?_, ?_, ?_⟩, ⟨?_, ?_, ?_, ?_⟩, ?_, t2, ⟨L, ?_, ?_⟩, ?_, h6, ?_⟩⟩⟩
  · unfold P_back
    rw [bb_s W_c03]
    dsimp only
    rw [← hc1, bb_s (T_c14 (by rw [k1 4 (by decide)]; exact TD_7 A4)), ← hc2]
    unfold S_copyBack
    dsimp only
    rw [← hc3, cpg_back]
    have t1' : S_cpg 2 5 100 (c3, mC m ++ U) 0 = some (0, (c4, mC m ++ U4)) := t1
    rw [bb_s t1']
  · unfold R_back R_copyRow_4_3
    have := cr43 38745 40000 0 m (by omega) (by omega)
    have t : R_copyRow_4_3_2 40000 m 0 = _ := this
    rw [bb_s t, ← hap]
    obtain ⟨T, X, _⟩ := G0
    rw [X.1.1.2.2.2.1]
    rfl
  · rw [k44]
    exact TO_cp A2 (fun i hi => ea i (by omega))
  · refine ⟨0, C, f, ⟨by omega, s2, s3⟩, ?_, ⟨(ea 3 (by omega)).trans s6, (ea 5 (by omega)).trans s7⟩, fun i hi => ?_⟩
    · rw [t4, k35]
      exact ⟨by rw [bI_1 (by decide), bI_e]; rfl, bI_e⟩
    · obtain ⟨j, w, g1, g2, g3⟩ := t5 i hi
      refine ⟨j, w, ?_, g2, GB_r ea (Nat.mod_lt _ (by decide)) g3⟩
      rw [Nat.zero_add, Nat.mod_eq_of_lt (by omega)]
      exact g1
  · rw [k44]
    exact TD_cp A4 (fun i hi => ea i (by omega)) t7
  · rw [k4 3 (by decide) (by decide) (by decide)]; exact A1
  · rw [k4 4 (by decide) (by decide) (by decide)]; exact A2
  · exact ⟨F, C, f, ⟨s1, s2, s3⟩, by rw [k4 5 (by decide) (by decide) (by decide)]; exact ⟨s4, s5⟩, ⟨s6, s7⟩, t6⟩
  · rw [k4 4 (by decide) (by decide) (by decide)]
    exact TD_c A4 rfl rfl rfl rfl rfl rfl (fun _ _ => rfl) t7
  · show m.2 1 1 ≤ ap 1
    rw [ea 1 (by omega)]; exact Int.le_refl _
  · rw [k4 7 (by decide) (by decide) (by decide)]; exact h3
  · rw [k4 7 (by decide) (by decide) (by decide)]; exact h4
  · rw [k4 8 (by decide) (by decide) (by decide), k4 10 (by decide) (by decide) (by decide)]; exact h5
  · rw [k4 12 (by decide) (by decide) (by decide)]; exact h7
end
