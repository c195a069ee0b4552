/-! Questions: what is. -/
section
variable {n n' B Kt T k j i o p f : Nat} {z zp : Nat → Nat} {c : Nat → bS} {U : bH} {m w : bS} {a : Nat → Int} {v a1 a2 a3 a4 a5 : Int}
theorem wix (ho : o < 4) (hp : p < 32) : ay_w (ay_w ((o : Int) * 32) + (p : Int)) = ((32 * o + p : Nat) : Int) := by
  rw [ay_wi (x := (o : Int) * 32) (by omega) (by omega), ay_wi (by omega) (by omega)]; omega
theorem L_is (H : GI z zp B Kt c U m) : ∃ c' U' m', LStep 20 c U m a1 a2 a3 a4 a5 c' U' m' ∧ NX1 B Kt c' U' m' := by
  obtain ⟨T, X, hst, hT⟩ := H.1.1
  by_cases h0 : a1 = 0
  · exact ⟨c, U, m, ⟨0, 0, (c 0).1 14, if_pos h0, by unfold R_is; rw [if_pos h0, ← X.1.1.2.2.2.1]⟩, NX1_s H⟩
  by_cases h1 : a1 = 1
  · exact ⟨c, U, m, ⟨0, 0, (c 0).1 15, by unfold P_is; rw [if_neg h0, if_pos h1], by unfold R_is; rw [if_neg h0, if_pos h1, ← hst.1]⟩, NX1_s H⟩
  by_cases h2 : a1 = 2
  · exact ⟨c, U, m, ⟨0, 0, (c 0).1 16, by unfold P_is; rw [if_neg h0, if_neg h1, if_pos h2], by unfold R_is; rw [if_neg h0, if_neg h1, if_pos h2, ← hst.2.1]⟩, NX1_s H⟩
  by_cases h3 : a1 = 3
  · exact ⟨c, U, m, ⟨66, 66, (fr (c 0) : Int), by unfold P_is; rw [if_neg h0, if_neg h1, if_neg h2, if_pos h3, bb_s (W_freeFrames_ok X.1.2.1 (Nat.le_refl _)), bU_id], by unfold R_is; rw [if_neg h0, if_neg h1, if_neg h2, if_pos h3, bb_s (R_freeFrames_ok X.1.2.1 X.1.1.1 (Nat.le_refl _))]⟩, NX1_s H⟩
  by_cases h4 : a1 = 4
  · exact ⟨c, U, m, ⟨0, 0, (c 0).1 17, by unfold P_is; rw [if_neg h0, if_neg h1, if_neg h2, if_neg h3, if_pos h4], by unfold R_is; rw [if_neg h0, if_neg h1, if_neg h2, if_neg h3, if_pos h4, ← X.2.2.2.2.2.1.2.2]⟩, NX1_s H⟩
  exact ⟨c, U, m, ⟨0, 0, -2, by unfold P_is; rw [if_neg h0, if_neg h1, if_neg h2, if_neg h3, if_neg h4], by unfold R_is; rw [if_neg h0, if_neg h1, if_neg h2, if_neg h3, if_neg h4]⟩, NX1_s H⟩
theorem L_let (H : GI z zp B Kt c U m) (ha : -2147483648 ≤ a1 ∧ a1 < 2147483648) : ∃ c' U' m', LStep 19 c U m a1 a2 a3 a4 a5 c' U' m' ∧ NX1 B Kt c' U' m' := by
  obtain ⟨T, X, hst, hT⟩ := H.1.1
  obtain ⟨G, hG, g1, g2⟩ : ∃ G : Nat, G ≤ 2 ∧ (c 0).1 13 = (G : Int) ∧ ∀ i, i < G → (c 0).2 11 i = m.2 0 (16 + i) := by
    rcases X.1.1.2.2.2.2 with ⟨_, G, h1, h2, h3⟩ | h
    · exact ⟨G, h1, h2, h3⟩
    · exact ⟨0, by omega, h, fun i hi => absurd hi (Nat.not_lt_zero _)⟩
  have g3 : m.2 0 15 = (G : Int) := hst.2.2.symm.trans g1
  by_cases h0 : a1 = -1
  · exact ⟨c, U, m, ⟨0, 0, (G : Int), by unfold P_let; dsimp only; rw [if_pos h0, g1], by unfold R_let; rw [if_pos h0, g3]⟩, NX1_s H⟩
  by_cases h1 : 0 ≤ a1 ∧ a1 < (G : Int)
  · obtain ⟨q, hq⟩ : ∃ q : Nat, a1 = (q : Int) := ⟨a1.toNat, by omega⟩
    refine ⟨c, U, m, ⟨0, 0, (c 0).2 11 q, ?_, ?_⟩, NX1_s H⟩
    · unfold P_let
      dsimp only
      rw [if_neg h0, if_neg (by omega), g1, if_neg (by omega), if_pos (by omega), if_pos ⟨by omega, by omega⟩, hq, Int.toNat_natCast]
    · have e : ay_w (16 + (q : Int)) = ((16 + q : Nat) : Int) := wadd (x := 16) (by omega)
      unfold R_let
      rw [if_neg h0, g3, wN1 (by omega), b1_s (R_isIn_ok _ _ _ _), if_pos (show 0 ≤ a1 ∧ a1 ≤ (G : Int) - 1 by clear e; omega), if_neg (by decide), hq, e, if_pos ⟨by clear e; omega, by clear e; omega⟩, Int.toNat_natCast, g2 q (by clear e; omega)]
  · refine ⟨c, U, m, ⟨0, 0, -2, ?_, ?_⟩, NX1_s H⟩
    · unfold P_let
      dsimp only
      rw [if_neg h0]
      by_cases d : a1 < 0
      · rw [if_pos d]
      · rw [if_neg d, g1, if_pos (by omega)]
    · unfold R_let
      rw [if_neg h0, g3, wN1 (by omega), b1_s (R_isIn_ok _ _ _ _), if_neg (show ¬ (0 ≤ a1 ∧ a1 ≤ (G : Int) - 1) by omega), if_pos rfl]
theorem L_page (H : GI z zp B Kt c U m) (ha : -2147483648 ≤ a1 ∧ a1 < 2147483648) (ha2 : -2147483648 ≤ a2 ∧ a2 < 2147483648) : ∃ c' U' m', LStep 16 c U m a1 a2 a3 a4 a5 c' U' m' ∧ NX1 B Kt c' U' m' := by
  obtain ⟨T, X, hst, hT⟩ := H.1.1
  rcases page_ok (a1 := a1) (a2 := a2) H.1.2.1 ha ha2 with ⟨p1, p2⟩ | ⟨o, p, e1, e2, ho, hp, hz, p1, p2⟩
  · exact ⟨c, U, m, ⟨0, 0, -2, by unfold P_page; rw [bb_s (p1 _ _), if_pos rfl], by unfold R_page; rw [bb_s (p2 _), if_pos rfl]⟩, NX1_s H⟩
  subst e1 e2
  obtain ⟨r1, r2, r3, r4, r5, r6⟩ := X.1.1.2.1 o p ho hp
  by_cases h0 : a3 = 0
  · by_cases ht : thr (c 0) o p = true
    · refine ⟨c, U, m, ⟨66, 66, ((frm (c 0) (32 * o + p) : Nat) : Int), ?_, ?_⟩, NX1_s H⟩
      · unfold P_page
        rw [bb_s (p1 _ _), if_neg (by decide), if_pos h0, bb_s (W_frameOf_frm X.1.2.1 X.1.2.2.1 ho hp ht (Nat.le_refl _)), bU_id]
      · unfold R_page
        rw [bb_s (p2 _), if_neg (by decide), if_pos h0, bb_s (R_isThere_ok _ X.1.1.2.1 ho hp), if_pos ht, if_neg (by decide), bb_s (R_pfr _ X.1 ho hp), if_pos (X.1.2.2.1 o p ho hp ht)]
    · refine ⟨c, U, m, ⟨66, 66, -1, ?_, ?_⟩, NX1_s H⟩
      · unfold P_page
        rw [bb_s (p1 _ _), if_neg (by decide), if_pos h0, bb_s (W_frameOf_ok X.1.2.1 X.1.2.2.1 ho hp (Nat.le_refl _)), bU_id, if_neg ht]
      · unfold R_page
        rw [bb_s (p2 _), if_neg (by decide), if_pos h0, bb_s (R_isThere_ok _ X.1.1.2.1 ho hp), if_neg ht, if_pos rfl]
  by_cases h1 : a3 = 1
  · refine ⟨c, U, m, ⟨0, 0, if drt (c 0) o p = true then 1 else 0, ?_, ?_⟩, NX1_s H⟩
    · unfold P_page
      rw [bb_s (p1 _ _), if_neg (by decide), if_neg h0, if_pos h1, if_pos ⟨by omega, by omega⟩, Int.toNat_natCast]
      dsimp only
      rw [bit_1 _ hp]; rfl
    · unfold R_page
      rw [bb_s (p2 _), if_neg (by decide), if_neg h0, if_pos h1, bb_s (R_pageAt_ok _ _ ho hp (by decide) (by decide))]
      exact congrArg (fun y => some (y, m)) r4
  by_cases h2 : a3 = 2
  · refine ⟨c, U, m, ⟨0, 0, (c 0).2 0 (32 * o + p), ?_, ?_⟩, NX1_s H⟩
    · unfold P_page
      rw [bb_s (p1 _ _), if_neg (by decide), if_neg h0, if_neg h1, if_pos h2, wix ho hp, if_pos ⟨by omega, by omega⟩, Int.toNat_natCast]
    · unfold R_page
      rw [bb_s (p2 _), if_neg (by decide), if_neg h0, if_neg h1, if_pos h2, bb_s (R_pageAt_ok _ _ ho hp (by decide) (by decide))]
      exact congrArg (fun y => some (y, m)) r2
  by_cases h3 : a3 = 3
  · refine ⟨c, U, m, ⟨0, 0, (c 0).2 1 (32 * o + p), ?_, ?_⟩, NX1_s H⟩
    · unfold P_page
      rw [bb_s (p1 _ _), if_neg (by decide), if_neg h0, if_neg h1, if_neg h2, if_pos h3, wix ho hp, if_pos ⟨by omega, by omega⟩, Int.toNat_natCast]
    · unfold R_page
      rw [bb_s (p2 _), if_neg (by decide), if_neg h0, if_neg h1, if_neg h2, if_pos h3, bb_s (R_pageAt_ok _ _ ho hp (by decide) (by decide))]
      exact congrArg (fun y => some (y, m)) r3
  by_cases h4 : a3 = 4
  · refine ⟨c, U, m, ⟨0, 0, (lvl (c 0) o p : Int), ?_, ?_⟩, NX1_s H⟩
    · unfold P_page
      rw [bb_s (p1 _ _), if_neg (by decide), if_neg h0, if_neg h1, if_neg h2, if_neg h3, if_pos h4, bb_s (W_levelOf_ok _ _ ho hp), bU_id]
    · unfold R_page
      rw [bb_s (p2 _), if_neg (by decide), if_neg h0, if_neg h1, if_neg h2, if_neg h3, if_pos h4, bb_s (R_pageAt_ok _ _ ho hp (by decide) (by decide))]
      exact congrArg (fun y => some (y, m)) r5
  by_cases h5 : a3 = 5
  · refine ⟨c, U, m, ⟨0, 0, (c 0).2 2 (32 * o + p), ?_, ?_⟩, NX1_s H⟩
    · unfold P_page
      rw [bb_s (p1 _ _), if_neg (by decide), if_neg h0, if_neg h1, if_neg h2, if_neg h3, if_neg h4, if_pos h5, wix ho hp, if_pos ⟨by omega, by omega⟩, Int.toNat_natCast]
    · unfold R_page
      rw [bb_s (p2 _), if_neg (by decide), if_neg h0, if_neg h1, if_neg h2, if_neg h3, if_neg h4, if_pos h5, bb_s (R_pageAt_ok _ _ ho hp (by decide) (by decide))]
      exact congrArg (fun y => some (y, m)) r6
  refine ⟨c, U, m, ⟨0, 0, -2, ?_, ?_⟩, NX1_s H⟩
  · unfold P_page
    rw [bb_s (p1 _ _), if_neg (by decide), if_neg h0, if_neg h1, if_neg h2, if_neg h3, if_neg h4, if_neg h5]
  · unfold R_page
    rw [bb_s (p2 _), if_neg (by decide), if_neg h0, if_neg h1, if_neg h2, if_neg h3, if_neg h4, if_neg h5]
theorem L_frame (H : GI z zp B Kt c U m) : ∃ c' U' m', LStep 17 c U m a1 a2 a3 a4 a5 c' U' m' ∧ NX1 B Kt c' U' m' := by
  obtain ⟨T, X, hst, hT⟩ := H.1.1
  by_cases h : 0 ≤ a1 ∧ a1 ≤ 63
  · obtain ⟨f, hf⟩ : ∃ f : Nat, a1 = (f : Int) := ⟨a1.toNat, by omega⟩
    have hf64 : f < 64 := by omega
    refine ⟨c, U, m, ⟨66, 66, idf (c 0) f, ?_, ?_⟩, NX1_s H⟩
    · unfold P_frame
      rw [if_neg (by omega), if_pos (by omega), hf, bb_s (W_inFrame_ok X.1.2.1 hf64 (by decide)), bU_id]
    · unfold R_frame
      rw [b1_s (R_isIn_ok _ _ _ _), if_pos h, if_neg (by decide), hf, bb_s (R_isFree_cv _ X.1.2.1 X.1.1.1 hf64)]
      unfold idf
      by_cases hc : cvs (c 0) f < 64
      · rw [if_pos hc, if_pos rfl, if_pos hc, bb_s (R_isFull_ok _ X.1.2.1 X.1.1.1 X.1.1.2.1 hf64)]
        by_cases hu : ful (c 0) f = true
        · have hin := cvs_in hc
          have b1 := hin.1; have b2 := hin.2
          obtain ⟨_, _, a3', a4', a5'⟩ := X.1.2.1.1 _ hc
          obtain ⟨q1, q2, q3, q4⟩ := X.1.1.1.2.1 _ hc (by omega)
          have e0 : m.2 0 (914 + 5 * f) = (cvs (c 0) f : Int) := by
            rcases X.1.1.1.1 f hf64 with ⟨s, s1, s2, s3⟩ | ⟨s1, _⟩
            · rw [s3, cvs_eq X.1.2.1 hf64 s1 s2]
            · exact absurd hin (s1 _ hc)
          have hh : hom (c 0) (cvs (c 0) f) < 128 := by
            have := a5' (by omega); omega
          have e3 : ay_w (32 * ((hom (c 0) (cvs (c 0) f) / 32 : Nat) : Int)) = ((32 * (hom (c 0) (cvs (c 0) f) / 32) : Nat) : Int) := by rw [ay_wi (by omega) (by omega)]; omega
          rw [if_pos hu, if_neg (by decide), if_pos hu, bb_s (R_ownerOf_ok _ _ hf64 hc e0), q1, bb_s (R_pageIn_ok _ _ hf64 hc e0 q2 (by clear e3; omega) b1), e3, wadd (by clear e3; omega)]
          rw [show 32 * (hom (c 0) (cvs (c 0) f) / 32) + (hom (c 0) (cvs (c 0) f) % 32 + (f - cvs (c 0) f)) = hom (c 0) (cvs (c 0) f) + (f - cvs (c 0) f) by clear e3; omega]
        · rw [if_neg hu, if_pos rfl, if_neg hu]
      · rw [if_neg hc, if_neg (by decide), if_neg hc]
  · refine ⟨c, U, m, ⟨0, 0, -3, ?_, ?_⟩, NX1_s H⟩
    · unfold P_frame
      by_cases d : a1 < 0
      · rw [if_pos d]
      · rw [if_neg d, if_neg (by omega)]
    · unfold R_frame
      rw [b1_s (R_isIn_ok _ _ _ _), if_neg h, if_pos rfl]
theorem L_next (H : GI z zp B Kt c U m) : ∃ c' U' m', LStep 25 c U m a1 a2 a3 a4 a5 c' U' m' ∧ NX1 B Kt c' U' m' := by
  obtain ⟨T, X, hst, hT⟩ := H.1.1
  rcases block_ok (a1 := a1) with ⟨p1, p2⟩ | ⟨M, hM, e1, p1, p2⟩
  · exact ⟨c, U, m, ⟨0, 0, -1, by unfold P_next; rw [b1_s (p1 _), if_pos rfl], by unfold R_next; rw [b1_s (p2 _), if_pos rfl]⟩, NX1_s H⟩
  · subst e1
    exact ⟨c, U, m, ⟨120, 120, _, by unfold P_next; rw [b1_s (p1 _), if_neg (by decide), bb_s (W_blockToEmpty_ok X.1.2.1 hM (by decide)), bU_id], by unfold R_next; rw [b1_s (p2 _), if_neg (by decide), bb_s (R_nextEmptied_ok X.1.2.1 X.1.1.1 X.1.1.2.1 X.2.1 hM (by decide))]⟩, NX1_s H⟩
theorem L_holes (H : GI z zp B Kt c U m) : ∃ c' U' m', LStep 29 c U m a1 a2 a3 a4 a5 c' U' m' ∧ NX1 B Kt c' U' m' := by
  obtain ⟨T, X, hst, hT⟩ := H.1.1
  rcases block_ok (a1 := a1) with ⟨p1, p2⟩ | ⟨M, hM, e1, p1, p2⟩
  · exact ⟨c, U, m, ⟨0, 0, -1, by unfold P_holes; rw [b1_s (p1 _), if_pos rfl], by unfold R_holes; rw [b1_s (p2 _), if_pos rfl]⟩, NX1_s H⟩
  · subst e1
    exact ⟨c, U, m, ⟨140, 140, _, by unfold P_holes; rw [b1_s (p1 _), if_neg (by decide), bb_s (W_freeBlocks_ok X.1.2.1 hM (by decide)), bU_id], by unfold R_holes; rw [b1_s (p2 _), if_neg (by decide), bb_s (R_holesOf_ok X.1.2.1 X.1.1.1 hM (by decide))]⟩, NX1_s H⟩
theorem LAWx {ox : Option (Nat × bS)} (P : PO ox (m.2 0 2) (m.2 2)) (X : GX z w (m.2 0) T) {tt : bS} (hto : TO z tt (m.2 0)) : (ox = none ∧ LW (K0_wanted tt) (K0_letsGo tt) m w) ∨ ∃ q : Nat × bS, ox = some q ∧ LW (K1_wanted tt q.2) (K1_letsGo tt q.2) m w := by
  rcases POL (z := z) (tt := tt) P with ⟨h, LA⟩ | ⟨q, h, LA⟩
  · exact Or.inl ⟨h, LA m w T X hto rfl rfl⟩
  · exact Or.inr ⟨q, h, LA m w T X hto rfl rfl⟩
theorem victx_ok {ox : Option (Nat × bS)} {tt kk : bS} {M : Nat} (P : PO ox (m.2 0 2) (m.2 2)) (X : GX z w (m.2 0) T) (hto : TO z tt (m.2 0)) (PP : PN kk m w) (hM : isN M) (xx : bS) : ∃ (r : Int) (xx' m1 : bS), Kx_victimFor tt ox 1100 (kk, w, xx) M = some (r, (kk, w, xx')) ∧ R_victimFor 1100 m M = some (r, m1) ∧ Mq m m1 := by
  rcases LAWx P X hto with ⟨h, L⟩ | ⟨q, h, L⟩
  · subst h
    obtain ⟨r, _, v1, v2⟩ := victim0_ok X L PP hM
    obtain ⟨xx', g1⟩ := v1 1100 kk xx rfl (Nat.le_refl _)
    obtain ⟨m1, g2, g3⟩ := v2 1100 m (Nat.le_refl _) Mq.rf
    exact ⟨r, xx', m1, g1, g2, g3⟩
  · subst h
    obtain ⟨r, _, v1, v2⟩ := victim1_ok X L PP hM
    obtain ⟨xx', g1⟩ := v1 1100 kk xx rfl (Nat.le_refl _)
    obtain ⟨m1, g2, g3⟩ := v2 1100 m (Nat.le_refl _) Mq.rf
    exact ⟨r, xx', m1, g1, g2, g3⟩
theorem L_victim (H : GI z zp B Kt c U m) : ∃ c' U' m', LStep 24 c U m a1 a2 a3 a4 a5 c' U' m' ∧ NX1 B Kt c' U' m' := by
  obtain ⟨T, X, hst, hT⟩ := H.1.1
  have h5 := H.2.2.2.2.2.1
  rcases block_ok (a1 := a1) with ⟨p1, p2⟩ | ⟨M, hM, e1, p1, p2⟩
  · exact ⟨c, U, m, ⟨0, 0, -1, by unfold P_victim; rw [b1_s (p1 _), if_pos rfl], by unfold R_victim; rw [b1_s (p2 _), if_pos rfl]⟩, NX1_s H⟩
  · subst e1
    obtain ⟨ox, y1, y2⟩ := PT_ok (m := m) H.1.2.2.2
    obtain ⟨r, xx', m1, g1, g2, g3⟩ := victx_ok y2 X H.1.2.1 (PN0 h5.1 h5.2.2) hM (c 9)
    refine ⟨_, U, m1, ⟨1100, 1100, r, ?_, ?_⟩, NX1_s (try_GI (xx := xx') H g3 Kk.rf)⟩
    · unfold P_victim
      rw [b1_s (p1 _), if_neg (by decide), b1_s y1, bb_s g1]
    · unfold R_victim
      rw [b1_s (p2 _), if_neg (by decide), bb_s g2]
end
