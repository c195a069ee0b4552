/-! Years. -/
section
variable {n n' B B' Kt T k j i o p L M : Nat} {z zp z' : Nat → Nat} {c c' c1 : Nat → bS} {U U' U1 : bH} {m m' m0 m1 w w' x tt tt' q kk xx kk' xx' : bS} {a a' ak t2 t2' : Nat → Int} {v a1 a2 a3 a4 a5 : Int} {ox : Option (Nat × bS)}
def b3 (c : Nat → bS) (w kk xx : bS) : Nat → bS := bU (bU (bU c 0 w) 8 kk) 9 xx
theorem b3_b3 : bU (bU (bU (b3 c w kk xx) 0 w') 8 kk') 9 xx' = b3 c w' kk' xx' := funext fun j => by
  unfold b3
  by_cases h9 : j = 9
  · rw [h9, bU_e, bU_e]
  · rw [bU_n h9, bU_n h9]
    by_cases h8 : j = 8
    · rw [h8, bU_e, bU_e]
    · rw [bU_n h8, bU_n h8]
      by_cases h0 : j = 0
      · rw [h0, bU_e, bU_e]
      · rw [bU_n h0, bU_n h0, bU_n h9, bU_n h8, bU_n h0]
theorem b3_0 : b3 c w kk xx 0 = w := by unfold b3; rw [bU_n (by decide), bU_n (by decide), bU_e]
theorem b3_8 : b3 c w kk xx 8 = kk := by unfold b3; rw [bU_n (by decide), bU_e]
theorem b3_9 : b3 c w kk xx 9 = xx := by unfold b3; rw [bU_e]
theorem b3_n (h0 : j ≠ 0) (h8 : j ≠ 8) (h9 : j ≠ 9) : b3 c w kk xx j = c j := by unfold b3; rw [bU_n h9, bU_n h8, bU_n h0]
theorem b3_w : bU c 0 w = b3 c w (c 8) (c 9) := by
  funext j
  unfold b3
  by_cases h9 : j = 9
  · rw [h9, bU_e, bU_n (by decide)]
  · rw [bU_n (w := c 9) h9]
    by_cases h8 : j = 8
    · rw [h8, bU_e, bU_n (by decide)]
    · rw [bU_n (w := c 8) h8]
/-- what holds between days of years -/
def YR (z : Nat → Nat) (B : Nat) (m : bS) (ak : Nat → Int) (w kk mm : bS) (l : Int) : Prop := (∃ T : Nat, GX z w (mm.2 0) T ∧ (w.1 15 = mm.2 0 11 ∧ w.1 16 = mm.2 0 12 ∧ w.1 13 = mm.2 0 15) ∧ (T : Int) ≤ B + mm.2 0 12) ∧ Rd ak (mm.2 0) ∧ kk.1 3 = -1 ∧ (∀ j, j = 1 ∨ j = 2 ∨ j = 3 → mm.2 j = m.2 j) ∧ (∀ k, k = 4 ∨ k = 5 ∨ k = 6 ∨ k = 23 → mm.1 k = m.1 k) ∧ 0 ≤ mm.1 24 ∧ mm.1 24 ≤ l
theorem years_ok (H : GI z zp B Kt c U m) (hk : Rk (m.2 0) ak) (hB : B ≤ 60200) (d : Nat) : ∀ (k : Nat) {n n' : Nat} {w kk xx mm : bS} {l : Int}, YR z B m ak w kk mm l → l + d ≤ 70000 → k + d ≤ 40 → 2000 + d + 1 ≤ n → 2000 + d + 1 ≤ n' → ∃ (w' kk' xx' mm' : bS) (nn : Nat), P_years_51 n (b3 c w kk xx, mC m0 ++ U) ((k + d : Nat) : Int) (k : Int) = P_years_83 nn (b3 c w' kk' xx', mC m0 ++ U) ∧ R_years_43 n' mm ((k + d : Nat) : Int) (k : Int) = some (mm'.2 0 10, mm') ∧ YR z B m ak w' kk' mm' (l + d) := by
  induction d with
  | zero =>
    intro k n n' w kk xx mm l Y hl hkd hn hn'
    obtain ⟨n, rfl⟩ : ∃ N, n = N + 1 := ⟨n - 1, by omega⟩
    obtain ⟨n', rfl⟩ : ∃ N, n' = N + 1 := ⟨n' - 1, by omega⟩
    refine ⟨w, kk, xx, mm, n, ?_, ?_, ?_⟩
    · rw [P_years_51, if_pos (by omega)]
    · rw [R_years_43, if_pos (by omega)]
    · obtain ⟨y1, y2, y3, y4, y5, y6, y7⟩ := Y
      exact ⟨y1, y2, y3, y4, y5, y6, by omega⟩
  | succ d ih =>
    intro k n n' w kk xx mm l Y hl hkd hn hn'
    obtain ⟨n, rfl⟩ : ∃ N, n = N + 1 := ⟨n - 1, by omega⟩
    obtain ⟨n', rfl⟩ : ∃ N, n' = N + 1 := ⟨n' - 1, by omega⟩
    have Y0 := Y
    obtain ⟨⟨T, X, hst, hT⟩, y2, y3, y4, y5, y6, y7⟩ := Y
    have h12 : mm.2 0 12 ≤ 9999 := X.2.2.2.2.2.2.2.2
    have ea : ∀ i, i < 10 ∨ 1259 ≤ i → i ≠ 3 → i ≠ 5 → i < 1275 → mm.2 0 i = m.2 0 i := fun i h1 h3 h5 h6 => (y2 i h1).trans (hk i h3 h5 h6)
    have ek : k + 1 + d = k + (d + 1) := by omega
    by_cases h9 : 9999 ≤ mm.2 0 12
    · have hR : ∀ (d k : Nat) (N : Nat), d + 1 ≤ N → k + d ≤ 40 → R_years_43 N mm ((k + d : Nat) : Int) (k : Int) = some (mm.2 0 10, mm) := by
        intro d
        induction d with
        | zero =>
          intro k N hN _
          obtain ⟨N, rfl⟩ : ∃ N', N = N' + 1 := ⟨N - 1, by omega⟩
          rw [R_years_43, if_pos (by omega)]
        | succ d ih2 =>
          intro k N hN hk'
          obtain ⟨N, rfl⟩ : ∃ N', N = N' + 1 := ⟨N - 1, by omega⟩
          rw [R_years_43, if_neg (by omega), if_pos h9, wad1 (by omega)]
          have e := ih2 (k + 1) N (by omega) (by omega)
          rw [show k + 1 + d = k + (d + 1) by omega] at e
          exact e
      refine ⟨w, kk, xx, mm, n, ?_, hR (d + 1) k (n' + 1) (by omega) (by omega), ?_⟩
      · rw [P_years_51, if_neg (by omega)]
        rw [if_pos (show 9999 ≤ (b3 c w kk xx 0).1 16 by rw [b3_0, hst.2.1]; exact h9)]
      · exact ⟨⟨T, X, hst, hT⟩, y2, y3, y4, y5, y6, by omega⟩
    · have hD : TD ((b3 c w kk xx) 1) U (mm.2 0) (mm.2 2) := by
        rw [b3_n (by decide) (by decide) (by decide), y4 2 (by omega)]
        exact TD_c H.1.2.2.2 rfl rfl rfl rfl rfl rfl (fun i hi => ea i (by omega) (by omega) (by omega) (by omega)) (fun _ _ h => h)
      obtain ⟨ox, p1, p2⟩ := PT_ok (m := m0) hD
      have O : TO z (c 1) (mm.2 0) := TO_a H.1.2.1 (fun i i1 _ _ i3 _ i5 => ea i (by omega) (by omega) (by omega) (by omega))
      have h5 := H.2.2.2.2.2.1
      obtain ⟨r, w2, a2', T', k2', xx2, m2', v1, v3, v4, v5, vT, v2, v6, v6', v7, v8, v9, v10, v11⟩ := passx_ok (n := n) (n' := n') (m := mm) (kk := kk) (xx := xx) p2 X hst.1 hst.2.1 (by omega) (by omega) (by omega) O y3 (by rw [y5 23 (by omega)]; exact h5.2.2) (by omega) (by omega)
      have e0 : m2'.2 0 = a2' := v4.2 0 (by decide) (by decide) (by decide)
      have e24 : m2'.1 24 = mm.1 24 + r := by rw [v4.1, bI_e]
      have Y2 : YR z B m ak w2 k2' m2' (l + 1) := by
        unfold YR
        rw [e0, e24]
        refine ⟨⟨T', v5, ⟨v6, v6', ?_⟩, ?_⟩, fun i hi => (v8 i hi).trans (y2 i hi), (v2 3 (by decide) (by decide) (by decide) (by decide)).trans y3, ?_, ?_, ?_, ?_⟩
        · rw [v10, v11, hst.2.2]
        · rw [v7]; omega
        · intro j hj
          rw [v4.2 j (by omega) (by omega) (by omega)]
          show (bC mm 0 a2').2 j = _
          rw [bC_n (by omega), y4 j hj]
        · intro k' hk'
          rw [v4.1, bI_1 (by omega)]
          exact y5 k' hk'
        · omega
        · omega
      obtain ⟨w', kk', xx', mm', nn, g1, g2, g3⟩ := ih (k + 1) (n := n) (n' := n') (xx := xx2) Y2 (by omega) (by omega) (by omega) (by omega)
      rw [ek] at g1 g2
      refine ⟨w', kk', xx', mm', nn, ?_, ?_, ?_⟩
      · rw [P_years_51, if_neg (by omega)]
        rw [if_neg (show ¬ 9999 ≤ (b3 c w kk xx 0).1 16 by rw [b3_0, hst.2.1]; exact h9), b1_s p1]
        dsimp only
        rw [b3_n (j := 1) (by decide) (by decide) (by decide), b3_0, b3_8, b3_9, bb_s v1, b3_b3, wad1 (by omega)]
        exact g1
      · rw [R_years_43, if_neg (by omega), if_neg h9, bb_s v3, wad1 (by omega)]
        exact g2
      · obtain ⟨u1, u2, u3, u4, u5, u6, u7⟩ := g3
        exact ⟨u1, u2, u3, u4, u5, u6, by omega⟩
theorem L_years (H : GI z zp B Kt c U m) (hB : B ≤ 60000) : ∃ c' U' m', LStep 14 c U m a1 a2 a3 a4 a5 c' U' m' ∧ NX1 B Kt c' U' m' := by
  by_cases cc : (0 ≤ a1 ∧ a1 ≤ 9999) ∧ (1 ≤ a2 ∧ a2 ≤ 40)
  · obtain ⟨c1, U1, x1, H1, x3, x4, x5⟩ := prep_GI (m0 := m) H
    obtain ⟨T, X, hst, hT⟩ := H1.1.1
    have h24 := H1.2.2.2.2.2.2.1
    obtain ⟨ak, s2, k1', k2, k3, k4⟩ := keep_GI (n := 2100) H1 (by rw [x4 0 (by decide)]; exact x3) (by omega)
    obtain ⟨X2, O2, y2', ek⟩ := kept H1 k2 X
    have h5 := H1.2.2.2.2.2.1
    have ew : ay_w (ay_w (a1 * 2) + 499) = a1 * 2 + 499 := by
      rw [ay_wi (x := a1 * 2) (by omega) (by omega)]
      exact ay_wi (by omega) (by omega)
    obtain ⟨d, hd⟩ : ∃ d : Nat, a2 = (d : Int) := ⟨a2.toNat, by clear ew; omega⟩
    obtain ⟨V, hV⟩ : ∃ V, V = a1 * 2 + 499 := ⟨_, rfl⟩
    rw [← hV] at ew
    have Y : YR z B m ak (bI (c1 0) 15 V) (c1 8) (bC m 0 (ay_u ak 11 V)) (B : Int) := by
      clear ew
      refine ⟨⟨T, GX_n X2 rfl (fun j h1 h2 => bI_1 h1) (fun i h1 h2 => ay_ux h1) (Or.inl ?_) (Or.inl ?_) ?_ ?_, ⟨?_, ?_, ?_⟩, ?_⟩, fun i hi => ay_ux (by omega), h5.1, fun j hj => bC_n (by omega), fun _ _ => rfl, h24.1, h24.2⟩
      · show _ = ay_u ak 11 V 11
        rw [ay_ue]; exact bI_e
      · show _ = ay_u ak 11 V 12
        rw [ay_ux (by decide), bI_1 (by decide), hst.2.1]; exact (ek 12 (by omega) (by omega)).symm
      · show 0 ≤ ay_u ak 11 V 11 ∧ ay_u ak 11 V 11 < 31121
        rw [ay_ue]; omega
      · show 0 ≤ ay_u ak 11 V 12 ∧ ay_u ak 11 V 12 ≤ 9999
        rw [ay_ux (by decide)]
        exact X2.2.2.2.2.2.2.2
      · show _ = ay_u ak 11 V 11
        rw [ay_ue]; exact bI_e
      · show _ = ay_u ak 11 V 12
        rw [ay_ux (by decide), bI_1 (by decide), hst.2.1]; exact (ek 12 (by omega) (by omega)).symm
      · show _ = ay_u ak 11 V 15
        rw [ay_ux (by decide), bI_1 (by decide), hst.2.2]; exact (ek 15 (by omega) (by omega)).symm
      · show (T : Int) ≤ B + ay_u ak 11 V 12
        rw [ay_ux (by decide)]
        have e := ek 12 (by omega) (by omega)
        have e' : (bC m 0 ak).2 0 12 = ak 12 := rfl
        rw [e'] at e
        rw [e]; exact hT
    obtain ⟨w', kk', xx', mm', nn, g1, g2, g3⟩ := years_ok (m0 := m) (xx := c1 9) H1 k2 (by clear ew; omega) d 0 (n := 2100) (n' := 2100) Y (by clear ew; omega) (by clear ew; omega) (by clear ew; omega) (by clear ew; omega)
    rw [Nat.zero_add, ← hd] at g1 g2
    obtain ⟨⟨T', X', hst', hT'⟩, u2, u3, u4, u5, u6, u7⟩ := g3
    obtain ⟨cm, S2⟩ := k4 (b3 c1 w' kk' xx') (b3_n (by decide) (by decide) (by decide))
    refine ⟨_, U1, mm', ⟨2100, 2100, mm'.2 0 10, ?_, ?_⟩, ⟨z, zp, GI_m (B := B + 40) (by clear ew; omega) (Nat.le_succ _) (done_GI (B' := B + 40) (a' := mm'.2 0) (kk := kk') (xx := xx') H1 (by clear ew; omega) k2 k3 S2 ?_ (fun i hi => u2 i hi) u3 rfl u4 u5 ⟨u6, ?_⟩)⟩⟩
    · unfold P_years
      rw [if_neg (by clear ew; omega), if_neg (by clear ew; omega), if_neg (by clear ew; omega), if_pos (by clear ew; omega), bb_s (x1 2100)]
      dsimp only
      rw [ew, b3_w]
      refine g1.trans ?_
      unfold P_years_83
      rw [bb_s (cm nn _)]
      show some (((bU (b3 c1 w' kk' xx') 2 s2) 0).1 14, _) = _
      rw [bU_n (by decide), b3_0, X'.1.1.2.2.2.1]
      rfl
    · unfold R_years
      rw [b1_s (R_isIn_ok _ _ _ _), if_pos cc.1, if_neg (by decide), b1_s (R_isIn_ok _ _ _ _), if_pos cc.2, if_neg (by decide), bb_s k1', ew, bA_C, bC_C]
      exact g2
    · exact ⟨T', X', hst', by clear ew; omega⟩
    · clear ew
      have : d ≤ 40 := by omega
      omega
  · refine ⟨c, U, m, ⟨0, 0, -1, ?_, ?_⟩, NX1_s H⟩
    · unfold P_years
      by_cases d1 : a1 < 0
      · rw [if_pos d1]
      · rw [if_neg d1]
        by_cases d2 : 9999 < a1
        · rw [if_pos d2]
        · rw [if_neg d2]
          by_cases d3 : a2 < 1
          · rw [if_pos d3]
          · rw [if_neg d3, if_neg (by omega)]
    · unfold R_years
      rw [b1_s (R_isIn_ok _ _ _ _)]
      by_cases d1 : 0 ≤ a1 ∧ a1 ≤ 9999
      · rw [if_pos d1, if_neg (by decide), b1_s (R_isIn_ok _ _ _ _), if_neg (fun h => cc ⟨d1, h⟩), if_pos rfl]
      · rw [if_neg d1, if_pos rfl]
end
