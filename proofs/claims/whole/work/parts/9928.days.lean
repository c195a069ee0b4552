/-! Days that pass, years. -/
section
variable {n n' B B' Kt T k j i o p L M : Nat} {z zp z' : Nat → Nat} {c c' c1 : Nat → bS} {U U' U1 : bH} {m m' m0 m1 w w' x tt tt' q kk xx : bS} {a a' t2 t2' : Nat → Int} {v a1 a2 a3 a4 a5 : Int} {ox : Option (Nat × bS)}
theorem GI_24 (H : GI z zp B Kt c U m) (h : 0 ≤ v ∧ v ≤ (B : Int)) : GI z zp B Kt c U (bI m 24 v) := by
  obtain ⟨A, A', h1, h2, ⟨L, h3, h4⟩, h5, h6, h7⟩ := H
  exact ⟨A, A', h1, h2, ⟨L, h3, h4⟩, h5, h, h7⟩
/-- one day -/
theorem day1_ok (H : GI z zp B Kt c U m) (hB : B ≤ 60200) (h24 : m.1 24 + 1 ≤ (B : Int)) (h12 : m.2 0 12 < 9999) (hn : 2000 ≤ n) (hn' : 2000 ≤ n') : ∃ (r : Int) (c1 c2 c' : Nat → bS) (U1 : bH) (s2 : bS × bS × bS) (m1 m' : bS) (ox : Option (Nat × bS)), S_prepare n (c, mC m0 ++ U) = some (0, (c1, mC m0 ++ U1)) ∧ PT (c1, mC m0 ++ U1) = some ox ∧ Kx_passDay (c1 1) ox n ((c1 8), (c1 0), (c1 9)) = some (r, s2) ∧ S_commit n (bU (bU (bU c1 0 s2.2.1) 8 s2.1) 9 s2.2.2, mC m0 ++ U1) = some (0, (c', mC m0 ++ U1)) ∧ R_keep n' m = some (0, m1) ∧ R_pass n' m1 = some (0, m') ∧ GI z zp B Kt c' U1 m' ∧ (r = 0 ∨ r = 1) ∧ m'.1 24 = m.1 24 + r ∧ m'.2 0 12 = m.2 0 12 + 1 ∧ KP U m U1 m' := by
  obtain ⟨c1, U1, x1, H1, x3, x4, x5⟩ := prep_GI (m0 := m0) H
  obtain ⟨ox, y1, y2⟩ := PT_ok (m := m0) H1.1.2.2.2
  obtain ⟨T, X, hst, hT⟩ := H1.1.1
  have h5 := H1.2.2.2.2.2.1
  have h24' := H1.2.2.2.2.2.2.1
  obtain ⟨ak, s2, k1', k2, k3, k4⟩ := keep_GI (n := n') H1 (by rw [x4 0 (by decide)]; exact x3) (by omega)
  obtain ⟨X2, O2, y2', ek⟩ := kept H1 k2 X
  have e12 := ek 12 (by omega) (by omega)
  obtain ⟨r, w2, a2', T', k2', xx2, m2', v1, v3, v4, v5, vT, v2, v6, v6', v7, v8, v9, v10, v11⟩ := passx_ok (n := n) (n' := n') (m := bC m 0 ak) (kk := c1 8) (xx := c1 9) (y2' y2) X2 (by rw [ek 11 (by omega) (by omega)]; exact hst.1) (by rw [e12]; exact hst.2.1) (by rw [e12]; exact h12) (by show 0 ≤ m.1 24 ∧ m.1 24 < _; omega) (by omega) O2 h5.1 h5.2.2 (by omega) (by omega)
  have hk8 : k2'.1 3 = -1 := (v2 3 (by decide) (by decide) (by decide) (by decide)).trans h5.1
  obtain ⟨cm, S2⟩ := k4 (bU (bU (bU c1 0 w2) 8 k2') 9 xx2) (by rw [bU_n (by decide), bU_n (by decide), bU_n (by decide)])
  have e24 : m2'.1 24 = m.1 24 + r := by rw [v4.1, bI_e]; rfl
  have e0 : m2'.2 0 = a2' := v4.2 0 (by decide) (by decide) (by decide)
  refine ⟨r, c1, c1, _, U1, (k2', w2, xx2), bC m 0 ak, m2', ox, x1 n, y1, v1, cm n _, k1', v3, done_GI (B' := B) (a' := a2') H1 (by omega) k2 k3 S2 ?_ (fun i hi => v8 i (by omega)) hk8 e0 ?_ ?_ ?_, v9, e24, ?_, x5, v4.2 2 (by decide) (by decide) (by decide)⟩
  · refine ⟨T', v5, ⟨v6, v6', ?_⟩, ?_⟩
    · rw [v10, v11, ek 15 (by omega) (by omega), hst.2.2]
    · rw [v7, e12]; omega
  · intro j hj
    rw [v4.2 j (by omega) (by omega) (by omega)]
    show (bC (bC m 0 ak) 0 a2').2 j = _
    rw [bC_n (by omega), bC_n (by omega)]
  · intro k hk
    rw [v4.1, bI_1 (by omega)]; rfl
  · rw [e24]; omega
  · rw [e0, v7, e12]
theorem days_ok (d : Nat) : ∀ (k : Nat) {n n' : Nat} {c : Nat → bS} {U : bH} {m : bS} {l : Int}, GI z zp B Kt c U m → B ≤ 60200 → m.1 24 = l → l + d ≤ (B : Int) → k + d ≤ 60 → 2000 + d + 1 ≤ n → 2000 + d + 1 ≤ n' → ∃ (r f : Int) (c' : Nat → bS) (U' : bH) (m' : bS), P_passDays_4 n (c, mC m0 ++ U) ((k + d : Nat) : Int) l (k : Int) = some (r, (c', mC m0 ++ U')) ∧ R_arePassed_7 n' m ((k + d : Nat) : Int) (k : Int) = some (f, m') ∧ GI z zp B Kt c' U' m' ∧ m'.1 24 = r ∧ ((f = 1 ∧ m.2 0 12 + d ≤ 9999) ∨ (f = 0 ∧ 9999 < m.2 0 12 + d)) ∧ KP U m U' m' := by
  induction d with
  | zero =>
    intro k n n' c U m l H hB h24 hl hk hn hn'
    obtain ⟨n, rfl⟩ : ∃ N, n = N + 1 := ⟨n - 1, by omega⟩
    obtain ⟨n', rfl⟩ : ∃ N, n' = N + 1 := ⟨n' - 1, by omega⟩
    obtain ⟨T, X, hst, hT⟩ := H.1.1
    have h12 : m.2 0 12 ≤ 9999 := X.2.2.2.2.2.2.2.2
    refine ⟨l, 1, c, U, m, ?_, ?_, H, h24, Or.inl ⟨rfl, by omega⟩, KP.rf⟩
    · rw [P_passDays_4, if_pos (by omega)]
    · rw [R_arePassed_7, if_pos (by omega)]
  | succ d ih =>
    intro k n n' c U m l H hB h24 hl hk hn hn'
    obtain ⟨n, rfl⟩ : ∃ N, n = N + 1 := ⟨n - 1, by omega⟩
    obtain ⟨n', rfl⟩ : ∃ N, n' = N + 1 := ⟨n' - 1, by omega⟩
    obtain ⟨T, X, hst, hT⟩ := H.1.1
    have h12 : m.2 0 12 ≤ 9999 := X.2.2.2.2.2.2.2.2
    have h24' := H.2.2.2.2.2.2.1
    by_cases h9 : m.2 0 12 = 9999
    · refine ⟨l, 0, c, U, m, ?_, ?_, H, h24, Or.inr ⟨rfl, by omega⟩, KP.rf⟩
      · rw [P_passDays_4, if_neg (by omega)]
        dsimp only
        rw [hst.2.1, if_pos (by omega)]
      · rw [R_arePassed_7, if_neg (by omega), if_pos h9]
    · obtain ⟨r, c1, _, c2, U1, s2, m1, m2, ox, e1, e2, e3, e4, e5, e6, H2, e7, e8, e9, e10⟩ := day1_ok (m0 := m0) (n := n) (n' := n') H hB (by omega) (by omega) (by omega) (by omega)
      obtain ⟨r', f, c', U', m', g1, g2, g3, g4, g5, g6⟩ := ih (k + 1) (n := n) (n' := n') (l := l + r) H2 hB (by rw [e8, h24]) (by omega) (by omega) (by omega) (by omega)
      have ek : k + 1 + d = k + (d + 1) := by omega
      rw [ek] at g1 g2
      refine ⟨r', f, c', U', m', ?_, ?_, g3, g4, ?_, e10.tr g6⟩
      · have ew : ay_w (l + r) = l + r := by
          clear g1 g2
          exact ay_wi (by omega) (by omega)
        rw [P_passDays_4, if_neg (by clear ew; omega)]
        dsimp only
        rw [hst.2.1, if_neg (by clear ew; omega), bb_s e1, b1_s e2, bb_s e3, bb_s e4, ew, wad1 (by clear ew; omega)]
        exact g1
      · rw [R_arePassed_7, if_neg (by omega), if_neg h9, bb_s e5, bb_s e6, wad1 (by omega)]
        exact g2
      · rw [e9] at g5; omega
theorem passed_ok (H : GI z zp B Kt c U m) (hB : B ≤ 60200) (hB' : 60 ≤ B) (h1 : 0 ≤ a1 ∧ a1 ≤ 60) (hn : 2100 ≤ n) (hn' : 2100 ≤ n') : ∃ (r f : Int) (c' : Nat → bS) (U' : bH) (m' : bS), P_passDays n (c, mC m0 ++ U) a1 = some (r, (c', mC m0 ++ U')) ∧ R_arePassed n' m a1 = some (f, m') ∧ GI z zp B Kt c' U' m' ∧ m'.1 24 = r ∧ ((f = 1 ∧ m.2 0 12 + a1 ≤ 9999) ∨ (f = 0 ∧ 9999 < m.2 0 12 + a1)) ∧ KP U m U' m' := by
  obtain ⟨d, hd⟩ : ∃ d : Nat, a1 = (d : Int) := ⟨a1.toNat, by omega⟩
  obtain ⟨r, f, c', U', m', g1, g2, g3, g4, g5, g6⟩ := days_ok (m0 := m0) d 0 (n := n) (n' := n') (l := 0) (GI_24 H (v := 0) (by omega)) hB bI_e (by omega) (by omega) (by omega) (by omega)
  rw [Nat.zero_add] at g1 g2
  subst hd
  exact ⟨r, f, c', U', m', g1, g2, g3, g4, g5, g6⟩
theorem L_day (H : GI z zp B Kt c U m) (hB : B ≤ 60000) (ha : -2147483648 ≤ a1 ∧ a1 < 2147483648) : ∃ c' U' m', LStep 12 c U m a1 a2 a3 a4 a5 c' U' m' ∧ NX1 B Kt c' U' m' := by
  obtain ⟨T, X, hst, hT⟩ := H.1.1
  have h12 : m.2 0 12 ≤ 9999 := X.2.2.2.2.2.2.2.2
  have h12' : 0 ≤ m.2 0 12 := X.2.2.2.2.2.2.2.1
  by_cases c1 : 1 ≤ a1 ∧ a1 ≤ 60
  · have ew : ay_w (m.2 0 12 + a1) = m.2 0 12 + a1 := ay_wi (by omega) (by omega)
    by_cases c2 : m.2 0 12 + a1 ≤ 9999
    · obtain ⟨r, f, c', U', m', g1, g2, g3, g4, g5, g6⟩ := passed_ok (m0 := m) (n := 2100) (n' := 2100) (GI_m (B' := B + 60) (by clear ew; omega) (Nat.le_refl _) H) (by clear ew; omega) (by clear ew; omega) (a1 := a1) (by clear ew; omega) (Nat.le_refl _) (Nat.le_refl _)
      have hf : f = 1 := by clear ew g1 g2; omega
      refine ⟨c', U', m', ⟨2100, 2100, r, ?_, ?_⟩, ⟨z, zp, GI_m (by clear ew; omega) (by clear ew; omega) g3⟩⟩
      · unfold P_day
        dsimp only
        rw [if_neg (by clear ew; omega), if_neg (by clear ew; omega), hst.2.1, ew, if_pos c2, bb_s g1]
      · unfold R_day
        rw [b1_s (R_isIn_ok _ _ _ _), if_pos c1, if_neg (by decide), ew, if_neg (by clear ew; omega), bb_s g2, hf, if_neg (by decide), g4]
    · refine ⟨c, U, m, ⟨0, 0, -1, ?_, ?_⟩, NX1_s H⟩
      · unfold P_day
        dsimp only
        rw [if_neg (by clear ew; omega), if_neg (by clear ew; omega), hst.2.1, ew, if_neg c2]
      · unfold R_day
        rw [b1_s (R_isIn_ok _ _ _ _), if_pos c1, if_neg (by decide), ew, if_pos (by clear ew; omega)]
  · refine ⟨c, U, m, ⟨0, 0, -1, ?_, ?_⟩, NX1_s H⟩
    · unfold P_day
      by_cases d1 : a1 < 1
      · rw [if_pos d1]
      · rw [if_neg d1, if_pos (by omega)]
    · unfold R_day
      rw [b1_s (R_isIn_ok _ _ _ _), if_neg c1, if_pos rfl]
end
