/-! Calls that are steps. -/
section
variable {n n' B B' Kt T k j i o p L M : Nat} {z zp z' : Nat → Nat} {c c' c1 : Nat → bS} {U U' U1 : bH} {m m' m0 m1 w w' x tt tt' q kk xx : bS} {a a' t2 t2' : Nat → Int} {v a1 a2 a3 a4 a5 : Int} {ox : Option (Nat × bS)}
/-- what a step leaves of texts -/
def KP (U : bH) (m : bS) (U' : bH) (m' : bS) : Prop := (∀ j x, uX U j x → uX U' j x) ∧ m'.2 2 = m.2 2
theorem KP.rf : KP U m U m := ⟨fun _ _ h => h, rfl⟩
theorem KP.tr {U2 : bH} {m2 : bS} (h : KP U m U1 m1) (g : KP U1 m1 U2 m2) : KP U m U2 m2 := ⟨fun j x e => g.1 j x (h.1 j x e), g.2.trans h.2⟩
/-- with or without a law -/
theorem POL (P : PO ox (a 2) t2) : (ox = none ∧ LAW z tt (K0_wanted tt) (K0_letsGo tt) t2 (a 2)) ∨ ∃ q : Nat × bS, ox = some q ∧ LAW z tt (K1_wanted tt q.2) (K1_letsGo tt q.2) t2 (a 2) := by
  rcases P with ⟨h1, h2⟩ | ⟨q, T, h1, h2, h3, h4⟩
  · left
    rw [h2]
    exact ⟨h1, LAW_0⟩
  · right
    rw [h3]
    exact ⟨q, h1, LAW_1 h4 h2⟩
theorem usex_ok (P : PO ox (m.2 0 2) (m.2 2)) (X : GX z w (m.2 0) T) (hT1 : T + 1 < 131072) (hto : TO z tt (m.2 0)) (PP : PN kk m w) (ho : o < 4) (hp : p < 32) (hz : p < z o) (hn : 1300 ≤ n) (hn' : 1300 ≤ n') : (∃ k1 xx' m1, Kx_use tt ox n (kk, w, xx) o p = some (-1, (k1, w, xx')) ∧ Kk kk k1 ∧ R_canTouch n' m o p = some (0, m1) ∧ Mq m m1) ∨ ∃ w' a' k1 xx' m1 m2, Kx_use tt ox n (kk, w, xx) o p = some (((frm w' (32 * o + p) : Nat) : Int), (k1, w', xx')) ∧ Kk kk k1 ∧ (R_canTouch n' m o p = some (1, m1) ∧ Mq m m1) ∧ (R_touchNow n' m o p = some (((frm w' (32 * o + p) : Nat) : Int), m2) ∧ Mq (bC m 0 a') m2) ∧ GX z w' a' (T + 1) ∧ Ku w w' o p ∧ Ra (m.2 0) a' := by
  rcases POL (z := z) (tt := tt) P with ⟨h, LA⟩ | ⟨q, h, LA⟩
  · subst h
    exact use0_ok X hT1 hto (LA m w T X hto rfl rfl) PP ho hp hz hn hn'
  · subst h
    exact use1_ok X hT1 hto (LA m w T X hto rfl rfl) PP ho hp hz hn hn'
theorem passx_ok (P : PO ox (m.2 0 2) (m.2 2)) (X : GX z w (m.2 0) T) (hx : w.1 15 = m.2 0 11) (hd : w.1 16 = m.2 0 12) (h9 : m.2 0 12 < 9999) (h24 : 0 ≤ m.1 24 ∧ m.1 24 < 1000000) (hT1 : T + 1 < 131072) (hto : TO z tt (m.2 0)) (hk3 : kk.1 3 = -1) (hm3 : m.1 23 = -1) (hn : 1300 ≤ n) (hn' : 1300 ≤ n') : ∃ r w' a' T' k1 x1 m', Kx_passDay tt ox n (kk, w, xx) = some (r, (k1, w', x1)) ∧ R_pass n' m = some (0, m') ∧ Mq (bI (bC m 0 a') 24 (m.1 24 + r)) m' ∧ GX z w' a' T' ∧ (T' = T ∨ T' = T + 1) ∧ Kk kk k1 ∧ w'.1 15 = a' 11 ∧ w'.1 16 = a' 12 ∧ a' 12 = m.2 0 12 + 1 ∧ Rd (m.2 0) a' ∧ (r = 0 ∨ r = 1) ∧ w'.1 13 = w.1 13 ∧ a' 15 = m.2 0 15 := by
  rcases POL (z := z) (tt := tt) P with ⟨h, LA⟩ | ⟨q, h, LA⟩
  · subst h
    exact pass0_ok X hx hd h9 h24 hT1 hto LA hk3 hm3 hn hn'
  · subst h
    exact pass1_ok X hx hd h9 h24 hT1 hto LA hk3 hm3 hn hn'
theorem copyx_ok {b q : Nat} (P : PO ox (m.2 0 2) (m.2 2)) (X : GX z w (m.2 0) T) (hT3 : T + 3 < 131072) (hto : TO z tt (m.2 0)) (hk3 : kk.1 3 = -1) (hm3 : m.1 23 = -1) (ho : o < 4) (hp : p < 32) (hz : p < z o) (hb : b < 4) (hq : q < 32) (hzq : q < z b) (hn : 1400 ≤ n) (hn' : 1400 ≤ n') : ∃ (r : Int) (w' : bS) (a' : Nat → Int) (T' : Nat) (k1 x1 m' : bS), Kx_duplicate tt ox n (kk, w, xx) o p b q = some (r, (k1, w', x1)) ∧ R_copyNow n' m o p b q = some (r, m') ∧ Mq (bC m 0 a') m' ∧ GX z w' a' T' ∧ T' ≤ T + 3 ∧ Kk kk k1 ∧ (w'.1 15 = w.1 15 ∧ w'.1 16 = w.1 16 ∧ a' 11 = m.2 0 11 ∧ a' 12 = m.2 0 12) ∧ w'.1 13 = a' 15 ∧ Rd (m.2 0) a' ∧ 0 ≤ r := by
  rcases POL (z := z) (tt := tt) P with ⟨h, LA⟩ | ⟨q', h, LA⟩
  · subst h
    exact copy0_ok X hT3 hto LA hk3 hm3 ho hp hz hb hq hzq hn hn'
  · subst h
    exact copy1_ok X hT3 hto LA hk3 hm3 ho hp hz hb hq hzq hn hn'
/-- a step stands behind what was -/
theorem step_GI (H : GI z zp B Kt c U m) (hB : B ≤ B') (hG : GB z w' a' B') (hS : ST 2 c' U z a' B) (e2 : (c' 2).2 = (c 2).2) (ea : ∀ i, i = 0 ∨ i = 1 ∨ i = 2 ∨ i = 4 ∨ (6 ≤ i ∧ i < 10) ∨ (1259 ≤ i ∧ i < 1275) → a' i = m.2 0 i) (e0 : c' 0 = w') (ec : ∀ k, k ≠ 0 → k ≠ 2 → k ≠ 8 → k ≠ 9 → c' k = c k) (e8 : (c' 8).1 3 = -1) (f0 : m'.2 0 = a') (f : ∀ j, j = 1 ∨ j = 2 ∨ j = 3 → m'.2 j = m.2 j) (g : ∀ k, k = 4 ∨ k = 5 ∨ k = 6 ∨ k = 23 → m'.1 k = m.1 k) (g24 : 0 ≤ m'.1 24 ∧ m'.1 24 ≤ (B' : Int)) : GI z zp B' Kt c' U m' := by
  obtain ⟨⟨A1, A2, A3, A4⟩, ⟨B1, B2, B3, B4⟩, h1, h2, ⟨L, h3, h4⟩, h5, h6, h7⟩ := H
  unfold GI
  rw [e0, ec 1 (by decide) (by decide) (by decide) (by decide), ec 3 (by decide) (by decide) (by decide) (by decide), ec 4 (by decide) (by decide) (by decide) (by decide), ec 7 (by decide) (by decide) (by decide) (by decide), ec 10 (by decide) (by decide) (by decide) (by decide), ec 12 (by decide) (by decide) (by decide) (by decide), f0, f 1 (by omega), f 2 (by omega)]
  refine ⟨⟨hG, TO_a A2 (fun i i1 i2 i3 i4 i5 i6 => ea i (by omega)), ST_m hB hS, TD_c A4 rfl rfl rfl rfl rfl rfl (fun i hi => ea i (by omega)) (fun _ _ h => h)⟩, ⟨GB_m hB B1, B2, ST_m hB (ST_c (ec 5 (by decide) (by decide) (by decide) (by decide)) B3), B4⟩, by rw [ea 1 (by omega)]; exact h1, HS_2 h2 (by rw [e2]) (by rw [ec 5 (by decide) (by decide) (by decide) (by decide)]), ⟨L, h3, by rw [g 4 (by omega)]; exact h4.1, by rw [f 3 (by omega)]; exact h4.2⟩, ⟨e8, h5.2.1, (g 23 (by omega)).trans h5.2.2⟩, g24, ?_⟩
  unfold FT
  rw [g 5 (by omega), g 6 (by omega)]
  exact h7
/-- the step that is tried -/
theorem prep_GI (H : GI z zp B Kt c U m) : ∃ c1 U1, (∀ n, S_prepare n (c, mC m0 ++ U) = some (0, (c1, mC m0 ++ U1))) ∧ GI z zp B Kt c1 U1 m ∧ PR c1 U1 (c 0) ∧ (∀ k, k ≠ 2 → c1 k = c k) ∧ ∀ j x, uX U j x → uX U1 j x := by
  obtain ⟨⟨A1, A2, A3, A4⟩, ⟨B1, B2, B3, B4⟩, h1, h2, h3, h5, h6, h7⟩ := H
  obtain ⟨c1, U1, x1, x2, x3, x4, x5, x6, x7⟩ := prep_ok (m := m0) h2 A3 B3
  refine ⟨c1, U1, x1, ?_, x5, x6, x7⟩
  unfold GI
  rw [x6 0 (by decide), x6 1 (by decide), x6 3 (by decide), x6 4 (by decide), x6 7 (by decide), x6 8 (by decide), x6 10 (by decide), x6 12 (by decide)]
  exact ⟨⟨A1, A2, x3, TD_c A4 rfl rfl rfl rfl rfl rfl (fun _ _ => rfl) x7⟩, ⟨B1, B2, x4, TD_c B4 rfl rfl rfl rfl rfl rfl (fun _ _ => rfl) x7⟩, h1, x2, h3, h5, h6, h7⟩
/-- the reference keeps, the steps are counted -/
theorem keep_GI (H : GI z zp B Kt c U m) (P : PR c U (c 0)) (hn : 1300 ≤ n) : ∃ a1 s2, R_keep n m = some (0, bC m 0 a1) ∧ Rk (m.2 0) a1 ∧ s2.2 = (c 2).2 ∧ ∀ c', c' 2 = c 2 → (∀ nn T, S_commit nn (c', T) = some (0, (bU c' 2 s2, T))) ∧ ST 2 (bU c' 2 s2) U z a1 B := keep_ok H.1.2.2.1 P H.1.1 hn
/-- a call refused behind a step that was tried -/
theorem try_GI (H : GI z zp B Kt c U m) (Q : Mq m m') (hk : Kk (c 8) kk) : GI z zp B Kt (bU (bU (bU c 0 (c 0)) 8 kk) 9 xx) U m' := by
  have h3 : kk.1 3 = (c 8).1 3 := hk 3 (by decide) (by decide) (by decide) (by decide)
  refine GI_c (GI_q H Q) ?_ ?_ ?_ ?_ ?_ ?_ ?_ ?_ ?_ ?_ rfl rfl rfl rfl (fun _ _ => rfl)
  · rw [bU_n (by decide), bU_n (by decide), bU_e]
  · rw [bU_n (by decide), bU_n (by decide), bU_n (by decide)]
  · rw [bU_n (by decide), bU_n (by decide), bU_n (by decide)]
  · rw [bU_n (by decide), bU_n (by decide), bU_n (by decide)]
  · rw [bU_n (by decide), bU_n (by decide), bU_n (by decide)]
  · rw [bU_n (by decide), bU_n (by decide), bU_n (by decide)]
  · rw [bU_n (by decide), bU_n (by decide), bU_n (by decide)]
  · rw [bU_n (by decide), bU_e]; exact h3
  · rw [bU_n (by decide), bU_n (by decide), bU_n (by decide)]
  · rw [bU_n (by decide), bU_n (by decide), bU_n (by decide)]
theorem bC_n (h : j ≠ k) {f : Nat → Int} : (bC w k f).2 j = w.2 j := by
  show (bif Nat.beq j k then f else w.2 j) = w.2 j
  rw [nbeq h]; rfl
theorem Rk.lt (h : Rk a a') : ∀ i, 10 ≤ i → i < 1259 → a' i = a i := fun i h1 h2 => h i (by omega) (by omega) (by omega)
theorem PN0 (h1 : kk.1 3 = -1) (h2 : m.1 23 = -1) : PN kk m w := Or.inl ⟨h1, h2⟩
/-- a done step: GI behind it -/
theorem done_GI {s2 : bS} (H : GI z zp B Kt c U m) (hB : B ≤ B') (hk : Rk (m.2 0) a) (hs2 : s2.2 = (c 2).2) (hS : ST 2 (bU (bU (bU (bU c 0 w') 8 kk) 9 xx) 2 s2) U z a B) (hG : GB z w' a' B') (hr : ∀ i, i < 10 ∨ 1259 ≤ i → a' i = a i) (hk8 : kk.1 3 = -1) (f0 : m'.2 0 = a') (f : ∀ j, j = 1 ∨ j = 2 ∨ j = 3 → m'.2 j = m.2 j) (g : ∀ k, k = 4 ∨ k = 5 ∨ k = 6 ∨ k = 23 → m'.1 k = m.1 k) (g24 : 0 ≤ m'.1 24 ∧ m'.1 24 ≤ (B' : Int)) : GI z zp B' Kt (bU (bU (bU (bU c 0 w') 8 kk) 9 xx) 2 s2) U m' := by
  refine step_GI (a' := a') (w' := w') H hB hG (ST_a (hr 3 (by omega)) (hr 5 (by omega)) (fun i hi => hr i (by omega)) hS) (by rw [bU_e]; exact hs2) (fun i hi => by rw [hr i (by omega)]; exact hk i (by omega) (by omega) (by omega)) ?_ (fun k k0 k2 k8 k9 => ?_) ?_ f0 f g g24
  · rw [bU_n (by decide), bU_n (by decide), bU_n (by decide), bU_e]
  · rw [bU_n k2, bU_n k9, bU_n k8, bU_n k0]
  · rw [bU_n (by decide), bU_n (by decide), bU_e]; exact hk8
/-- touch -/
theorem touch_ok (H : GI z zp B Kt c U m) (hB : B ≤ 60000) (ha : -2147483648 ≤ a1 ∧ a1 < 2147483648) (ha2 : -2147483648 ≤ a2 ∧ a2 < 2147483648) (hn : 2000 ≤ n) (hn' : 2000 ≤ n') : ∃ v c' U' m', P_touch n (c, mC m0 ++ U) a1 a2 = some (v, (c', mC m0 ++ U')) ∧ R_touch n' m a1 a2 = some (v, m') ∧ GI z zp (B + 1) Kt c' U' m' ∧ (v = -1 ∨ 0 ≤ v) ∧ KP U m U' m' := by
  rcases page_ok (a1 := a1) (a2 := a2) H.1.2.1 ha ha2 with ⟨p1, p2⟩ | ⟨o, p, e1, e2, ho, hp, hz, p1, p2⟩
  · refine ⟨-1, c, U, m, ?_, ?_, GI_m (by omega) (Nat.le_refl _) H, Or.inl rfl, KP.rf⟩
    · unfold P_touch
      rw [bb_s (p1 _ _), if_pos rfl]
    · unfold R_touch
      rw [bb_s (p2 _), if_pos rfl]
  · obtain ⟨c1, U1, x1, H1, x3, x4, x5⟩ := prep_GI (m0 := m0) H
    obtain ⟨ox, y1, y2⟩ := PT_ok (m := m0) H1.1.2.2.2
    obtain ⟨T, X, hst, hT⟩ := H1.1.1
    have h12 : m.2 0 12 ≤ 9999 := X.2.2.2.2.2.2.2.2
    have h5 := H1.2.2.2.2.2.1
    have eP : P_touch n (c, mC m0 ++ U) a1 a2 = bb (Kx_use (c1 1) ox n ((c1 8), (c1 0), (c1 9)) a1 a2) fun v3 s3 => (if v3 = (-1) then some (v3, (bU (bU (bU c1 0 s3.2.1) 8 s3.1) 9 s3.2.2, mC m0 ++ U1)) else (bb (S_commit n (bU (bU (bU c1 0 s3.2.1) 8 s3.1) 9 s3.2.2, mC m0 ++ U1)) fun v4 s4 => some (v3, s4))) := by
      unfold P_touch
      rw [bb_s (p1 _ _), if_neg (by decide), bb_s (x1 n), b1_s y1]
    rw [eP]
    rcases usex_ok (n := n) (n' := n') (xx := c1 9) y2 X (by omega) H1.1.2.1 (PN0 h5.1 h5.2.2) ho hp hz (by omega) (by omega) with ⟨k1, xx', m1, u1, u2, u3, u4⟩ | ⟨w', a', k1, xx', m1, m2, u1, u2, ⟨u3, u4⟩, _⟩
    · refine ⟨-1, _, U1, m1, ?_, ?_, GI_m (by omega) (Nat.le_refl _) (try_GI (xx := xx') H1 u4 u2), Or.inl rfl, x5, u4.2 2 (by decide) (by decide) (by decide)⟩
      · subst e1 e2
        rw [bb_s u1, if_pos rfl]
      · unfold R_touch
        rw [bb_s (p2 _), if_neg (by decide)]
        subst e1 e2
        rw [bb_s u3, if_pos rfl]
    · have Hm1 := GI_q H1 u4
      obtain ⟨ak, s2, k1', k2, k3, k4⟩ := keep_GI (n := n') Hm1 (by rw [x4 0 (by decide)]; exact x3) (by omega)
      have q0 := u4.2 0 (by decide) (by decide) (by decide)
      have X2 : GX z (c1 0) ((bC m1 0 ak).2 0) T := GX_a (fun i i1 i2 => (k2.lt i i1 i2).trans (by rw [q0])) X
      have O2 : TO z (c1 1) ((bC m1 0 ak).2 0) := TO_a (a := m1.2 0) (by rw [q0]; exact H1.1.2.1) (fun i i1 _ _ i3 _ i5 => k2 i i3 i5 (by omega))
      have y2' : PO ox ((bC m1 0 ak).2 0 2) ((bC m1 0 ak).2 2) := by
        show PO ox (ak 2) (m1.2 2)
        rw [k2 2 (by decide) (by decide) (by decide), q0, u4.2 2 (by decide) (by decide) (by decide)]; exact y2
      rcases usex_ok (n := n) (n' := n') (m := bC m1 0 ak) (xx := c1 9) y2' X2 (by omega) O2 (PN0 h5.1 (by show m1.1 23 = -1; rw [u4.1]; exact h5.2.2)) ho hp hz (by omega) (by omega) with ⟨_, _, _, v1, _⟩ | ⟨w2, a2', k2', xx2, m1', m2', v1, v2, _, ⟨v3, v4⟩, v5, v6, v7⟩
      · rw [u1] at v1
        have := congrArg (fun y => y.map (fun z => z.1)) v1
        simp at this
      · have hk8 : k2'.1 3 = -1 := (v2 3 (by decide) (by decide) (by decide) (by decide)).trans h5.1
        obtain ⟨cm, S2⟩ := k4 (bU (bU (bU c1 0 w2) 8 k2') 9 xx2) (by rw [bU_n (by decide), bU_n (by decide), bU_n (by decide)])
        refine ⟨((frm w2 (32 * o + p) : Nat) : Int), _, U1, m2', ?_, ?_, done_GI (B' := B + 1) (a' := a2') Hm1 (by omega) k2 k3 S2 ?_ (fun i hi => v7 i (by omega)) hk8 ?_ ?_ ?_ ?_, Or.inr (by omega), x5, (v4.2 2 (by decide) (by decide) (by decide)).trans (u4.2 2 (by decide) (by decide) (by decide))⟩
        · subst e1 e2
          rw [bb_s v1, if_neg (by omega), bb_s (cm n _)]
        · unfold R_touch
          rw [bb_s (p2 _), if_neg (by decide)]
          subst e1 e2
          rw [bb_s u3, if_neg (by decide), bb_s k1', bb_s v3]
        · refine ⟨T + 1, v5, ⟨?_, ?_, ?_⟩, ?_⟩
          · rw [v6.2.1 15 (by decide) (by decide), v7 11 (by omega), hst.1]
            exact ((k2.lt 11 (by omega) (by omega)).trans (by rw [q0])).symm
          · rw [v6.2.1 16 (by decide) (by decide), v7 12 (by omega), hst.2.1]
            exact ((k2.lt 12 (by omega) (by omega)).trans (by rw [q0])).symm
          · rw [v6.2.1 13 (by decide) (by decide), v7 15 (by omega), hst.2.2]
            exact ((k2.lt 15 (by omega) (by omega)).trans (by rw [q0])).symm
          · rw [v7 12 (by omega)]
            have : (bC m1 0 ak).2 0 12 = m.2 0 12 := (k2.lt 12 (by omega) (by omega)).trans (by rw [q0])
            rw [this]; omega
        · exact (v4.2 0 (by decide) (by decide) (by decide))
        · intro j hj
          rw [v4.2 j (by omega) (by omega) (by omega)]
          show (bC (bC m1 0 ak) 0 a2').2 j = _
          rw [bC_C]
          exact bC_n (by omega)
        · intro k _
          rw [v4.1]; rfl
        · rw [v4.1]
          show 0 ≤ m1.1 24 ∧ m1.1 24 ≤ _
          have := Hm1.2.2.2.2.2.2.1
          omega
end
