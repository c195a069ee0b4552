/-! Calls that are steps: writes, copies, sweeps, emptying, dropping, taking back. -/
section
variable {n n' B B' Kt T k j i o p L M : Nat} {z zp z' : Nat → Nat} {c c' c1 : Nat → bS} {U U' U1 : bH} {m m' m0 m1 w w' x tt tt' q kk xx : bS} {a a' t2 t2' : Nat → Int} {v a1 a2 a3 a4 a5 : Int} {ox : Option (Nat × bS)}
theorem write_ok (H : GI z zp B Kt c U m) (hB : B ≤ 60000) (ha : -2147483648 ≤ a1 ∧ a1 < 2147483648) (ha2 : -2147483648 ≤ a2 ∧ a2 < 2147483648) (hn : 2000 ≤ n) (hn' : 2000 ≤ n') : ∃ v c' U' m', P_write n (c, mC m0 ++ U) a1 a2 a3 = some (v, (c', mC m0 ++ U')) ∧ R_write n' m a1 a2 a3 = some (v, m') ∧ GI z zp (B + 1) Kt c' U' m' ∧ (v = -1 ∨ 0 ≤ v) ∧ KP U m U' m' := by
  rcases page_ok (a1 := a1) (a2 := a2) H.1.2.1 ha ha2 with ⟨p1, p2⟩ | ⟨o, p, e1, e2, ho, hp, hz, p1, p2⟩
  · refine ⟨-1, c, U, m, ?_, ?_, GI_m (by omega) (Nat.le_refl _) H, Or.inl rfl, KP.rf⟩
    · unfold P_write
      rw [bb_s (p1 _ _), if_pos rfl]
    · unfold R_write
      rw [bb_s (p2 _), if_pos rfl]
  by_cases c3 : 0 ≤ a3 ∧ a3 ≤ 99
  rotate_left
  · refine ⟨-1, c, U, m, ?_, ?_, GI_m (by omega) (Nat.le_refl _) H, Or.inl rfl, KP.rf⟩
    · unfold P_write
      rw [bb_s (p1 _ _), if_neg (by decide)]
      by_cases d : a3 < 0
      · rw [if_pos d]
      · rw [if_neg d, if_neg (by omega)]
    · unfold R_write
      rw [bb_s (p2 _), if_neg (by decide), b1_s (R_isIn_ok _ _ _ _), if_neg c3, if_pos rfl]
  obtain ⟨c1, U1, x1, H1, x3, x4, x5⟩ := prep_GI (m0 := m0) H
  obtain ⟨ox, y1, y2⟩ := PT_ok (m := m0) H1.1.2.2.2
  obtain ⟨T, X, hst, hT⟩ := H1.1.1
  have h12 : m.2 0 12 ≤ 9999 := X.2.2.2.2.2.2.2.2
  have h5 := H1.2.2.2.2.2.1
  have eP : P_write n (c, mC m0 ++ U) a1 a2 a3 = bb (Kx_use (c1 1) ox n ((c1 8), (c1 0), (c1 9)) a1 a2) fun v3 s3 => (if v3 = (-1) then some (v3, (bU (bU (bU c1 0 s3.2.1) 8 s3.1) 9 s3.2.2, mC m0 ++ U1)) else (bb (K_settle (c1 1) n (s3.1, s3.2.1, s3.2.2) a1 a2 a3) fun v4 s4 => (bb (S_commit n (bU (bU (bU c1 0 s4.2.1) 8 s4.1) 9 s4.2.2, mC m0 ++ U1)) fun v5 s5 => some (v3, s5)))) := by
    unfold P_write
    rw [bb_s (p1 _ _), if_neg (by decide), if_neg (by omega), if_pos (by omega), bb_s (x1 n), b1_s y1]
  have eR : ∀ n', R_write n' m a1 a2 a3 = bb (R_canTouch n' m a1 a2) fun v3 s3 => (if v3 = 0 then some ((-1), s3) else (bb (R_keep n' s3 ) fun v4 s4 => (bb (R_writeNow n' s4 a1 a2 a3) fun v5 s5 => some (v5, s5)))) := fun n' => by
    unfold R_write
    rw [bb_s (p2 _), if_neg (by decide), b1_s (R_isIn_ok _ _ _ _), if_pos c3, if_neg (by decide)]
  rw [eP, eR]
  rcases usex_ok (n := n) (n' := n') (xx := c1 9) y2 X (by omega) H1.1.2.1 (PN0 h5.1 h5.2.2) ho hp hz (by omega) (by omega) with ⟨k1, xx', m1, u1, u2, u3, u4⟩ | ⟨w', a', k1, xx', m1, m2, u1, u2, ⟨u3, u4⟩, _⟩
  · refine ⟨-1, _, U1, m1, ?_, ?_, GI_m (by omega) (Nat.le_refl _) (try_GI (xx := xx') H1 u4 u2), Or.inl rfl, x5, u4.2 2 (by decide) (by decide) (by decide)⟩
    · subst e1 e2
      rw [bb_s u1, if_pos rfl]
    · subst e1 e2
      rw [bb_s u3, if_pos rfl]
  · have Hm1 := GI_q H1 u4
    obtain ⟨ak, s2, k1', k2, k3, k4⟩ := keep_GI (n := n') Hm1 (by rw [x4 0 (by decide)]; exact x3) (by omega)
    have q0 := u4.2 0 (by decide) (by decide) (by decide)
    have X2 : GX z (c1 0) ((bC m1 0 ak).2 0) T := GX_a (fun i i1 i2 => (k2.lt i i1 i2).trans (by rw [q0])) X
    have O2 : TO z (c1 1) ((bC m1 0 ak).2 0) := TO_a (a := m1.2 0) (by rw [q0]; exact H1.1.2.1) (fun i i1 _ _ i3 _ i5 => k2 i i3 i5 (by omega))
    have y2' : PO ox ((bC m1 0 ak).2 0 2) ((bC m1 0 ak).2 2) := by
      show PO ox (ak 2) (m1.2 2)
      rw [k2 2 (by decide) (by decide) (by decide), q0, u4.2 2 (by decide) (by decide) (by decide)]; exact y2
    rcases usex_ok (n := n) (n' := n') (m := bC m1 0 ak) (xx := c1 9) y2' X2 (by omega) O2 (PN0 h5.1 (by show m1.1 23 = -1; rw [u4.1]; exact h5.2.2)) ho hp hz (by omega) (by omega) with ⟨_, _, _, v1, _⟩ | ⟨w2, a2', k2', xx2, m1', m2', v1, v2, _, ⟨v3, v4⟩, v5, v6, v7⟩
    · rw [u1] at v1
      have := congrArg (fun y => y.map (fun z => z.1)) v1
      simp at this
    · have hk8 : k2'.1 3 = -1 := (v2 3 (by decide) (by decide) (by decide) (by decide)).trans h5.1
      have e20 : m2'.2 0 = a2' := v4.2 0 (by decide) (by decide) (by decide)
      have hth : thr w2 o p = true := by rw [v6.2.2.1 o p ho hp, if_pos ⟨rfl, rfl⟩]
      obtain ⟨w3, a3', s1, s2', s3, s4, s5⟩ := settle_GX (tt := c1 1) (kk := k2') (xx := xx2) (v := a3) (n := n) (m := m2') (z := z) (T := T + 1) (by rw [e20]; exact v5) ho hp hth (by omega) (by omega) v3
      obtain ⟨cm, S2⟩ := k4 (bU (bU (bU c1 0 w3) 8 k2') 9 xx2) (by rw [bU_n (by decide), bU_n (by decide), bU_n (by decide)])
      rw [e20] at s5
      refine ⟨((frm w2 (32 * o + p) : Nat) : Int), _, U1, bC m2' 0 a3', ?_, ?_, done_GI (B' := B + 1) (a' := a3') Hm1 (by omega) k2 k3 S2 ?_ (fun i hi => (s5 i (by omega)).trans (v7 i (by omega))) hk8 rfl ?_ ?_ ?_, Or.inr (by omega), x5, (v4.2 2 (by decide) (by decide) (by decide)).trans (u4.2 2 (by decide) (by decide) (by decide))⟩
      · subst e1 e2
        rw [bb_s v1, if_neg (by omega), bb_s s1, bb_s (cm n _)]
      · subst e1 e2
        rw [bb_s u3, if_neg (by decide), bb_s k1', bb_s s2']
      · refine ⟨T + 1, s3, ⟨?_, ?_, ?_⟩, ?_⟩
        · rw [s4.2.1 15 (by decide), v6.2.1 15 (by decide) (by decide), s5 11 (by omega), v7 11 (by omega), hst.1]
          exact ((k2.lt 11 (by omega) (by omega)).trans (by rw [q0])).symm
        · rw [s4.2.1 16 (by decide), v6.2.1 16 (by decide) (by decide), s5 12 (by omega), v7 12 (by omega), hst.2.1]
          exact ((k2.lt 12 (by omega) (by omega)).trans (by rw [q0])).symm
        · rw [s4.2.1 13 (by decide), v6.2.1 13 (by decide) (by decide), s5 15 (by omega), v7 15 (by omega), hst.2.2]
          exact ((k2.lt 15 (by omega) (by omega)).trans (by rw [q0])).symm
        · rw [s5 12 (by omega), v7 12 (by omega)]
          have : (bC m1 0 ak).2 0 12 = m.2 0 12 := (k2.lt 12 (by omega) (by omega)).trans (by rw [q0])
          rw [this]; omega
      · intro j hj
        rw [bC_n (by omega), v4.2 j (by omega) (by omega) (by omega), bC_n (by omega), bC_n (by omega)]
      · intro k _
        show m2'.1 k = _
        rw [v4.1]; rfl
      · show 0 ≤ m2'.1 24 ∧ m2'.1 24 ≤ _
        rw [v4.1]
        show 0 ≤ m1.1 24 ∧ m1.1 24 ≤ _
        have := Hm1.2.2.2.2.2.2.1
        omega
/-- a step that is always done: the reference's side behind keep -/
theorem kept (H : GI z zp B Kt c U m) {ak : Nat → Int} (k2 : Rk (m.2 0) ak) (X : GX z w (m.2 0) T) : GX z w ((bC m 0 ak).2 0) T ∧ TO z (c 1) ((bC m 0 ak).2 0) ∧ (∀ {ox}, PO ox (m.2 0 2) (m.2 2) → PO ox ((bC m 0 ak).2 0 2) ((bC m 0 ak).2 2)) ∧ ∀ i, 10 ≤ i → i < 1259 → (bC m 0 ak).2 0 i = m.2 0 i := by
  refine ⟨GX_a (fun i i1 i2 => k2.lt i i1 i2) X, TO_a H.1.2.1 (fun i i1 _ _ i3 _ i5 => k2 i i3 i5 (by omega)), fun {ox} h => ?_, fun i i1 i2 => k2.lt i i1 i2⟩
  show PO ox (ak 2) (m.2 2)
  rw [k2 2 (by decide) (by decide) (by decide)]; exact h
theorem copy_ok (H : GI z zp B Kt c U m) (hB : B ≤ 60000) (ha : -2147483648 ≤ a1 ∧ a1 < 2147483648) (ha2 : -2147483648 ≤ a2 ∧ a2 < 2147483648) (ha3 : -2147483648 ≤ a3 ∧ a3 < 2147483648) (ha4 : -2147483648 ≤ a4 ∧ a4 < 2147483648) (hn : 2000 ≤ n) (hn' : 2000 ≤ n') : ∃ v c' U' m', P_copy n (c, mC m0 ++ U) a1 a2 a3 a4 = some (v, (c', mC m0 ++ U')) ∧ R_copy n' m a1 a2 a3 a4 = some (v, m') ∧ GI z zp (B + 3) Kt c' U' m' := by
  rcases page_ok (a1 := a1) (a2 := a2) H.1.2.1 ha ha2 with ⟨p1, p2⟩ | ⟨o, p, e1, e2, ho, hp, hz, p1, p2⟩
  · refine ⟨-1, c, U, m, ?_, ?_, GI_m (by omega) (Nat.le_refl _) H⟩
    · unfold P_copy
      rw [bb_s (p1 _ _), if_pos rfl]
    · unfold R_copy
      rw [bb_s (p2 _), if_pos rfl]
  rcases page_ok (a1 := a3) (a2 := a4) H.1.2.1 ha3 ha4 with ⟨r1, r2⟩ | ⟨b, q, e3, e4, hb, hq, hzq, r1, r2⟩
  · refine ⟨-1, c, U, m, ?_, ?_, GI_m (by omega) (Nat.le_refl _) H⟩
    · unfold P_copy
      rw [bb_s (p1 _ _), if_neg (by decide), bb_s (r1 _ _), if_pos rfl]
    · unfold R_copy
      rw [bb_s (p2 _), if_neg (by decide), bb_s (r2 _), if_pos rfl]
  by_cases cc : a1 = a3 ∧ a2 = a4
  · refine ⟨-1, c, U, m, ?_, ?_, GI_m (by omega) (Nat.le_refl _) H⟩
    · unfold P_copy
      rw [bb_s (p1 _ _), if_neg (by decide), bb_s (r1 _ _), if_neg (by decide), if_pos cc.1, if_pos cc.2]
    · unfold R_copy
      rw [bb_s (p2 _), if_neg (by decide), bb_s (r2 _), if_neg (by decide), if_pos cc.1, if_pos cc.2]
  have eP : P_copy n (c, mC m0 ++ U) a1 a2 a3 a4 = P_copy_32 n (c, mC m0 ++ U) a1 a2 a3 a4 := by
    unfold P_copy
    rw [bb_s (p1 _ _), if_neg (by decide), bb_s (r1 _ _), if_neg (by decide)]
    by_cases d : a1 = a3
    · rw [if_pos d, if_neg (fun h => cc ⟨d, h⟩)]
    · rw [if_neg d]
  have eR : R_copy n' m a1 a2 a3 a4 = R_copy_32 n' m a1 a2 a3 a4 := by
    unfold R_copy
    rw [bb_s (p2 _), if_neg (by decide), bb_s (r2 _), if_neg (by decide)]
    by_cases d : a1 = a3
    · rw [if_pos d, if_neg (fun h => cc ⟨d, h⟩)]
    · rw [if_neg d]
  rw [eP, eR]
  obtain ⟨c1, U1, x1, H1, x3, x4, x5⟩ := prep_GI (m0 := m0) H
  obtain ⟨ox, y1, y2⟩ := PT_ok (m := m0) H1.1.2.2.2
  obtain ⟨T, X, hst, hT⟩ := H1.1.1
  have h12 : m.2 0 12 ≤ 9999 := X.2.2.2.2.2.2.2.2
  have h5 := H1.2.2.2.2.2.1
  obtain ⟨ak, s2, k1', k2, k3, k4⟩ := keep_GI (n := n') H1 (by rw [x4 0 (by decide)]; exact x3) (by omega)
  obtain ⟨X2, O2, y2', ek⟩ := kept H1 k2 X
  obtain ⟨r, w2, a2', T', k2', xx2, m2', v1, v3, v4, v5, vT, v2, v6, v8, v7, v9⟩ := copyx_ok (n := n) (n' := n') (m := bC m 0 ak) (kk := c1 8) (xx := c1 9) (y2' y2) X2 (by omega) O2 h5.1 h5.2.2 ho hp hz hb hq hzq (by omega) (by omega)
  have hk8 : k2'.1 3 = -1 := (v2 3 (by decide) (by decide) (by decide) (by decide)).trans h5.1
  obtain ⟨cm, S2⟩ := k4 (bU (bU (bU c1 0 w2) 8 k2') 9 xx2) (by rw [bU_n (by decide), bU_n (by decide), bU_n (by decide)])
  refine ⟨r, _, U1, m2', ?_, ?_, done_GI (B' := B + 3) (a' := a2') H1 (by omega) k2 k3 S2 ?_ (fun i hi => v7 i (by omega)) hk8 ?_ ?_ ?_ ?_⟩
  · unfold P_copy_32
    subst e1 e2 e3 e4
    rw [bb_s (x1 n), b1_s y1, bb_s v1, bb_s (cm n _)]
  · unfold R_copy_32
    subst e1 e2 e3 e4
    rw [bb_s k1', bb_s v3]
  · refine ⟨T', v5, ⟨?_, ?_, ?_⟩, ?_⟩
    · rw [v6.1, v6.2.2.1, ek 11 (by omega) (by omega), hst.1]
    · rw [v6.2.1, v6.2.2.2, ek 12 (by omega) (by omega), hst.2.1]
    · exact v8
    · rw [v6.2.2.2, ek 12 (by omega) (by omega)]; omega
  · exact (v4.2 0 (by decide) (by decide) (by decide))
  · intro j hj
    rw [v4.2 j (by omega) (by omega) (by omega), bC_n (by omega), bC_n (by omega)]
  · intro k _
    rw [v4.1]; rfl
  · rw [v4.1]
    show 0 ≤ m.1 24 ∧ m.1 24 ≤ _
    have := H1.2.2.2.2.2.2.1
    omega
theorem sweepc_ok (H : GI z zp B Kt c U m) (ha : -2147483648 ≤ a1 ∧ a1 < 2147483648) (hn : 2000 ≤ n) (hn' : 2000 ≤ n') : ∃ v c' U' m', P_sweep n (c, mC m0 ++ U) a1 = some (v, (c', mC m0 ++ U')) ∧ R_sweep n' m a1 = some (v, m') ∧ GI z zp B Kt c' U' m' ∧ (v = -1 ∨ 0 ≤ v) ∧ KP U m U' m' := by
  rcases obj_ok (a1 := a1) H.1.2.1 ha with ⟨p1, p2⟩ | ⟨o, e1, ho, hz, hz32, p1, p2⟩
  · refine ⟨-1, c, U, m, ?_, ?_, H, Or.inl rfl, KP.rf⟩
    · unfold P_sweep
      rw [bb_s (p1 _ _), if_pos rfl]
    · unfold R_sweep
      rw [bb_s (p2 _), if_pos rfl]
  obtain ⟨c1, U1, x1, H1, x3, x4, x5⟩ := prep_GI (m0 := m0) H
  obtain ⟨T, X, hst, hT⟩ := H1.1.1
  have h5 := H1.2.2.2.2.2.1
  obtain ⟨ak, s2, k1', k2, k3, k4⟩ := keep_GI (n := n') H1 (by rw [x4 0 (by decide)]; exact x3) (by omega)
  obtain ⟨X2, O2, _, ek⟩ := kept H1 k2 X
  obtain ⟨w2, a2', r, v1, v3, v5, v6, v7, v9⟩ := sweep_GX (n := n) (n' := n') (m := bC m 0 ak) (kk := c1 8) (xx := c1 9) X2 O2 ho (by omega) (by omega)
  obtain ⟨cm, S2⟩ := k4 (bU (bU (bU c1 0 w2) 8 (c1 8)) 9 (c1 9)) (by rw [bU_n (by decide), bU_n (by decide), bU_n (by decide)])
  refine ⟨r, _, U1, bC (bC m 0 ak) 0 a2', ?_, ?_, done_GI (B' := B) (a' := a2') H1 (Nat.le_refl _) k2 k3 S2 ?_ (fun i hi => v7 i (by omega)) h5.1 rfl (fun j hj => by rw [bC_n (by omega), bC_n (by omega)]) (fun _ _ => rfl) H1.2.2.2.2.2.2.1, Or.inr v9, x5, rfl⟩
  · unfold P_sweep
    rw [bb_s (p1 _ _), if_neg (by decide), bb_s (x1 n)]
    subst e1
    rw [bb_s v1, bb_s (cm n _)]
  · unfold R_sweep
    rw [bb_s (p2 _), if_neg (by decide)]
    subst e1
    rw [bb_s k1', bb_s v3]
  · refine ⟨T, v5, ⟨?_, ?_, ?_⟩, ?_⟩
    · rw [v6 15 (by decide) (by decide), v7 11 (by omega), ek 11 (by omega) (by omega), hst.1]
    · rw [v6 16 (by decide) (by decide), v7 12 (by omega), ek 12 (by omega) (by omega), hst.2.1]
    · rw [v6 13 (by decide) (by decide), v7 15 (by omega), ek 15 (by omega) (by omega), hst.2.2]
    · rw [v7 12 (by omega), ek 12 (by omega) (by omega)]; exact hT
theorem dropc_ok (H : GI z zp B Kt c U m) (ha : -2147483648 ≤ a1 ∧ a1 < 2147483648) (hn : 2000 ≤ n) (hn' : 2000 ≤ n') : ∃ v c' U' m', P_drop n (c, mC m0 ++ U) a1 = some (v, (c', mC m0 ++ U')) ∧ R_drop n' m a1 = some (v, m') ∧ GI z zp B Kt c' U' m' ∧ (v = 0 ∨ v = 1) ∧ KP U m U' m' := by
  rcases obj_ok (a1 := a1) H.1.2.1 ha with ⟨p1, p2⟩ | ⟨o, e1, ho, hz, hz32, p1, p2⟩
  · refine ⟨0, c, U, m, ?_, ?_, H, Or.inl rfl, KP.rf⟩
    · unfold P_drop
      rw [bb_s (p1 _ _), if_pos rfl]
    · unfold R_drop
      rw [bb_s (p2 _), if_pos rfl]
  obtain ⟨c1, U1, x1, H1, x3, x4, x5⟩ := prep_GI (m0 := m0) H
  obtain ⟨T, X, hst, hT⟩ := H1.1.1
  have h5 := H1.2.2.2.2.2.1
  obtain ⟨ak, s2, k1', k2, k3, k4⟩ := keep_GI (n := n') H1 (by rw [x4 0 (by decide)]; exact x3) (by omega)
  obtain ⟨X2, O2, _, ek⟩ := kept H1 k2 X
  obtain ⟨w2, a2', v1, v3, v5, v6, v7⟩ := drop_ok (n := n) (n' := n') (m := bC m 0 ak) (kk := c1 8) (xx := c1 9) X2 O2 ho (by omega) (by omega)
  obtain ⟨cm, S2⟩ := k4 (bU (bU (bU c1 0 w2) 8 (c1 8)) 9 (c1 9)) (by rw [bU_n (by decide), bU_n (by decide), bU_n (by decide)])
  refine ⟨1, _, U1, bC (bC m 0 ak) 0 a2', ?_, ?_, done_GI (B' := B) (a' := a2') H1 (Nat.le_refl _) k2 k3 S2 ?_ (fun i hi => v7 i (by omega)) h5.1 rfl (fun j hj => by rw [bC_n (by omega), bC_n (by omega)]) (fun _ _ => rfl) H1.2.2.2.2.2.2.1, Or.inr rfl, x5, rfl⟩
  · unfold P_drop
    rw [bb_s (p1 _ _), if_neg (by decide), bb_s (x1 n)]
    subst e1
    rw [bb_s v1, bb_s (cm n _)]
  · unfold R_drop
    rw [bb_s (p2 _), if_neg (by decide)]
    subst e1
    rw [bb_s k1', bb_s v3]
  · refine ⟨T, v5, ⟨?_, ?_, ?_⟩, ?_⟩
    · rw [v6 15 (by decide), v7 11 (by omega), ek 11 (by omega) (by omega), hst.1]
    · rw [v6 16 (by decide), v7 12 (by omega), ek 12 (by omega) (by omega), hst.2.1]
    · rw [v6 13 (by decide), v7 15 (by omega), ek 15 (by omega) (by omega), hst.2.2]
    · rw [v7 12 (by omega), ek 12 (by omega) (by omega)]; exact hT
theorem block_ok : ((∀ n, P_isBlock n a1 = some 0) ∧ ∀ n, R_isKind n a1 = some 0) ∨ ∃ M : Nat, isN M ∧ a1 = (M : Int) ∧ (∀ n, P_isBlock n a1 = some 1) ∧ ∀ n, R_isKind n a1 = some 1 := by
  by_cases h1 : a1 = 1
  · exact Or.inr ⟨1, Or.inl rfl, h1, fun n => if_pos h1, fun n => if_pos h1⟩
  · by_cases h4 : a1 = 4
    · exact Or.inr ⟨4, Or.inr (Or.inl rfl), h4, fun n => by unfold P_isBlock; rw [if_neg h1, if_pos h4], fun n => by unfold R_isKind; rw [if_neg h1, if_pos h4]⟩
    · by_cases h16 : a1 = 16
      · exact Or.inr ⟨16, Or.inr (Or.inr rfl), h16, fun n => by unfold P_isBlock; rw [if_neg h1, if_neg h4, if_pos h16], fun n => by unfold R_isKind; rw [if_neg h1, if_neg h4, if_pos h16]⟩
      · exact Or.inl ⟨fun n => by unfold P_isBlock; rw [if_neg h1, if_neg h4, if_neg h16], fun n => by unfold R_isKind; rw [if_neg h1, if_neg h4, if_neg h16]⟩
theorem emptyc_ok (H : GI z zp B Kt c U m) (hn : 2000 ≤ n) (hn' : 2000 ≤ n') : ∃ v c' U' m', P_empty n (c, mC m0 ++ U) a1 = some (v, (c', mC m0 ++ U')) ∧ R_empty n' m a1 = some (v, m') ∧ GI z zp B Kt c' U' m' ∧ (v = -1 ∨ 0 ≤ v) ∧ KP U m U' m' := by
  rcases block_ok (a1 := a1) with ⟨p1, p2⟩ | ⟨M, hM, e1, p1, p2⟩
  · refine ⟨-1, c, U, m, ?_, ?_, H, Or.inl rfl, KP.rf⟩
    · unfold P_empty
      rw [b1_s (p1 _), if_pos rfl]
    · unfold R_empty
      rw [b1_s (p2 _), if_pos rfl]
  obtain ⟨c1, U1, x1, H1, x3, x4, x5⟩ := prep_GI (m0 := m0) H
  obtain ⟨T, X, hst, hT⟩ := H1.1.1
  have h5 := H1.2.2.2.2.2.1
  rcases empty_ok (tt := c1 1) (n := n) (n' := n') (m := m) (kk := c1 8) (xx := c1 9) X hM (by omega) (by omega) with ⟨u1, u2⟩ | ⟨_, _, c0, v0, u1, u2, u3, _⟩
  · refine ⟨-1, _, U1, m, ?_, ?_, try_GI (xx := c1 9) H1 Mq.rf Kk.rf, Or.inl rfl, x5, rfl⟩
    · unfold P_empty
      rw [b1_s (p1 _), if_neg (by decide), bb_s (x1 n)]
      subst e1
      rw [bb_s u1, if_pos rfl]
    · unfold R_empty
      rw [b1_s (p2 _), if_neg (by decide)]
      subst e1
      rw [bb_s u2, if_pos rfl]
  obtain ⟨ak, s2, k1', k2, k3, k4⟩ := keep_GI (n := n') H1 (by rw [x4 0 (by decide)]; exact x3) (by omega)
  obtain ⟨X2, O2, _, ek⟩ := kept H1 k2 X
  rcases empty_ok (tt := c1 1) (n := n) (n' := n') (m := bC m 0 ak) (kk := c1 8) (xx := c1 9) X2 hM (by omega) (by omega) with ⟨v1, _⟩ | ⟨w2, a2', r, _, v1, _, _, v3, v5, v6, v7⟩
  · rw [u1] at v1
    have := congrArg (fun y => y.map (fun z => z.1)) v1
    simp at this
  obtain ⟨cm, S2⟩ := k4 (bU (bU (bU c1 0 w2) 8 (c1 8)) 9 (c1 9)) (by rw [bU_n (by decide), bU_n (by decide), bU_n (by decide)])
  refine ⟨((r : Nat) : Int), _, U1, bC (bC m 0 ak) 0 a2', ?_, ?_, done_GI (B' := B) (a' := a2') H1 (Nat.le_refl _) k2 k3 S2 ?_ (fun i hi => v7 i (by omega)) h5.1 rfl (fun j hj => by rw [bC_n (by omega), bC_n (by omega)]) (fun _ _ => rfl) H1.2.2.2.2.2.2.1, Or.inr (by omega), x5, rfl⟩
  · unfold P_empty
    rw [b1_s (p1 _), if_neg (by decide), bb_s (x1 n)]
    subst e1
    rw [bb_s v1, if_neg (by omega), bb_s (cm n _)]
  · unfold R_empty
    rw [b1_s (p2 _), if_neg (by decide)]
    subst e1
    rw [bb_s u2, if_neg u3, bb_s k1', bb_s v3]
  · refine ⟨T, v5, ⟨?_, ?_, ?_⟩, ?_⟩
    · rw [v6 15 (by decide), v7 11 (by omega), ek 11 (by omega) (by omega), hst.1]
    · rw [v6 16 (by decide), v7 12 (by omega), ek 12 (by omega) (by omega), hst.2.1]
    · rw [v6 13 (by decide), v7 15 (by omega), ek 15 (by omega) (by omega), hst.2.2]
    · rw [v7 12 (by omega), ek 12 (by omega) (by omega)]; exact hT
theorem L_undo (H : GI z zp B Kt c U m) : ∃ c' U' m', LStep 15 c U m a1 a2 a3 a4 a5 c' U' m' ∧ NX1 B Kt c' U' m' := by
  have H0 := H
  obtain ⟨⟨A1, A2, A3, A4⟩, ⟨B1, B2, B3, B4⟩, h1, h2, ⟨L, h3, h4⟩, h5, h6, h7⟩ := H
  rcases undo_ok (m := m) (n' := 1300) h2 A3 (Nat.le_refl _) with ⟨u1, u2⟩ | ⟨c1, ak, u1, u2, u3, u4, u5, u6, u7⟩
  · refine ⟨c, U, m, ⟨0, 1300, -1, ?_, u2⟩, NX1_s H0⟩
    unfold P_undo
    rw [bb_s (u1 0), if_pos rfl]
  · refine ⟨c1, U, bC m 0 ak, ⟨0, 1300, (c1 2).1 2, ?_, u2⟩, NX1_s (step_GI (a' := ak) (w' := c1 0) H0 (Nat.le_refl _) u3 u4 u6 (fun i hi => u7 i (by omega)) rfl (fun k k0 k2 _ _ => u5 k k0 k2) (by rw [u5 8 (by decide) (by decide)]; exact h5.1) rfl (fun j hj => bC_n (by omega)) (fun _ _ => rfl) h6)⟩
    unfold P_undo
    rw [bb_s (u1 0), if_neg (by decide)]
end
