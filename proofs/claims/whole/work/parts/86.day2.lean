/-! Days of touching and writing, on both sides (with and without a law; by wip/whole/tpl) -/
section
variable {n n' : Nat} {m m' m1 w w' w0 kk kq xx tt tx : bS} {z : Nat → Nat} {a b' : Nat → Int} {o p f s N k i h g j T b c M x y q : Nat} {t : Int} {v : Nat} {cd sp : Nat → Bool}
/-- a day of touching or writing, behind its draws: v0 what is written, if anything -/
theorem dayuse0 (X : GX z w (m.2 0) T) (hx : w.1 15 = m.2 0 11) (hT1 : T + 1 < 131072) (hto : TO z tt (m.2 0)) (LA : LAW z tt (K0_wanted tt) (K0_letsGo tt) (m.2 2) (m.2 0 2)) (hk3 : kk.1 3 = -1) (hm3 : m.1 23 = -1) (ho : o < 4) (hp : p < 32) (hz : p < z o) (hn : 1300 ≤ n) (hn' : 1300 ≤ n') : ∃ r w' a' T' k1 x1 m', (K0_passDay_116 tt n (kk, w, xx) o p (-1) = some (r, (k1, w', x1))) ∧ (∀ what : Int, what < 3 → (bb (R_canTouch n' m o p) fun v4 s4 => (if v4 = 0 then R_doDrawn_52 n' s4 what o p 0 else R_doDrawn_52 n' s4 what o p 1)) = some (0, m')) ∧ Mq (bI (bC m 0 a') 24 (ay_w (m.1 24 + r))) m' ∧ GX z w' a' T' ∧ (T' = T ∨ T' = T + 1) ∧ Kk kk k1 ∧ w'.1 15 = a' 11 ∧ w'.1 16 = w.1 16 ∧ a' 12 = m.2 0 12 ∧ Rd (m.2 0) a' ∧ (r = 0 ∨ r = 1) ∧ w'.1 13 = w.1 13 ∧ a' 15 = m.2 0 15 := by
  have PNm : ∀ m' : bS, Mq m m' → PN kk m' w := fun m' hm => Or.inl ⟨hk3, by rw [hm.1]; exact hm3⟩
  have at' : ∀ m' : bS, Mq m m' → GX z w (m'.2 0) T ∧ TO z tt (m'.2 0) ∧ LW (K0_wanted tt) (K0_letsGo tt) m' w := fun m' hm => by
    have e := hm.ar
    have X' : GX z w (m'.2 0) T := by rw [e]; exact X
    have t' : TO z tt (m'.2 0) := by rw [e]; exact hto
    exact ⟨X', t', LA m' w T X' t' hm.tx (by rw [e])⟩
  obtain ⟨X0, t0, L0⟩ := at' m Mq.rf
  have f52 : ∀ (what : Int) (s4 : bS), what < 3 → R_doDrawn_52 n' s4 what o p 0 = some (0, bI s4 24 (ay_w (s4.1 24 + 0))) := fun what s4 hw => by
    unfold R_doDrawn_52 R_doDrawn_179
    rw [if_neg (by omega), if_pos rfl, if_pos rfl]
  have g52 : ∀ (what : Int) (s4 : bS), what < 3 → R_doDrawn_52 n' s4 what o p 1 = (bb (R_touchNow n' s4 o p) fun _ s9 => some (0, bI s9 24 (ay_w (s9.1 24 + 1)))) := fun what s4 hw => by
    unfold R_doDrawn_52 R_doDrawn_179
    rw [if_neg (by omega), if_neg (by decide)]
    refine congrArg (bb _) ?_
    funext v s
    exact if_neg (by decide)
  rcases use0_ok (kk := kk) (xx := xx) (n := n) (n' := n') X0 hT1 t0 L0 (PNm m Mq.rf) ho hp hz hn hn' with ⟨k1, x1, m1, e1, e2, e3, e4⟩ | ⟨w1, a1, k1, x1, m1, m2, e1, e2, ⟨e3, e4⟩, _⟩
  · refine ⟨0, w, m.2 0, T, k1, x1, bI m1 24 (ay_w (m1.1 24 + 0)), ?_, fun what hw => ?_, ?_, X, Or.inl rfl, e2, hx, rfl, rfl, fun _ _ => rfl, Or.inl rfl, rfl, rfl⟩
    · unfold K0_passDay_116
      rw [bb_s e1, if_pos rfl]
    · rw [bb_s e3, if_pos rfl, f52 what m1 hw]
    · rw [bC_id]; exact e4.bI24 rfl
  · obtain ⟨X1, t1, L1⟩ := at' m1 e4
    rcases use0_ok (kk := kk) (xx := xx) (n := n) (n' := n') X1 hT1 t1 L1 (PNm m1 e4) ho hp hz hn hn' with ⟨k2, x2, m3, f1, _⟩ | ⟨w2, a2, k2, x2, m3, m4, f1, f2, _, ⟨f3, f4⟩, f5, f6, f7⟩
    · rw [f1] at e1; injection e1 with y; injection y with y1 y2; omega
    · have f7' : Ra (m.2 0) a2 := by rw [← e4.ar]; exact f7
      refine ⟨1, w2, a2, T + 1, k2, x2, bI m4 24 (ay_w (m4.1 24 + 1)), ?_, fun what hw => ?_, ?_, f5, Or.inr rfl, f2, ?_, f6.2.1 16 (by omega) (by omega), f7' 12 (by omega), f7'.rd, Or.inr rfl, f6.2.1 13 (by omega) (by omega), f7' 15 (by omega)⟩
      · unfold K0_passDay_116
        rw [bb_s f1, if_neg (by omega), if_pos rfl]
      · rw [bb_s e3, if_neg (by decide), g52 what m1 hw, bb_s f3]
      · exact ((e4.bCC (a := a2)).tr f4).bI24 rfl
      · rw [f6.2.1 15 (by omega) (by omega), f7' 11 (by omega)]; exact hx
/-- a day of writing, the draw of the value ahead -/
theorem daywrite0 (X : GX z w (m.2 0) T) (hx : w.1 15 = m.2 0 11) (hT1 : T + 1 < 131072) (hto : TO z tt (m.2 0)) (LA : LAW z tt (K0_wanted tt) (K0_letsGo tt) (m.2 2) (m.2 0 2)) (hk3 : kk.1 3 = -1) (hm3 : m.1 23 = -1) (ho : o < 4) (hp : p < 32) (hz : p < z o) (hn : 1300 ≤ n) (hn' : 1300 ≤ n') : ∃ r w' a' T' k1 x1 m', ((bb (K_draw tt n (kk, w, xx) 100) fun v7 s7 => K0_passDay_116 tt n s7 o p v7) = some (r, (k1, w', x1))) ∧ (∀ what : Int, 3 ≤ what → what < 6 → (bb (R_canTouch n' m o p) fun v4 s4 => (if v4 = 0 then R_doDrawn_52 n' s4 what o p 0 else R_doDrawn_52 n' s4 what o p 1)) = some (0, m')) ∧ Mq (bI (bC m 0 a') 24 (ay_w (m.1 24 + r))) m' ∧ GX z w' a' T' ∧ (T' = T ∨ T' = T + 1) ∧ Kk kk k1 ∧ w'.1 15 = a' 11 ∧ w'.1 16 = w.1 16 ∧ a' 12 = m.2 0 12 ∧ Rd (m.2 0) a' ∧ (r = 0 ∨ r = 1) ∧ w'.1 13 = w.1 13 ∧ a' 15 = m.2 0 15 := by
  obtain ⟨w3, a3, v7, d0, d1, _, d3, d4, d5, d6, d7, d8⟩ := draw_ok (tt := tt) (kk := kk) (xx := xx) (n := n) (n' := n') (B := 100) X hx (by omega) (by omega)
  -- the class a draw ahead
  have Xa : GX z w3 (m.2 0) T := GX_n X d4 (fun j h15 _ => d5 j h15) (fun _ _ _ => rfl) (Or.inr (by rw [d7, d8])) (by rw [d5 16 (by omega)]; exact X.2.2.2.2.2.1.2.1) X.2.2.2.2.2.2.1 X.2.2.2.2.2.2.2
  have hto3 : TO z tt a3 := TO_c (fun i hi => d6 i (by omega)) hto
  have LWm : ∀ (w' m' : bS), GX z w' (m'.2 0) T → TO z tt (m'.2 0) → m'.2 2 = m.2 2 → m'.2 0 2 = m.2 0 2 → LW (K0_wanted tt) (K0_letsGo tt) m' w' := fun w' m' X' t' e2 e3 => LA m' w' T X' t' e2 e3
  have f52 : ∀ (what : Int) (s4 s7 : bS) (v : Int), 3 ≤ what → what < 6 → R_drawnBy n' s4 100 = some (v, s7) → R_doDrawn_52 n' s4 what o p 0 = some (0, bI s7 24 (ay_w (s7.1 24 + 0))) := fun what s4 s7 v h1 h2 h3 => by
    unfold R_doDrawn_52 R_doDrawn_179
    rw [if_pos (by omega), if_neg (by omega), bb_s h3, if_pos rfl, if_pos rfl]
  have g52 : ∀ (what : Int) (s4 s7 : bS) (v : Int), 3 ≤ what → what < 6 → R_drawnBy n' s4 100 = some (v, s7) → R_doDrawn_52 n' s4 what o p 1 = (bb (R_writeNow n' s7 o p v) fun _ s9 => some (0, bI s9 24 (ay_w (s9.1 24 + 1)))) := fun what s4 s7 v h1 h2 h3 => by
    unfold R_doDrawn_52 R_doDrawn_179
    rw [if_pos (by omega), if_neg (by omega), bb_s h3, if_neg (by decide)]
    refine congrArg (bb _) ?_
    funext v s
    exact if_neg (by decide)
  rcases use0_ok (kk := kk) (xx := xx) (n := n) (n' := n') Xa hT1 hto (LWm w3 m Xa hto rfl rfl) (Or.inl ⟨hk3, hm3⟩) ho hp hz hn hn' with ⟨k1, x1, m1, e1, e2, e3, e4⟩ | ⟨w1, a1, k1, x1, m1, m2, e1, e2, ⟨e3, e4⟩, _⟩
  · have X1 : GX z w (m1.2 0) T := by rw [e4.ar]; exact X
    obtain ⟨w4, a4, v8, _, b1, b2, b3, _, _, b6, b7, b8⟩ := draw_ok (tt := tt) (kk := kk) (xx := xx) (n := n) (n' := n') (B := 100) X1 (by rw [e4.ar]; exact hx) (by omega) (by omega)
    rw [d1] at b1
    injection b1 with y
    injection y with y1 y2
    injection y2 with y3 y4
    injection y4 with y5 y6
    subst y5
    rw [e4.ar] at b6
    refine ⟨0, w3, a4, T, k1, x1, bI (bC m1 0 a4) 24 (ay_w ((bC m1 0 a4).1 24 + 0)), ?_, fun what h1 h2 => ?_, ?_, b3, Or.inl rfl, e2, b7, d5 16 (by omega), b6 12 (by omega), fun i hi => b6 i (by omega), Or.inl rfl, d5 13 (by omega), b6 15 (by omega)⟩
    · refine (bb_s d1).trans ?_
      unfold K0_passDay_116
      rw [bb_s e1, if_pos rfl]
    · rw [bb_s e3, if_pos rfl]
      exact f52 what m1 _ _ h1 h2 b2
    · exact (e4.bCC (a := a4)).bI24 rfl
  · have X1 : GX z w (m1.2 0) T := by rw [e4.ar]; exact X
    obtain ⟨w4, a4, v8, _, b1, b2, b3, _, _, b6, b7, b8⟩ := draw_ok (tt := tt) (kk := kk) (xx := xx) (n := n) (n' := n') (B := 100) X1 (by rw [e4.ar]; exact hx) (by omega) (by omega)
    rw [d1] at b1
    injection b1 with y
    injection y with y1 y2
    injection y2 with y3 y4
    injection y4 with y5 y6
    subst y5
    have ev : v7 = v8 := by omega
    subst ev
    rw [e4.ar] at b6
    have b3' : GX z w3 ((bC m1 0 a4).2 0) T := b3
    have t5 : TO z tt ((bC m1 0 a4).2 0) := TO_c (b' := a4) (fun i hi => b6 i (by omega)) hto
    have q2 : (bC m1 0 a4).2 2 = m.2 2 := by
      show m1.2 2 = m.2 2
      exact e4.tx
    have q3 : (bC m1 0 a4).2 0 2 = m.2 0 2 := b6 2 (by omega)
    rcases use0_ok (kk := kk) (xx := xx) (n := n) (n' := n') b3' hT1 t5 (LWm w3 _ b3' t5 q2 q3) (Or.inl ⟨hk3, by show m1.1 23 = -1; rw [e4.1]; exact hm3⟩) ho hp hz hn hn' with ⟨k2, x2, m3, f1, _⟩ | ⟨w2, a2, k2, x2, m3, m4, f1, f2, _, ⟨f3, f4⟩, f5, f6, f7⟩
    · rw [f1] at e1; injection e1 with y; injection y with y1 y2; omega
    · have X4 : GX z w2 (m4.2 0) (T + 1) := by rw [f4.ar]; exact f5
      have th2 : thr w2 o p = true := by rw [f6.2.2.1 o p ho hp, if_pos ⟨rfl, rfl⟩]
      obtain ⟨w5, a5, g1, g2, g3, g4, g5⟩ := settle_GX (tt := tt) (kk := k2) (xx := x2) (n := n) (v := ((v7 : Nat) : Int)) X4 ho hp th2 (by omega) (by omega) f3
      have g5' : Ra a2 a5 := by
        have : m4.2 0 = a2 := f4.ar
        rw [← this]; exact g5
      have f7' : Ra a4 a2 := f7
      refine ⟨1, w5, a5, T + 1, k2, x2, bI (bC m4 0 a5) 24 (ay_w ((bC m4 0 a5).1 24 + 1)), ?_, fun what h1 h2 => ?_, ?_, g3, Or.inr rfl, f2, ?_, ?_, ?_, ?_, Or.inr rfl, ?_, ?_⟩
      · refine (bb_s d1).trans ?_
        unfold K0_passDay_116
        rw [bb_s f1, if_neg (by omega), if_neg (by omega), bb_s g1]
      · rw [bb_s e3, if_neg (by decide), g52 what m1 _ _ h1 h2 b2, bb_s g2]
      · have q4 : Mq (bC m 0 a5) (bC m4 0 a5) := by
          have h1 : Mq (bC m 0 a5) (bC m1 0 a5) := e4.bCC
          have h2 : Mq (bC (bC (bC m1 0 a4) 0 a2) 0 a5) (bC m4 0 a5) := f4.bCC
          rw [bC_C, bC_C] at h2
          exact h1.tr h2
        exact q4.bI24 rfl
      · rw [g4.2.1 15 (by omega), g5' 11 (by omega), f6.2.1 15 (by omega) (by omega), f7' 11 (by omega)]; exact b7
      · rw [g4.2.1 16 (by omega), f6.2.1 16 (by omega) (by omega)]; exact d5 16 (by omega)
      · rw [g5' 12 (by omega), f7' 12 (by omega)]; exact b6 12 (by omega)
      · intro i hi
        rw [g5'.rd i hi, f7'.rd i hi]; exact b6 i (by omega)
      · rw [g4.2.1 13 (by omega), f6.2.1 13 (by omega) (by omega)]; exact d5 13 (by omega)
      · rw [g5' 15 (by omega), f7' 15 (by omega)]; exact b6 15 (by omega)
/-- a day of touching or writing, behind its draws: v0 what is written, if anything -/
theorem dayuse1 (X : GX z w (m.2 0) T) (hx : w.1 15 = m.2 0 11) (hT1 : T + 1 < 131072) (hto : TO z tt (m.2 0)) (LA : LAW z tt (K1_wanted tt tx) (K1_letsGo tt tx) (m.2 2) (m.2 0 2)) (hk3 : kk.1 3 = -1) (hm3 : m.1 23 = -1) (ho : o < 4) (hp : p < 32) (hz : p < z o) (hn : 1300 ≤ n) (hn' : 1300 ≤ n') : ∃ r w' a' T' k1 x1 m', (K1_passDay_116 tt tx n (kk, w, xx) o p (-1) = some (r, (k1, w', x1))) ∧ (∀ what : Int, what < 3 → (bb (R_canTouch n' m o p) fun v4 s4 => (if v4 = 0 then R_doDrawn_52 n' s4 what o p 0 else R_doDrawn_52 n' s4 what o p 1)) = some (0, m')) ∧ Mq (bI (bC m 0 a') 24 (ay_w (m.1 24 + r))) m' ∧ GX z w' a' T' ∧ (T' = T ∨ T' = T + 1) ∧ Kk kk k1 ∧ w'.1 15 = a' 11 ∧ w'.1 16 = w.1 16 ∧ a' 12 = m.2 0 12 ∧ Rd (m.2 0) a' ∧ (r = 0 ∨ r = 1) ∧ w'.1 13 = w.1 13 ∧ a' 15 = m.2 0 15 := by
  have PNm : ∀ m' : bS, Mq m m' → PN kk m' w := fun m' hm => Or.inl ⟨hk3, by rw [hm.1]; exact hm3⟩
  have at' : ∀ m' : bS, Mq m m' → GX z w (m'.2 0) T ∧ TO z tt (m'.2 0) ∧ LW (K1_wanted tt tx) (K1_letsGo tt tx) m' w := fun m' hm => by
    have e := hm.ar
    have X' : GX z w (m'.2 0) T := by rw [e]; exact X
    have t' : TO z tt (m'.2 0) := by rw [e]; exact hto
    exact ⟨X', t', LA m' w T X' t' hm.tx (by rw [e])⟩
  obtain ⟨X0, t0, L0⟩ := at' m Mq.rf
  have f52 : ∀ (what : Int) (s4 : bS), what < 3 → R_doDrawn_52 n' s4 what o p 0 = some (0, bI s4 24 (ay_w (s4.1 24 + 0))) := fun what s4 hw => by
    unfold R_doDrawn_52 R_doDrawn_179
    rw [if_neg (by omega), if_pos rfl, if_pos rfl]
  have g52 : ∀ (what : Int) (s4 : bS), what < 3 → R_doDrawn_52 n' s4 what o p 1 = (bb (R_touchNow n' s4 o p) fun _ s9 => some (0, bI s9 24 (ay_w (s9.1 24 + 1)))) := fun what s4 hw => by
    unfold R_doDrawn_52 R_doDrawn_179
    rw [if_neg (by omega), if_neg (by decide)]
    refine congrArg (bb _) ?_
    funext v s
    exact if_neg (by decide)
  rcases use1_ok (kk := kk) (xx := xx) (n := n) (n' := n') X0 hT1 t0 L0 (PNm m Mq.rf) ho hp hz hn hn' with ⟨k1, x1, m1, e1, e2, e3, e4⟩ | ⟨w1, a1, k1, x1, m1, m2, e1, e2, ⟨e3, e4⟩, _⟩
  · refine ⟨0, w, m.2 0, T, k1, x1, bI m1 24 (ay_w (m1.1 24 + 0)), ?_, fun what hw => ?_, ?_, X, Or.inl rfl, e2, hx, rfl, rfl, fun _ _ => rfl, Or.inl rfl, rfl, rfl⟩
    · unfold K1_passDay_116
      rw [bb_s e1, if_pos rfl]
    · rw [bb_s e3, if_pos rfl, f52 what m1 hw]
    · rw [bC_id]; exact e4.bI24 rfl
  · obtain ⟨X1, t1, L1⟩ := at' m1 e4
    rcases use1_ok (kk := kk) (xx := xx) (n := n) (n' := n') X1 hT1 t1 L1 (PNm m1 e4) ho hp hz hn hn' with ⟨k2, x2, m3, f1, _⟩ | ⟨w2, a2, k2, x2, m3, m4, f1, f2, _, ⟨f3, f4⟩, f5, f6, f7⟩
    · rw [f1] at e1; injection e1 with y; injection y with y1 y2; omega
    · have f7' : Ra (m.2 0) a2 := by rw [← e4.ar]; exact f7
      refine ⟨1, w2, a2, T + 1, k2, x2, bI m4 24 (ay_w (m4.1 24 + 1)), ?_, fun what hw => ?_, ?_, f5, Or.inr rfl, f2, ?_, f6.2.1 16 (by omega) (by omega), f7' 12 (by omega), f7'.rd, Or.inr rfl, f6.2.1 13 (by omega) (by omega), f7' 15 (by omega)⟩
      · unfold K1_passDay_116
        rw [bb_s f1, if_neg (by omega), if_pos rfl]
      · rw [bb_s e3, if_neg (by decide), g52 what m1 hw, bb_s f3]
      · exact ((e4.bCC (a := a2)).tr f4).bI24 rfl
      · rw [f6.2.1 15 (by omega) (by omega), f7' 11 (by omega)]; exact hx
/-- a day of writing, the draw of the value ahead -/
theorem daywrite1 (X : GX z w (m.2 0) T) (hx : w.1 15 = m.2 0 11) (hT1 : T + 1 < 131072) (hto : TO z tt (m.2 0)) (LA : LAW z tt (K1_wanted tt tx) (K1_letsGo tt tx) (m.2 2) (m.2 0 2)) (hk3 : kk.1 3 = -1) (hm3 : m.1 23 = -1) (ho : o < 4) (hp : p < 32) (hz : p < z o) (hn : 1300 ≤ n) (hn' : 1300 ≤ n') : ∃ r w' a' T' k1 x1 m', ((bb (K_draw tt n (kk, w, xx) 100) fun v7 s7 => K1_passDay_116 tt tx n s7 o p v7) = some (r, (k1, w', x1))) ∧ (∀ what : Int, 3 ≤ what → what < 6 → (bb (R_canTouch n' m o p) fun v4 s4 => (if v4 = 0 then R_doDrawn_52 n' s4 what o p 0 else R_doDrawn_52 n' s4 what o p 1)) = some (0, m')) ∧ Mq (bI (bC m 0 a') 24 (ay_w (m.1 24 + r))) m' ∧ GX z w' a' T' ∧ (T' = T ∨ T' = T + 1) ∧ Kk kk k1 ∧ w'.1 15 = a' 11 ∧ w'.1 16 = w.1 16 ∧ a' 12 = m.2 0 12 ∧ Rd (m.2 0) a' ∧ (r = 0 ∨ r = 1) ∧ w'.1 13 = w.1 13 ∧ a' 15 = m.2 0 15 := by
  obtain ⟨w3, a3, v7, d0, d1, _, d3, d4, d5, d6, d7, d8⟩ := draw_ok (tt := tt) (kk := kk) (xx := xx) (n := n) (n' := n') (B := 100) X hx (by omega) (by omega)
  -- the class a draw ahead
  have Xa : GX z w3 (m.2 0) T := GX_n X d4 (fun j h15 _ => d5 j h15) (fun _ _ _ => rfl) (Or.inr (by rw [d7, d8])) (by rw [d5 16 (by omega)]; exact X.2.2.2.2.2.1.2.1) X.2.2.2.2.2.2.1 X.2.2.2.2.2.2.2
  have hto3 : TO z tt a3 := TO_c (fun i hi => d6 i (by omega)) hto
  have LWm : ∀ (w' m' : bS), GX z w' (m'.2 0) T → TO z tt (m'.2 0) → m'.2 2 = m.2 2 → m'.2 0 2 = m.2 0 2 → LW (K1_wanted tt tx) (K1_letsGo tt tx) m' w' := fun w' m' X' t' e2 e3 => LA m' w' T X' t' e2 e3
  have f52 : ∀ (what : Int) (s4 s7 : bS) (v : Int), 3 ≤ what → what < 6 → R_drawnBy n' s4 100 = some (v, s7) → R_doDrawn_52 n' s4 what o p 0 = some (0, bI s7 24 (ay_w (s7.1 24 + 0))) := fun what s4 s7 v h1 h2 h3 => by
    unfold R_doDrawn_52 R_doDrawn_179
    rw [if_pos (by omega), if_neg (by omega), bb_s h3, if_pos rfl, if_pos rfl]
  have g52 : ∀ (what : Int) (s4 s7 : bS) (v : Int), 3 ≤ what → what < 6 → R_drawnBy n' s4 100 = some (v, s7) → R_doDrawn_52 n' s4 what o p 1 = (bb (R_writeNow n' s7 o p v) fun _ s9 => some (0, bI s9 24 (ay_w (s9.1 24 + 1)))) := fun what s4 s7 v h1 h2 h3 => by
    unfold R_doDrawn_52 R_doDrawn_179
    rw [if_pos (by omega), if_neg (by omega), bb_s h3, if_neg (by decide)]
    refine congrArg (bb _) ?_
    funext v s
    exact if_neg (by decide)
  rcases use1_ok (kk := kk) (xx := xx) (n := n) (n' := n') Xa hT1 hto (LWm w3 m Xa hto rfl rfl) (Or.inl ⟨hk3, hm3⟩) ho hp hz hn hn' with ⟨k1, x1, m1, e1, e2, e3, e4⟩ | ⟨w1, a1, k1, x1, m1, m2, e1, e2, ⟨e3, e4⟩, _⟩
  · have X1 : GX z w (m1.2 0) T := by rw [e4.ar]; exact X
    obtain ⟨w4, a4, v8, _, b1, b2, b3, _, _, b6, b7, b8⟩ := draw_ok (tt := tt) (kk := kk) (xx := xx) (n := n) (n' := n') (B := 100) X1 (by rw [e4.ar]; exact hx) (by omega) (by omega)
    rw [d1] at b1
    injection b1 with y
    injection y with y1 y2
    injection y2 with y3 y4
    injection y4 with y5 y6
    subst y5
    rw [e4.ar] at b6
    refine ⟨0, w3, a4, T, k1, x1, bI (bC m1 0 a4) 24 (ay_w ((bC m1 0 a4).1 24 + 0)), ?_, fun what h1 h2 => ?_, ?_, b3, Or.inl rfl, e2, b7, d5 16 (by omega), b6 12 (by omega), fun i hi => b6 i (by omega), Or.inl rfl, d5 13 (by omega), b6 15 (by omega)⟩
    · refine (bb_s d1).trans ?_
      unfold K1_passDay_116
      rw [bb_s e1, if_pos rfl]
    · rw [bb_s e3, if_pos rfl]
      exact f52 what m1 _ _ h1 h2 b2
    · exact (e4.bCC (a := a4)).bI24 rfl
  · have X1 : GX z w (m1.2 0) T := by rw [e4.ar]; exact X
    obtain ⟨w4, a4, v8, _, b1, b2, b3, _, _, b6, b7, b8⟩ := draw_ok (tt := tt) (kk := kk) (xx := xx) (n := n) (n' := n') (B := 100) X1 (by rw [e4.ar]; exact hx) (by omega) (by omega)
    rw [d1] at b1
    injection b1 with y
    injection y with y1 y2
    injection y2 with y3 y4
    injection y4 with y5 y6
    subst y5
    have ev : v7 = v8 := by omega
    subst ev
    rw [e4.ar] at b6
    have b3' : GX z w3 ((bC m1 0 a4).2 0) T := b3
    have t5 : TO z tt ((bC m1 0 a4).2 0) := TO_c (b' := a4) (fun i hi => b6 i (by omega)) hto
    have q2 : (bC m1 0 a4).2 2 = m.2 2 := by
      show m1.2 2 = m.2 2
      exact e4.tx
    have q3 : (bC m1 0 a4).2 0 2 = m.2 0 2 := b6 2 (by omega)
    rcases use1_ok (kk := kk) (xx := xx) (n := n) (n' := n') b3' hT1 t5 (LWm w3 _ b3' t5 q2 q3) (Or.inl ⟨hk3, by show m1.1 23 = -1; rw [e4.1]; exact hm3⟩) ho hp hz hn hn' with ⟨k2, x2, m3, f1, _⟩ | ⟨w2, a2, k2, x2, m3, m4, f1, f2, _, ⟨f3, f4⟩, f5, f6, f7⟩
    · rw [f1] at e1; injection e1 with y; injection y with y1 y2; omega
    · have X4 : GX z w2 (m4.2 0) (T + 1) := by rw [f4.ar]; exact f5
      have th2 : thr w2 o p = true := by rw [f6.2.2.1 o p ho hp, if_pos ⟨rfl, rfl⟩]
      obtain ⟨w5, a5, g1, g2, g3, g4, g5⟩ := settle_GX (tt := tt) (kk := k2) (xx := x2) (n := n) (v := ((v7 : Nat) : Int)) X4 ho hp th2 (by omega) (by omega) f3
      have g5' : Ra a2 a5 := by
        have : m4.2 0 = a2 := f4.ar
        rw [← this]; exact g5
      have f7' : Ra a4 a2 := f7
      refine ⟨1, w5, a5, T + 1, k2, x2, bI (bC m4 0 a5) 24 (ay_w ((bC m4 0 a5).1 24 + 1)), ?_, fun what h1 h2 => ?_, ?_, g3, Or.inr rfl, f2, ?_, ?_, ?_, ?_, Or.inr rfl, ?_, ?_⟩
      · refine (bb_s d1).trans ?_
        unfold K1_passDay_116
        rw [bb_s f1, if_neg (by omega), if_neg (by omega), bb_s g1]
      · rw [bb_s e3, if_neg (by decide), g52 what m1 _ _ h1 h2 b2, bb_s g2]
      · have q4 : Mq (bC m 0 a5) (bC m4 0 a5) := by
          have h1 : Mq (bC m 0 a5) (bC m1 0 a5) := e4.bCC
          have h2 : Mq (bC (bC (bC m1 0 a4) 0 a2) 0 a5) (bC m4 0 a5) := f4.bCC
          rw [bC_C, bC_C] at h2
          exact h1.tr h2
        exact q4.bI24 rfl
      · rw [g4.2.1 15 (by omega), g5' 11 (by omega), f6.2.1 15 (by omega) (by omega), f7' 11 (by omega)]; exact b7
      · rw [g4.2.1 16 (by omega), f6.2.1 16 (by omega) (by omega)]; exact d5 16 (by omega)
      · rw [g5' 12 (by omega), f7' 12 (by omega)]; exact b6 12 (by omega)
      · intro i hi
        rw [g5'.rd i hi, f7'.rd i hi]; exact b6 i (by omega)
      · rw [g4.2.1 13 (by omega), f6.2.1 13 (by omega) (by omega)]; exact d5 13 (by omega)
      · rw [g5' 15 (by omega), f7' 15 (by omega)]; exact b6 15 (by omega)
end
