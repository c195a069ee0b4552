/-! Copies, on both sides (with and without a law; by wip/whole/tpl) -/
section
variable {n n' : Nat} {m m' m1 w w' w0 kk kq xx tt tx : bS} {z : Nat → Nat} {a b' : Nat → Int} {o p f s N k i h g j T b c M x y q : Nat} {t : Int} {v : Nat} {cd sp : Nat → Bool}
theorem use0_there (X : GX z w (m.2 0) T) (hT1 : T + 1 < 131072) (ho : o < 4) (hp : p < 32) (th : thr w o p = true) (hn : 100 ≤ n) : K0_use tt n (kk, w, xx) o p = some (((frm w (32 * o + p) : Nat) : Int), (kk, usw w (32 * o + p) T, xx)) ∧ ∀ n', R_touchNow n' m o p = some (((frm w (32 * o + p) : Nat) : Int), bC m 0 (usr (m.2 0) (32 * o + p) T)) := by
  refine ⟨?_, fun n' => ?_⟩
  · unfold K0_use
    dsimp only
    rw [bb_s (W_isThere_ok n w ho hp), i01, th, if_pos rfl]
    exact use290_ok X hT1 ho hp th hn
  · unfold R_touchNow
    rw [bb_s (R_isThere_ok n' X.1.1.2.1 ho hp), i01, th, if_pos rfl]
    exact touch15_ok X hT1 ho hp th
/-- a copy, on both sides -/
theorem copy0_ok (X : GX z w (m.2 0) T) (hT3 : T + 3 < 131072) (hto : TO z tt (m.2 0)) (LA : LAW z tt (K0_wanted tt) (K0_letsGo tt) (m.2 2) (m.2 0 2)) (hk3 : kk.1 3 = -1) (hm3 : m.1 23 = -1) (ho : o < 4) (hp : p < 32) (hz : p < z o) (hb : b < 4) (hq : q < 32) (hzq : q < z b) (hn : 1400 ≤ n) (hn' : 1400 ≤ n') : ∃ (r : Int) (w' : bS) (a' : Nat → Int) (T' : Nat) (k1 x1 m' : bS), K0_duplicate tt n (kk, w, xx) o p b q = some (r, (k1, w', x1)) ∧ R_copyNow n' m o p b q = some (r, m') ∧ Mq (bC m 0 a') m' ∧ GX z w' a' T' ∧ T' ≤ T + 3 ∧ Kk kk k1 ∧ (w'.1 15 = w.1 15 ∧ w'.1 16 = w.1 16 ∧ a' 11 = m.2 0 11 ∧ a' 12 = m.2 0 12) ∧ w'.1 13 = a' 15 ∧ Rd (m.2 0) a' ∧ 0 ≤ r := by
  -- laws at every world that is met
  have LWm : ∀ (T' : Nat) (w' m' : bS), GX z w' (m'.2 0) T' → TO z tt (m'.2 0) → m'.2 2 = m.2 2 → m'.2 0 2 = m.2 0 2 → LW (K0_wanted tt) (K0_letsGo tt) m' w' := fun T' w' m' X' t' e2 e3 => LA m' w' T' X' t' e2 e3
  obtain ⟨m0, hm0⟩ : ∃ m0, m0 = bC m 0 (ay_u (m.2 0) 15 0) := ⟨_, rfl⟩
  have r0 : m0.2 0 = ay_u (m.2 0) 15 0 := by rw [hm0]; rfl
  have r02 : m0.2 2 = m.2 2 := by rw [hm0]; rfl
  have r01 : m0.1 = m.1 := by rw [hm0]; rfl
  have X0 : GX z (bI w 13 0) (m0.2 0) T := by
    rw [r0]
    refine GX_g X (fun j hj => bI_1 hj) (fun _ _ => rfl) (fun i hi => ay_ux (by omega)) (Or.inr bI_e)
  have t0 : TO z tt (m0.2 0) := by rw [r0]; exact TO_c (fun i hi => ay_ux (by omega)) hto
  have e02 : m0.2 0 2 = m.2 0 2 := by rw [r0]; exact ay_ux (by omega)
  have rd0 : Rd (m.2 0) (m0.2 0) := by rw [r0]; exact fun i hi => ay_ux (by omega)
  have kd : ∀ (v1 : Int) (s1 : bK), K0_use tt n (kk, bI w 13 0, xx) o p = some (v1, s1) → K0_duplicate tt n (kk, w, xx) o p b q = (if v1 = (-1) then some (0, s1) else (bb (K0_use tt n (bI s1.1 3 (ay_w ((ay_w ((o : Int) * 32)) + p)), s1.2.1, s1.2.2) b q) fun v2 s2 => (if v2 = (-1) then K0_duplicate_85 tt n s2 1 else (bb (K0_use tt n s2 b q) fun v3 s3 => (if 0 ≤ (s3.1.1 3) ∧ (s3.1.1 3) < 128 then (bb (K_settle tt n s3 b q (s3.2.1.2 0 (s3.1.1 3).toNat)) fun v4 s4 => (bb (K_letGo tt n s4 (ay_w ((ay_w ((b : Int) * 32)) + q))) fun v5 s5 => K0_duplicate_85 tt n s5 2)) else none))))) := fun v1 s1 h => by
    unfold K0_duplicate
    exact bb_s h
  have rc : ∀ (v1 : Int) (s1 : bS), R_canTouch n' m0 o p = some (v1, s1) → R_copyNow n' m o p b q = (if v1 = 0 then some (0, s1) else (bb (R_touchNow n' s1 o p) fun v2 s2 => (bb (R_canTouch n' (bI s2 23 v2) b q) fun v3 s3 => (if v3 = 0 then R_copyNow_71 n' s3 o p b q v2 v3 else (bb (R_touchNow n' s3 b q) fun v4 s4 => R_copyNow_71 n' (bA (bA s4 0 16 v4) 0 15 1) o p b q v2 v3))))) := fun v1 s1 h => by
    unfold R_copyNow
    rw [bA_C]
    rw [hm0] at h
    exact bb_s h
  have PN0 : PN kk m0 (bI w 13 0) := Or.inl ⟨hk3, by rw [r01]; exact hm3⟩
  rcases use0_ok (kk := kk) (xx := xx) (n := n) (n' := n') X0 (by omega) t0 (LWm T _ m0 X0 t0 r02 e02) PN0 ho hp hz (by omega) (by omega) with ⟨k1, x1, m1, e1, e2, e3, e4⟩ | ⟨_, _, _, _, m1, _, e1, _, ⟨e3, e4⟩, _⟩
  · refine ⟨0, bI w 13 0, ay_u (m.2 0) 15 0, T, k1, x1, m1, ?_, ?_, ?_, by rw [← r0]; exact X0, by omega, e2, ⟨bI_1 (by omega), bI_1 (by omega), ay_ux (by omega), ay_ux (by omega)⟩, by rw [bI_e, ay_ue], by rw [← r0]; exact rd0, Int.le_refl _⟩
    · rw [kd _ _ e1, if_pos rfl]
    · rw [rc _ _ e3, if_pos rfl]
    · rw [← hm0]; exact e4
  · -- the first is touched
    have X1 : GX z (bI w 13 0) (m1.2 0) T := by rw [e4.ar]; exact X0
    have t1 : TO z tt (m1.2 0) := by rw [e4.ar]; exact t0
    rcases use0_ok (kk := kk) (xx := xx) (n := n) (n' := n') X1 (by omega) t1 (LWm T _ m1 X1 t1 (by rw [e4.tx]; exact r02) (by rw [e4.ar]; exact e02)) (Or.inl ⟨hk3, by rw [e4.1, r01]; exact hm3⟩) ho hp hz (by omega) (by omega) with ⟨k1, x1, m2, f1, _⟩ | ⟨w1, a1, k1, x1, _, m2, f1, f2, _, ⟨f3, f4⟩, f5, f6, f7⟩
    · rw [f1] at e1; injection e1 with y; injection y with y1 y2; omega
    · have th1 : thr w1 o p = true := by rw [f6.2.2.1 o p ho hp, if_pos ⟨rfl, rfl⟩]
      have f7' : Ra (m0.2 0) a1 := by rw [← e4.ar]; exact f7
      have a15 : a1 15 = 0 := by rw [f7' 15 (by omega), r0, ay_ue]
      have w13 : w1.1 13 = 0 := by rw [f6.2.1 13 (by omega) (by omega), bI_e]
      have k13 : (bI k1 3 ((32 * o + p : Nat) : Int)).1 3 = ((32 * o + p : Nat) : Int) := bI_e
      obtain ⟨m2', hm2'⟩ : ∃ m2', m2' = bI m2 23 ((frm w1 (32 * o + p) : Nat) : Int) := ⟨_, rfl⟩
      have s20 : m2'.2 0 = a1 := by rw [hm2']; show m2.2 0 = a1; exact f4.ar
      have s22 : m2'.2 2 = m.2 2 := by
        rw [hm2']
        show m2.2 2 = m.2 2
        have : m2.2 2 = m1.2 2 := f4.tx
        rw [this, e4.tx]; exact r02
      have s23 : m2'.1 23 = ((frm w1 (32 * o + p) : Nat) : Int) := by rw [hm2']; exact bI_e
      have X2 : GX z w1 (m2'.2 0) (T + 1) := by rw [s20]; exact f5
      have t2 : TO z tt (m2'.2 0) := by rw [s20]; exact t0.ra f7'
      have e22 : m2'.2 0 2 = m.2 0 2 := by rw [s20, f7' 2 (by omega)]; exact e02
      have P2 : PN (bI k1 3 ((32 * o + p : Nat) : Int)) m2' w1 := Or.inr ⟨o, p, ho, hp, th1, k13, s23⟩
      -- Mq of the two sides so far
      have q2 : Mq (bI (bC m 0 a1) 23 ((frm w1 (32 * o + p) : Nat) : Int)) m2' := by
        rw [hm2']
        have h1 : Mq (bC m0 0 a1) (bC m1 0 a1) := e4.bCC
        rw [hm0, bC_C] at h1
        exact (h1.tr f4).bIx
      have kr : ∀ s2 : bK, K0_duplicate_85 tt n s2 = fun l5 => (bb (K_letGo tt n s2 (s2.1.1 3)) fun v6 s6 => some (l5, (bI s6.1 3 (-1), s6.2.1, s6.2.2))) := fun s2 => by funext l5; rfl
      have kst : K0_duplicate tt n (kk, w, xx) o p b q = (bb (K0_use tt n (bI k1 3 ((32 * o + p : Nat) : Int), w1, x1) b q) fun v2 s2 => (if v2 = (-1) then K0_duplicate_85 tt n s2 1 else (bb (K0_use tt n s2 b q) fun v3 s3 => (if 0 ≤ (s3.1.1 3) ∧ (s3.1.1 3) < 128 then (bb (K_settle tt n s3 b q (s3.2.1.2 0 (s3.1.1 3).toNat)) fun v4 s4 => (bb (K_letGo tt n s4 ((32 * b + q : Nat) : Int)) fun v5 s5 => K0_duplicate_85 tt n s5 2)) else none)))) := by
        rw [kd _ _ f1, if_neg (by omega), wob ho hp, wob hb hq]
      have rst : R_copyNow n' m o p b q = (bb (R_canTouch n' m2' b q) fun v3 s3 => (if v3 = 0 then R_copyNow_71 n' s3 o p b q ((frm w1 (32 * o + p) : Nat) : Int) v3 else (bb (R_touchNow n' s3 b q) fun v4 s4 => R_copyNow_71 n' (bA (bA s4 0 16 v4) 0 15 1) o p b q ((frm w1 (32 * o + p) : Nat) : Int) v3))) := by
        rw [rc _ _ e3, if_neg (by decide), bb_s f3, hm2']
      have base : w1.1 15 = w.1 15 ∧ w1.1 16 = w.1 16 ∧ a1 11 = m.2 0 11 ∧ a1 12 = m.2 0 12 := by
        refine ⟨?_, ?_, ?_, ?_⟩
        · rw [f6.2.1 15 (by omega) (by omega), bI_1 (by omega)]
        · rw [f6.2.1 16 (by omega) (by omega), bI_1 (by omega)]
        · rw [f7' 11 (by omega), r0, ay_ux (by omega)]
        · rw [f7' 12 (by omega), r0, ay_ux (by omega)]
      have rd1 : Rd (m.2 0) a1 := rd0.tr f7'.rd
      have kk1 : Kk kk (bI (bI k1 3 ((32 * o + p : Nat) : Int)) 3 (-1)) := fun j h4 h5 h6 h7 => by
        by_cases e : j = 3
        · rw [e, bI_e]; exact hk3.symm
        · rw [bI_1 e, bI_1 e]; exact f2 j h4 h5 h6 h7
      have kfin : ∀ k2 : bS, Kk (bI k1 3 ((32 * o + p : Nat) : Int)) k2 → Kk kk (bI k2 3 (-1)) ∧ k2.1 3 = ((32 * o + p : Nat) : Int) := fun k2 hk => by
        refine ⟨fun j h4 h5 h6 h7 => ?_, ?_⟩
        · by_cases e : j = 3
          · rw [e, bI_e]; exact hk3.symm
          · rw [bI_1 e, hk j h4 h5 h6 h7, bI_1 e]; exact f2 j h4 h5 h6 h7
        · rw [hk 3 (by omega) (by omega) (by omega) (by omega), bI_e]
      rcases use0_ok (kk := bI k1 3 ((32 * o + p : Nat) : Int)) (xx := x1) (n := n) (n' := n') X2 (by omega) t2 (LWm (T + 1) _ m2' X2 t2 s22 e22) P2 hb hq hzq (by omega) (by omega) with ⟨k2, x2, m3, g1, g2, g3, g4⟩ | ⟨_, _, _, _, m3, _, g1, _, ⟨g3, g4⟩, _⟩
      · obtain ⟨kf1, kf2⟩ := kfin k2 g2
        have lg := K_letGo_ok (tt := tt) (kk := k2) (xx := x2) (n := n) f5.1.2.1 f5.1.2.2.1 ho hp th1 (show 0 < 2 by omega) w13 (by omega)
        have c15 : m3.2 0 15 = 0 := by rw [g4.ar, s20]; exact a15
        refine ⟨1, lgw w1 0 ((frm w1 (32 * o + p) : Nat) : Int), ay_u (ay_u a1 16 ((frm w1 (32 * o + p) : Nat) : Int)) 15 1, T + 1, bI k2 3 (-1), x2, bC (bI m3 23 (-1)) 0 (ay_u (ay_u a1 16 ((frm w1 (32 * o + p) : Nat) : Int)) 15 1), ?_, ?_, ?_, ?_, by omega, kf1, ⟨?_, ?_, ?_, ?_⟩, ?_, ?_, by omega⟩
        · rw [kst, bb_s g1, if_pos rfl, kr]
          show bb (K_letGo tt n (k2, w1, x2) (k2.1 3)) _ = _
          rw [kf2, bb_s lg]
        · rw [rst, bb_s g3, if_pos rfl]
          unfold R_copyNow_71
          have e15 : ay_w (16 + m3.2 0 15) = ((16 : Nat) : Int) := by rw [c15]; decide
          have h3 : m3.2 0 = a1 := by rw [g4.ar]; exact s20
          rw [e15, if_pos (by omega), if_pos rfl, bA_C, bA_C, bC_C]
          show some ((1 : Int), bC (bI m3 23 (-1)) 0 (ay_u (ay_u (m3.2 0) 16 ((frm w1 (32 * o + p) : Nat) : Int)) 15 (ay_w (ay_u (m3.2 0) 16 ((frm w1 (32 * o + p) : Nat) : Int) 15 + 1)))) = _
          rw [h3, ay_ux (by omega), a15]
          rfl
        · have h1 : Mq (bI (bI (bC m 0 a1) 23 ((frm w1 (32 * o + p) : Nat) : Int)) 23 (-1)) (bI m3 23 (-1)) := (q2.tr g4).bIx
          have h2 := h1.bCC (a := ay_u (ay_u a1 16 ((frm w1 (32 * o + p) : Nat) : Int)) 15 1)
          refine Mq.tr ?_ h2
          refine ⟨?_, fun j _ _ _ => ?_⟩
          · funext j
            show (bif Nat.beq j 23 then (-1 : Int) else (bif Nat.beq j 23 then _ else m.1 j)) = m.1 j
            cases e : Nat.beq j 23
            · rfl
            · rw [Nat.eq_of_beq_eq_true e]; exact hm3.symm
          · show (bif Nat.beq j 0 then _ else (bif Nat.beq j 0 then _ else m.2 j)) = (bif Nat.beq j 0 then _ else m.2 j)
            cases Nat.beq j 0 <;> rfl
        · refine GX_g f5 (fun j hj => lgw_1 hj) (fun j hj => lgw_2 hj) (fun i hi => ?_) (Or.inl ⟨?_, 1, by omega, lgw_13, fun i hi => ?_⟩)
          · rw [ay_ux (by omega), ay_ux (by omega)]
          · rw [lgw_13, ay_ue]; rfl
          · rw [show i = 0 by omega, lgw_11 (by omega), if_pos rfl, ay_ux (by omega), Nat.add_zero, ay_ue]
        · rw [lgw_1 (by omega)]; exact base.1
        · rw [lgw_1 (by omega)]; exact base.2.1
        · rw [ay_ux (by omega), ay_ux (by omega)]; exact base.2.2.1
        · rw [ay_ux (by omega), ay_ux (by omega)]; exact base.2.2.2
        · rw [lgw_13, ay_ue]; rfl
        · intro i hi; rw [ay_ux (by omega), ay_ux (by omega)]; exact rd1 i hi
      · have X3 : GX z w1 (m3.2 0) (T + 1) := by rw [g4.ar]; exact X2
        have t3 : TO z tt (m3.2 0) := by rw [g4.ar]; exact t2
        rcases use0_ok (kk := bI k1 3 ((32 * o + p : Nat) : Int)) (xx := x1) (n := n) (n' := n') X3 (by omega) t3 (LWm (T + 1) _ m3 X3 t3 (by rw [g4.tx]; exact s22) (by rw [g4.ar]; exact e22)) (Or.inr ⟨o, p, ho, hp, th1, k13, by rw [g4.1]; exact s23⟩) hb hq hzq (by omega) (by omega) with ⟨_, _, _, h1, _⟩ | ⟨w2, a2, k2, x2, _, m4, h1, h2, _, ⟨h3, h4⟩, h5, h6, h7⟩
        · rw [h1] at g1; injection g1 with y; injection y with y1 y2; omega
        · obtain ⟨kf1, kf2⟩ := kfin k2 h2
          have h7' : Ra a1 a2 := by rw [← s20, ← g4.ar]; exact h7
          have th2o : thr w2 o p = true := by rw [h6.2.2.1 o p ho hp]; split; rfl; exact th1
          have th2b : thr w2 b q = true := by rw [h6.2.2.1 b q hb hq, if_pos ⟨rfl, rfl⟩]
          have fo : frm w2 (32 * o + p) = frm w1 (32 * o + p) := h6.2.2.2 o p ho hp th1
          have w213 : w2.1 13 = 0 := by rw [h6.2.1 13 (by omega) (by omega)]; exact w13
          obtain ⟨A, hA⟩ : ∃ A, A = ay_u (ay_u (ay_u (ay_u a2 16 ((frm w2 (32 * b + q) : Nat) : Int)) 15 1) 17 ((frm w1 (32 * o + p) : Nat) : Int)) 15 2 := ⟨_, rfl⟩
          have A15 : A 15 = 2 := by rw [hA, ay_ue]
          have A16 : A 16 = ((frm w2 (32 * b + q) : Nat) : Int) := by rw [hA, ay_ux (by omega), ay_ux (by omega), ay_ux (by omega), ay_ue]
          have A17 : A 17 = ((frm w1 (32 * o + p) : Nat) : Int) := by rw [hA, ay_ux (by omega), ay_ue]
          have Ao : ∀ i, i < 15 ∨ 18 ≤ i → A i = a2 i := fun i hi => by rw [hA, ay_ux (by omega), ay_ux (by omega), ay_ux (by omega), ay_ux (by omega)]
          obtain ⟨m5, hm5⟩ : ∃ m5, m5 = bC (bI m4 23 (-1)) 0 A := ⟨_, rfl⟩
          have m50 : m5.2 0 = A := by rw [hm5]; rfl
          have X5 : GX z w2 (m5.2 0) (T + 1 + 1) := by rw [m50]; exact GX_g h5 (fun _ _ => rfl) (fun _ _ => rfl) Ao (Or.inr w213)
          obtain ⟨u1, u2⟩ := use0_there (tt := tt) (kk := k2) (xx := x2) (n := n) X5 (by omega) hb hq th2b (by omega)
          have Y : GX z (usw w2 (32 * b + q) (T + 1 + 1)) ((bC m5 0 (usr (m5.2 0) (32 * b + q) (T + 1 + 1))).2 0) (T + 1 + 1 + 1) := GX_use X5 (by omega) hb hq
          have ut : ∀ o' q', thr (usw w2 (32 * b + q) (T + 1 + 1)) o' q' = thr w2 o' q' := fun o' q' => by unfold thr; rw [usw_2 (by omega)]
          obtain ⟨w4, a5, y1, y2, y3, y4, y5⟩ := settle_GX (tt := tt) (kk := k2) (xx := x2) (n := n) (v := w2.2 0 (32 * o + p)) Y hb hq (by rw [ut]; exact th2b) (by omega) (by omega) (u2 n')
          have y5' : Ra A a5 := Ra.tr (b' := usr A (32 * b + q) (T + 1 + 1)) (fun i hi => usr_o (by omega) (by omega) (by omega)) (by rw [← m50]; exact y5)
          have r3 : w4.2 3 = w2.2 3 := by rw [y4.1 3 (by omega) (by omega) (by omega) (by omega) (by omega), usw_2 (by omega)]
          have r4 : w4.2 4 = w2.2 4 := by rw [y4.1 4 (by omega) (by omega) (by omega) (by omega) (by omega), usw_2 (by omega)]
          have r6 : w4.2 6 = w2.2 6 := by rw [y4.1 6 (by omega) (by omega) (by omega) (by omega) (by omega), usw_2 (by omega)]
          have th4 : ∀ o' q', thr w4 o' q' = thr w2 o' q' := fun o' q' => by unfold thr; rw [r6]
          have fr4 : frm w4 = frm w2 := frm_same r3 r4
          have n4 : ∀ j, j ≠ 12 → j ≠ 14 → w4.1 j = w1.1 j := fun j h12 h14 => by rw [y4.2.1 j h12, usw_1 h14, h6.2.1 j h12 h14]
          have w413 : w4.1 13 = ((0 : Nat) : Int) := by rw [n4 13 (by omega) (by omega)]; exact w13
          obtain ⟨w5, hw5⟩ : ∃ w5, w5 = lgw w4 0 ((frm w4 (32 * b + q) : Nat) : Int) := ⟨_, rfl⟩
          have l1 := K_letGo_ok (tt := tt) (kk := k2) (xx := x2) (n := n) y3.1.2.1 y3.1.2.2.1 hb hq (by rw [th4]; exact th2b) (show 0 < 2 by omega) w413 (by omega)
          rw [← hw5] at l1
          have e53 : w5.2 3 = w4.2 3 := by rw [hw5]; exact lgw_2 (by omega)
          have e54 : w5.2 4 = w4.2 4 := by rw [hw5]; exact lgw_2 (by omega)
          have e56 : w5.2 6 = w4.2 6 := by rw [hw5]; exact lgw_2 (by omega)
          have th5 : thr w5 = thr w4 := by funext o' q'; unfold thr; rw [e56]
          have T5 : IT w5 := by unfold IT; rw [th5, hvs_same e53 e54]; exact y3.1.2.2.1
          have w513 : w5.1 13 = ((1 : Nat) : Int) := by rw [hw5]; exact lgw_13
          have l2 := K_letGo_ok (tt := tt) (kk := k2) (xx := x2) (n := n) (IF_eq e53 e54 y3.1.2.1) T5 ho hp (by rw [th5, th4]; exact th2o) (show 1 < 2 by omega) w513 (by omega)
          have fr5 : frm w5 = frm w2 := (frm_same e53 e54).trans fr4
          have vl : (usw w2 (32 * b + q) (T + 1 + 1)).2 0 (k2.1 3).toNat = w2.2 0 (32 * o + p) := by rw [kf2, Int.toNat_natCast, usw_2 (by omega)]
          refine ⟨2, lgw w5 1 ((frm w5 (32 * o + p) : Nat) : Int), a5, T + 1 + 1 + 1, bI k2 3 (-1), x2, bC m5 0 a5, ?_, ?_, ?_, ?_, by omega, kf1, ⟨?_, ?_, ?_, ?_⟩, ?_, ?_, by omega⟩
          · rw [kst, bb_s h1, if_neg (by omega), bb_s u1]
            dsimp only
            rw [vl, kf2, if_pos (by omega), bb_s y1, bb_s l1, kr]
            show bb (K_letGo tt n (k2, w5, x2) (k2.1 3)) _ = _
            rw [kf2, bb_s l2]
          · have e5 : bA (bA (bI (bA (bA m4 0 16 ((frm w2 (32 * b + q) : Nat) : Int)) 0 15 1) 23 (-1)) 0 17 ((frm w1 (32 * o + p) : Nat) : Int)) 0 15 2 = m5 := by
              have h40 : m4.2 0 = a2 := h4.ar
              rw [hm5, hA, ← h40]
              rw [bA_C, bA_C, bA_C, bA_C, bC_C]
              show bI (bC (bC (bC m4 0 _) 0 _) 0 _) 23 (-1) = _
              rw [bC_C, bC_C]
              rfl
            have pv : R_pageAt n' m5 o p 2 = some (w2.2 0 (32 * o + p), m5) := by
              rw [R_pageAt_ok n' m5 ho hp (by omega) (by omega), show (2 : Int).toNat = 2 from rfl, (X5.1.1.2.1 o p ho hp).2.1]
            rw [rst, bb_s g3, if_neg (by decide), bb_s h3]
            unfold R_copyNow_71
            have e15 : (bA (bA m4 0 16 ((frm w2 (32 * b + q) : Nat) : Int)) 0 15 1).2 0 15 = 1 := by
              show ay_u ((bA m4 0 16 ((frm w2 (32 * b + q) : Nat) : Int)).2 0) 15 1 15 = 1
              exact ay_ue
            have e17 : ay_w (16 + (bA (bA m4 0 16 ((frm w2 (32 * b + q) : Nat) : Int)) 0 15 1).2 0 15) = 17 := by rw [e15]; decide
            have e16 : ay_w ((bA (bI (bA (bA m4 0 16 ((frm w2 (32 * b + q) : Nat) : Int)) 0 15 1) 23 (-1)) 0 17 ((frm w1 (32 * o + p) : Nat) : Int)).2 0 15 + 1) = 2 := by
              have : (bA (bI (bA (bA m4 0 16 ((frm w2 (32 * b + q) : Nat) : Int)) 0 15 1) 23 (-1)) 0 17 ((frm w1 (32 * o + p) : Nat) : Int)).2 0 15 = 1 := by
                show ay_u ((bA (bA m4 0 16 ((frm w2 (32 * b + q) : Nat) : Int)) 0 15 1).2 0) (17 : Int).toNat ((frm w1 (32 * o + p) : Nat) : Int) 15 = 1
                rw [ay_ux (by decide)]; exact e15
              rw [this]; decide
            rw [e17, if_pos (by omega), if_neg (by decide), e16, e5, bb_s pv, bb_s y2, bC_C]
          · have h40 : Mq (bC m3 0 a2) m4 := h4
            have q3 : Mq (bI (bC m 0 a1) 23 ((frm w1 (32 * o + p) : Nat) : Int)) m3 := q2.tr g4
            have q4 := ((q3.bCC (a := a2)).tr h40)
            have q5 := ((q4.bIx (k := 23) (v := -1)).bCC (a := a5))
            have e : bC m5 0 a5 = bC (bI m4 23 (-1)) 0 a5 := by rw [hm5, bC_C]
            rw [e]
            refine Mq.tr ?_ q5
            refine ⟨?_, fun j _ _ _ => ?_⟩
            · funext j
              show (bif Nat.beq j 23 then (-1 : Int) else (bif Nat.beq j 23 then _ else m.1 j)) = m.1 j
              cases e : Nat.beq j 23
              · rfl
              · rw [Nat.eq_of_beq_eq_true e]; exact hm3.symm
            · show (bif Nat.beq j 0 then _ else (bif Nat.beq j 0 then _ else (bif Nat.beq j 0 then _ else m.2 j))) = (bif Nat.beq j 0 then _ else m.2 j)
              cases Nat.beq j 0 <;> rfl
          · refine GX_g y3 (fun j hj => ?_) (fun j hj => ?_) (fun _ _ => rfl) (Or.inl ⟨?_, 2, by omega, lgw_13, fun i hi => ?_⟩)
            · rw [lgw_1 hj, hw5, lgw_1 hj]
            · rw [lgw_2 hj, hw5, lgw_2 hj]
            · rw [lgw_13, y5' 15 (by omega), A15]; rfl
            · rcases (show i = 0 ∨ i = 1 by omega) with y | y <;> subst y
              · rw [lgw_11 (by omega), if_neg (by omega), hw5, lgw_11 (by omega), if_pos rfl, fr4, y5' (16 + 0) (by omega)]; exact A16.symm
              · rw [lgw_11 (by omega), if_pos rfl, fr5, fo, y5' (16 + 1) (by omega)]; exact A17.symm
          · rw [lgw_1 (by omega), hw5, lgw_1 (by omega), n4 15 (by omega) (by omega)]; exact base.1
          · rw [lgw_1 (by omega), hw5, lgw_1 (by omega), n4 16 (by omega) (by omega)]; exact base.2.1
          · rw [y5' 11 (by omega), Ao 11 (by omega), h7' 11 (by omega)]; exact base.2.2.1
          · rw [y5' 12 (by omega), Ao 12 (by omega), h7' 12 (by omega)]; exact base.2.2.2
          · rw [lgw_13, y5' 15 (by omega), A15]; rfl
          · intro i hi; rw [y5'.rd i hi, Ao i (by omega), h7'.rd i hi]; exact rd1 i hi
theorem use1_there (X : GX z w (m.2 0) T) (hT1 : T + 1 < 131072) (ho : o < 4) (hp : p < 32) (th : thr w o p = true) (hn : 100 ≤ n) : K1_use tt tx n (kk, w, xx) o p = some (((frm w (32 * o + p) : Nat) : Int), (kk, usw w (32 * o + p) T, xx)) ∧ ∀ n', R_touchNow n' m o p = some (((frm w (32 * o + p) : Nat) : Int), bC m 0 (usr (m.2 0) (32 * o + p) T)) := by
  refine ⟨?_, fun n' => ?_⟩
  · unfold K1_use
    dsimp only
    rw [bb_s (W_isThere_ok n w ho hp), i01, th, if_pos rfl]
    exact use291_ok X hT1 ho hp th hn
  · unfold R_touchNow
    rw [bb_s (R_isThere_ok n' X.1.1.2.1 ho hp), i01, th, if_pos rfl]
    exact touch15_ok X hT1 ho hp th
/-- a copy, on both sides -/
theorem copy1_ok (X : GX z w (m.2 0) T) (hT3 : T + 3 < 131072) (hto : TO z tt (m.2 0)) (LA : LAW z tt (K1_wanted tt tx) (K1_letsGo tt tx) (m.2 2) (m.2 0 2)) (hk3 : kk.1 3 = -1) (hm3 : m.1 23 = -1) (ho : o < 4) (hp : p < 32) (hz : p < z o) (hb : b < 4) (hq : q < 32) (hzq : q < z b) (hn : 1400 ≤ n) (hn' : 1400 ≤ n') : ∃ (r : Int) (w' : bS) (a' : Nat → Int) (T' : Nat) (k1 x1 m' : bS), K1_duplicate tt tx n (kk, w, xx) o p b q = some (r, (k1, w', x1)) ∧ R_copyNow n' m o p b q = some (r, m') ∧ Mq (bC m 0 a') m' ∧ GX z w' a' T' ∧ T' ≤ T + 3 ∧ Kk kk k1 ∧ (w'.1 15 = w.1 15 ∧ w'.1 16 = w.1 16 ∧ a' 11 = m.2 0 11 ∧ a' 12 = m.2 0 12) ∧ w'.1 13 = a' 15 ∧ Rd (m.2 0) a' ∧ 0 ≤ r := by
  -- laws at every world that is met
  have LWm : ∀ (T' : Nat) (w' m' : bS), GX z w' (m'.2 0) T' → TO z tt (m'.2 0) → m'.2 2 = m.2 2 → m'.2 0 2 = m.2 0 2 → LW (K1_wanted tt tx) (K1_letsGo tt tx) m' w' := fun T' w' m' X' t' e2 e3 => LA m' w' T' X' t' e2 e3
  obtain ⟨m0, hm0⟩ : ∃ m0, m0 = bC m 0 (ay_u (m.2 0) 15 0) := ⟨_, rfl⟩
  have r0 : m0.2 0 = ay_u (m.2 0) 15 0 := by rw [hm0]; rfl
  have r02 : m0.2 2 = m.2 2 := by rw [hm0]; rfl
  have r01 : m0.1 = m.1 := by rw [hm0]; rfl
  have X0 : GX z (bI w 13 0) (m0.2 0) T := by
    rw [r0]
    refine GX_g X (fun j hj => bI_1 hj) (fun _ _ => rfl) (fun i hi => ay_ux (by omega)) (Or.inr bI_e)
  have t0 : TO z tt (m0.2 0) := by rw [r0]; exact TO_c (fun i hi => ay_ux (by omega)) hto
  have e02 : m0.2 0 2 = m.2 0 2 := by rw [r0]; exact ay_ux (by omega)
  have rd0 : Rd (m.2 0) (m0.2 0) := by rw [r0]; exact fun i hi => ay_ux (by omega)
  have kd : ∀ (v1 : Int) (s1 : bK), K1_use tt tx n (kk, bI w 13 0, xx) o p = some (v1, s1) → K1_duplicate tt tx n (kk, w, xx) o p b q = (if v1 = (-1) then some (0, s1) else (bb (K1_use tt tx n (bI s1.1 3 (ay_w ((ay_w ((o : Int) * 32)) + p)), s1.2.1, s1.2.2) b q) fun v2 s2 => (if v2 = (-1) then K1_duplicate_85 tt tx n s2 1 else (bb (K1_use tt tx n s2 b q) fun v3 s3 => (if 0 ≤ (s3.1.1 3) ∧ (s3.1.1 3) < 128 then (bb (K_settle tt n s3 b q (s3.2.1.2 0 (s3.1.1 3).toNat)) fun v4 s4 => (bb (K_letGo tt n s4 (ay_w ((ay_w ((b : Int) * 32)) + q))) fun v5 s5 => K1_duplicate_85 tt tx n s5 2)) else none))))) := fun v1 s1 h => by
    unfold K1_duplicate
    exact bb_s h
  have rc : ∀ (v1 : Int) (s1 : bS), R_canTouch n' m0 o p = some (v1, s1) → R_copyNow n' m o p b q = (if v1 = 0 then some (0, s1) else (bb (R_touchNow n' s1 o p) fun v2 s2 => (bb (R_canTouch n' (bI s2 23 v2) b q) fun v3 s3 => (if v3 = 0 then R_copyNow_71 n' s3 o p b q v2 v3 else (bb (R_touchNow n' s3 b q) fun v4 s4 => R_copyNow_71 n' (bA (bA s4 0 16 v4) 0 15 1) o p b q v2 v3))))) := fun v1 s1 h => by
    unfold R_copyNow
    rw [bA_C]
    rw [hm0] at h
    exact bb_s h
  have PN0 : PN kk m0 (bI w 13 0) := Or.inl ⟨hk3, by rw [r01]; exact hm3⟩
  rcases use1_ok (kk := kk) (xx := xx) (n := n) (n' := n') X0 (by omega) t0 (LWm T _ m0 X0 t0 r02 e02) PN0 ho hp hz (by omega) (by omega) with ⟨k1, x1, m1, e1, e2, e3, e4⟩ | ⟨_, _, _, _, m1, _, e1, _, ⟨e3, e4⟩, _⟩
  · refine ⟨0, bI w 13 0, ay_u (m.2 0) 15 0, T, k1, x1, m1, ?_, ?_, ?_, by rw [← r0]; exact X0, by omega, e2, ⟨bI_1 (by omega), bI_1 (by omega), ay_ux (by omega), ay_ux (by omega)⟩, by rw [bI_e, ay_ue], by rw [← r0]; exact rd0, Int.le_refl _⟩
    · rw [kd _ _ e1, if_pos rfl]
    · rw [rc _ _ e3, if_pos rfl]
    · rw [← hm0]; exact e4
  · -- the first is touched
    have X1 : GX z (bI w 13 0) (m1.2 0) T := by rw [e4.ar]; exact X0
    have t1 : TO z tt (m1.2 0) := by rw [e4.ar]; exact t0
    rcases use1_ok (kk := kk) (xx := xx) (n := n) (n' := n') X1 (by omega) t1 (LWm T _ m1 X1 t1 (by rw [e4.tx]; exact r02) (by rw [e4.ar]; exact e02)) (Or.inl ⟨hk3, by rw [e4.1, r01]; exact hm3⟩) ho hp hz (by omega) (by omega) with ⟨k1, x1, m2, f1, _⟩ | ⟨w1, a1, k1, x1, _, m2, f1, f2, _, ⟨f3, f4⟩, f5, f6, f7⟩
    · rw [f1] at e1; injection e1 with y; injection y with y1 y2; omega
    · have th1 : thr w1 o p = true := by rw [f6.2.2.1 o p ho hp, if_pos ⟨rfl, rfl⟩]
      have f7' : Ra (m0.2 0) a1 := by rw [← e4.ar]; exact f7
      have a15 : a1 15 = 0 := by rw [f7' 15 (by omega), r0, ay_ue]
      have w13 : w1.1 13 = 0 := by rw [f6.2.1 13 (by omega) (by omega), bI_e]
      have k13 : (bI k1 3 ((32 * o + p : Nat) : Int)).1 3 = ((32 * o + p : Nat) : Int) := bI_e
      obtain ⟨m2', hm2'⟩ : ∃ m2', m2' = bI m2 23 ((frm w1 (32 * o + p) : Nat) : Int) := ⟨_, rfl⟩
      have s20 : m2'.2 0 = a1 := by rw [hm2']; show m2.2 0 = a1; exact f4.ar
      have s22 : m2'.2 2 = m.2 2 := by
        rw [hm2']
        show m2.2 2 = m.2 2
        have : m2.2 2 = m1.2 2 := f4.tx
        rw [this, e4.tx]; exact r02
      have s23 : m2'.1 23 = ((frm w1 (32 * o + p) : Nat) : Int) := by rw [hm2']; exact bI_e
      have X2 : GX z w1 (m2'.2 0) (T + 1) := by rw [s20]; exact f5
      have t2 : TO z tt (m2'.2 0) := by rw [s20]; exact t0.ra f7'
      have e22 : m2'.2 0 2 = m.2 0 2 := by rw [s20, f7' 2 (by omega)]; exact e02
      have P2 : PN (bI k1 3 ((32 * o + p : Nat) : Int)) m2' w1 := Or.inr ⟨o, p, ho, hp, th1, k13, s23⟩
      -- Mq of the two sides so far
      have q2 : Mq (bI (bC m 0 a1) 23 ((frm w1 (32 * o + p) : Nat) : Int)) m2' := by
        rw [hm2']
        have h1 : Mq (bC m0 0 a1) (bC m1 0 a1) := e4.bCC
        rw [hm0, bC_C] at h1
        exact (h1.tr f4).bIx
      have kr : ∀ s2 : bK, K1_duplicate_85 tt tx n s2 = fun l5 => (bb (K_letGo tt n s2 (s2.1.1 3)) fun v6 s6 => some (l5, (bI s6.1 3 (-1), s6.2.1, s6.2.2))) := fun s2 => by funext l5; rfl
      have kst : K1_duplicate tt tx n (kk, w, xx) o p b q = (bb (K1_use tt tx n (bI k1 3 ((32 * o + p : Nat) : Int), w1, x1) b q) fun v2 s2 => (if v2 = (-1) then K1_duplicate_85 tt tx n s2 1 else (bb (K1_use tt tx n s2 b q) fun v3 s3 => (if 0 ≤ (s3.1.1 3) ∧ (s3.1.1 3) < 128 then (bb (K_settle tt n s3 b q (s3.2.1.2 0 (s3.1.1 3).toNat)) fun v4 s4 => (bb (K_letGo tt n s4 ((32 * b + q : Nat) : Int)) fun v5 s5 => K1_duplicate_85 tt tx n s5 2)) else none)))) := by
        rw [kd _ _ f1, if_neg (by omega), wob ho hp, wob hb hq]
      have rst : R_copyNow n' m o p b q = (bb (R_canTouch n' m2' b q) fun v3 s3 => (if v3 = 0 then R_copyNow_71 n' s3 o p b q ((frm w1 (32 * o + p) : Nat) : Int) v3 else (bb (R_touchNow n' s3 b q) fun v4 s4 => R_copyNow_71 n' (bA (bA s4 0 16 v4) 0 15 1) o p b q ((frm w1 (32 * o + p) : Nat) : Int) v3))) := by
        rw [rc _ _ e3, if_neg (by decide), bb_s f3, hm2']
      have base : w1.1 15 = w.1 15 ∧ w1.1 16 = w.1 16 ∧ a1 11 = m.2 0 11 ∧ a1 12 = m.2 0 12 := by
        refine ⟨?_, ?_, ?_, ?_⟩
        · rw [f6.2.1 15 (by omega) (by omega), bI_1 (by omega)]
        · rw [f6.2.1 16 (by omega) (by omega), bI_1 (by omega)]
        · rw [f7' 11 (by omega), r0, ay_ux (by omega)]
        · rw [f7' 12 (by omega), r0, ay_ux (by omega)]
      have rd1 : Rd (m.2 0) a1 := rd0.tr f7'.rd
      have kk1 : Kk kk (bI (bI k1 3 ((32 * o + p : Nat) : Int)) 3 (-1)) := fun j h4 h5 h6 h7 => by
        by_cases e : j = 3
        · rw [e, bI_e]; exact hk3.symm
        · rw [bI_1 e, bI_1 e]; exact f2 j h4 h5 h6 h7
      have kfin : ∀ k2 : bS, Kk (bI k1 3 ((32 * o + p : Nat) : Int)) k2 → Kk kk (bI k2 3 (-1)) ∧ k2.1 3 = ((32 * o + p : Nat) : Int) := fun k2 hk => by
        refine ⟨fun j h4 h5 h6 h7 => ?_, ?_⟩
        · by_cases e : j = 3
          · rw [e, bI_e]; exact hk3.symm
          · rw [bI_1 e, hk j h4 h5 h6 h7, bI_1 e]; exact f2 j h4 h5 h6 h7
        · rw [hk 3 (by omega) (by omega) (by omega) (by omega), bI_e]
      rcases use1_ok (kk := bI k1 3 ((32 * o + p : Nat) : Int)) (xx := x1) (n := n) (n' := n') X2 (by omega) t2 (LWm (T + 1) _ m2' X2 t2 s22 e22) P2 hb hq hzq (by omega) (by omega) with ⟨k2, x2, m3, g1, g2, g3, g4⟩ | ⟨_, _, _, _, m3, _, g1, _, ⟨g3, g4⟩, _⟩
      · obtain ⟨kf1, kf2⟩ := kfin k2 g2
        have lg := K_letGo_ok (tt := tt) (kk := k2) (xx := x2) (n := n) f5.1.2.1 f5.1.2.2.1 ho hp th1 (show 0 < 2 by omega) w13 (by omega)
        have c15 : m3.2 0 15 = 0 := by rw [g4.ar, s20]; exact a15
        refine ⟨1, lgw w1 0 ((frm w1 (32 * o + p) : Nat) : Int), ay_u (ay_u a1 16 ((frm w1 (32 * o + p) : Nat) : Int)) 15 1, T + 1, bI k2 3 (-1), x2, bC (bI m3 23 (-1)) 0 (ay_u (ay_u a1 16 ((frm w1 (32 * o + p) : Nat) : Int)) 15 1), ?_, ?_, ?_, ?_, by omega, kf1, ⟨?_, ?_, ?_, ?_⟩, ?_, ?_, by omega⟩
        · rw [kst, bb_s g1, if_pos rfl, kr]
          show bb (K_letGo tt n (k2, w1, x2) (k2.1 3)) _ = _
          rw [kf2, bb_s lg]
        · rw [rst, bb_s g3, if_pos rfl]
          unfold R_copyNow_71
          have e15 : ay_w (16 + m3.2 0 15) = ((16 : Nat) : Int) := by rw [c15]; decide
          have h3 : m3.2 0 = a1 := by rw [g4.ar]; exact s20
          rw [e15, if_pos (by omega), if_pos rfl, bA_C, bA_C, bC_C]
          show some ((1 : Int), bC (bI m3 23 (-1)) 0 (ay_u (ay_u (m3.2 0) 16 ((frm w1 (32 * o + p) : Nat) : Int)) 15 (ay_w (ay_u (m3.2 0) 16 ((frm w1 (32 * o + p) : Nat) : Int) 15 + 1)))) = _
          rw [h3, ay_ux (by omega), a15]
          rfl
        · have h1 : Mq (bI (bI (bC m 0 a1) 23 ((frm w1 (32 * o + p) : Nat) : Int)) 23 (-1)) (bI m3 23 (-1)) := (q2.tr g4).bIx
          have h2 := h1.bCC (a := ay_u (ay_u a1 16 ((frm w1 (32 * o + p) : Nat) : Int)) 15 1)
          refine Mq.tr ?_ h2
          refine ⟨?_, fun j _ _ _ => ?_⟩
          · funext j
            show (bif Nat.beq j 23 then (-1 : Int) else (bif Nat.beq j 23 then _ else m.1 j)) = m.1 j
            cases e : Nat.beq j 23
            · rfl
            · rw [Nat.eq_of_beq_eq_true e]; exact hm3.symm
          · show (bif Nat.beq j 0 then _ else (bif Nat.beq j 0 then _ else m.2 j)) = (bif Nat.beq j 0 then _ else m.2 j)
            cases Nat.beq j 0 <;> rfl
        · refine GX_g f5 (fun j hj => lgw_1 hj) (fun j hj => lgw_2 hj) (fun i hi => ?_) (Or.inl ⟨?_, 1, by omega, lgw_13, fun i hi => ?_⟩)
          · rw [ay_ux (by omega), ay_ux (by omega)]
          · rw [lgw_13, ay_ue]; rfl
          · rw [show i = 0 by omega, lgw_11 (by omega), if_pos rfl, ay_ux (by omega), Nat.add_zero, ay_ue]
        · rw [lgw_1 (by omega)]; exact base.1
        · rw [lgw_1 (by omega)]; exact base.2.1
        · rw [ay_ux (by omega), ay_ux (by omega)]; exact base.2.2.1
        · rw [ay_ux (by omega), ay_ux (by omega)]; exact base.2.2.2
        · rw [lgw_13, ay_ue]; rfl
        · intro i hi; rw [ay_ux (by omega), ay_ux (by omega)]; exact rd1 i hi
      · have X3 : GX z w1 (m3.2 0) (T + 1) := by rw [g4.ar]; exact X2
        have t3 : TO z tt (m3.2 0) := by rw [g4.ar]; exact t2
        rcases use1_ok (kk := bI k1 3 ((32 * o + p : Nat) : Int)) (xx := x1) (n := n) (n' := n') X3 (by omega) t3 (LWm (T + 1) _ m3 X3 t3 (by rw [g4.tx]; exact s22) (by rw [g4.ar]; exact e22)) (Or.inr ⟨o, p, ho, hp, th1, k13, by rw [g4.1]; exact s23⟩) hb hq hzq (by omega) (by omega) with ⟨_, _, _, h1, _⟩ | ⟨w2, a2, k2, x2, _, m4, h1, h2, _, ⟨h3, h4⟩, h5, h6, h7⟩
        · rw [h1] at g1; injection g1 with y; injection y with y1 y2; omega
        · obtain ⟨kf1, kf2⟩ := kfin k2 h2
          have h7' : Ra a1 a2 := by rw [← s20, ← g4.ar]; exact h7
          have th2o : thr w2 o p = true := by rw [h6.2.2.1 o p ho hp]; split; rfl; exact th1
          have th2b : thr w2 b q = true := by rw [h6.2.2.1 b q hb hq, if_pos ⟨rfl, rfl⟩]
          have fo : frm w2 (32 * o + p) = frm w1 (32 * o + p) := h6.2.2.2 o p ho hp th1
          have w213 : w2.1 13 = 0 := by rw [h6.2.1 13 (by omega) (by omega)]; exact w13
          obtain ⟨A, hA⟩ : ∃ A, A = ay_u (ay_u (ay_u (ay_u a2 16 ((frm w2 (32 * b + q) : Nat) : Int)) 15 1) 17 ((frm w1 (32 * o + p) : Nat) : Int)) 15 2 := ⟨_, rfl⟩
          have A15 : A 15 = 2 := by rw [hA, ay_ue]
          have A16 : A 16 = ((frm w2 (32 * b + q) : Nat) : Int) := by rw [hA, ay_ux (by omega), ay_ux (by omega), ay_ux (by omega), ay_ue]
          have A17 : A 17 = ((frm w1 (32 * o + p) : Nat) : Int) := by rw [hA, ay_ux (by omega), ay_ue]
          have Ao : ∀ i, i < 15 ∨ 18 ≤ i → A i = a2 i := fun i hi => by rw [hA, ay_ux (by omega), ay_ux (by omega), ay_ux (by omega), ay_ux (by omega)]
          obtain ⟨m5, hm5⟩ : ∃ m5, m5 = bC (bI m4 23 (-1)) 0 A := ⟨_, rfl⟩
          have m50 : m5.2 0 = A := by rw [hm5]; rfl
          have X5 : GX z w2 (m5.2 0) (T + 1 + 1) := by rw [m50]; exact GX_g h5 (fun _ _ => rfl) (fun _ _ => rfl) Ao (Or.inr w213)
          obtain ⟨u1, u2⟩ := use1_there (tt := tt) (tx := tx) (kk := k2) (xx := x2) (n := n) X5 (by omega) hb hq th2b (by omega)
          have Y : GX z (usw w2 (32 * b + q) (T + 1 + 1)) ((bC m5 0 (usr (m5.2 0) (32 * b + q) (T + 1 + 1))).2 0) (T + 1 + 1 + 1) := GX_use X5 (by omega) hb hq
          have ut : ∀ o' q', thr (usw w2 (32 * b + q) (T + 1 + 1)) o' q' = thr w2 o' q' := fun o' q' => by unfold thr; rw [usw_2 (by omega)]
          obtain ⟨w4, a5, y1, y2, y3, y4, y5⟩ := settle_GX (tt := tt) (kk := k2) (xx := x2) (n := n) (v := w2.2 0 (32 * o + p)) Y hb hq (by rw [ut]; exact th2b) (by omega) (by omega) (u2 n')
          have y5' : Ra A a5 := Ra.tr (b' := usr A (32 * b + q) (T + 1 + 1)) (fun i hi => usr_o (by omega) (by omega) (by omega)) (by rw [← m50]; exact y5)
          have r3 : w4.2 3 = w2.2 3 := by rw [y4.1 3 (by omega) (by omega) (by omega) (by omega) (by omega), usw_2 (by omega)]
          have r4 : w4.2 4 = w2.2 4 := by rw [y4.1 4 (by omega) (by omega) (by omega) (by omega) (by omega), usw_2 (by omega)]
          have r6 : w4.2 6 = w2.2 6 := by rw [y4.1 6 (by omega) (by omega) (by omega) (by omega) (by omega), usw_2 (by omega)]
          have th4 : ∀ o' q', thr w4 o' q' = thr w2 o' q' := fun o' q' => by unfold thr; rw [r6]
          have fr4 : frm w4 = frm w2 := frm_same r3 r4
          have n4 : ∀ j, j ≠ 12 → j ≠ 14 → w4.1 j = w1.1 j := fun j h12 h14 => by rw [y4.2.1 j h12, usw_1 h14, h6.2.1 j h12 h14]
          have w413 : w4.1 13 = ((0 : Nat) : Int) := by rw [n4 13 (by omega) (by omega)]; exact w13
          obtain ⟨w5, hw5⟩ : ∃ w5, w5 = lgw w4 0 ((frm w4 (32 * b + q) : Nat) : Int) := ⟨_, rfl⟩
          have l1 := K_letGo_ok (tt := tt) (kk := k2) (xx := x2) (n := n) y3.1.2.1 y3.1.2.2.1 hb hq (by rw [th4]; exact th2b) (show 0 < 2 by omega) w413 (by omega)
          rw [← hw5] at l1
          have e53 : w5.2 3 = w4.2 3 := by rw [hw5]; exact lgw_2 (by omega)
          have e54 : w5.2 4 = w4.2 4 := by rw [hw5]; exact lgw_2 (by omega)
          have e56 : w5.2 6 = w4.2 6 := by rw [hw5]; exact lgw_2 (by omega)
          have th5 : thr w5 = thr w4 := by funext o' q'; unfold thr; rw [e56]
          have T5 : IT w5 := by unfold IT; rw [th5, hvs_same e53 e54]; exact y3.1.2.2.1
          have w513 : w5.1 13 = ((1 : Nat) : Int) := by rw [hw5]; exact lgw_13
          have l2 := K_letGo_ok (tt := tt) (kk := k2) (xx := x2) (n := n) (IF_eq e53 e54 y3.1.2.1) T5 ho hp (by rw [th5, th4]; exact th2o) (show 1 < 2 by omega) w513 (by omega)
          have fr5 : frm w5 = frm w2 := (frm_same e53 e54).trans fr4
          have vl : (usw w2 (32 * b + q) (T + 1 + 1)).2 0 (k2.1 3).toNat = w2.2 0 (32 * o + p) := by rw [kf2, Int.toNat_natCast, usw_2 (by omega)]
          refine ⟨2, lgw w5 1 ((frm w5 (32 * o + p) : Nat) : Int), a5, T + 1 + 1 + 1, bI k2 3 (-1), x2, bC m5 0 a5, ?_, ?_, ?_, ?_, by omega, kf1, ⟨?_, ?_, ?_, ?_⟩, ?_, ?_, by omega⟩
          · rw [kst, bb_s h1, if_neg (by omega), bb_s u1]
            dsimp only
            rw [vl, kf2, if_pos (by omega), bb_s y1, bb_s l1, kr]
            show bb (K_letGo tt n (k2, w5, x2) (k2.1 3)) _ = _
            rw [kf2, bb_s l2]
          · have e5 : bA (bA (bI (bA (bA m4 0 16 ((frm w2 (32 * b + q) : Nat) : Int)) 0 15 1) 23 (-1)) 0 17 ((frm w1 (32 * o + p) : Nat) : Int)) 0 15 2 = m5 := by
              have h40 : m4.2 0 = a2 := h4.ar
              rw [hm5, hA, ← h40]
              rw [bA_C, bA_C, bA_C, bA_C, bC_C]
              show bI (bC (bC (bC m4 0 _) 0 _) 0 _) 23 (-1) = _
              rw [bC_C, bC_C]
              rfl
            have pv : R_pageAt n' m5 o p 2 = some (w2.2 0 (32 * o + p), m5) := by
              rw [R_pageAt_ok n' m5 ho hp (by omega) (by omega), show (2 : Int).toNat = 2 from rfl, (X5.1.1.2.1 o p ho hp).2.1]
            rw [rst, bb_s g3, if_neg (by decide), bb_s h3]
            unfold R_copyNow_71
            have e15 : (bA (bA m4 0 16 ((frm w2 (32 * b + q) : Nat) : Int)) 0 15 1).2 0 15 = 1 := by
              show ay_u ((bA m4 0 16 ((frm w2 (32 * b + q) : Nat) : Int)).2 0) 15 1 15 = 1
              exact ay_ue
            have e17 : ay_w (16 + (bA (bA m4 0 16 ((frm w2 (32 * b + q) : Nat) : Int)) 0 15 1).2 0 15) = 17 := by rw [e15]; decide
            have e16 : ay_w ((bA (bI (bA (bA m4 0 16 ((frm w2 (32 * b + q) : Nat) : Int)) 0 15 1) 23 (-1)) 0 17 ((frm w1 (32 * o + p) : Nat) : Int)).2 0 15 + 1) = 2 := by
              have : (bA (bI (bA (bA m4 0 16 ((frm w2 (32 * b + q) : Nat) : Int)) 0 15 1) 23 (-1)) 0 17 ((frm w1 (32 * o + p) : Nat) : Int)).2 0 15 = 1 := by
                show ay_u ((bA (bA m4 0 16 ((frm w2 (32 * b + q) : Nat) : Int)) 0 15 1).2 0) (17 : Int).toNat ((frm w1 (32 * o + p) : Nat) : Int) 15 = 1
                rw [ay_ux (by decide)]; exact e15
              rw [this]; decide
            rw [e17, if_pos (by omega), if_neg (by decide), e16, e5, bb_s pv, bb_s y2, bC_C]
          · have h40 : Mq (bC m3 0 a2) m4 := h4
            have q3 : Mq (bI (bC m 0 a1) 23 ((frm w1 (32 * o + p) : Nat) : Int)) m3 := q2.tr g4
            have q4 := ((q3.bCC (a := a2)).tr h40)
            have q5 := ((q4.bIx (k := 23) (v := -1)).bCC (a := a5))
            have e : bC m5 0 a5 = bC (bI m4 23 (-1)) 0 a5 := by rw [hm5, bC_C]
            rw [e]
            refine Mq.tr ?_ q5
            refine ⟨?_, fun j _ _ _ => ?_⟩
            · funext j
              show (bif Nat.beq j 23 then (-1 : Int) else (bif Nat.beq j 23 then _ else m.1 j)) = m.1 j
              cases e : Nat.beq j 23
              · rfl
              · rw [Nat.eq_of_beq_eq_true e]; exact hm3.symm
            · show (bif Nat.beq j 0 then _ else (bif Nat.beq j 0 then _ else (bif Nat.beq j 0 then _ else m.2 j))) = (bif Nat.beq j 0 then _ else m.2 j)
              cases Nat.beq j 0 <;> rfl
          · refine GX_g y3 (fun j hj => ?_) (fun j hj => ?_) (fun _ _ => rfl) (Or.inl ⟨?_, 2, by omega, lgw_13, fun i hi => ?_⟩)
            · rw [lgw_1 hj, hw5, lgw_1 hj]
            · rw [lgw_2 hj, hw5, lgw_2 hj]
            · rw [lgw_13, y5' 15 (by omega), A15]; rfl
            · rcases (show i = 0 ∨ i = 1 by omega) with y | y <;> subst y
              · rw [lgw_11 (by omega), if_neg (by omega), hw5, lgw_11 (by omega), if_pos rfl, fr4, y5' (16 + 0) (by omega)]; exact A16.symm
              · rw [lgw_11 (by omega), if_pos rfl, fr5, fo, y5' (16 + 1) (by omega)]; exact A17.symm
          · rw [lgw_1 (by omega), hw5, lgw_1 (by omega), n4 15 (by omega) (by omega)]; exact base.1
          · rw [lgw_1 (by omega), hw5, lgw_1 (by omega), n4 16 (by omega) (by omega)]; exact base.2.1
          · rw [y5' 11 (by omega), Ao 11 (by omega), h7' 11 (by omega)]; exact base.2.2.1
          · rw [y5' 12 (by omega), Ao 12 (by omega), h7' 12 (by omega)]; exact base.2.2.2
          · rw [lgw_13, y5' 15 (by omega), A15]; rfl
          · intro i hi; rw [y5'.rd i hi, Ao i (by omega), h7'.rd i hi]; exact rd1 i hi
end
