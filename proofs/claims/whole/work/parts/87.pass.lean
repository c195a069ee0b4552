/-! A day, on both sides (with and without a law; by wip/whole/tpl) -/
section
variable {n n' : Nat} {m m' m1 w w' w0 kk kq xx tt tx : bS} {z : Nat → Nat} {a b' : Nat → Int} {o p f s N k i h g j T b c M x y q : Nat} {t : Int} {v : Nat} {cd sp : Nat → Bool}
/-- what a day does behind its three draws -/
theorem dayrest0 (X : GX z w (m.2 0) T) (hx : w.1 15 = m.2 0 11) (hT1 : T + 1 < 131072) (hto : TO z tt (m.2 0)) (LA : LAW z tt (K0_wanted tt) (K0_letsGo tt) (m.2 2) (m.2 0 2)) (hk3 : kk.1 3 = -1) (hm3 : m.1 23 = -1) (ho : o < 4) (hp : p < 32) (hz : p < z o) (hn : 1300 ≤ n) (hn' : 1300 ≤ n') {e : Nat} (he : e < 8) : ∃ r w' a' T' k1 x1 m', ((if (e : Int) = 7 then (bb (K_draw tt n (kk, w, xx) 3) fun v4 s4 => (bb (K_emptyOut tt n s4 (ay_shl 1 (ay_w (2 * v4)))) fun v5 s5 => (if v5 = (-1) then some (0, s5) else some (1, s5)))) else (if (e : Int) = 6 then (bb (K_sweepOut tt n (kk, w, xx) o) fun v6 s6 => some (1, s6)) else (if (e : Int) ≤ 2 then K0_passDay_116 tt n (kk, w, xx) o p (-1) else (bb (K_draw tt n (kk, w, xx) 100) fun v7 s7 => K0_passDay_116 tt n s7 o p v7)))) = some (r, (k1, w', x1))) ∧ (if (e : Int) = 6 then R_doDrawn_52 n' m e o p 1 else (bb (R_canTouch n' m o p) fun v4 s4 => (if v4 = 0 then R_doDrawn_52 n' s4 e o p 0 else R_doDrawn_52 n' s4 e o p 1))) = some (0, m') ∧ Mq (bI (bC m 0 a') 24 (ay_w (m.1 24 + r))) m' ∧ GX z w' a' T' ∧ (T' = T ∨ T' = T + 1) ∧ Kk kk k1 ∧ w'.1 15 = a' 11 ∧ w'.1 16 = w.1 16 ∧ a' 12 = m.2 0 12 ∧ Rd (m.2 0) a' ∧ (r = 0 ∨ r = 1) ∧ w'.1 13 = w.1 13 ∧ a' 15 = m.2 0 15 := by
  by_cases c7 : e = 7
  · subst c7
    rw [if_pos (show ((7 : Nat) : Int) = 7 from rfl), if_neg (show ¬ ((7 : Nat) : Int) = 6 by decide)]
    -- whether it can be touched is asked all the same
    obtain ⟨vt, m1, t1, t2⟩ : ∃ vt m1, R_canTouch n' m o p = some (vt, m1) ∧ Mq m m1 := by
      rcases use0_ok (kk := kk) (xx := xx) (n := n) (n' := n') X hT1 hto (LA m w T X hto rfl rfl) (Or.inl ⟨hk3, hm3⟩) ho hp hz hn hn' with ⟨k1, x1, m1, _, _, e3, e4⟩ | ⟨w1, a1, k1, x1, m1, m2, _, _, ⟨e3, e4⟩, _⟩
      · exact ⟨_, m1, e3, e4⟩
      · exact ⟨_, m1, e3, e4⟩
    have X1 : GX z w (m1.2 0) T := by rw [t2.ar]; exact X
    obtain ⟨w4, a4, v4, b0, b1, b2, b3, _, b5, b6, b7, b8⟩ := draw_ok (tt := tt) (kk := kk) (xx := xx) (n := n) (n' := n') (B := 3) X1 (by rw [t2.ar]; exact hx) (by omega) (by omega)
    rw [t2.ar] at b6
    have hM : isN (if v4 = 0 then 1 else if v4 = 1 then 4 else 16) := by
      rcases (show v4 = 0 ∨ v4 = 1 ∨ v4 = 2 by omega) with y | y | y <;> subst y
      · exact Or.inl rfl
      · exact Or.inr (Or.inl rfl)
      · exact Or.inr (Or.inr rfl)
    have r52 : ∀ x : Int, R_doDrawn_52 n' m1 ((7 : Nat) : Int) o p x = R_doDrawn_148 n' (bC m1 0 a4) (((if v4 = 0 then 1 else if v4 = 1 then 4 else 16) : Nat) : Int) := fun x => by
      unfold R_doDrawn_52
      rw [if_pos (by omega), if_pos (by omega), if_neg (by omega)]
      refine (bb_s b2).trans ?_
      rcases (show v4 = 0 ∨ v4 = 1 ∨ v4 = 2 by omega) with y | y | y <;> subst y <;> rfl
    have rr : (bb (R_canTouch n' m o p) fun v4 s4 => (if v4 = 0 then R_doDrawn_52 n' s4 ((7 : Nat) : Int) o p 0 else R_doDrawn_52 n' s4 ((7 : Nat) : Int) o p 1)) = R_doDrawn_148 n' (bC m1 0 a4) (((if v4 = 0 then 1 else if v4 = 1 then 4 else 16) : Nat) : Int) := by
      rw [bb_s t1, r52, r52]; split <;> rfl
    rw [rr]
    have b3' : GX z w4 ((bC m1 0 a4).2 0) T := b3
    rcases empty_ok (tt := tt) (kk := kk) (xx := xx) (n := n) (n' := n') b3' hM (by omega) (by omega) with ⟨y1, y2⟩ | ⟨w5, a5, c5, v5, y1, y2, y3, y4, y5, y6, y7⟩
    · refine ⟨0, w4, a4, T, kk, xx, bI (bC m1 0 a4) 24 (ay_w ((bC m1 0 a4).1 24 + 0)), ?_, ?_, (t2.bCC (a := a4)).bI24 rfl, b3, Or.inl rfl, Kk.rf, b7, b5 16 (by omega), b6 12 (by omega), fun i hi => b6 i (by omega), Or.inl rfl, b5 13 (by omega), b6 15 (by omega)⟩
      · refine (bb_s b1).trans ?_
        rw [sh2 v4 b0, bb_s y1, if_pos rfl]
      · unfold R_doDrawn_148 R_doDrawn_165 R_doDrawn_179
        rw [bb_s y2, if_pos rfl, if_pos rfl, if_pos rfl]
    · have y7' : Ra a4 a5 := y7
      refine ⟨1, w5, a5, T, kk, xx, bI (bC m1 0 a5) 24 (ay_w ((bC m1 0 a5).1 24 + 1)), ?_, ?_, (t2.bCC (a := a5)).bI24 rfl, y5, Or.inl rfl, Kk.rf, ?_, ?_, ?_, ?_, Or.inr rfl, ?_, ?_⟩
      · refine (bb_s b1).trans ?_
        rw [sh2 v4 b0, bb_s y1, if_neg (by omega)]
      · unfold R_doDrawn_148 R_doDrawn_165 R_doDrawn_179
        rw [bb_s y2, if_neg y3, if_neg (by decide), bb_s y4, if_neg (by decide), bC_C]
      · rw [y6 15 (by omega), y7' 11 (by omega)]; exact b7
      · rw [y6 16 (by omega)]; exact b5 16 (by omega)
      · rw [y7' 12 (by omega)]; exact b6 12 (by omega)
      · intro i hi; rw [y7'.rd i hi]; exact b6 i (by omega)
      · rw [y6 13 (by omega)]; exact b5 13 (by omega)
      · rw [y7' 15 (by omega)]; exact b6 15 (by omega)
  · rw [if_neg (show ¬ (e : Int) = 7 by omega)]
    by_cases c6 : e = 6
    · subst c6
      rw [if_pos (show ((6 : Nat) : Int) = 6 from rfl), if_pos (show ((6 : Nat) : Int) = 6 from rfl)]
      obtain ⟨w1, a1, v1, y1, y2, y3, y4, y5, y6⟩ := sweep_GX (tt := tt) (kk := kk) (xx := xx) (n := n) (n' := n') X hto ho (by omega) (by omega)
      refine ⟨1, w1, a1, T, kk, xx, bI (bC m 0 a1) 24 (ay_w ((bC m 0 a1).1 24 + 1)), bb_s y1, ?_, Mq.rf, y3, Or.inl rfl, Kk.rf, ?_, y4 16 (by omega) (by omega), y5 12 (by omega), fun i hi => y5 i (by omega), Or.inr rfl, y4 13 (by omega) (by omega), y5 15 (by omega)⟩
      · unfold R_doDrawn_52 R_doDrawn_179
        rw [if_pos (by omega), if_pos (by omega), if_pos (by omega), bb_s y2, if_neg (by decide)]
      · rw [y4 15 (by omega) (by omega), y5 11 (by omega)]; exact hx
    · rw [if_neg (show ¬ (e : Int) = 6 by omega), if_neg (show ¬ (e : Int) = 6 by omega)]
      by_cases c2 : e ≤ 2
      · rw [if_pos (by omega)]
        obtain ⟨r, w1, a1, T1, k1, x1, m1, y1, y2, y3⟩ := dayuse0 (tt := tt) (kk := kk) (xx := xx) (n := n) (n' := n') X hx hT1 hto LA hk3 hm3 ho hp hz hn hn'
        exact ⟨r, w1, a1, T1, k1, x1, m1, y1, y2 e (by omega), y3⟩
      · rw [if_neg (by omega)]
        obtain ⟨r, w1, a1, T1, k1, x1, m1, y1, y2, y3⟩ := daywrite0 (tt := tt) (kk := kk) (xx := xx) (n := n) (n' := n') X hx hT1 hto LA hk3 hm3 ho hp hz hn hn'
        exact ⟨r, w1, a1, T1, k1, x1, m1, y1, y2 e (by omega) (by omega), y3⟩
/-- a day, on both sides -/
theorem pass0_ok (X : GX z w (m.2 0) T) (hx : w.1 15 = m.2 0 11) (hd : w.1 16 = m.2 0 12) (h9 : m.2 0 12 < 9999) (h24 : 0 ≤ m.1 24 ∧ m.1 24 < 1000000) (hT1 : T + 1 < 131072) (hto : TO z tt (m.2 0)) (LA : LAW z tt (K0_wanted tt) (K0_letsGo tt) (m.2 2) (m.2 0 2)) (hk3 : kk.1 3 = -1) (hm3 : m.1 23 = -1) (hn : 1300 ≤ n) (hn' : 1300 ≤ n') : ∃ r w' a' T' k1 x1 m', K0_passDay tt n (kk, w, xx) = some (r, (k1, w', x1)) ∧ R_pass n' m = some (0, m') ∧ Mq (bI (bC m 0 a') 24 (m.1 24 + r)) m' ∧ GX z w' a' T' ∧ (T' = T ∨ T' = T + 1) ∧ Kk kk k1 ∧ w'.1 15 = a' 11 ∧ w'.1 16 = a' 12 ∧ a' 12 = m.2 0 12 + 1 ∧ Rd (m.2 0) a' ∧ (r = 0 ∨ r = 1) ∧ w'.1 13 = w.1 13 ∧ a' 15 = m.2 0 15 := by
  have h12 := X.2.2.2.2.2.2.2
  have h11 := X.2.2.2.2.2.2.1
  obtain ⟨hz1, Q, q1, q2, q3, q4, q5⟩ := id hto
  have wd1 : ay_w (w.1 16 + 1) = m.2 0 12 + 1 := by rw [hd, ay_wi (by omega) (by omega)]
  have X0 : GX z (bI w 16 (m.2 0 12 + 1)) (m.2 0) T := GX_n X rfl (fun j _ h16 => bI_1 h16) (fun _ _ _ => rfl) (by rw [bI_1 (by omega)]; exact Or.inl hx) (Or.inr bI_e) h11 h12
  -- the day is written behind all on the reference's side
  have fin : ∀ (w' : bS) (a' : Nat → Int) (T' : Nat), GX z w' a' T' → w'.1 15 = a' 11 → w'.1 16 = m.2 0 12 + 1 → a' 12 = m.2 0 12 → GX z w' (ay_u a' 12 (m.2 0 12 + 1)) T' ∧ w'.1 15 = ay_u a' 12 (m.2 0 12 + 1) 11 ∧ w'.1 16 = ay_u a' 12 (m.2 0 12 + 1) 12 := fun w' a' T' Y e15 e16 e12 => by
    refine ⟨GX_n Y rfl (fun _ _ _ => rfl) (fun i _ h => ay_ux h) ?_ ?_ ?_ ?_, ?_, ?_⟩
    · rw [ay_ux (by omega)]; exact Or.inl e15
    · rw [ay_ue]; exact Or.inl e16
    · rw [ay_ux (by omega)]; exact Y.2.2.2.2.2.2.1
    · rw [ay_ue]; omega
    · rw [ay_ux (by omega)]; exact e15
    · rw [ay_ue]; exact e16
  by_cases hQ : Q = 0
  · obtain ⟨f1, f2, f3⟩ := fin _ _ T X0 (by rw [bI_1 (by omega)]; exact hx) bI_e rfl
    refine ⟨0, bI w 16 (m.2 0 12 + 1), ay_u (m.2 0) 12 (m.2 0 12 + 1), T, kk, xx, bA m 0 12 (ay_w (m.2 0 12 + 1)), ?_, ?_, ?_, f1, Or.inl rfl, Kk.rf, f2, f3, ay_ue, fun i hi => ay_ux (by omega), Or.inl rfl, bI_1 (by omega), ay_ux (by omega)⟩
    · unfold K0_passDay
      dsimp only
      rw [q2, if_pos (by omega), wd1]
    · unfold R_pass
      rw [q3, if_pos (by omega)]
    · rw [ay_wi (by omega) (by omega), bA_C]
      refine ⟨?_, fun _ _ _ _ => rfl⟩
      funext j
      show m.1 j = (bif Nat.beq j 24 then m.1 24 + 0 else m.1 j)
      cases e : Nat.beq j 24
      · rfl
      · rw [Nat.eq_of_beq_eq_true e]
        show m.1 24 = m.1 24 + 0
        omega
  · have X0x : (bI w 16 (m.2 0 12 + 1)).1 15 = m.2 0 11 := by rw [bI_1 (by omega)]; exact hx
    obtain ⟨w1, a1, v1, b10, b11, b12, b13, b14, b15, b16, b17, _⟩ := draw_ok (tt := tt) (kk := kk) (xx := xx) (n := n) (n' := n') (B := 8) X0 X0x (by omega) (by omega)
    have Y1 : GX z w1 ((bC m 0 a1).2 0) T := b13
    obtain ⟨w2, a2, v2, b20, b21, b22, b23, b24, b25, b26, b27, _⟩ := draw_ok (tt := tt) (kk := kk) (xx := xx) (n := n) (n' := n') (B := Q) Y1 b17 (by omega) (by omega)
    have hzv := q4 v2 b20
    have hz32 := (hz1 v2 (by omega)).2.2
    have Y2 : GX z w2 ((bC (bC m 0 a1) 0 a2).2 0) T := b23
    obtain ⟨w3, a3, v3, b30, b31, b32, b33, b34, b35, b36, b37, _⟩ := draw_ok (tt := tt) (kk := kk) (xx := xx) (n := n) (n' := n') (B := z v2) Y2 b27 (by omega) (by omega)
    rw [bC_C] at b22
    have b26' : ∀ i, i ≠ 11 → a2 i = a1 i := b26
    have b36' : ∀ i, i ≠ 11 → a3 i = a2 i := b36
    have all3 : ∀ i, i ≠ 11 → a3 i = m.2 0 i := fun i hi => by rw [b36' i hi, b26' i hi, b16 i hi]
    rw [bC_C, bC_C] at b32
    have Y3 : GX z w3 ((bC m 0 a3).2 0) T := b33
    have t3 : TO z tt ((bC m 0 a3).2 0) := TO_c (b' := a3) (fun i hi => all3 i (by omega)) hto
    have L3 : LAW z tt (K0_wanted tt) (K0_letsGo tt) ((bC m 0 a3).2 2) ((bC m 0 a3).2 0 2) := by
      have e2 : (bC m 0 a3).2 0 2 = m.2 0 2 := all3 2 (by omega)
      rw [e2]; exact LA
    obtain ⟨r, w4, a4, T4, k4, x4, m4, c1, c2, c3, c4, c5, c6, c7, c8, c9, c10, c11, c12, c13⟩ := dayrest0 (tt := tt) (kk := kk) (xx := xx) (n := n) (n' := n') Y3 b37 hT1 t3 L3 hk3 hm3 (show v2 < 4 by omega) (show v3 < 32 by omega) b30 hn hn' b10
    rw [bC_C] at c3
    have c9' : a4 12 = m.2 0 12 := c9.trans (all3 12 (by omega))
    have c10' : Rd a3 a4 := c10
    have d16 : w4.1 16 = m.2 0 12 + 1 := by
      rw [c8, b35 16 (by omega), b25 16 (by omega), b15 16 (by omega), bI_e]
    obtain ⟨f1, f2, f3⟩ := fin w4 a4 T4 c4 c7 d16 c9'
    have a12 : m4.2 0 12 = m.2 0 12 := by rw [c3.ar]; exact c9'
    refine ⟨r, w4, ay_u a4 12 (m.2 0 12 + 1), T4, k4, x4, bA m4 0 12 (ay_w (m4.2 0 12 + 1)), ?_, ?_, ?_, f1, c5, c6, f2, f3, ay_ue, ?_, c11, ?_, ?_⟩
    · unfold K0_passDay
      dsimp only
      rw [q2, if_neg (by omega), wd1]
      refine (bb_s b11).trans ?_
      refine (bb_s b21).trans ?_
      rw [if_pos (by omega), Int.toNat_natCast, (hz1 v2 (by omega)).1]
      exact (bb_s b31).trans c1
    · unfold R_pass R_doDrawn
      rw [q3, if_neg (by omega)]
      have e0 : (bC m 0 a1).2 0 0 = (Q : Int) := by
        show a1 0 = _
        rw [b16 0 (by omega)]; exact q3
      have e6 : (bC m 0 a2).2 0 (6 + v2) = (z v2 : Int) := by
        show a2 (6 + v2) = _
        rw [b26' _ (by omega), b16 _ (by omega)]; exact (hz1 v2 (by omega)).2.1
      refine (bb_s (v := 0) (s := m4) ?_).trans rfl
      refine (bb_s b12).trans ?_
      rw [e0]
      refine (bb_s b22).trans ?_
      rw [long_at (show v2 < 4 by omega), if_pos (by omega), Int.toNat_natCast, e6]
      exact (bb_s b32).trans c2
    · have e24 : ay_w ((bC m 0 a3).1 24 + r) = m.1 24 + r := by
        show ay_w (m.1 24 + r) = _
        rcases c11 with y | y <;> rw [y] <;> exact ay_wi (by omega) (by omega)
      rw [e24] at c3
      rw [a12, ay_wi (by omega) (by omega), bA_C, c3.ar]
      have := c3.bCC (a := ay_u a4 12 (m.2 0 12 + 1))
      have e : bC (bI (bC m 0 a4) 24 (m.1 24 + r)) 0 (ay_u a4 12 (m.2 0 12 + 1)) = bI (bC m 0 (ay_u a4 12 (m.2 0 12 + 1))) 24 (m.1 24 + r) := by
        show bI (bC (bC m 0 a4) 0 (ay_u a4 12 (m.2 0 12 + 1))) 24 (m.1 24 + r) = _
        rw [bC_C]
      rw [e] at this
      exact this
    · intro i hi
      rw [ay_ux (by omega), c10' i hi]; exact all3 i (by omega)
    · rw [c12, b35 13 (by omega), b25 13 (by omega), b15 13 (by omega), bI_1 (by omega)]
    · have c13' : a4 15 = a3 15 := c13
      rw [ay_ux (by omega), c13']; exact all3 15 (by omega)
/-- what a day does behind its three draws -/
theorem dayrest1 (X : GX z w (m.2 0) T) (hx : w.1 15 = m.2 0 11) (hT1 : T + 1 < 131072) (hto : TO z tt (m.2 0)) (LA : LAW z tt (K1_wanted tt tx) (K1_letsGo tt tx) (m.2 2) (m.2 0 2)) (hk3 : kk.1 3 = -1) (hm3 : m.1 23 = -1) (ho : o < 4) (hp : p < 32) (hz : p < z o) (hn : 1300 ≤ n) (hn' : 1300 ≤ n') {e : Nat} (he : e < 8) : ∃ r w' a' T' k1 x1 m', ((if (e : Int) = 7 then (bb (K_draw tt n (kk, w, xx) 3) fun v4 s4 => (bb (K_emptyOut tt n s4 (ay_shl 1 (ay_w (2 * v4)))) fun v5 s5 => (if v5 = (-1) then some (0, s5) else some (1, s5)))) else (if (e : Int) = 6 then (bb (K_sweepOut tt n (kk, w, xx) o) fun v6 s6 => some (1, s6)) else (if (e : Int) ≤ 2 then K1_passDay_116 tt tx n (kk, w, xx) o p (-1) else (bb (K_draw tt n (kk, w, xx) 100) fun v7 s7 => K1_passDay_116 tt tx n s7 o p v7)))) = some (r, (k1, w', x1))) ∧ (if (e : Int) = 6 then R_doDrawn_52 n' m e o p 1 else (bb (R_canTouch n' m o p) fun v4 s4 => (if v4 = 0 then R_doDrawn_52 n' s4 e o p 0 else R_doDrawn_52 n' s4 e o p 1))) = some (0, m') ∧ Mq (bI (bC m 0 a') 24 (ay_w (m.1 24 + r))) m' ∧ GX z w' a' T' ∧ (T' = T ∨ T' = T + 1) ∧ Kk kk k1 ∧ w'.1 15 = a' 11 ∧ w'.1 16 = w.1 16 ∧ a' 12 = m.2 0 12 ∧ Rd (m.2 0) a' ∧ (r = 0 ∨ r = 1) ∧ w'.1 13 = w.1 13 ∧ a' 15 = m.2 0 15 := by
  by_cases c7 : e = 7
  · subst c7
    rw [if_pos (show ((7 : Nat) : Int) = 7 from rfl), if_neg (show ¬ ((7 : Nat) : Int) = 6 by decide)]
    -- whether it can be touched is asked all the same
    obtain ⟨vt, m1, t1, t2⟩ : ∃ vt m1, R_canTouch n' m o p = some (vt, m1) ∧ Mq m m1 := by
      rcases use1_ok (kk := kk) (xx := xx) (n := n) (n' := n') X hT1 hto (LA m w T X hto rfl rfl) (Or.inl ⟨hk3, hm3⟩) ho hp hz hn hn' with ⟨k1, x1, m1, _, _, e3, e4⟩ | ⟨w1, a1, k1, x1, m1, m2, _, _, ⟨e3, e4⟩, _⟩
      · exact ⟨_, m1, e3, e4⟩
      · exact ⟨_, m1, e3, e4⟩
    have X1 : GX z w (m1.2 0) T := by rw [t2.ar]; exact X
    obtain ⟨w4, a4, v4, b0, b1, b2, b3, _, b5, b6, b7, b8⟩ := draw_ok (tt := tt) (kk := kk) (xx := xx) (n := n) (n' := n') (B := 3) X1 (by rw [t2.ar]; exact hx) (by omega) (by omega)
    rw [t2.ar] at b6
    have hM : isN (if v4 = 0 then 1 else if v4 = 1 then 4 else 16) := by
      rcases (show v4 = 0 ∨ v4 = 1 ∨ v4 = 2 by omega) with y | y | y <;> subst y
      · exact Or.inl rfl
      · exact Or.inr (Or.inl rfl)
      · exact Or.inr (Or.inr rfl)
    have r52 : ∀ x : Int, R_doDrawn_52 n' m1 ((7 : Nat) : Int) o p x = R_doDrawn_148 n' (bC m1 0 a4) (((if v4 = 0 then 1 else if v4 = 1 then 4 else 16) : Nat) : Int) := fun x => by
      unfold R_doDrawn_52
      rw [if_pos (by omega), if_pos (by omega), if_neg (by omega)]
      refine (bb_s b2).trans ?_
      rcases (show v4 = 0 ∨ v4 = 1 ∨ v4 = 2 by omega) with y | y | y <;> subst y <;> rfl
    have rr : (bb (R_canTouch n' m o p) fun v4 s4 => (if v4 = 0 then R_doDrawn_52 n' s4 ((7 : Nat) : Int) o p 0 else R_doDrawn_52 n' s4 ((7 : Nat) : Int) o p 1)) = R_doDrawn_148 n' (bC m1 0 a4) (((if v4 = 0 then 1 else if v4 = 1 then 4 else 16) : Nat) : Int) := by
      rw [bb_s t1, r52, r52]; split <;> rfl
    rw [rr]
    have b3' : GX z w4 ((bC m1 0 a4).2 0) T := b3
    rcases empty_ok (tt := tt) (kk := kk) (xx := xx) (n := n) (n' := n') b3' hM (by omega) (by omega) with ⟨y1, y2⟩ | ⟨w5, a5, c5, v5, y1, y2, y3, y4, y5, y6, y7⟩
    · refine ⟨0, w4, a4, T, kk, xx, bI (bC m1 0 a4) 24 (ay_w ((bC m1 0 a4).1 24 + 0)), ?_, ?_, (t2.bCC (a := a4)).bI24 rfl, b3, Or.inl rfl, Kk.rf, b7, b5 16 (by omega), b6 12 (by omega), fun i hi => b6 i (by omega), Or.inl rfl, b5 13 (by omega), b6 15 (by omega)⟩
      · refine (bb_s b1).trans ?_
        rw [sh2 v4 b0, bb_s y1, if_pos rfl]
      · unfold R_doDrawn_148 R_doDrawn_165 R_doDrawn_179
        rw [bb_s y2, if_pos rfl, if_pos rfl, if_pos rfl]
    · have y7' : Ra a4 a5 := y7
      refine ⟨1, w5, a5, T, kk, xx, bI (bC m1 0 a5) 24 (ay_w ((bC m1 0 a5).1 24 + 1)), ?_, ?_, (t2.bCC (a := a5)).bI24 rfl, y5, Or.inl rfl, Kk.rf, ?_, ?_, ?_, ?_, Or.inr rfl, ?_, ?_⟩
      · refine (bb_s b1).trans ?_
        rw [sh2 v4 b0, bb_s y1, if_neg (by omega)]
      · unfold R_doDrawn_148 R_doDrawn_165 R_doDrawn_179
        rw [bb_s y2, if_neg y3, if_neg (by decide), bb_s y4, if_neg (by decide), bC_C]
      · rw [y6 15 (by omega), y7' 11 (by omega)]; exact b7
      · rw [y6 16 (by omega)]; exact b5 16 (by omega)
      · rw [y7' 12 (by omega)]; exact b6 12 (by omega)
      · intro i hi; rw [y7'.rd i hi]; exact b6 i (by omega)
      · rw [y6 13 (by omega)]; exact b5 13 (by omega)
      · rw [y7' 15 (by omega)]; exact b6 15 (by omega)
  · rw [if_neg (show ¬ (e : Int) = 7 by omega)]
    by_cases c6 : e = 6
    · subst c6
      rw [if_pos (show ((6 : Nat) : Int) = 6 from rfl), if_pos (show ((6 : Nat) : Int) = 6 from rfl)]
      obtain ⟨w1, a1, v1, y1, y2, y3, y4, y5, y6⟩ := sweep_GX (tt := tt) (kk := kk) (xx := xx) (n := n) (n' := n') X hto ho (by omega) (by omega)
      refine ⟨1, w1, a1, T, kk, xx, bI (bC m 0 a1) 24 (ay_w ((bC m 0 a1).1 24 + 1)), bb_s y1, ?_, Mq.rf, y3, Or.inl rfl, Kk.rf, ?_, y4 16 (by omega) (by omega), y5 12 (by omega), fun i hi => y5 i (by omega), Or.inr rfl, y4 13 (by omega) (by omega), y5 15 (by omega)⟩
      · unfold R_doDrawn_52 R_doDrawn_179
        rw [if_pos (by omega), if_pos (by omega), if_pos (by omega), bb_s y2, if_neg (by decide)]
      · rw [y4 15 (by omega) (by omega), y5 11 (by omega)]; exact hx
    · rw [if_neg (show ¬ (e : Int) = 6 by omega), if_neg (show ¬ (e : Int) = 6 by omega)]
      by_cases c2 : e ≤ 2
      · rw [if_pos (by omega)]
        obtain ⟨r, w1, a1, T1, k1, x1, m1, y1, y2, y3⟩ := dayuse1 (tt := tt) (tx := tx) (kk := kk) (xx := xx) (n := n) (n' := n') X hx hT1 hto LA hk3 hm3 ho hp hz hn hn'
        exact ⟨r, w1, a1, T1, k1, x1, m1, y1, y2 e (by omega), y3⟩
      · rw [if_neg (by omega)]
        obtain ⟨r, w1, a1, T1, k1, x1, m1, y1, y2, y3⟩ := daywrite1 (tt := tt) (tx := tx) (kk := kk) (xx := xx) (n := n) (n' := n') X hx hT1 hto LA hk3 hm3 ho hp hz hn hn'
        exact ⟨r, w1, a1, T1, k1, x1, m1, y1, y2 e (by omega) (by omega), y3⟩
/-- a day, on both sides -/
theorem pass1_ok (X : GX z w (m.2 0) T) (hx : w.1 15 = m.2 0 11) (hd : w.1 16 = m.2 0 12) (h9 : m.2 0 12 < 9999) (h24 : 0 ≤ m.1 24 ∧ m.1 24 < 1000000) (hT1 : T + 1 < 131072) (hto : TO z tt (m.2 0)) (LA : LAW z tt (K1_wanted tt tx) (K1_letsGo tt tx) (m.2 2) (m.2 0 2)) (hk3 : kk.1 3 = -1) (hm3 : m.1 23 = -1) (hn : 1300 ≤ n) (hn' : 1300 ≤ n') : ∃ r w' a' T' k1 x1 m', K1_passDay tt tx n (kk, w, xx) = some (r, (k1, w', x1)) ∧ R_pass n' m = some (0, m') ∧ Mq (bI (bC m 0 a') 24 (m.1 24 + r)) m' ∧ GX z w' a' T' ∧ (T' = T ∨ T' = T + 1) ∧ Kk kk k1 ∧ w'.1 15 = a' 11 ∧ w'.1 16 = a' 12 ∧ a' 12 = m.2 0 12 + 1 ∧ Rd (m.2 0) a' ∧ (r = 0 ∨ r = 1) ∧ w'.1 13 = w.1 13 ∧ a' 15 = m.2 0 15 := by
  have h12 := X.2.2.2.2.2.2.2
  have h11 := X.2.2.2.2.2.2.1
  obtain ⟨hz1, Q, q1, q2, q3, q4, q5⟩ := id hto
  have wd1 : ay_w (w.1 16 + 1) = m.2 0 12 + 1 := by rw [hd, ay_wi (by omega) (by omega)]
  have X0 : GX z (bI w 16 (m.2 0 12 + 1)) (m.2 0) T := GX_n X rfl (fun j _ h16 => bI_1 h16) (fun _ _ _ => rfl) (by rw [bI_1 (by omega)]; exact Or.inl hx) (Or.inr bI_e) h11 h12
  -- the day is written behind all on the reference's side
  have fin : ∀ (w' : bS) (a' : Nat → Int) (T' : Nat), GX z w' a' T' → w'.1 15 = a' 11 → w'.1 16 = m.2 0 12 + 1 → a' 12 = m.2 0 12 → GX z w' (ay_u a' 12 (m.2 0 12 + 1)) T' ∧ w'.1 15 = ay_u a' 12 (m.2 0 12 + 1) 11 ∧ w'.1 16 = ay_u a' 12 (m.2 0 12 + 1) 12 := fun w' a' T' Y e15 e16 e12 => by
    refine ⟨GX_n Y rfl (fun _ _ _ => rfl) (fun i _ h => ay_ux h) ?_ ?_ ?_ ?_, ?_, ?_⟩
    · rw [ay_ux (by omega)]; exact Or.inl e15
    · rw [ay_ue]; exact Or.inl e16
    · rw [ay_ux (by omega)]; exact Y.2.2.2.2.2.2.1
    · rw [ay_ue]; omega
    · rw [ay_ux (by omega)]; exact e15
    · rw [ay_ue]; exact e16
  by_cases hQ : Q = 0
  · obtain ⟨f1, f2, f3⟩ := fin _ _ T X0 (by rw [bI_1 (by omega)]; exact hx) bI_e rfl
    refine ⟨0, bI w 16 (m.2 0 12 + 1), ay_u (m.2 0) 12 (m.2 0 12 + 1), T, kk, xx, bA m 0 12 (ay_w (m.2 0 12 + 1)), ?_, ?_, ?_, f1, Or.inl rfl, Kk.rf, f2, f3, ay_ue, fun i hi => ay_ux (by omega), Or.inl rfl, bI_1 (by omega), ay_ux (by omega)⟩
    · unfold K1_passDay
      dsimp only
      rw [q2, if_pos (by omega), wd1]
    · unfold R_pass
      rw [q3, if_pos (by omega)]
    · rw [ay_wi (by omega) (by omega), bA_C]
      refine ⟨?_, fun _ _ _ _ => rfl⟩
      funext j
      show m.1 j = (bif Nat.beq j 24 then m.1 24 + 0 else m.1 j)
      cases e : Nat.beq j 24
      · rfl
      · rw [Nat.eq_of_beq_eq_true e]
        show m.1 24 = m.1 24 + 0
        omega
  · have X0x : (bI w 16 (m.2 0 12 + 1)).1 15 = m.2 0 11 := by rw [bI_1 (by omega)]; exact hx
    obtain ⟨w1, a1, v1, b10, b11, b12, b13, b14, b15, b16, b17, _⟩ := draw_ok (tt := tt) (kk := kk) (xx := xx) (n := n) (n' := n') (B := 8) X0 X0x (by omega) (by omega)
    have Y1 : GX z w1 ((bC m 0 a1).2 0) T := b13
    obtain ⟨w2, a2, v2, b20, b21, b22, b23, b24, b25, b26, b27, _⟩ := draw_ok (tt := tt) (kk := kk) (xx := xx) (n := n) (n' := n') (B := Q) Y1 b17 (by omega) (by omega)
    have hzv := q4 v2 b20
    have hz32 := (hz1 v2 (by omega)).2.2
    have Y2 : GX z w2 ((bC (bC m 0 a1) 0 a2).2 0) T := b23
    obtain ⟨w3, a3, v3, b30, b31, b32, b33, b34, b35, b36, b37, _⟩ := draw_ok (tt := tt) (kk := kk) (xx := xx) (n := n) (n' := n') (B := z v2) Y2 b27 (by omega) (by omega)
    rw [bC_C] at b22
    have b26' : ∀ i, i ≠ 11 → a2 i = a1 i := b26
    have b36' : ∀ i, i ≠ 11 → a3 i = a2 i := b36
    have all3 : ∀ i, i ≠ 11 → a3 i = m.2 0 i := fun i hi => by rw [b36' i hi, b26' i hi, b16 i hi]
    rw [bC_C, bC_C] at b32
    have Y3 : GX z w3 ((bC m 0 a3).2 0) T := b33
    have t3 : TO z tt ((bC m 0 a3).2 0) := TO_c (b' := a3) (fun i hi => all3 i (by omega)) hto
    have L3 : LAW z tt (K1_wanted tt tx) (K1_letsGo tt tx) ((bC m 0 a3).2 2) ((bC m 0 a3).2 0 2) := by
      have e2 : (bC m 0 a3).2 0 2 = m.2 0 2 := all3 2 (by omega)
      rw [e2]; exact LA
    obtain ⟨r, w4, a4, T4, k4, x4, m4, c1, c2, c3, c4, c5, c6, c7, c8, c9, c10, c11, c12, c13⟩ := dayrest1 (tt := tt) (tx := tx) (kk := kk) (xx := xx) (n := n) (n' := n') Y3 b37 hT1 t3 L3 hk3 hm3 (show v2 < 4 by omega) (show v3 < 32 by omega) b30 hn hn' b10
    rw [bC_C] at c3
    have c9' : a4 12 = m.2 0 12 := c9.trans (all3 12 (by omega))
    have c10' : Rd a3 a4 := c10
    have d16 : w4.1 16 = m.2 0 12 + 1 := by
      rw [c8, b35 16 (by omega), b25 16 (by omega), b15 16 (by omega), bI_e]
    obtain ⟨f1, f2, f3⟩ := fin w4 a4 T4 c4 c7 d16 c9'
    have a12 : m4.2 0 12 = m.2 0 12 := by rw [c3.ar]; exact c9'
    refine ⟨r, w4, ay_u a4 12 (m.2 0 12 + 1), T4, k4, x4, bA m4 0 12 (ay_w (m4.2 0 12 + 1)), ?_, ?_, ?_, f1, c5, c6, f2, f3, ay_ue, ?_, c11, ?_, ?_⟩
    · unfold K1_passDay
      dsimp only
      rw [q2, if_neg (by omega), wd1]
      refine (bb_s b11).trans ?_
      refine (bb_s b21).trans ?_
      rw [if_pos (by omega), Int.toNat_natCast, (hz1 v2 (by omega)).1]
      exact (bb_s b31).trans c1
    · unfold R_pass R_doDrawn
      rw [q3, if_neg (by omega)]
      have e0 : (bC m 0 a1).2 0 0 = (Q : Int) := by
        show a1 0 = _
        rw [b16 0 (by omega)]; exact q3
      have e6 : (bC m 0 a2).2 0 (6 + v2) = (z v2 : Int) := by
        show a2 (6 + v2) = _
        rw [b26' _ (by omega), b16 _ (by omega)]; exact (hz1 v2 (by omega)).2.1
      refine (bb_s (v := 0) (s := m4) ?_).trans rfl
      refine (bb_s b12).trans ?_
      rw [e0]
      refine (bb_s b22).trans ?_
      rw [long_at (show v2 < 4 by omega), if_pos (by omega), Int.toNat_natCast, e6]
      exact (bb_s b32).trans c2
    · have e24 : ay_w ((bC m 0 a3).1 24 + r) = m.1 24 + r := by
        show ay_w (m.1 24 + r) = _
        rcases c11 with y | y <;> rw [y] <;> exact ay_wi (by omega) (by omega)
      rw [e24] at c3
      rw [a12, ay_wi (by omega) (by omega), bA_C, c3.ar]
      have := c3.bCC (a := ay_u a4 12 (m.2 0 12 + 1))
      have e : bC (bI (bC m 0 a4) 24 (m.1 24 + r)) 0 (ay_u a4 12 (m.2 0 12 + 1)) = bI (bC m 0 (ay_u a4 12 (m.2 0 12 + 1))) 24 (m.1 24 + r) := by
        show bI (bC (bC m 0 a4) 0 (ay_u a4 12 (m.2 0 12 + 1))) 24 (m.1 24 + r) = _
        rw [bC_C]
      rw [e] at this
      exact this
    · intro i hi
      rw [ay_ux (by omega), c10' i hi]; exact all3 i (by omega)
    · rw [c12, b35 13 (by omega), b25 13 (by omega), b15 13 (by omega), bI_1 (by omega)]
    · have c13' : a4 15 = a3 15 := c13
      rw [ay_ux (by omega), c13']; exact all3 15 (by omega)
end
