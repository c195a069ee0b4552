/-! A use, on both sides (with and without a law; by wip/whole/tpl) -/
section
variable {n n' : Nat} {m m' m1 w w' w0 kk kq xx tt tx : bS} {z : Nat → Nat} {a b' : Nat → Int} {o p f s N k i h g j T b c M x y q : Nat} {t : Int} {v : Nat} {cd sp : Nat → Bool}
theorem find0_in (X : GX z w (m.2 0) T) (ho : o < 4) (hp : p < 32) (hs : s < 64) (hsl : slt w o p = s) (hn : 100 ≤ n) : ∃ k1, K0_findRoom tt n (kk, w, xx) o p = some (1, (k1, w, xx)) ∧ Kk kk k1 ∧ k1.1 4 = 0 ∧ k1.1 5 = (s : Int) ∧ k1.1 7 = -1 ∧ k1.1 6 = ((frm w (32 * o + p) : Nat) : Int) := by
  have I := X.1.2.1
  obtain ⟨e4, e3, _, hh, _⟩ := I.1 s hs
  have hc : hvs w (32 * o + p) = s := hsl
  have hin : inH w (32 * o + p) s := by rw [← hc]; exact hvs_in (by rw [hc]; exact hs)
  have i1 := hin.1
  have i2 := hin.2
  obtain ⟨a1, a2, a3⟩ := I.at hs (by omega)
  have hf : frm w (32 * o + p) = s + (32 * o + p - hom w s) := by unfold frm; rw [hc]
  refine ⟨bI (bI (bI (bI kk 4 0) 7 (-1)) 5 (s : Int)) 6 ((frm w (32 * o + p) : Nat) : Int), ?_, (((Kk.bI (by omega)).tr (Kk.bI (by omega))).tr (Kk.bI (by omega))).tr (Kk.bI (by omega)), ?_, ?_, ?_, bI_e⟩
  · unfold K0_findRoom
    dsimp only
    rw [bb_s (W_slotOf_ok I ho hp (by omega)), hc, if_pos hs, if_neg (by omega), if_pos (by omega), Int.toNat_natCast, e3, hm32 hh, pfr_w hs hp (h := hom w s % 32) (f := frm w (32 * o + p)) (by omega) (by omega)]
  · rw [bI_1 (by omega), bI_1 (by omega), bI_1 (by omega), bI_e]
  · rw [bI_1 (by omega), bI_e]
  · rw [bI_1 (by omega), bI_1 (by omega), bI_e]
/-- a fault of a page that is kept nowhere, thought through on both sides -/
theorem find0_out (X : GX z w (m.2 0) T) (hto : TO z tt (m.2 0)) (L : LW (K0_wanted tt) (K0_letsGo tt) m w) (P : PN kq m w) (ho : o < 4) (hp : p < 32) (hno : ¬ hvs w (32 * o + p) < 64) : ((∀ (n : Nat) (kk xx : bS), 1200 ≤ n → kk.1 3 = kq.1 3 → ∃ k1 xx', K0_findRoom tt n (kk, w, xx) o p = some (0, (k1, w, xx')) ∧ Kk kk k1) ∧ ∀ (n : Nat) (m' : bS), 1200 ≤ n → Mq m m' → ∃ m1, R_manyFor n m' o p = some (-1, m1) ∧ Mq m m1) ∨ ∃ M s : Nat, FIT z w o p M s ∧ (∀ (n : Nat) (kk xx : bS), 1200 ≤ n → kk.1 3 = kq.1 3 → ∃ k1 xx', K0_findRoom tt n (kk, w, xx) o p = some (1, (k1, w, xx')) ∧ Kk kk k1 ∧ PL w p M s k1) ∧ (∀ (n : Nat) (m' : bS), 1200 ≤ n → Mq m m' → ∃ m1, R_manyFor n m' o p = some ((M : Int), m1) ∧ Mq m m1) ∧ ∀ (n : Nat) (m' : bS), 1200 ≤ n → Mq m m' → ¬ lo w M < 64 / M → ∃ m1, R_victimFor n m' M = some ((s : Int), m1) ∧ Mq m m1 := by
  have I := X.1.2.1
  obtain ⟨v, ⟨v0, v00⟩, v1, v2⟩ := L.1 o p ho hp
  have H : RoomAt0 z tt kq m w o p v 16 := RoomAt0_s X hto L P ho hp (Or.inr (Or.inr rfl)) (RoomAt0_s (N := 4) X hto L P ho hp (Or.inr (Or.inl rfl)) (RoomAt0_s (N := 1) X hto L P ho hp (Or.inl rfl) RoomAt0_0))
  have kst : ∀ (n : Nat) (kk xx : bS), 1200 ≤ n → ∃ x1, K0_findRoom tt n (kk, w, xx) o p = K0_findRoom_87 tt n (bI (bI (bI kk 4 0) 7 (-1)) 5 (-1), w, x1) o p v (rvb w o 64) 16 := fun n kk xx hn => by
    obtain ⟨x1, q1⟩ := v1 n (bI (bI (bI kk 4 0) 7 (-1)) 5 (-1)) xx (by omega)
    refine ⟨x1, ?_⟩
    unfold K0_findRoom
    dsimp only
    rw [bb_s (W_slotOf_ok I ho hp (by omega)), if_neg hno, if_pos rfl, bb_s q1]
    dsimp only
    rw [bb_s (W_reservedBits_ok I ho (by omega))]
  have rst : ∀ (n : Nat) (m' : bS), 1200 ≤ n → Mq m m' → ∃ m1, R_manyFor n m' o p = R_manyFor_17 n m1 o p v 16 ∧ Mq m m1 := fun n m' hn hm => by
    obtain ⟨m1, q1, q2⟩ := v2 n m' (by omega) hm
    refine ⟨m1, ?_, q2⟩
    unfold R_manyFor
    rw [hm.ar, bb_s q1]
  have e3 : ∀ kk : bS, (bI (bI (bI kk 4 0) 7 (-1)) 5 (-1)).1 3 = kk.1 3 := fun kk => by rw [bI_1 (by omega), bI_1 (by omega), bI_1 (by omega)]
  have e7 : ∀ kk : bS, (bI (bI (bI kk 4 0) 7 (-1)) 5 (-1)).1 7 = -1 := fun kk => by rw [bI_1 (by omega), bI_e]
  have kb : ∀ kk : bS, Kk kk (bI (bI (bI kk 4 0) 7 (-1)) 5 (-1)) := fun kk => ((Kk.bI (by omega)).tr (Kk.bI (by omega))).tr (Kk.bI (by omega))
  rcases H with ⟨h1, h2⟩ | ⟨M, s, h0, h1, h2, h3⟩
  · refine Or.inl ⟨fun n kk xx hn q3 => ?_, fun n m' hn hm => ?_⟩
    · obtain ⟨x1, q1⟩ := kst n kk xx hn
      obtain ⟨k1, x2, q4, q5⟩ := h1 n _ x1 (by omega) ((e3 kk).trans q3) (e7 kk)
      exact ⟨k1, x2, q1.trans q4, (kb kk).tr q5⟩
    · obtain ⟨m1, q1, q2⟩ := rst n m' hn hm
      obtain ⟨m2, q4, q5⟩ := h2 n m1 (by omega) q2
      exact ⟨m2, q1.trans q4, q5⟩
  · refine Or.inr ⟨M, s, h0, fun n kk xx hn q3 => ?_, fun n m' hn hm => ?_, fun n m' hn hm => h3 n m' (by omega) hm⟩
    · obtain ⟨x1, q1⟩ := kst n kk xx hn
      obtain ⟨k1, x2, q4, q5, q6⟩ := h1 n _ x1 (by omega) ((e3 kk).trans q3) (e7 kk)
      exact ⟨k1, x2, q1.trans q4, (kb kk).tr q5, q6⟩
    · obtain ⟨m1, q1, q2⟩ := rst n m' hn hm
      obtain ⟨m2, q4, q5⟩ := h2 n m1 (by omega) q2
      exact ⟨m2, q1.trans q4, q5⟩
theorem use290_ok (X : GX z w (m.2 0) T) (hT1 : T + 1 < 131072) (ho : o < 4) (hp : p < 32) (th : thr w o p = true) (hn : 100 ≤ n) : K0_use_29 tt n (kk, w, xx) o p = some (((frm w (32 * o + p) : Nat) : Int), (kk, usw w (32 * o + p) T, xx)) := by
  obtain ⟨R, I, T', J, hT, hT2⟩ := id X.1
  have Y := GX_use X hT1 ho hp
  have e3 : (usw w (32 * o + p) T).2 3 = w.2 3 := usw_2 (by omega)
  have e4 : (usw w (32 * o + p) T).2 4 = w.2 4 := usw_2 (by omega)
  have th' : thr (usw w (32 * o + p) T) o p = true := by unfold thr; rw [usw_2 (by omega)]; exact th
  have fo := W_frameOf_frm (n := n) Y.1.2.1 Y.1.2.2.1 ho hp th' (by omega)
  rw [frm_same e3 e4] at fo
  unfold K0_use_29
  dsimp only
  rw [hT, wob ho hp, wad1 (by omega), if_pos (by omega)]
  exact bb_s fo
/-- a use, on both sides -/
theorem use0_ok (X : GX z w (m.2 0) T) (hT1 : T + 1 < 131072) (hto : TO z tt (m.2 0)) (L : LW (K0_wanted tt) (K0_letsGo tt) m w) (P : PN kk m w) (ho : o < 4) (hp : p < 32) (hz : p < z o) (hn : 1300 ≤ n) (hn' : 1300 ≤ n') : (∃ k1 xx' m1, K0_use tt n (kk, w, xx) o p = some (-1, (k1, w, xx')) ∧ Kk kk k1 ∧ R_canTouch n' m o p = some (0, m1) ∧ Mq m m1) ∨ ∃ w' a' k1 xx' m1 m2, K0_use tt n (kk, w, xx) o p = some (((frm w' (32 * o + p) : Nat) : Int), (k1, w', xx')) ∧ Kk kk k1 ∧ (R_canTouch n' m o p = some (1, m1) ∧ Mq m m1) ∧ (R_touchNow n' m o p = some (((frm w' (32 * o + p) : Nat) : Int), m2) ∧ Mq (bC m 0 a') m2) ∧ GX z w' a' (T + 1) ∧ Ku w w' o p ∧ Ra (m.2 0) a' := by
  obtain ⟨R, I, T', J, hT, hT2⟩ := id X.1
  have ut : ∀ w : bS, thr (usw w (32 * o + p) T) = thr w := fun w => by funext x y; unfold thr; rw [usw_2 (by omega)]
  have uf : ∀ w : bS, frm (usw w (32 * o + p) T) = frm w := fun w => frm_same (usw_2 (by omega)) (usw_2 (by omega))
  have ur : ∀ a : Nat → Int, Ra a (usr a (32 * o + p) T) := fun a i hi => usr_o (by omega) (by omega) (by omega)
  cases th : thr w o p
  · -- absent
    -- what is left once the page has come
    have fin : ∀ (k1 x1 w1 m1 : bS) (a1 : Nat → Int), GX z w1 a1 T → Kc w w1 o p → Ra (m.2 0) a1 → Kk kk k1 → Mq m m1 → K0_findRoom tt n (kk, w, xx) o p = some (1, (k1, w, x1)) → K_bringIn tt n (k1, w, x1) o p = some (0, (k1, w1, x1)) → R_comeNow n' m o p = some (0, bC m1 0 a1) → (∃ m1, R_canTouch n' m o p = some (1, m1) ∧ Mq m m1) → ∃ w' a' k1 xx' m1 m2, K0_use tt n (kk, w, xx) o p = some (((frm w' (32 * o + p) : Nat) : Int), (k1, w', xx')) ∧ Kk kk k1 ∧ (R_canTouch n' m o p = some (1, m1) ∧ Mq m m1) ∧ (R_touchNow n' m o p = some (((frm w' (32 * o + p) : Nat) : Int), m2) ∧ Mq (bC m 0 a') m2) ∧ GX z w' a' (T + 1) ∧ Ku w w' o p ∧ Ra (m.2 0) a' := fun k1 x1 w1 m1 a1 X1 C1 R1 K1 Q1 e1 e2 e3 ⟨mc, c1, c2⟩ => by
      have th1 : thr w1 o p = true := by rw [C1.2.2.1 o p ho hp, if_pos ⟨rfl, rfl⟩]
      have X1' : GX z w1 ((bC m1 0 a1).2 0) T := X1
      have t1 := touch15_ok (n := n') X1' hT1 ho hp th1
      have u1 := use290_ok (tt := tt) (kk := k1) (xx := x1) (n := n) X1' hT1 ho hp th1 (by omega)
      refine ⟨usw w1 (32 * o + p) T, usr a1 (32 * o + p) T, k1, x1, mc, bC m1 0 (usr a1 (32 * o + p) T), ?_, K1, ⟨c1, c2⟩, ⟨?_, Q1.bCC⟩, GX_use X1 hT1 ho hp, ⟨⟨?_, ?_, ?_, ?_⟩, ?_, ?_, ?_⟩, R1.tr (ur a1)⟩
      · unfold K0_use
        dsimp only
        rw [bb_s (W_isThere_ok n w ho hp), i01, th, if_neg (by decide), bb_s e1, if_neg (by decide), bb_s e2, uf]
        exact u1
      · unfold R_touchNow
        rw [bb_s (R_isThere_ok n' R.2.1 ho hp), i01, th, if_neg (by decide), bb_s e3, uf]
        refine t1.trans ?_
        rw [bC_C]
        rfl
      · rw [usw_2 (by omega)]; exact C1.1 0 (by omega) (by omega) (by omega) (by omega) (by omega) (by omega) (by omega)
      · rw [usw_2 (by omega)]; exact C1.1 1 (by omega) (by omega) (by omega) (by omega) (by omega) (by omega) (by omega)
      · rw [usw_2 (by omega)]; exact C1.1 7 (by omega) (by omega) (by omega) (by omega) (by omega) (by omega) (by omega)
      · rw [usw_2 (by omega)]; exact C1.1 11 (by omega) (by omega) (by omega) (by omega) (by omega) (by omega) (by omega)
      · intro j h12 h14; rw [usw_1 h14]; exact C1.2.1 j h12
      · rw [ut]; exact C1.2.2.1
      · rw [uf]; exact C1.2.2.2
    by_cases hs : hvs w (32 * o + p) < 64
    · obtain ⟨k1, f1, f2, f3, f4, f5, _⟩ := find0_in (tt := tt) (kk := kk) (xx := xx) (n := n) X ho hp hs rfl (by omega)
      obtain ⟨w1, a1, b1, b2, b3, b4, b5⟩ := bring_in (tt := tt) (kk := k1) (xx := xx) (n := n) (n' := n') X ho hp th hs rfl hz f3 f4 f5 (by omega) (by omega)
      refine Or.inr (fin k1 xx w1 m a1 b3 b4 b5 f2 Mq.rf f1 b1 b2 ⟨m, ?_, Mq.rf⟩)
      unfold R_canTouch
      rw [bb_s (R_pfr n' X.1 ho hp), if_pos hs, if_neg (by omega)]
    · have ct : R_canTouch n' m o p = (bb (R_manyFor n' m o p) fun v2 s2 => (if v2 = (-1) then some (0, s2) else some (1, s2))) := by
        unfold R_canTouch
        rw [bb_s (R_pfr n' X.1 ho hp), if_neg hs, if_pos rfl]
      rcases find0_out X hto L P ho hp hs with ⟨h1, h2⟩ | ⟨M, s, ⟨⟨hM, hz2, hop⟩, h0⟩, h1, h2, h3⟩
      · obtain ⟨k1, x1, q1, q2⟩ := h1 n kk xx (by omega) rfl
        obtain ⟨m1, r1, r2⟩ := h2 n' m (by omega) Mq.rf
        refine Or.inl ⟨k1, x1, m1, ?_, q2, ?_, r2⟩
        · unfold K0_use
          dsimp only
          rw [bb_s (W_isThere_ok n w ho hp), i01, th, if_neg (by decide), bb_s q1, if_pos rfl]
        · rw [ct, bb_s r1, if_pos rfl]
      · obtain ⟨k1, x1, q1, q2, q3, q4, q5⟩ := h1 n kk xx (by omega) rfl
        obtain ⟨m1, r1, r2⟩ := h2 n' m (by omega) Mq.rf
        have X1 : GX z w (m1.2 0) T := by rw [r2.ar]; exact X
        have ct' : ∃ m1, R_canTouch n' m o p = some (1, m1) ∧ Mq m m1 := ⟨m1, by rw [ct, bb_s r1, if_neg (by omega)], r2⟩
        have cn1 : R_comeNow n' m o p = (bb (R_lowestFree n' m1 M) fun v3 s3 => (if v3 = (-1) then (bb (R_victimFor n' s3 M) fun v4 s4 => (bb (R_breakNow n' s4 v4) fun v5 s5 => R_comeNow_36 n' s5 o p M)) else R_comeNow_36 n' s3 o p M)) := by
          unfold R_comeNow
          rw [bb_s (R_pfr n' X.1 ho hp), if_neg hs, if_pos rfl, bb_s r1]
        have lf : R_lowestFree n' m1 M = some ((if lo w M < 64 / M then ((lo w M * M : Nat) : Int) else -1), m1) := R_lowestFree_ok X1.1.2.1 X1.1.1.1 hM (by omega)
        rcases q5 with ⟨p1, p2, p3⟩ | ⟨p1, p2, p3⟩
        · obtain ⟨w1, a1, b1, b2, b3, b4, b5⟩ := bring_free (tt := tt) (kk := k1) (xx := x1) (n := n) (n' := n') X1 ho hp th hM hz2 hop p1 q3 p3 (by omega) (by omega)
          refine Or.inr (fin k1 x1 w1 m1 a1 b3 b4 (by rw [← r2.ar]; exact b5) q2 r2 q1 ?_ ?_ ct')
          · unfold K_bringIn
            dsimp only
            rw [if_pos p2]; exact b1
          · rw [cn1, bb_s lf, if_pos p1, if_neg (by omega)]; exact b2
        · obtain ⟨_, s1, s2, s3, s4, s5⟩ := h0.resolve_left p1
          obtain ⟨m2, v1, v2⟩ := h3 n' m1 (by omega) r2 p1
          have X2 : GX z w (m2.2 0) T := by rw [v2.ar]; exact X
          obtain ⟨w1, a1, b1, b2, b3, b4, b5⟩ := bring_break (tt := tt) (kk := k1) (xx := x1) (n := n) (n' := n') X2 ho hp th hM hz2 hop p1 s1 s2 s3 s4 s5 q3 p3 p2 (by omega) (by omega)
          refine Or.inr (fin k1 x1 w1 m2 a1 b3 b4 (by rw [← v2.ar]; exact b5) q2 v2 q1 b1 ?_ ct')
          rw [cn1, bb_s lf, if_neg p1, if_pos rfl, bb_s v1]; exact b2
  · refine Or.inr ⟨usw w (32 * o + p) T, usr (m.2 0) (32 * o + p) T, kk, xx, m, bC m 0 (usr (m.2 0) (32 * o + p) T), ?_, Kk.rf, ⟨?_, Mq.rf⟩, ⟨?_, Mq.rf⟩, GX_use X hT1 ho hp, ⟨⟨usw_2 (by omega), usw_2 (by omega), usw_2 (by omega), usw_2 (by omega)⟩, fun j _ h14 => usw_1 h14, fun o' q' ho' hq' => ?_, fun o' q' ho' hq' _ => by rw [uf]⟩, ur _⟩
    · unfold K0_use
      dsimp only
      rw [bb_s (W_isThere_ok n w ho hp), i01, th, if_pos rfl, uf]
      exact use290_ok X hT1 ho hp th (by omega)
    · have hc : hvs w (32 * o + p) < 64 := T' o p ho hp th
      unfold R_canTouch
      rw [bb_s (R_pfr n' X.1 ho hp), if_pos hc, if_neg (by omega)]
    · unfold R_touchNow
      rw [bb_s (R_isThere_ok n' R.2.1 ho hp), i01, th, if_pos rfl, uf]
      exact touch15_ok X hT1 ho hp th
    · rw [ut]
      by_cases c : o' = o ∧ q' = p
      · rw [if_pos c, c.1, c.2]; exact th
      · rw [if_neg c]
theorem find1_in (X : GX z w (m.2 0) T) (ho : o < 4) (hp : p < 32) (hs : s < 64) (hsl : slt w o p = s) (hn : 100 ≤ n) : ∃ k1, K1_findRoom tt tx n (kk, w, xx) o p = some (1, (k1, w, xx)) ∧ Kk kk k1 ∧ k1.1 4 = 0 ∧ k1.1 5 = (s : Int) ∧ k1.1 7 = -1 ∧ k1.1 6 = ((frm w (32 * o + p) : Nat) : Int) := by
  have I := X.1.2.1
  obtain ⟨e4, e3, _, hh, _⟩ := I.1 s hs
  have hc : hvs w (32 * o + p) = s := hsl
  have hin : inH w (32 * o + p) s := by rw [← hc]; exact hvs_in (by rw [hc]; exact hs)
  have i1 := hin.1
  have i2 := hin.2
  obtain ⟨a1, a2, a3⟩ := I.at hs (by omega)
  have hf : frm w (32 * o + p) = s + (32 * o + p - hom w s) := by unfold frm; rw [hc]
  refine ⟨bI (bI (bI (bI kk 4 0) 7 (-1)) 5 (s : Int)) 6 ((frm w (32 * o + p) : Nat) : Int), ?_, (((Kk.bI (by omega)).tr (Kk.bI (by omega))).tr (Kk.bI (by omega))).tr (Kk.bI (by omega)), ?_, ?_, ?_, bI_e⟩
  · unfold K1_findRoom
    dsimp only
    rw [bb_s (W_slotOf_ok I ho hp (by omega)), hc, if_pos hs, if_neg (by omega), if_pos (by omega), Int.toNat_natCast, e3, hm32 hh, pfr_w hs hp (h := hom w s % 32) (f := frm w (32 * o + p)) (by omega) (by omega)]
  · rw [bI_1 (by omega), bI_1 (by omega), bI_1 (by omega), bI_e]
  · rw [bI_1 (by omega), bI_e]
  · rw [bI_1 (by omega), bI_1 (by omega), bI_e]
/-- a fault of a page that is kept nowhere, thought through on both sides -/
theorem find1_out (X : GX z w (m.2 0) T) (hto : TO z tt (m.2 0)) (L : LW (K1_wanted tt tx) (K1_letsGo tt tx) m w) (P : PN kq m w) (ho : o < 4) (hp : p < 32) (hno : ¬ hvs w (32 * o + p) < 64) : ((∀ (n : Nat) (kk xx : bS), 1200 ≤ n → kk.1 3 = kq.1 3 → ∃ k1 xx', K1_findRoom tt tx n (kk, w, xx) o p = some (0, (k1, w, xx')) ∧ Kk kk k1) ∧ ∀ (n : Nat) (m' : bS), 1200 ≤ n → Mq m m' → ∃ m1, R_manyFor n m' o p = some (-1, m1) ∧ Mq m m1) ∨ ∃ M s : Nat, FIT z w o p M s ∧ (∀ (n : Nat) (kk xx : bS), 1200 ≤ n → kk.1 3 = kq.1 3 → ∃ k1 xx', K1_findRoom tt tx n (kk, w, xx) o p = some (1, (k1, w, xx')) ∧ Kk kk k1 ∧ PL w p M s k1) ∧ (∀ (n : Nat) (m' : bS), 1200 ≤ n → Mq m m' → ∃ m1, R_manyFor n m' o p = some ((M : Int), m1) ∧ Mq m m1) ∧ ∀ (n : Nat) (m' : bS), 1200 ≤ n → Mq m m' → ¬ lo w M < 64 / M → ∃ m1, R_victimFor n m' M = some ((s : Int), m1) ∧ Mq m m1 := by
  have I := X.1.2.1
  obtain ⟨v, ⟨v0, v00⟩, v1, v2⟩ := L.1 o p ho hp
  have H : RoomAt1 z tt tx kq m w o p v 16 := RoomAt1_s X hto L P ho hp (Or.inr (Or.inr rfl)) (RoomAt1_s (N := 4) X hto L P ho hp (Or.inr (Or.inl rfl)) (RoomAt1_s (N := 1) X hto L P ho hp (Or.inl rfl) RoomAt1_0))
  have kst : ∀ (n : Nat) (kk xx : bS), 1200 ≤ n → ∃ x1, K1_findRoom tt tx n (kk, w, xx) o p = K1_findRoom_87 tt tx n (bI (bI (bI kk 4 0) 7 (-1)) 5 (-1), w, x1) o p v (rvb w o 64) 16 := fun n kk xx hn => by
    obtain ⟨x1, q1⟩ := v1 n (bI (bI (bI kk 4 0) 7 (-1)) 5 (-1)) xx (by omega)
    refine ⟨x1, ?_⟩
    unfold K1_findRoom
    dsimp only
    rw [bb_s (W_slotOf_ok I ho hp (by omega)), if_neg hno, if_pos rfl, bb_s q1]
    dsimp only
    rw [bb_s (W_reservedBits_ok I ho (by omega))]
  have rst : ∀ (n : Nat) (m' : bS), 1200 ≤ n → Mq m m' → ∃ m1, R_manyFor n m' o p = R_manyFor_17 n m1 o p v 16 ∧ Mq m m1 := fun n m' hn hm => by
    obtain ⟨m1, q1, q2⟩ := v2 n m' (by omega) hm
    refine ⟨m1, ?_, q2⟩
    unfold R_manyFor
    rw [hm.ar, bb_s q1]
  have e3 : ∀ kk : bS, (bI (bI (bI kk 4 0) 7 (-1)) 5 (-1)).1 3 = kk.1 3 := fun kk => by rw [bI_1 (by omega), bI_1 (by omega), bI_1 (by omega)]
  have e7 : ∀ kk : bS, (bI (bI (bI kk 4 0) 7 (-1)) 5 (-1)).1 7 = -1 := fun kk => by rw [bI_1 (by omega), bI_e]
  have kb : ∀ kk : bS, Kk kk (bI (bI (bI kk 4 0) 7 (-1)) 5 (-1)) := fun kk => ((Kk.bI (by omega)).tr (Kk.bI (by omega))).tr (Kk.bI (by omega))
  rcases H with ⟨h1, h2⟩ | ⟨M, s, h0, h1, h2, h3⟩
  · refine Or.inl ⟨fun n kk xx hn q3 => ?_, fun n m' hn hm => ?_⟩
    · obtain ⟨x1, q1⟩ := kst n kk xx hn
      obtain ⟨k1, x2, q4, q5⟩ := h1 n _ x1 (by omega) ((e3 kk).trans q3) (e7 kk)
      exact ⟨k1, x2, q1.trans q4, (kb kk).tr q5⟩
    · obtain ⟨m1, q1, q2⟩ := rst n m' hn hm
      obtain ⟨m2, q4, q5⟩ := h2 n m1 (by omega) q2
      exact ⟨m2, q1.trans q4, q5⟩
  · refine Or.inr ⟨M, s, h0, fun n kk xx hn q3 => ?_, fun n m' hn hm => ?_, fun n m' hn hm => h3 n m' (by omega) hm⟩
    · obtain ⟨x1, q1⟩ := kst n kk xx hn
      obtain ⟨k1, x2, q4, q5, q6⟩ := h1 n _ x1 (by omega) ((e3 kk).trans q3) (e7 kk)
      exact ⟨k1, x2, q1.trans q4, (kb kk).tr q5, q6⟩
    · obtain ⟨m1, q1, q2⟩ := rst n m' hn hm
      obtain ⟨m2, q4, q5⟩ := h2 n m1 (by omega) q2
      exact ⟨m2, q1.trans q4, q5⟩
theorem use291_ok (X : GX z w (m.2 0) T) (hT1 : T + 1 < 131072) (ho : o < 4) (hp : p < 32) (th : thr w o p = true) (hn : 100 ≤ n) : K1_use_29 tt tx n (kk, w, xx) o p = some (((frm w (32 * o + p) : Nat) : Int), (kk, usw w (32 * o + p) T, xx)) := by
  obtain ⟨R, I, T', J, hT, hT2⟩ := id X.1
  have Y := GX_use X hT1 ho hp
  have e3 : (usw w (32 * o + p) T).2 3 = w.2 3 := usw_2 (by omega)
  have e4 : (usw w (32 * o + p) T).2 4 = w.2 4 := usw_2 (by omega)
  have th' : thr (usw w (32 * o + p) T) o p = true := by unfold thr; rw [usw_2 (by omega)]; exact th
  have fo := W_frameOf_frm (n := n) Y.1.2.1 Y.1.2.2.1 ho hp th' (by omega)
  rw [frm_same e3 e4] at fo
  unfold K1_use_29
  dsimp only
  rw [hT, wob ho hp, wad1 (by omega), if_pos (by omega)]
  exact bb_s fo
/-- a use, on both sides -/
theorem use1_ok (X : GX z w (m.2 0) T) (hT1 : T + 1 < 131072) (hto : TO z tt (m.2 0)) (L : LW (K1_wanted tt tx) (K1_letsGo tt tx) m w) (P : PN kk m w) (ho : o < 4) (hp : p < 32) (hz : p < z o) (hn : 1300 ≤ n) (hn' : 1300 ≤ n') : (∃ k1 xx' m1, K1_use tt tx n (kk, w, xx) o p = some (-1, (k1, w, xx')) ∧ Kk kk k1 ∧ R_canTouch n' m o p = some (0, m1) ∧ Mq m m1) ∨ ∃ w' a' k1 xx' m1 m2, K1_use tt tx n (kk, w, xx) o p = some (((frm w' (32 * o + p) : Nat) : Int), (k1, w', xx')) ∧ Kk kk k1 ∧ (R_canTouch n' m o p = some (1, m1) ∧ Mq m m1) ∧ (R_touchNow n' m o p = some (((frm w' (32 * o + p) : Nat) : Int), m2) ∧ Mq (bC m 0 a') m2) ∧ GX z w' a' (T + 1) ∧ Ku w w' o p ∧ Ra (m.2 0) a' := by
  obtain ⟨R, I, T', J, hT, hT2⟩ := id X.1
  have ut : ∀ w : bS, thr (usw w (32 * o + p) T) = thr w := fun w => by funext x y; unfold thr; rw [usw_2 (by omega)]
  have uf : ∀ w : bS, frm (usw w (32 * o + p) T) = frm w := fun w => frm_same (usw_2 (by omega)) (usw_2 (by omega))
  have ur : ∀ a : Nat → Int, Ra a (usr a (32 * o + p) T) := fun a i hi => usr_o (by omega) (by omega) (by omega)
  cases th : thr w o p
  · -- absent
    -- what is left once the page has come
    have fin : ∀ (k1 x1 w1 m1 : bS) (a1 : Nat → Int), GX z w1 a1 T → Kc w w1 o p → Ra (m.2 0) a1 → Kk kk k1 → Mq m m1 → K1_findRoom tt tx n (kk, w, xx) o p = some (1, (k1, w, x1)) → K_bringIn tt n (k1, w, x1) o p = some (0, (k1, w1, x1)) → R_comeNow n' m o p = some (0, bC m1 0 a1) → (∃ m1, R_canTouch n' m o p = some (1, m1) ∧ Mq m m1) → ∃ w' a' k1 xx' m1 m2, K1_use tt tx n (kk, w, xx) o p = some (((frm w' (32 * o + p) : Nat) : Int), (k1, w', xx')) ∧ Kk kk k1 ∧ (R_canTouch n' m o p = some (1, m1) ∧ Mq m m1) ∧ (R_touchNow n' m o p = some (((frm w' (32 * o + p) : Nat) : Int), m2) ∧ Mq (bC m 0 a') m2) ∧ GX z w' a' (T + 1) ∧ Ku w w' o p ∧ Ra (m.2 0) a' := fun k1 x1 w1 m1 a1 X1 C1 R1 K1 Q1 e1 e2 e3 ⟨mc, c1, c2⟩ => by
      have th1 : thr w1 o p = true := by rw [C1.2.2.1 o p ho hp, if_pos ⟨rfl, rfl⟩]
      have X1' : GX z w1 ((bC m1 0 a1).2 0) T := X1
      have t1 := touch15_ok (n := n') X1' hT1 ho hp th1
      have u1 := use291_ok (tt := tt) (tx := tx) (kk := k1) (xx := x1) (n := n) X1' hT1 ho hp th1 (by omega)
      refine ⟨usw w1 (32 * o + p) T, usr a1 (32 * o + p) T, k1, x1, mc, bC m1 0 (usr a1 (32 * o + p) T), ?_, K1, ⟨c1, c2⟩, ⟨?_, Q1.bCC⟩, GX_use X1 hT1 ho hp, ⟨⟨?_, ?_, ?_, ?_⟩, ?_, ?_, ?_⟩, R1.tr (ur a1)⟩
      · unfold K1_use
        dsimp only
        rw [bb_s (W_isThere_ok n w ho hp), i01, th, if_neg (by decide), bb_s e1, if_neg (by decide), bb_s e2, uf]
        exact u1
      · unfold R_touchNow
        rw [bb_s (R_isThere_ok n' R.2.1 ho hp), i01, th, if_neg (by decide), bb_s e3, uf]
        refine t1.trans ?_
        rw [bC_C]
        rfl
      · rw [usw_2 (by omega)]; exact C1.1 0 (by omega) (by omega) (by omega) (by omega) (by omega) (by omega) (by omega)
      · rw [usw_2 (by omega)]; exact C1.1 1 (by omega) (by omega) (by omega) (by omega) (by omega) (by omega) (by omega)
      · rw [usw_2 (by omega)]; exact C1.1 7 (by omega) (by omega) (by omega) (by omega) (by omega) (by omega) (by omega)
      · rw [usw_2 (by omega)]; exact C1.1 11 (by omega) (by omega) (by omega) (by omega) (by omega) (by omega) (by omega)
      · intro j h12 h14; rw [usw_1 h14]; exact C1.2.1 j h12
      · rw [ut]; exact C1.2.2.1
      · rw [uf]; exact C1.2.2.2
    by_cases hs : hvs w (32 * o + p) < 64
    · obtain ⟨k1, f1, f2, f3, f4, f5, _⟩ := find1_in (tt := tt) (tx := tx) (kk := kk) (xx := xx) (n := n) X ho hp hs rfl (by omega)
      obtain ⟨w1, a1, b1, b2, b3, b4, b5⟩ := bring_in (tt := tt) (kk := k1) (xx := xx) (n := n) (n' := n') X ho hp th hs rfl hz f3 f4 f5 (by omega) (by omega)
      refine Or.inr (fin k1 xx w1 m a1 b3 b4 b5 f2 Mq.rf f1 b1 b2 ⟨m, ?_, Mq.rf⟩)
      unfold R_canTouch
      rw [bb_s (R_pfr n' X.1 ho hp), if_pos hs, if_neg (by omega)]
    · have ct : R_canTouch n' m o p = (bb (R_manyFor n' m o p) fun v2 s2 => (if v2 = (-1) then some (0, s2) else some (1, s2))) := by
        unfold R_canTouch
        rw [bb_s (R_pfr n' X.1 ho hp), if_neg hs, if_pos rfl]
      rcases find1_out X hto L P ho hp hs with ⟨h1, h2⟩ | ⟨M, s, ⟨⟨hM, hz2, hop⟩, h0⟩, h1, h2, h3⟩
      · obtain ⟨k1, x1, q1, q2⟩ := h1 n kk xx (by omega) rfl
        obtain ⟨m1, r1, r2⟩ := h2 n' m (by omega) Mq.rf
        refine Or.inl ⟨k1, x1, m1, ?_, q2, ?_, r2⟩
        · unfold K1_use
          dsimp only
          rw [bb_s (W_isThere_ok n w ho hp), i01, th, if_neg (by decide), bb_s q1, if_pos rfl]
        · rw [ct, bb_s r1, if_pos rfl]
      · obtain ⟨k1, x1, q1, q2, q3, q4, q5⟩ := h1 n kk xx (by omega) rfl
        obtain ⟨m1, r1, r2⟩ := h2 n' m (by omega) Mq.rf
        have X1 : GX z w (m1.2 0) T := by rw [r2.ar]; exact X
        have ct' : ∃ m1, R_canTouch n' m o p = some (1, m1) ∧ Mq m m1 := ⟨m1, by rw [ct, bb_s r1, if_neg (by omega)], r2⟩
        have cn1 : R_comeNow n' m o p = (bb (R_lowestFree n' m1 M) fun v3 s3 => (if v3 = (-1) then (bb (R_victimFor n' s3 M) fun v4 s4 => (bb (R_breakNow n' s4 v4) fun v5 s5 => R_comeNow_36 n' s5 o p M)) else R_comeNow_36 n' s3 o p M)) := by
          unfold R_comeNow
          rw [bb_s (R_pfr n' X.1 ho hp), if_neg hs, if_pos rfl, bb_s r1]
        have lf : R_lowestFree n' m1 M = some ((if lo w M < 64 / M then ((lo w M * M : Nat) : Int) else -1), m1) := R_lowestFree_ok X1.1.2.1 X1.1.1.1 hM (by omega)
        rcases q5 with ⟨p1, p2, p3⟩ | ⟨p1, p2, p3⟩
        · obtain ⟨w1, a1, b1, b2, b3, b4, b5⟩ := bring_free (tt := tt) (kk := k1) (xx := x1) (n := n) (n' := n') X1 ho hp th hM hz2 hop p1 q3 p3 (by omega) (by omega)
          refine Or.inr (fin k1 x1 w1 m1 a1 b3 b4 (by rw [← r2.ar]; exact b5) q2 r2 q1 ?_ ?_ ct')
          · unfold K_bringIn
            dsimp only
            rw [if_pos p2]; exact b1
          · rw [cn1, bb_s lf, if_pos p1, if_neg (by omega)]; exact b2
        · obtain ⟨_, s1, s2, s3, s4, s5⟩ := h0.resolve_left p1
          obtain ⟨m2, v1, v2⟩ := h3 n' m1 (by omega) r2 p1
          have X2 : GX z w (m2.2 0) T := by rw [v2.ar]; exact X
          obtain ⟨w1, a1, b1, b2, b3, b4, b5⟩ := bring_break (tt := tt) (kk := k1) (xx := x1) (n := n) (n' := n') X2 ho hp th hM hz2 hop p1 s1 s2 s3 s4 s5 q3 p3 p2 (by omega) (by omega)
          refine Or.inr (fin k1 x1 w1 m2 a1 b3 b4 (by rw [← v2.ar]; exact b5) q2 v2 q1 b1 ?_ ct')
          rw [cn1, bb_s lf, if_neg p1, if_pos rfl, bb_s v1]; exact b2
  · refine Or.inr ⟨usw w (32 * o + p) T, usr (m.2 0) (32 * o + p) T, kk, xx, m, bC m 0 (usr (m.2 0) (32 * o + p) T), ?_, Kk.rf, ⟨?_, Mq.rf⟩, ⟨?_, Mq.rf⟩, GX_use X hT1 ho hp, ⟨⟨usw_2 (by omega), usw_2 (by omega), usw_2 (by omega), usw_2 (by omega)⟩, fun j _ h14 => usw_1 h14, fun o' q' ho' hq' => ?_, fun o' q' ho' hq' _ => by rw [uf]⟩, ur _⟩
    · unfold K1_use
      dsimp only
      rw [bb_s (W_isThere_ok n w ho hp), i01, th, if_pos rfl, uf]
      exact use291_ok X hT1 ho hp th (by omega)
    · have hc : hvs w (32 * o + p) < 64 := T' o p ho hp th
      unfold R_canTouch
      rw [bb_s (R_pfr n' X.1 ho hp), if_pos hc, if_neg (by omega)]
    · unfold R_touchNow
      rw [bb_s (R_isThere_ok n' R.2.1 ho hp), i01, th, if_pos rfl, uf]
      exact touch15_ok X hT1 ho hp th
    · rw [ut]
      by_cases c : o' = o ∧ q' = p
      · rw [if_pos c, c.1, c.2]; exact th
      · rw [if_neg c]
end
