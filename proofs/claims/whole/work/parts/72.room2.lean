/-! What a fault would do, on both sides: the loop over sizes (with and without a law; by wip/whole/tpl) -/
section
variable {n n' : Nat} {m m' m1 w w' w0 kk kq xx tt tx : bS} {z : Nat → Nat} {a b' : Nat → Int} {o p f s N k i h g j T b c M x y q : Nat} {t : Int} {v : Nat} {cd sp : Nat → Bool}
/-- the loop over sizes from N on, on both sides -/
def RoomAt0 (z : Nat → Nat) (tt kq m w : bS) (o p v N : Nat) : Prop := ((∀ (n : Nat) (kk xx : bS), 1110 + N ≤ n → kk.1 3 = kq.1 3 → kk.1 7 = -1 → ∃ k1 xx', K0_findRoom_87 tt n (kk, w, xx) o p v (rvb w o 64) N = some (0, (k1, w, xx')) ∧ Kk kk k1) ∧ ∀ (n : Nat) (m' : bS), 1110 + N ≤ n → Mq m m' → ∃ m1, R_manyFor_17 n m' o p v N = some (-1, m1) ∧ Mq m m1) ∨ ∃ M s : Nat, FIT z w o p M s ∧ (∀ (n : Nat) (kk xx : bS), 1110 + N ≤ n → kk.1 3 = kq.1 3 → kk.1 7 = -1 → ∃ k1 xx', K0_findRoom_87 tt n (kk, w, xx) o p v (rvb w o 64) N = some (1, (k1, w, xx')) ∧ Kk kk k1 ∧ PL w p M s k1) ∧ (∀ (n : Nat) (m' : bS), 1110 + N ≤ n → Mq m m' → ∃ m1, R_manyFor_17 n m' o p v N = some ((M : Int), m1) ∧ Mq m m1) ∧ ∀ (n : Nat) (m' : bS), 1110 ≤ n → Mq m m' → ¬ lo w M < 64 / M → ∃ m1, R_victimFor n m' M = some ((s : Int), m1) ∧ Mq m m1
theorem RoomAt0_0 : RoomAt0 z tt kq m w o p v 0 := by
  refine Or.inl ⟨fun n kk xx hn _ _ => ?_, fun n m' hn hm => ?_⟩
  · obtain ⟨n, rfl⟩ : ∃ y, n = y + 1 := ⟨n - 1, by omega⟩
    exact ⟨kk, xx, by rw [K0_findRoom_87, if_pos (by omega)], Kk.rf⟩
  · obtain ⟨n, rfl⟩ : ∃ y, n = y + 1 := ⟨n - 1, by omega⟩
    exact ⟨m', by rw [R_manyFor_17, if_pos (by omega)], hm⟩
/-- a size that is passed over -/
theorem RoomAt0_n (hN : isN N) (hk : ∀ (n : Nat) (kk xx : bS), 1110 + N ≤ n + 1 → kk.1 3 = kq.1 3 → kk.1 7 = -1 → ∃ k1 xx', K0_findRoom_87 tt (n + 1) (kk, w, xx) o p v (rvb w o 64) N = K0_findRoom_87 tt n (k1, w, xx') o p v (rvb w o 64) ((N / 4 : Nat) : Int) ∧ Kk kk k1 ∧ k1.1 7 = -1) (hr : ∀ (n : Nat) (m' : bS), 1110 + N ≤ n + 1 → Mq m m' → ∃ m1, R_manyFor_17 (n + 1) m' o p v N = R_manyFor_17 n m1 o p v ((N / 4 : Nat) : Int) ∧ Mq m m1) (H : RoomAt0 z tt kq m w o p v (N / 4)) : RoomAt0 z tt kq m w o p v N := by
  have hN0 : 0 < N := (isN_r hN).1
  rcases H with ⟨h1, h2⟩ | ⟨M, s, h0, h1, h2, h3⟩
  · refine Or.inl ⟨fun n kk xx hn e3 e7 => ?_, fun n m' hn hm => ?_⟩
    · obtain ⟨n, rfl⟩ : ∃ y, n = y + 1 := ⟨n - 1, by omega⟩
      obtain ⟨k1, x1, q1, q2, q3⟩ := hk n kk xx hn e3 e7
      obtain ⟨k2, x2, q4, q5⟩ := h1 n k1 x1 (by omega) ((q2 3 (by omega) (by omega) (by omega) (by omega)).trans e3) q3
      exact ⟨k2, x2, q1.trans q4, q2.tr q5⟩
    · obtain ⟨n, rfl⟩ : ∃ y, n = y + 1 := ⟨n - 1, by omega⟩
      obtain ⟨m1, q1, q2⟩ := hr n m' hn hm
      obtain ⟨m2, q4, q5⟩ := h2 n m1 (by omega) q2
      exact ⟨m2, q1.trans q4, q5⟩
  · refine Or.inr ⟨M, s, h0, fun n kk xx hn e3 e7 => ?_, fun n m' hn hm => ?_, h3⟩
    · obtain ⟨n, rfl⟩ : ∃ y, n = y + 1 := ⟨n - 1, by omega⟩
      obtain ⟨k1, x1, q1, q2, q3⟩ := hk n kk xx hn e3 e7
      obtain ⟨k2, x2, q4, q5, q6⟩ := h1 n k1 x1 (by omega) ((q2 3 (by omega) (by omega) (by omega) (by omega)).trans e3) q3
      exact ⟨k2, x2, q1.trans q4, q2.tr q5, q6⟩
    · obtain ⟨n, rfl⟩ : ∃ y, n = y + 1 := ⟨n - 1, by omega⟩
      obtain ⟨m1, q1, q2⟩ := hr n m' hn hm
      obtain ⟨m2, q4, q5⟩ := h2 n m1 (by omega) q2
      exact ⟨m2, q1.trans q4, q5⟩
theorem RoomAt0_s (X : GX z w (m.2 0) T) (hto : TO z tt (m.2 0)) (L : LW (K0_wanted tt) (K0_letsGo tt) m w) (P : PN kq m w) (ho : o < 4) (hp : p < 32) (hN : isN N) (H : RoomAt0 z tt kq m w o p v (N / 4)) : RoomAt0 z tt kq m w o p v N := by
  have G := X.1
  have I := G.2.1
  obtain ⟨hN0, hN16⟩ := isN_r hN
  obtain ⟨hz1, hz2, hz32⟩ := hto.1 o ho
  obtain ⟨r1, r2, r3, r4⟩ := blk_is hN hp
  have hc4 : (0 : Int) ≤ (o : Int) ∧ (o : Int) < 4 := by omega
  have R' : ∀ m', Mq m m' → GW w (m'.2 0) T ∧ TO z tt (m'.2 0) := fun m' hm => by rw [hm.ar]; exact ⟨G, hto⟩
  have sz : ay_w (ay_w ((p : Int) - ay_rem (p : Int) (N : Int)) + (N : Int)) = ((p - p % N + N : Nat) : Int) := by
    rw [psub hN hp]; exact wadd (by omega)
  have d4 := dv4 hN
  -- passed over because it does not fit
  by_cases c1 : N ≤ v ∧ p - p % N + N ≤ z o ∧ opn w o (p - p % N) N = true
  · obtain ⟨c1, c2, c3⟩ := c1
    have tk := (taken_blk I ho hp hN).mpr c3
    have kst : ∀ (n : Nat) (kk xx : bS), 1110 + N ≤ n + 1 → K0_findRoom_87 tt (n + 1) (kk, w, xx) o p v (rvb w o 64) N = (if lo w N < 64 / N then K0_findRoom_195 tt (fun s l1 l2 l3 l4 l5 => K0_findRoom_87 tt n s l1 l2 l3 l4 l5) n (bI kk 5 ((lo w N * N : Nat) : Int), w, xx) o p v (rvb w o 64) N else (bb (K0_victimFor tt n (bI kk 5 (-1), w, xx) N) fun v7 s7 => (if v7 = (-1) then K0_findRoom_195 tt (fun s l1 l2 l3 l4 l5 => K0_findRoom_87 tt n s l1 l2 l3 l4 l5) n (bI (bI s7.1 7 v7) 5 (-1), s7.2.1, s7.2.2) o p v (rvb w o 64) N else (bb (W_hollow n s7.2.1 v7 N) fun v8 s8 => K0_findRoom_195 tt (fun s l1 l2 l3 l4 l5 => K0_findRoom_87 tt n s l1 l2 l3 l4 l5) n (bI (bI s7.1 7 v7) 5 v8, s8, s7.2.2) o p v (rvb w o 64) N)))) := fun n kk xx hn => by
      rw [K0_findRoom_87, sz]
      clear sz d4
      rw [if_neg (by omega), if_neg (by omega), if_neg (by omega), if_pos hc4, Int.toNat_natCast, hz1, if_neg (by omega), b1_s (P_blockBits_ok n hN hp), if_pos tk]
      dsimp only
      rw [bb_s (W_lowestFree_ok I hN (by omega))]
      show (if (if lo w N < 64 / N then ((lo w N * N : Nat) : Int) else -1) = -1 then _ else _) = _
      by_cases cl : lo w N < 64 / N
      · rw [if_pos cl, if_neg (by omega), if_pos cl]
        show K0_findRoom_195 tt _ n (bI kk 5 (if lo w N < 64 / N then ((lo w N * N : Nat) : Int) else -1), w, xx) o p v (rvb w o 64) N = _
        rw [if_pos cl]
      · rw [if_neg cl, if_pos rfl, if_neg cl]
        show bb (K0_victimFor tt n (bI kk 5 (if lo w N < 64 / N then ((lo w N * N : Nat) : Int) else -1), w, xx) N) _ = _
        rw [if_neg cl]
    have rst : ∀ (n : Nat) (m' : bS), 1110 + N ≤ n + 1 → Mq m m' → R_manyFor_17 (n + 1) m' o p v N = (if lo w N < 64 / N then some ((N : Int), m') else (bb (R_victimFor n m' N) fun v4 s4 => (if v4 = (-1) then R_manyFor_17 n s4 o p v ((N / 4 : Nat) : Int) else some ((N : Int), s4)))) := fun n m' hn hm => by
      obtain ⟨G', T'⟩ := R' m' hm
      rw [R_manyFor_17, d4]
      clear sz d4
      rw [if_neg (by omega), if_neg (by omega), bb_s (R_isOpen_ok G' T' ho hp hN (by omega)), i01, if_pos ⟨c2, c3⟩, bb_s (R_lowestFree_ok G'.2.1 G'.1.1 hN (by omega))]
      show (if (if lo w N < 64 / N then ((lo w N * N : Nat) : Int) else -1) = -1 then _ else _) = _
      by_cases cl : lo w N < 64 / N
      · rw [if_pos cl, if_neg (by omega), if_pos cl]
      · rw [if_neg cl, if_pos rfl, if_neg cl]
    have f195 : ∀ (n : Nat) (k1 xx : bS) (y : Nat), y < 128 → k1.1 5 = (y : Int) → K0_findRoom_195 tt (fun s l1 l2 l3 l4 l5 => K0_findRoom_87 tt n s l1 l2 l3 l4 l5) n (k1, w, xx) o p v (rvb w o 64) N = some (1, (bI (bI k1 4 (N : Int)) 6 ((y + p % N : Nat) : Int), w, xx)) := fun n k1 xx y hy e => by
      unfold K0_findRoom_195
      dsimp only
      clear sz d4
      rw [e, if_neg (by omega), if_neg (by omega), pmod hN hp, wadd (by have := Nat.mod_le p N; omega)]
    clear sz d4
    by_cases cl : lo w N < 64 / N
    · refine Or.inr ⟨N, 0, ⟨⟨hN, c2, c3⟩, Or.inl cl⟩, fun n kk xx hn e3 e7 => ?_, fun n m' hn hm => ?_, fun n m' _ _ q => absurd cl q⟩
      · obtain ⟨n, rfl⟩ : ∃ y, n = y + 1 := ⟨n - 1, by omega⟩
        have hl := lo_64 hN cl
        refine ⟨bI (bI (bI kk 5 ((lo w N * N : Nat) : Int)) 4 (N : Int)) 6 ((lo w N * N + p % N : Nat) : Int), xx, ?_, ?_, ?_⟩
        · rw [kst n kk xx hn, if_pos cl]
          exact f195 n _ xx (lo w N * N) (by omega) bI_e
        · exact ((Kk.bI (by omega)).tr (Kk.bI (by omega))).tr (Kk.bI (by omega))
        · refine ⟨?_, ?_, Or.inl ⟨cl, ?_, ?_⟩⟩
          · rw [bI_1 (by omega), bI_e]
          · rw [bI_e, bI_1 (by omega), bI_1 (by omega), bI_e]; omega
          · rw [bI_1 (by omega), bI_1 (by omega), bI_1 (by omega)]; exact e7
          · rw [bI_1 (by omega), bI_1 (by omega), bI_e]
      · obtain ⟨n, rfl⟩ : ∃ y, n = y + 1 := ⟨n - 1, by omega⟩
        exact ⟨m', by rw [rst n m' hn hm, if_pos cl], hm⟩
    · obtain ⟨r, hr, v1, v2⟩ := victim0_ok X L P hN
      rcases hr with hr | ⟨s, s1, s2, s3, s4, s5, s6⟩
      · refine RoomAt0_n hN (fun n kk xx hn e3 e7 => ?_) (fun n m' hn hm => ?_) H
        · obtain ⟨x1, q1⟩ := v1 n (bI kk 5 (-1)) xx ((bI_1 (by omega)).trans e3) (by omega)
          refine ⟨bI (bI (bI kk 5 (-1)) 7 (-1)) 5 (-1), x1, ?_, ((Kk.bI (by omega)).tr (Kk.bI (by omega))).tr (Kk.bI (by omega)), ?_⟩
          · rw [kst n kk xx hn, if_neg cl, bb_s q1, if_pos hr, hr]
            unfold K0_findRoom_195
            dsimp only
            rw [if_pos bI_e, dv4 hN]
          · rw [bI_1 (by omega), bI_e]
        · obtain ⟨m1, q1, q2⟩ := v2 n m' (by omega) hm
          exact ⟨m1, by rw [rst n m' hn hm, if_neg cl, bb_s q1, if_pos hr], q2⟩
      · obtain ⟨a1, a2, a3⟩ := I.at s1 s3
        have he : fs (emp w s N) (spn w s / N) * N + N ≤ spn w s := by
          have h1 : (fs (emp w s N) (spn w s / N) + 1) * N ≤ spn w s / N * N := Nat.mul_le_mul_right N (by omega)
          have h2 := Nat.div_mul_le_self (spn w s) N
          rw [Nat.add_mul, Nat.one_mul] at h1
          omega
        refine Or.inr ⟨N, s, ⟨⟨hN, c2, c3⟩, Or.inr ⟨cl, s1, s3, s4, s5, s6⟩⟩, fun n kk xx hn e3 e7 => ?_, fun n m' hn hm => ?_, fun n m' hn hm _ => ?_⟩
        · obtain ⟨n, rfl⟩ : ∃ y, n = y + 1 := ⟨n - 1, by omega⟩
          obtain ⟨x1, q1⟩ := v1 n (bI kk 5 (-1)) xx ((bI_1 (by omega)).trans e3) (by omega)
          rw [s2] at q1
          refine ⟨bI (bI (bI (bI (bI kk 5 (-1)) 7 (s : Int)) 5 ((s + fs (emp w s N) (spn w s / N) * N : Nat) : Int)) 4 (N : Int)) 6 ((s + fs (emp w s N) (spn w s / N) * N + p % N : Nat) : Int), x1, ?_, ?_, ?_⟩
          · rw [kst n kk xx hn, if_neg cl, bb_s q1, if_neg (by omega), bb_s (W_hollow_ok I s1 s3 hN (by omega)), if_pos s6]
            exact f195 n _ x1 (s + fs (emp w s N) (spn w s / N) * N) (by omega) bI_e
          · exact ((((Kk.bI (by omega)).tr (Kk.bI (by omega))).tr (Kk.bI (by omega))).tr (Kk.bI (by omega))).tr (Kk.bI (by omega))
          · refine ⟨?_, ?_, Or.inr ⟨cl, ?_, ?_⟩⟩
            · rw [bI_1 (by omega), bI_e]
            · rw [bI_e, bI_1 (by omega), bI_1 (by omega), bI_e]; omega
            · rw [bI_1 (by omega), bI_1 (by omega), bI_1 (by omega), bI_e]
            · rw [bI_1 (by omega), bI_1 (by omega), bI_e]
        · obtain ⟨n, rfl⟩ : ∃ y, n = y + 1 := ⟨n - 1, by omega⟩
          obtain ⟨m1, q1, q2⟩ := v2 n m' (by omega) hm
          rw [s2] at q1
          exact ⟨m1, by rw [rst n m' hn hm, if_neg cl, bb_s q1, if_neg (by omega)], q2⟩
        · obtain ⟨m1, q1, q2⟩ := v2 n m' (by omega) hm
          rw [s2] at q1
          exact ⟨m1, q1, q2⟩
  · refine RoomAt0_n hN (fun n kk xx hn e3 e7 => ⟨kk, xx, ?_, Kk.rf, e7⟩) (fun n m' hn hm => ⟨m', ?_, hm⟩) H
    · rw [K0_findRoom_87, sz, d4]
      clear sz d4
      rw [if_neg (by omega)]
      by_cases y1 : N ≤ v
      · rw [if_neg (by omega), if_neg (by omega), if_pos hc4, Int.toNat_natCast, hz1]
        by_cases y2 : p - p % N + N ≤ z o
        · rw [if_neg (by omega), b1_s (P_blockBits_ok n hN hp), if_neg (fun q => c1 ⟨y1, y2, (taken_blk I ho hp hN).mp q⟩)]
        · rw [if_pos (by omega)]
      · rw [if_pos (by omega)]
    · obtain ⟨G', T'⟩ := R' m' hm
      rw [R_manyFor_17, d4]
      clear sz d4
      rw [if_neg (by omega)]
      by_cases y1 : N ≤ v
      · rw [if_neg (by omega), bb_s (R_isOpen_ok G' T' ho hp hN (by omega)), i01, if_neg (fun q => c1 ⟨y1, q⟩)]
      · rw [if_pos (by omega)]
/-- the loop over sizes from N on, on both sides -/
def RoomAt1 (z : Nat → Nat) (tt tx kq m w : bS) (o p v N : Nat) : Prop := ((∀ (n : Nat) (kk xx : bS), 1110 + N ≤ n → kk.1 3 = kq.1 3 → kk.1 7 = -1 → ∃ k1 xx', K1_findRoom_87 tt tx n (kk, w, xx) o p v (rvb w o 64) N = some (0, (k1, w, xx')) ∧ Kk kk k1) ∧ ∀ (n : Nat) (m' : bS), 1110 + N ≤ n → Mq m m' → ∃ m1, R_manyFor_17 n m' o p v N = some (-1, m1) ∧ Mq m m1) ∨ ∃ M s : Nat, FIT z w o p M s ∧ (∀ (n : Nat) (kk xx : bS), 1110 + N ≤ n → kk.1 3 = kq.1 3 → kk.1 7 = -1 → ∃ k1 xx', K1_findRoom_87 tt tx n (kk, w, xx) o p v (rvb w o 64) N = some (1, (k1, w, xx')) ∧ Kk kk k1 ∧ PL w p M s k1) ∧ (∀ (n : Nat) (m' : bS), 1110 + N ≤ n → Mq m m' → ∃ m1, R_manyFor_17 n m' o p v N = some ((M : Int), m1) ∧ Mq m m1) ∧ ∀ (n : Nat) (m' : bS), 1110 ≤ n → Mq m m' → ¬ lo w M < 64 / M → ∃ m1, R_victimFor n m' M = some ((s : Int), m1) ∧ Mq m m1
theorem RoomAt1_0 : RoomAt1 z tt tx kq m w o p v 0 := by
  refine Or.inl ⟨fun n kk xx hn _ _ => ?_, fun n m' hn hm => ?_⟩
  · obtain ⟨n, rfl⟩ : ∃ y, n = y + 1 := ⟨n - 1, by omega⟩
    exact ⟨kk, xx, by rw [K1_findRoom_87, if_pos (by omega)], Kk.rf⟩
  · obtain ⟨n, rfl⟩ : ∃ y, n = y + 1 := ⟨n - 1, by omega⟩
    exact ⟨m', by rw [R_manyFor_17, if_pos (by omega)], hm⟩
/-- a size that is passed over -/
theorem RoomAt1_n (hN : isN N) (hk : ∀ (n : Nat) (kk xx : bS), 1110 + N ≤ n + 1 → kk.1 3 = kq.1 3 → kk.1 7 = -1 → ∃ k1 xx', K1_findRoom_87 tt tx (n + 1) (kk, w, xx) o p v (rvb w o 64) N = K1_findRoom_87 tt tx n (k1, w, xx') o p v (rvb w o 64) ((N / 4 : Nat) : Int) ∧ Kk kk k1 ∧ k1.1 7 = -1) (hr : ∀ (n : Nat) (m' : bS), 1110 + N ≤ n + 1 → Mq m m' → ∃ m1, R_manyFor_17 (n + 1) m' o p v N = R_manyFor_17 n m1 o p v ((N / 4 : Nat) : Int) ∧ Mq m m1) (H : RoomAt1 z tt tx kq m w o p v (N / 4)) : RoomAt1 z tt tx kq m w o p v N := by
  have hN0 : 0 < N := (isN_r hN).1
  rcases H with ⟨h1, h2⟩ | ⟨M, s, h0, h1, h2, h3⟩
  · refine Or.inl ⟨fun n kk xx hn e3 e7 => ?_, fun n m' hn hm => ?_⟩
    · obtain ⟨n, rfl⟩ : ∃ y, n = y + 1 := ⟨n - 1, by omega⟩
      obtain ⟨k1, x1, q1, q2, q3⟩ := hk n kk xx hn e3 e7
      obtain ⟨k2, x2, q4, q5⟩ := h1 n k1 x1 (by omega) ((q2 3 (by omega) (by omega) (by omega) (by omega)).trans e3) q3
      exact ⟨k2, x2, q1.trans q4, q2.tr q5⟩
    · obtain ⟨n, rfl⟩ : ∃ y, n = y + 1 := ⟨n - 1, by omega⟩
      obtain ⟨m1, q1, q2⟩ := hr n m' hn hm
      obtain ⟨m2, q4, q5⟩ := h2 n m1 (by omega) q2
      exact ⟨m2, q1.trans q4, q5⟩
  · refine Or.inr ⟨M, s, h0, fun n kk xx hn e3 e7 => ?_, fun n m' hn hm => ?_, h3⟩
    · obtain ⟨n, rfl⟩ : ∃ y, n = y + 1 := ⟨n - 1, by omega⟩
      obtain ⟨k1, x1, q1, q2, q3⟩ := hk n kk xx hn e3 e7
      obtain ⟨k2, x2, q4, q5, q6⟩ := h1 n k1 x1 (by omega) ((q2 3 (by omega) (by omega) (by omega) (by omega)).trans e3) q3
      exact ⟨k2, x2, q1.trans q4, q2.tr q5, q6⟩
    · obtain ⟨n, rfl⟩ : ∃ y, n = y + 1 := ⟨n - 1, by omega⟩
      obtain ⟨m1, q1, q2⟩ := hr n m' hn hm
      obtain ⟨m2, q4, q5⟩ := h2 n m1 (by omega) q2
      exact ⟨m2, q1.trans q4, q5⟩
theorem RoomAt1_s (X : GX z w (m.2 0) T) (hto : TO z tt (m.2 0)) (L : LW (K1_wanted tt tx) (K1_letsGo tt tx) m w) (P : PN kq m w) (ho : o < 4) (hp : p < 32) (hN : isN N) (H : RoomAt1 z tt tx kq m w o p v (N / 4)) : RoomAt1 z tt tx kq m w o p v N := by
  have G := X.1
  have I := G.2.1
  obtain ⟨hN0, hN16⟩ := isN_r hN
  obtain ⟨hz1, hz2, hz32⟩ := hto.1 o ho
  obtain ⟨r1, r2, r3, r4⟩ := blk_is hN hp
  have hc4 : (0 : Int) ≤ (o : Int) ∧ (o : Int) < 4 := by omega
  have R' : ∀ m', Mq m m' → GW w (m'.2 0) T ∧ TO z tt (m'.2 0) := fun m' hm => by rw [hm.ar]; exact ⟨G, hto⟩
  have sz : ay_w (ay_w ((p : Int) - ay_rem (p : Int) (N : Int)) + (N : Int)) = ((p - p % N + N : Nat) : Int) := by
    rw [psub hN hp]; exact wadd (by omega)
  have d4 := dv4 hN
  -- passed over because it does not fit
  by_cases c1 : N ≤ v ∧ p - p % N + N ≤ z o ∧ opn w o (p - p % N) N = true
  · obtain ⟨c1, c2, c3⟩ := c1
    have tk := (taken_blk I ho hp hN).mpr c3
    have kst : ∀ (n : Nat) (kk xx : bS), 1110 + N ≤ n + 1 → K1_findRoom_87 tt tx (n + 1) (kk, w, xx) o p v (rvb w o 64) N = (if lo w N < 64 / N then K1_findRoom_195 tt tx (fun s l1 l2 l3 l4 l5 => K1_findRoom_87 tt tx n s l1 l2 l3 l4 l5) n (bI kk 5 ((lo w N * N : Nat) : Int), w, xx) o p v (rvb w o 64) N else (bb (K1_victimFor tt tx n (bI kk 5 (-1), w, xx) N) fun v7 s7 => (if v7 = (-1) then K1_findRoom_195 tt tx (fun s l1 l2 l3 l4 l5 => K1_findRoom_87 tt tx n s l1 l2 l3 l4 l5) n (bI (bI s7.1 7 v7) 5 (-1), s7.2.1, s7.2.2) o p v (rvb w o 64) N else (bb (W_hollow n s7.2.1 v7 N) fun v8 s8 => K1_findRoom_195 tt tx (fun s l1 l2 l3 l4 l5 => K1_findRoom_87 tt tx n s l1 l2 l3 l4 l5) n (bI (bI s7.1 7 v7) 5 v8, s8, s7.2.2) o p v (rvb w o 64) N)))) := fun n kk xx hn => by
      rw [K1_findRoom_87, sz]
      clear sz d4
      rw [if_neg (by omega), if_neg (by omega), if_neg (by omega), if_pos hc4, Int.toNat_natCast, hz1, if_neg (by omega), b1_s (P_blockBits_ok n hN hp), if_pos tk]
      dsimp only
      rw [bb_s (W_lowestFree_ok I hN (by omega))]
      show (if (if lo w N < 64 / N then ((lo w N * N : Nat) : Int) else -1) = -1 then _ else _) = _
      by_cases cl : lo w N < 64 / N
      · rw [if_pos cl, if_neg (by omega), if_pos cl]
        show K1_findRoom_195 tt tx _ n (bI kk 5 (if lo w N < 64 / N then ((lo w N * N : Nat) : Int) else -1), w, xx) o p v (rvb w o 64) N = _
        rw [if_pos cl]
      · rw [if_neg cl, if_pos rfl, if_neg cl]
        show bb (K1_victimFor tt tx n (bI kk 5 (if lo w N < 64 / N then ((lo w N * N : Nat) : Int) else -1), w, xx) N) _ = _
        rw [if_neg cl]
    have rst : ∀ (n : Nat) (m' : bS), 1110 + N ≤ n + 1 → Mq m m' → R_manyFor_17 (n + 1) m' o p v N = (if lo w N < 64 / N then some ((N : Int), m') else (bb (R_victimFor n m' N) fun v4 s4 => (if v4 = (-1) then R_manyFor_17 n s4 o p v ((N / 4 : Nat) : Int) else some ((N : Int), s4)))) := fun n m' hn hm => by
      obtain ⟨G', T'⟩ := R' m' hm
      rw [R_manyFor_17, d4]
      clear sz d4
      rw [if_neg (by omega), if_neg (by omega), bb_s (R_isOpen_ok G' T' ho hp hN (by omega)), i01, if_pos ⟨c2, c3⟩, bb_s (R_lowestFree_ok G'.2.1 G'.1.1 hN (by omega))]
      show (if (if lo w N < 64 / N then ((lo w N * N : Nat) : Int) else -1) = -1 then _ else _) = _
      by_cases cl : lo w N < 64 / N
      · rw [if_pos cl, if_neg (by omega), if_pos cl]
      · rw [if_neg cl, if_pos rfl, if_neg cl]
    have f195 : ∀ (n : Nat) (k1 xx : bS) (y : Nat), y < 128 → k1.1 5 = (y : Int) → K1_findRoom_195 tt tx (fun s l1 l2 l3 l4 l5 => K1_findRoom_87 tt tx n s l1 l2 l3 l4 l5) n (k1, w, xx) o p v (rvb w o 64) N = some (1, (bI (bI k1 4 (N : Int)) 6 ((y + p % N : Nat) : Int), w, xx)) := fun n k1 xx y hy e => by
      unfold K1_findRoom_195
      dsimp only
      clear sz d4
      rw [e, if_neg (by omega), if_neg (by omega), pmod hN hp, wadd (by have := Nat.mod_le p N; omega)]
    clear sz d4
    by_cases cl : lo w N < 64 / N
    · refine Or.inr ⟨N, 0, ⟨⟨hN, c2, c3⟩, Or.inl cl⟩, fun n kk xx hn e3 e7 => ?_, fun n m' hn hm => ?_, fun n m' _ _ q => absurd cl q⟩
      · obtain ⟨n, rfl⟩ : ∃ y, n = y + 1 := ⟨n - 1, by omega⟩
        have hl := lo_64 hN cl
        refine ⟨bI (bI (bI kk 5 ((lo w N * N : Nat) : Int)) 4 (N : Int)) 6 ((lo w N * N + p % N : Nat) : Int), xx, ?_, ?_, ?_⟩
        · rw [kst n kk xx hn, if_pos cl]
          exact f195 n _ xx (lo w N * N) (by omega) bI_e
        · exact ((Kk.bI (by omega)).tr (Kk.bI (by omega))).tr (Kk.bI (by omega))
        · refine ⟨?_, ?_, Or.inl ⟨cl, ?_, ?_⟩⟩
          · rw [bI_1 (by omega), bI_e]
          · rw [bI_e, bI_1 (by omega), bI_1 (by omega), bI_e]; omega
          · rw [bI_1 (by omega), bI_1 (by omega), bI_1 (by omega)]; exact e7
          · rw [bI_1 (by omega), bI_1 (by omega), bI_e]
      · obtain ⟨n, rfl⟩ : ∃ y, n = y + 1 := ⟨n - 1, by omega⟩
        exact ⟨m', by rw [rst n m' hn hm, if_pos cl], hm⟩
    · obtain ⟨r, hr, v1, v2⟩ := victim1_ok X L P hN
      rcases hr with hr | ⟨s, s1, s2, s3, s4, s5, s6⟩
      · refine RoomAt1_n hN (fun n kk xx hn e3 e7 => ?_) (fun n m' hn hm => ?_) H
        · obtain ⟨x1, q1⟩ := v1 n (bI kk 5 (-1)) xx ((bI_1 (by omega)).trans e3) (by omega)
          refine ⟨bI (bI (bI kk 5 (-1)) 7 (-1)) 5 (-1), x1, ?_, ((Kk.bI (by omega)).tr (Kk.bI (by omega))).tr (Kk.bI (by omega)), ?_⟩
          · rw [kst n kk xx hn, if_neg cl, bb_s q1, if_pos hr, hr]
            unfold K1_findRoom_195
            dsimp only
            rw [if_pos bI_e, dv4 hN]
          · rw [bI_1 (by omega), bI_e]
        · obtain ⟨m1, q1, q2⟩ := v2 n m' (by omega) hm
          exact ⟨m1, by rw [rst n m' hn hm, if_neg cl, bb_s q1, if_pos hr], q2⟩
      · obtain ⟨a1, a2, a3⟩ := I.at s1 s3
        have he : fs (emp w s N) (spn w s / N) * N + N ≤ spn w s := by
          have h1 : (fs (emp w s N) (spn w s / N) + 1) * N ≤ spn w s / N * N := Nat.mul_le_mul_right N (by omega)
          have h2 := Nat.div_mul_le_self (spn w s) N
          rw [Nat.add_mul, Nat.one_mul] at h1
          omega
        refine Or.inr ⟨N, s, ⟨⟨hN, c2, c3⟩, Or.inr ⟨cl, s1, s3, s4, s5, s6⟩⟩, fun n kk xx hn e3 e7 => ?_, fun n m' hn hm => ?_, fun n m' hn hm _ => ?_⟩
        · obtain ⟨n, rfl⟩ : ∃ y, n = y + 1 := ⟨n - 1, by omega⟩
          obtain ⟨x1, q1⟩ := v1 n (bI kk 5 (-1)) xx ((bI_1 (by omega)).trans e3) (by omega)
          rw [s2] at q1
          refine ⟨bI (bI (bI (bI (bI kk 5 (-1)) 7 (s : Int)) 5 ((s + fs (emp w s N) (spn w s / N) * N : Nat) : Int)) 4 (N : Int)) 6 ((s + fs (emp w s N) (spn w s / N) * N + p % N : Nat) : Int), x1, ?_, ?_, ?_⟩
          · rw [kst n kk xx hn, if_neg cl, bb_s q1, if_neg (by omega), bb_s (W_hollow_ok I s1 s3 hN (by omega)), if_pos s6]
            exact f195 n _ x1 (s + fs (emp w s N) (spn w s / N) * N) (by omega) bI_e
          · exact ((((Kk.bI (by omega)).tr (Kk.bI (by omega))).tr (Kk.bI (by omega))).tr (Kk.bI (by omega))).tr (Kk.bI (by omega))
          · refine ⟨?_, ?_, Or.inr ⟨cl, ?_, ?_⟩⟩
            · rw [bI_1 (by omega), bI_e]
            · rw [bI_e, bI_1 (by omega), bI_1 (by omega), bI_e]; omega
            · rw [bI_1 (by omega), bI_1 (by omega), bI_1 (by omega), bI_e]
            · rw [bI_1 (by omega), bI_1 (by omega), bI_e]
        · obtain ⟨n, rfl⟩ : ∃ y, n = y + 1 := ⟨n - 1, by omega⟩
          obtain ⟨m1, q1, q2⟩ := v2 n m' (by omega) hm
          rw [s2] at q1
          exact ⟨m1, by rw [rst n m' hn hm, if_neg cl, bb_s q1, if_neg (by omega)], q2⟩
        · obtain ⟨m1, q1, q2⟩ := v2 n m' (by omega) hm
          rw [s2] at q1
          exact ⟨m1, q1, q2⟩
  · refine RoomAt1_n hN (fun n kk xx hn e3 e7 => ⟨kk, xx, ?_, Kk.rf, e7⟩) (fun n m' hn hm => ⟨m', ?_, hm⟩) H
    · rw [K1_findRoom_87, sz, d4]
      clear sz d4
      rw [if_neg (by omega)]
      by_cases y1 : N ≤ v
      · rw [if_neg (by omega), if_neg (by omega), if_pos hc4, Int.toNat_natCast, hz1]
        by_cases y2 : p - p % N + N ≤ z o
        · rw [if_neg (by omega), b1_s (P_blockBits_ok n hN hp), if_neg (fun q => c1 ⟨y1, y2, (taken_blk I ho hp hN).mp q⟩)]
        · rw [if_pos (by omega)]
      · rw [if_pos (by omega)]
    · obtain ⟨G', T'⟩ := R' m' hm
      rw [R_manyFor_17, d4]
      clear sz d4
      rw [if_neg (by omega)]
      by_cases y1 : N ≤ v
      · rw [if_neg (by omega), bb_s (R_isOpen_ok G' T' ho hp hN (by omega)), i01, if_neg (fun q => c1 ⟨y1, q⟩)]
      · rw [if_pos (by omega)]
end
