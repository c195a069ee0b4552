/-! Questions: reservations, the book, wants, room. -/
section
variable {n n' B Kt T k j i o p f s M : Nat} {z zp : Nat → Nat} {c : Nat → bS} {U : bH} {m w tt kk xx m' : bS} {a : Nat → Int} {v a1 a2 a3 a4 a5 x y : Int} {ox : Option (Nat × bS)}
theorem L_reserved (H : GI z zp B Kt c U m) (ha : -2147483648 ≤ a1 ∧ a1 < 2147483648) : ∃ c' U' m', LStep 18 c U m a1 a2 a3 a4 a5 c' U' m' ∧ NX1 B Kt c' U' m' := by
  obtain ⟨T, X, hst, hT⟩ := H.1.1
  by_cases h0 : a1 = -1
  · exact ⟨c, U, m, ⟨66, 66, _, by unfold P_reserved; rw [if_pos h0, bb_s (W_reservations_ok X.1.2.1 (Nat.le_refl _)), bU_id], by unfold R_reserved; rw [if_pos h0, bb_s (R_reservations_ok X.1.2.1 X.1.1.1 (Nat.le_refl _))]⟩, NX1_s H⟩
  have eW := W_slotNumbered_ok (n := 66) X.1.2.1 a1 ha (Nat.le_refl _)
  have eR := R_firstBy_ok (n := 66) X.1.2.1 X.1.1.1 a1 ha (Nat.le_refl _)
  by_cases hn : 0 ≤ a1 ∧ nth (c 0) a1.toNat < 64
  · rw [if_pos hn] at eW eR
    obtain ⟨s, hs⟩ : ∃ s, s = nth (c 0) a1.toNat := ⟨_, rfl⟩
    have hb := (nth_hit hn.2).1
    rw [← hs] at eW eR hb hn
    have h0s : 0 < spn (c 0) s := of_decide_eq_true hb
    have hs64 : s < 64 := hn.2
    obtain ⟨b1, b2, b3, b4, b5⟩ := X.1.2.1.1 s hs64
    obtain ⟨q1, q2, q3, q4⟩ := X.1.1.1.2.1 s hs64 h0s
    have eP : ∀ V : Int × pS, (if a2 = 0 then (if 0 ≤ (s : Int) ∧ (s : Int) < 64 then some ((ay_w (Int.tdiv ((c 0).2 3 s) 32)), (c, mC m ++ U)) else none) else (if a2 = 1 then (if 0 ≤ (s : Int) ∧ (s : Int) < 64 then some ((ay_rem ((c 0).2 3 s) 32), (c, mC m ++ U)) else none) else (if a2 = 2 then (if 0 ≤ (s : Int) ∧ (s : Int) < 64 then some (((c 0).2 4 s), (c, mC m ++ U)) else none) else (if a2 = 3 then some ((s : Int), (c, mC m ++ U)) else (if a2 = 4 then (if 0 ≤ (s : Int) ∧ (s : Int) < 64 then some (((c 0).2 5 s), (c, mC m ++ U)) else none) else (if a2 = 5 then (bb (W_holds 66 (c 0) s) fun v3 s3 => some (v3, (bU c 0 s3, mC m ++ U))) else some ((-2), (c, mC m ++ U)))))))) = some V → P_reserved 66 (c, mC m ++ U) a1 a2 = some V := fun V hV => by
      unfold P_reserved
      rw [if_neg h0, bb_s eW, if_neg (by omega), bU_id, Int.toNat_natCast]
      exact hV
    have eQ : ∀ V : Int × bS, (if a2 = 0 then (bb (R_frameAt 66 m s 1) fun v3 s3 => some (v3, s3)) else (if a2 = 1 then (bb (R_frameAt 66 m s 2) fun v4 s4 => some (v4, s4)) else (if a2 = 2 then (bb (R_frameAt 66 m s 3) fun v5 s5 => some (v5, s5)) else (if a2 = 3 then some ((s : Int), m) else (if a2 = 4 then (bb (R_frameAt 66 m s 4) fun v6 s6 => some (v6, s6)) else (if a2 = 5 then (bb (R_holdsOf 66 m s) fun v7 s7 => some (v7, s7)) else some ((-2), m))))))) = some V → R_reserved 66 m a1 a2 = some V := fun V hV => by
      unfold R_reserved
      rw [if_neg h0, bb_s eR, if_neg (by omega)]
      exact hV
    have hs' : 0 ≤ (s : Int) ∧ (s : Int) < 64 := by omega
    by_cases c0 : a2 = 0
    · refine ⟨c, U, m, ⟨66, 66, ((hom (c 0) s / 32 : Nat) : Int), eP _ ?_, eQ _ ?_⟩, NX1_s H⟩
      · rw [if_pos c0, if_pos hs', b2, ay_dn (by omega) (by omega) (by omega)]; rfl
      · rw [if_pos c0, bb_s (R_frameAt_ok _ _ hs64 (by decide) (by decide))]
        exact congrArg (fun y => some (y, m)) q1
    by_cases c1 : a2 = 1
    · refine ⟨c, U, m, ⟨66, 66, ((hom (c 0) s % 32 : Nat) : Int), eP _ ?_, eQ _ ?_⟩, NX1_s H⟩
      · rw [if_neg c0, if_pos c1, if_pos hs', b2, ay_rn' (by omega) (by omega) (by omega) (by omega)]; rfl
      · rw [if_neg c0, if_pos c1, bb_s (R_frameAt_ok _ _ hs64 (by decide) (by decide))]
        exact congrArg (fun y => some (y, m)) q2
    by_cases c2 : a2 = 2
    · refine ⟨c, U, m, ⟨66, 66, ((spn (c 0) s : Nat) : Int), eP _ ?_, eQ _ ?_⟩, NX1_s H⟩
      · rw [if_neg c0, if_neg c1, if_pos c2, if_pos hs', b1]
      · rw [if_neg c0, if_neg c1, if_pos c2, bb_s (R_frameAt_ok _ _ hs64 (by decide) (by decide))]
        exact congrArg (fun y => some (y, m)) q3
    by_cases c3 : a2 = 3
    · exact ⟨c, U, m, ⟨66, 66, (s : Int), eP _ (by rw [if_neg c0, if_neg c1, if_neg c2, if_pos c3]), eQ _ (by rw [if_neg c0, if_neg c1, if_neg c2, if_pos c3])⟩, NX1_s H⟩
    by_cases c4 : a2 = 4
    · refine ⟨c, U, m, ⟨66, 66, (c 0).2 5 s, eP _ ?_, eQ _ ?_⟩, NX1_s H⟩
      · rw [if_neg c0, if_neg c1, if_neg c2, if_neg c3, if_pos c4, if_pos hs']
      · rw [if_neg c0, if_neg c1, if_neg c2, if_neg c3, if_pos c4, bb_s (R_frameAt_ok _ _ hs64 (by decide) (by decide))]
        exact congrArg (fun y => some (y, m)) q4
    by_cases c5 : a2 = 5
    · refine ⟨c, U, m, ⟨66, 66, (hld (c 0) s : Int), eP _ ?_, eQ _ ?_⟩, NX1_s H⟩
      · rw [if_neg c0, if_neg c1, if_neg c2, if_neg c3, if_neg c4, if_pos c5, bb_s (W_holds_ok _ X.1.2.1 hs64 h0s), bU_id]
      · rw [if_neg c0, if_neg c1, if_neg c2, if_neg c3, if_neg c4, if_pos c5, bb_s (R_holdsOf_ok X.1.2.1 X.1.1.1 X.1.1.2.1 hs64 h0s (by decide))]
    exact ⟨c, U, m, ⟨66, 66, -2, eP _ (by rw [if_neg c0, if_neg c1, if_neg c2, if_neg c3, if_neg c4, if_neg c5]), eQ _ (by rw [if_neg c0, if_neg c1, if_neg c2, if_neg c3, if_neg c4, if_neg c5])⟩, NX1_s H⟩
  · rw [if_neg hn] at eW eR
    exact ⟨c, U, m, ⟨66, 66, -2, by unfold P_reserved; rw [if_neg h0, bb_s eW, if_pos rfl, bU_id], by unfold R_reserved; rw [if_neg h0, bb_s eR, if_pos rfl]⟩, NX1_s H⟩
theorem and7 (x : Nat) (h : x < 2147483648) : ay_and (x : Int) 7 = ((x % 8 : Nat) : Int) := by
  rw [show (7 : Int) = ((7 : Nat) : Int) from rfl, ay_andn h (by omega), show (7 : Nat) = 2 ^ 3 - 1 from rfl, Nat.and_two_pow_sub_one_eq_mod]
theorem and63 (x : Nat) (h : x < 2147483648) : ay_and (x : Int) 63 = ((x % 64 : Nat) : Int) := by
  rw [show (63 : Int) = ((63 : Nat) : Int) from rfl, ay_andn h (by omega), show (63 : Nat) = 2 ^ 6 - 1 from rfl, Nat.and_two_pow_sub_one_eq_mod]
theorem and31 (x : Nat) (h : x < 2147483648) : ay_and (x : Int) 31 = ((x % 32 : Nat) : Int) := by
  rw [show (31 : Int) = ((31 : Nat) : Int) from rfl, ay_andn h (by omega), show (31 : Nat) = 2 ^ 5 - 1 from rfl, Nat.and_two_pow_sub_one_eq_mod]
theorem line_ok {t k' u v' : Nat} (L : LN (w.2 10 i) (m.2 0 (1234 + i)) t k' u v') (hi : i < 25) (h2 : 0 ≤ x ∧ x ≤ 3) : ∃ V : Int, (∀ n, W_read n w (i : Int) x = some (V, w)) ∧ ∀ n, R_lineOf n m (i : Int) x = some (V, m) := by
  obtain ⟨l1, l2, l3, l4, l5, l6⟩ := L
  have e : ay_w (1234 + (i : Int)) = ((1234 + i : Nat) : Int) := wadd (x := 1234) (by omega)
  have hi' : 0 ≤ (i : Int) ∧ (i : Int) < 25 := by clear e; omega
  have hj : 0 ≤ ((1234 + i : Nat) : Int) ∧ ((1234 + i : Nat) : Int) < 38745 := by clear e; omega
  have s14 : ay_ushr ((t * 16384 + k' * 2048 + u * 32 + v' : Nat) : Int) 14 = (t : Int) := by
    clear e
    have := ay_ushrn (x := t * 16384 + k' * 2048 + u * 32 + v') (c := 14) (by omega) (by omega)
    refine Eq.trans this ?_
    have : (t * 16384 + k' * 2048 + u * 32 + v') / 2 ^ 14 = t := by omega
    rw [this]
  have s11 : ay_ushr ((t * 16384 + k' * 2048 + u * 32 + v' : Nat) : Int) 11 = ((t * 8 + k' : Nat) : Int) := by
    clear e s14
    have := ay_ushrn (x := t * 16384 + k' * 2048 + u * 32 + v') (c := 11) (by omega) (by omega)
    refine Eq.trans this ?_
    have : (t * 16384 + k' * 2048 + u * 32 + v') / 2 ^ 11 = t * 8 + k' := by omega
    rw [this]
  have s5 : ay_ushr ((t * 16384 + k' * 2048 + u * 32 + v' : Nat) : Int) 5 = ((t * 512 + k' * 64 + u : Nat) : Int) := by
    clear e s14 s11
    have := ay_ushrn (x := t * 16384 + k' * 2048 + u * 32 + v') (c := 5) (by omega) (by omega)
    refine Eq.trans this ?_
    have : (t * 16384 + k' * 2048 + u * 32 + v') / 2 ^ 5 = t * 512 + k' * 64 + u := by omega
    rw [this]
  unfold W_read R_lineOf
  rw [e]
  clear e
  rw [Int.toNat_natCast, Int.toNat_natCast, l5, l6]
  simp only [if_pos hi', if_pos hj]
  by_cases x0 : x = 0
  · refine ⟨(t : Int), fun _ => ?_, fun _ => ?_⟩
    · rw [if_pos x0, s14]
    · clear s14 s11 s5
      rw [if_pos x0, ay_dn (by omega) (by omega) (by omega)]
      have : ((t * 12288 + k' * 2048 + u * 32 + v' : Nat) : Int) / 12288 = (t : Int) := by omega
      rw [this]
  by_cases x1 : x = 1
  · refine ⟨(k' : Int), fun _ => ?_, fun _ => ?_⟩
    · rw [if_neg x0, if_pos x1, s11]
      clear s14 s11 s5
      rw [and7 _ (by omega)]
      have : (t * 8 + k') % 8 = k' := by omega
      rw [this]
    · clear s14 s11 s5
      rw [if_neg x0, if_pos x1, ay_dn (by omega) (by omega) (by omega)]
      have : ((t * 12288 + k' * 2048 + u * 32 + v' : Nat) : Int) / 2048 = ((t * 6 + k' : Nat) : Int) := by omega
      rw [this, ay_rn' (by omega) (by omega) (by omega) (by omega)]
      have : ((t * 6 + k' : Nat) : Int) % 6 = (k' : Int) := by omega
      rw [this]
  by_cases x2 : x = 2
  · refine ⟨(u : Int), fun _ => ?_, fun _ => ?_⟩
    · rw [if_neg x0, if_neg x1, if_pos x2, s5]
      clear s14 s11 s5
      rw [and63 _ (by omega)]
      have : (t * 512 + k' * 64 + u) % 64 = u := by omega
      rw [this]
    · clear s14 s11 s5
      rw [if_neg x0, if_neg x1, if_pos x2, ay_dn (by omega) (by omega) (by omega)]
      have : ((t * 12288 + k' * 2048 + u * 32 + v' : Nat) : Int) / 32 = ((t * 384 + k' * 64 + u : Nat) : Int) := by omega
      rw [this, ay_rn' (by omega) (by omega) (by omega) (by omega)]
      have : ((t * 384 + k' * 64 + u : Nat) : Int) % 64 = (u : Int) := by omega
      rw [this]
  · refine ⟨(v' : Int), fun _ => ?_, fun _ => ?_⟩
    · clear s14 s11 s5
      rw [if_neg x0, if_neg x1, if_neg x2, and31 _ (by omega)]
      have : (t * 16384 + k' * 2048 + u * 32 + v') % 32 = v' := by omega
      rw [this]
    · clear s14 s11 s5
      rw [if_neg x0, if_neg x1, if_neg x2, ay_rn' (by omega) (by omega) (by omega) (by omega)]
      have : ((t * 12288 + k' * 2048 + u * 32 + v' : Nat) : Int) % 32 = (v' : Int) := by omega
      rw [this]
theorem wL1 {N : Nat} (h : N ≤ 25) : ay_w ((N : Int) - 1) = (N : Int) - 1 := ay_wi (by omega) (by omega)
theorem L_book (H : GI z zp B Kt c U m) : ∃ c' U' m', LStep 21 c U m a1 a2 a3 a4 a5 c' U' m' ∧ NX1 B Kt c' U' m' := by
  obtain ⟨T, X, hst, hT⟩ := H.1.1
  obtain ⟨L, h25, g1, g2, g3⟩ := X.1.1.2.2.1
  by_cases h0 : a1 = -1
  · exact ⟨c, U, m, ⟨0, 0, (L : Int), by unfold P_book; dsimp only; rw [if_pos h0, g1], by unfold R_book; rw [if_pos h0, g2]⟩, NX1_s H⟩
  by_cases h1 : 0 ≤ a1 ∧ a1 < (L : Int)
  · have h1' : 0 ≤ a1 ∧ a1 ≤ (L : Int) - 1 := by omega
    by_cases h2 : 0 ≤ a2 ∧ a2 ≤ 3
    · obtain ⟨q, hq⟩ : ∃ q : Nat, a1 = (q : Int) := ⟨a1.toNat, by omega⟩
      obtain ⟨t, k', u, v', hl⟩ := g3 q (by omega)
      obtain ⟨V, e1, e2⟩ := line_ok hl (by omega) h2
      refine ⟨c, U, m, ⟨0, 0, V, ?_, ?_⟩, NX1_s H⟩
      · unfold P_book
        dsimp only
        rw [if_neg h0, if_neg (by omega), g1, if_neg (by omega), if_neg (by omega), if_pos (by omega), hq, bb_s (e1 _), bU_id]
      · unfold R_book
        rw [if_neg h0, g2, wL1 h25, b1_s (R_isIn_ok _ _ _ _), if_pos h1', if_neg (by decide), b1_s (R_isIn_ok _ _ _ _), if_pos h2, if_neg (by decide), hq, bb_s (e2 _)]
    · refine ⟨c, U, m, ⟨0, 0, -2, ?_, ?_⟩, NX1_s H⟩
      · unfold P_book
        dsimp only
        rw [if_neg h0, if_neg (by omega), g1, if_neg (by omega)]
        by_cases d : a2 < 0
        · rw [if_pos d]
        · rw [if_neg d, if_neg (by omega)]
      · unfold R_book
        rw [if_neg h0, g2, wL1 h25, b1_s (R_isIn_ok _ _ _ _), if_pos h1', if_neg (by decide), b1_s (R_isIn_ok _ _ _ _), if_neg h2, if_pos rfl]
  · refine ⟨c, U, m, ⟨0, 0, -2, ?_, ?_⟩, NX1_s H⟩
    · unfold P_book
      dsimp only
      rw [if_neg h0]
      by_cases d : a1 < 0
      · rw [if_pos d]
      · rw [if_neg d, g1, if_pos (by omega)]
    · unfold R_book
      rw [if_neg h0, g2, wL1 h25, b1_s (R_isIn_ok _ _ _ _), if_neg (show ¬ (0 ≤ a1 ∧ a1 ≤ (L : Int) - 1) by omega), if_pos rfl]
theorem ledger_ok {L : Nat} (h25 : L ≤ 25) (g1 : (c 0).1 12 = (L : Int)) (g2 : m.2 0 14 = (L : Int)) (g3 : ∀ i, i < L → ∃ T k u v, LN ((c 0).2 10 i) (m.2 0 (1234 + i)) T k u v) {T0 : bH} (d : Nat) : ∀ (i q : Nat), i + d = L → q ≤ i → ∃ V : Int, P_ledger_16 (d + 1) (c, T0) a1 (q : Int) (i : Int) = some (V, (c, T0)) ∧ R_ledger_16 (d + 1) m a1 (q : Int) (i : Int) = some (V, m) := by
  induction d with
  | zero =>
    intro i q hi hq
    refine ⟨q, ?_, ?_⟩
    · rw [P_ledger_16]; dsimp only; rw [g1, if_pos (by omega)]
    · rw [R_ledger_16, g2, if_pos (by omega)]
  | succ d ih =>
    intro i q hi hq
    obtain ⟨t, k', u, v', hl⟩ := g3 i (by omega)
    obtain ⟨V, e1, e2⟩ := line_ok (x := 1) hl (by omega) (by omega)
    by_cases hv : V = a1
    · obtain ⟨W, w1, w2⟩ := ih (i + 1) (q + 1) (by omega) (by omega)
      refine ⟨W, ?_, ?_⟩
      · rw [P_ledger_16]; dsimp only; rw [g1, if_neg (by omega), bb_s (e1 _), if_pos hv, bU_id, wad1 (by omega), wad1 (by omega)]; exact w1
      · rw [R_ledger_16, g2, if_neg (by omega), bb_s (e2 _), if_pos hv, wad1 (by omega), wad1 (by omega)]; exact w2
    · obtain ⟨W, w1, w2⟩ := ih (i + 1) q (by omega) (by omega)
      refine ⟨W, ?_, ?_⟩
      · rw [P_ledger_16]; dsimp only; rw [g1, if_neg (by omega), bb_s (e1 _), if_neg hv, bU_id, wad1 (by omega)]; exact w1
      · rw [R_ledger_16, g2, if_neg (by omega), bb_s (e2 _), if_neg hv, wad1 (by omega), Int.add_zero, ay_wn (by omega)]; exact w2
theorem L_ledger (H : GI z zp B Kt c U m) : ∃ c' U' m', LStep 42 c U m a1 a2 a3 a4 a5 c' U' m' ∧ NX1 B Kt c' U' m' := by
  obtain ⟨T, X, hst, hT⟩ := H.1.1
  obtain ⟨L, h25, g1, g2, g3⟩ := X.1.1.2.2.1
  by_cases h1 : 0 ≤ a1 ∧ a1 ≤ 5
  · obtain ⟨V, v1, v2⟩ := ledger_ok (c := c) (m := m) (a1 := a1) (T0 := mC m ++ U) h25 g1 g2 g3 L 0 0 (by omega) (Nat.le_refl _)
    refine ⟨c, U, m, ⟨L + 1, L + 1, V, ?_, ?_⟩, NX1_s H⟩
    · unfold P_ledger
      rw [if_neg (by omega), if_pos h1.2]; exact v1
    · unfold R_ledger
      rw [b1_s (R_isIn_ok _ _ _ _), if_pos h1, if_neg (by decide)]; exact v2
  · refine ⟨c, U, m, ⟨0, 0, -2, ?_, ?_⟩, NX1_s H⟩
    · unfold P_ledger
      by_cases d : a1 < 0
      · rw [if_pos d]
      · rw [if_neg d, if_neg (by omega)]
    · unfold R_ledger
      rw [b1_s (R_isIn_ok _ _ _ _), if_neg h1, if_pos rfl]
theorem pt_n {γ : Type} {k0 : Option γ} {k1 : Nat × bS → Option γ} : pt (some none) k0 k1 = k0 := rfl
theorem pt_s {γ : Type} {k0 : Option γ} {k1 : Nat × bS → Option γ} {q : Nat × bS} : pt (some (some q)) k0 k1 = k1 q := rfl
theorem L_wants (H : GI z zp B Kt c U m) (ha : -2147483648 ≤ a1 ∧ a1 < 2147483648) (ha2 : -2147483648 ≤ a2 ∧ a2 < 2147483648) : ∃ c' U' m', LStep 38 c U m a1 a2 a3 a4 a5 c' U' m' ∧ NX1 B Kt c' U' m' := by
  obtain ⟨T, X, hst, hT⟩ := H.1.1
  rcases page_ok (a1 := a1) (a2 := a2) H.1.2.1 ha ha2 with ⟨p1, p2⟩ | ⟨o, p, e1, e2, ho, hp, hz, p1, p2⟩
  · exact ⟨c, U, m, ⟨0, 0, -1, by unfold P_wants; rw [bb_s (p1 _ _), if_pos rfl], by unfold R_wants; rw [bb_s (p2 _), if_pos rfl]⟩, NX1_s H⟩
  subst e1 e2
  obtain ⟨ox, y1, y2⟩ := PT_ok (m := m) H.1.2.2.2
  have hgo : ∀ q : Nat × bS, PT (c, mC m ++ U) = some (some q) → txH (mC m ++ U) q.1 q.2 := fun q hq => by
    obtain ⟨jx, hj, hr, hx⟩ : ∃ jx, some q = some jx ∧ True ∧ txH (mC m ++ U) jx.1 jx.2 := by
      rcases PT_s hq with ⟨h, _⟩ | ⟨jx, h, _, hx⟩
      · exact absurd h (by simp)
      · exact ⟨jx, h, trivial, hx⟩
    cases hj
    exact hx
  rcases LAWx y2 X H.1.2.1 with ⟨h, L⟩ | ⟨q, h, L⟩
  · subst h
    obtain ⟨v, _, v1, v2⟩ := L.1 o p ho hp
    obtain ⟨xx', g1⟩ := v1 1000 (c 8) (c 9) (Nat.le_refl _)
    obtain ⟨m1, g2, g3⟩ := v2 1000 m (Nat.le_refl _) Mq.rf
    refine ⟨_, U, m1, ⟨1000, 1000, (v : Int), ?_, ?_⟩, NX1_s (try_GI (xx := xx') H g3 Kk.rf)⟩
    · unfold P_wants
      rw [bb_s (p1 _ _), if_neg (by decide), y1]
      rw [pt_n, bb_s g1]
    · unfold R_wants
      rw [bb_s (p2 _), if_neg (by decide), bb_s g2]
  · subst h
    obtain ⟨v, _, v1, v2⟩ := L.1 o p ho hp
    obtain ⟨xx', g1⟩ := v1 1000 (c 8) (c 9) (Nat.le_refl _)
    obtain ⟨m1, g2, g3⟩ := v2 1000 m (Nat.le_refl _) Mq.rf
    refine ⟨_, U, m1, ⟨1000, 1000, (v : Int), ?_, ?_⟩, NX1_s (try_GI (xx := xx') H g3 Kk.rf)⟩
    · unfold P_wants
      rw [bb_s (p1 _ _), if_neg (by decide), y1]
      rw [pt_s, gd_ok (hgo q y1), bb_s g1]
    · unfold R_wants
      rw [bb_s (p2 _), if_neg (by decide), bb_s g2]
theorem L_spares (H : GI z zp B Kt c U m) (ha : -2147483648 ≤ a1 ∧ a1 < 2147483648) : ∃ c' U' m', LStep 39 c U m a1 a2 a3 a4 a5 c' U' m' ∧ NX1 B Kt c' U' m' := by
  obtain ⟨T, X, hst, hT⟩ := H.1.1
  have eW := W_slotNumbered_ok (n := 1000) X.1.2.1 a1 ha (by omega)
  have eR := R_firstBy_ok (n := 1000) X.1.2.1 X.1.1.1 a1 ha (by omega)
  by_cases hn : 0 ≤ a1 ∧ nth (c 0) a1.toNat < 64
  · rw [if_pos hn] at eW eR
    obtain ⟨s, hs⟩ : ∃ s, s = nth (c 0) a1.toNat := ⟨_, rfl⟩
    have hb := (nth_hit hn.2).1
    rw [← hs] at eW eR hb hn
    have h0s : 0 < spn (c 0) s := of_decide_eq_true hb
    have hs64 : s < 64 := hn.2
    obtain ⟨ox, y1, y2⟩ := PT_ok (m := m) H.1.2.2.2
    obtain ⟨b, v1, v2⟩ : ∃ b, (∃ xx', Kx_letsGo (c 1) ox 1000 (c 8, c 0, c 9) s = some (bi b, (c 8, c 0, xx'))) ∧ ∃ m1, R_isSpared 1000 m s = some (bi b, m1) ∧ Mq m m1 := by
      rcases LAWx y2 X H.1.2.1 with ⟨h, L⟩ | ⟨q, h, L⟩
      · subst h
        obtain ⟨b, v1, v2⟩ := L.2 s hs64 h0s
        exact ⟨b, v1 1000 (c 8) (c 9) (Nat.le_refl _), v2 1000 m (Nat.le_refl _) Mq.rf⟩
      · subst h
        obtain ⟨b, v1, v2⟩ := L.2 s hs64 h0s
        exact ⟨b, v1 1000 (c 8) (c 9) (Nat.le_refl _), v2 1000 m (Nat.le_refl _) Mq.rf⟩
    obtain ⟨xx', g1⟩ := v1
    obtain ⟨m1, g2, g3⟩ := v2
    refine ⟨_, U, m1, ⟨1000, 1000, bi b, ?_, ?_⟩, NX1_s (try_GI (xx := xx') H g3 Kk.rf)⟩
    · unfold P_spares
      rw [bb_s eW, if_neg (by omega), bU_id, b1_s y1, bb_s g1]
      dsimp only
      rw [bU_id]
      cases b
      · rw [if_pos (show bi false = 0 from rfl)]; rfl
      · rw [if_neg (by decide)]; rfl
    · unfold R_spares
      rw [bb_s eR, if_neg (by omega), bb_s eR, bb_s g2]
      cases b
      · rw [if_pos (show bi false = 0 from rfl)]; rfl
      · rw [if_neg (by decide)]; rfl
  · rw [if_neg hn] at eW eR
    exact ⟨c, U, m, ⟨1000, 1000, 0, by unfold P_spares; rw [bb_s eW, if_pos rfl, bU_id], by unfold R_spares; rw [bb_s eR, if_pos rfl]⟩, NX1_s H⟩
theorem L_spread (H : GI z zp B Kt c U m) : ∃ c' U' m', LStep 31 c U m a1 a2 a3 a4 a5 c' U' m' ∧ NX1 B Kt c' U' m' := by
  obtain ⟨T, X, hst, hT⟩ := H.1.1
  have I := X.1.2.1
  have F := X.1.1.1
  have h16 : isN 16 := Or.inr (Or.inr rfl)
  have h4 : isN 4 := Or.inr (Or.inl rfl)
  have h1 : isN 1 := Or.inl rfl
  have a16 : W_freeBlocks 199 (c 0) 16 = _ := W_freeBlocks_ok I h16 (by decide)
  have a4 : W_freeBlocks 198 (c 0) 4 = _ := W_freeBlocks_ok I h4 (by decide)
  have b16 : R_holesOf 200 m 16 = _ := R_holesOf_ok I F h16 (by decide)
  have b4 : R_holesOf 200 m 4 = _ := R_holesOf_ok I F h4 (by decide)
  have b1 : R_holesOf 200 m 1 = _ := R_holesOf_ok I F h1 (by decide)
  have wf := W_freeFrames_ok (n := 200) I (by decide)
  have rf := R_freeFrames_ok (n := 200) I F (by decide)
  have hf1 : cn (fre (c 0) 1) 64 = fr (c 0) := by
    have e : fr (c 0) = cn (fun f => !decide (cvs (c 0) f < 64)) 64 := by rw [cn_not, cov_all I]; rfl
    rw [e]
    refine cn_congr fun i hi => ?_
    unfold fre
    by_cases h : cvs (c 0) i < 64
    · rw [decide_eq_true h]
      refine decide_eq_false fun g => ?_
      have := fs_none.1 g 0 (by omega)
      rw [Nat.mul_one, Nat.add_zero, decide_eq_true h] at this
      exact absurd this (by decide)
    · rw [decide_eq_false h]
      refine decide_eq_true (fs_none.2 fun t ht => ?_)
      rw [Nat.mul_one, show i + t = i by omega]
      exact decide_eq_false h
  have l16 := cn_le (fre (c 0) 16) (64 / 16)
  have l4 := cn_le (fre (c 0) 4) (64 / 4)
  obtain ⟨n16, e16⟩ : ∃ q, q = cn (fre (c 0) 16) (64 / 16) := ⟨_, rfl⟩
  obtain ⟨n4, e4⟩ : ∃ q, q = cn (fre (c 0) 4) (64 / 4) := ⟨_, rfl⟩
  rw [← e16] at a16 b16 l16
  rw [← e4] at a4 b4 l4
  have hm : ∀ x y : Nat, x ≤ 64 → y ≤ 64 → ay_w (((x : Nat) : Int) * ((y : Nat) : Int)) = ((y : Nat) : Int) * ((x : Nat) : Int) := fun x y hx hy => by
    have h2 : x * y ≤ 64 * 64 := Nat.mul_le_mul hx hy
    have h3 : (x : Int) * (y : Int) = ((x * y : Nat) : Int) := by rw [Int.natCast_mul]
    rw [Int.mul_comm (y : Int), h3]
    exact ay_wn (by omega)
  by_cases d16 : ((n16 : Nat) : Int) ≤ 0
  · by_cases d4 : ((n4 : Nat) : Int) ≤ 0
    · refine ⟨c, U, m, ⟨200, 200, 0, ?_, ?_⟩, NX1_s H⟩
      · unfold P_spread
        rw [bb_s wf, bU_id, P_spread_11, if_neg (by decide), bb_s a16, if_pos d16, bU_id, show ay_w (Int.tdiv 16 4) = 4 by decide, P_spread_11, if_neg (by decide), bb_s a4, if_pos d4, bU_id, show ay_w (Int.tdiv 4 4) = 1 by decide, P_spread_11, if_pos (by decide)]
      · unfold R_spread R_spread_27
        rw [bb_s b16, if_pos d16, bb_s b4, if_pos d4, bb_s rf, bb_s b1, show (64 / 1 : Nat) = 64 from rfl, hf1, Int.one_mul, ay_wn (by have := cn_le (fre (c 0) 1) 64; omega), Int.sub_self]
        rfl
    · refine ⟨c, U, m, ⟨200, 200, ay_w ((fr (c 0) : Int) - 4 * (n4 : Int)), ?_, ?_⟩, NX1_s H⟩
      · have w := hm n4 4 (by omega) (by omega)
        unfold P_spread
        rw [bb_s wf, bU_id, P_spread_11, if_neg (by decide), bb_s a16, if_pos d16, bU_id, show ay_w (Int.tdiv 16 4) = 4 by decide, P_spread_11, if_neg (by decide), bb_s a4, if_neg d4, bU_id]
        exact congrArg (fun y => some (ay_w ((fr (c 0) : Int) - y), (c, mC m ++ U))) w
      · have w := hm 4 n4 (by omega) (by omega)
        unfold R_spread R_spread_27
        rw [bb_s b16, if_pos d16, bb_s b4, if_neg d4, bb_s rf, bb_s b4]
        refine congrArg (fun y => some (ay_w ((fr (c 0) : Int) - y), m)) (w.trans (Int.mul_comm _ _))
  · refine ⟨c, U, m, ⟨200, 200, ay_w ((fr (c 0) : Int) - 16 * (n16 : Int)), ?_, ?_⟩, NX1_s H⟩
    · have w := hm n16 16 (by omega) (by omega)
      unfold P_spread
      rw [bb_s wf, bU_id, P_spread_11, if_neg (by decide), bb_s a16, if_neg d16, bU_id]
      exact congrArg (fun y => some (ay_w ((fr (c 0) : Int) - y), (c, mC m ++ U))) w
    · have w := hm 16 n16 (by omega) (by omega)
      unfold R_spread R_spread_27
      rw [bb_s b16, if_neg d16, bb_s rf, bb_s b16]
      refine congrArg (fun y => some (ay_w ((fr (c 0) : Int) - y), m)) (w.trans (Int.mul_comm _ _))
end
