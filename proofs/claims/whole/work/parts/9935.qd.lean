/-! Questions about objects, page by page. -/
section
variable {n n' B Kt T k j i o p f s M b : Nat} {z zp : Nat → Nat} {c : Nat → bS} {U : bH} {m w tt kk xx m' : bS} {a : Nat → Int} {v a1 a2 a3 a4 a5 x y : Int} {T0 : bH}
theorem digest_ok (ho : o < 4) (O1 : (c 1).2 0 o = (z o : Int)) (O2 : m.2 0 (6 + o) = (z o : Int)) (O3 : z o ≤ 32) (P : RP (c 0) (m.2 0)) (d : Nat) : ∀ (k n n' : Nat) (l : Int), k + d = z o → d < n → d < n' → ∃ V : Int, P_digest_14 n (c, T0) (o : Int) l (k : Int) = some (V, (c, T0)) ∧ R_digest_14 n' m (o : Int) l (k : Int) = some (V, m) := by
  induction d with
  | zero =>
    intro k n n' l hk hn hn'
    obtain ⟨n, rfl⟩ : ∃ N, n = N + 1 := ⟨n - 1, by omega⟩
    obtain ⟨n', rfl⟩ : ∃ N, n' = N + 1 := ⟨n' - 1, by omega⟩
    refine ⟨l, ?_, ?_⟩
    · rw [P_digest_14, if_pos ⟨by omega, by omega⟩, Int.toNat_natCast, O1, if_pos (by omega)]
    · rw [R_digest_14, w6o (by omega), if_pos ⟨by omega, by omega⟩, Int.toNat_natCast, O2, if_pos (by omega)]
  | succ d ih =>
    intro k n n' l hk hn hn'
    obtain ⟨n, rfl⟩ : ∃ N, n = N + 1 := ⟨n - 1, by omega⟩
    obtain ⟨n', rfl⟩ : ∃ N, n' = N + 1 := ⟨n' - 1, by omega⟩
    obtain ⟨V, v1, v2⟩ := ih (k + 1) n n' (ay_rem (ay_w ((ay_w (31 * l)) + ((c 0).2 0 (32 * o + k)))) 9973) (by omega) (by omega) (by omega)
    have hP := (P o k ho (by omega)).2.1
    have e : R_pageAt n' m (o : Int) (k : Int) 2 = some ((c 0).2 0 (32 * o + k), m) := by
      rw [R_pageAt_ok _ _ ho (by omega) (by decide) (by decide)]
      exact congrArg (fun y => some (y, m)) hP
    refine ⟨V, ?_, ?_⟩
    · rw [P_digest_14, if_pos ⟨by omega, by omega⟩, Int.toNat_natCast, O1, if_neg (by omega), wix ho (by omega), if_pos ⟨by omega, by omega⟩, Int.toNat_natCast, wad1 (by omega)]
      exact v1
    · rw [R_digest_14, w6o (by omega), if_pos ⟨by omega, by omega⟩, Int.toNat_natCast, O2, if_neg (by omega), bb_s e, wad1 (by omega)]
      exact v2
theorem L_digest (H : GI z zp B Kt c U m) (ha : -2147483648 ≤ a1 ∧ a1 < 2147483648) : ∃ c' U' m', LStep 32 c U m a1 a2 a3 a4 a5 c' U' m' ∧ NX1 B Kt c' U' m' := by
  obtain ⟨T, X, hst, hT⟩ := H.1.1
  rcases obj_ok (a1 := a1) H.1.2.1 ha with ⟨p1, p2⟩ | ⟨o, e1, ho, hz, hz32, p1, p2⟩
  · exact ⟨c, U, m, ⟨0, 0, -1, by unfold P_digest; rw [bb_s (p1 _ _), if_pos rfl], by unfold R_digest; rw [bb_s (p2 _), if_pos rfl]⟩, NX1_s H⟩
  subst e1
  obtain ⟨O1, O2, O3⟩ := H.1.2.1.1 o ho
  obtain ⟨V, v1, v2⟩ := digest_ok (T0 := mC m ++ U) ho O1 O2 O3 X.1.1.2.1 (z o) 0 100 100 0 (by omega) (by omega) (by omega)
  exact ⟨c, U, m, ⟨100, 100, V, by unfold P_digest; rw [bb_s (p1 _ _), if_neg (by decide)]; exact v1, by unfold R_digest; rw [bb_s (p2 _), if_neg (by decide)]; exact v2⟩, NX1_s H⟩
theorem alike_ok (ho : o < 4) (O1 : (c 1).2 0 o = (z o : Int)) (O2 : m.2 0 (6 + o) = (z o : Int)) (O3 : z o ≤ 32) (hb : b < 4) (B1 : (c 1).2 0 b = (z b : Int)) (B2 : m.2 0 (6 + b) = (z b : Int)) (B3 : z b ≤ 32) (P : RP (c 0) (m.2 0)) (d : Nat) : ∀ (k n n' l : Nat), k + d = 32 → l ≤ k → d < n → d < n' → ∃ V : Int, P_alike_23 n (c, T0) (o : Int) (b : Int) (l : Int) (k : Int) = some (V, (c, T0)) ∧ R_alike_23 n' m (o : Int) (b : Int) (l : Int) (k : Int) = some (V, m) := by
  induction d with
  | zero =>
    intro k n n' l hk hl hn hn'
    obtain ⟨n, rfl⟩ : ∃ N, n = N + 1 := ⟨n - 1, by omega⟩
    obtain ⟨n', rfl⟩ : ∃ N, n' = N + 1 := ⟨n' - 1, by omega⟩
    refine ⟨l, ?_, ?_⟩
    · rw [P_alike_23, if_pos ⟨by omega, by omega⟩, Int.toNat_natCast, O1, if_pos (by omega)]
    · rw [R_alike_23, w6o (by omega), if_pos ⟨by omega, by omega⟩, Int.toNat_natCast, O2, if_pos (by omega)]
  | succ d ih =>
    intro k n n' l hk hl hn hn'
    obtain ⟨n, rfl⟩ : ∃ N, n = N + 1 := ⟨n - 1, by omega⟩
    obtain ⟨n', rfl⟩ : ∃ N, n' = N + 1 := ⟨n' - 1, by omega⟩
    by_cases c1 : z o ≤ k
    · refine ⟨l, ?_, ?_⟩
      · rw [P_alike_23, if_pos ⟨by omega, by omega⟩, Int.toNat_natCast, O1, if_pos (by omega)]
      · rw [R_alike_23, w6o (by omega), if_pos ⟨by omega, by omega⟩, Int.toNat_natCast, O2, if_pos (by omega)]
    by_cases c2 : z b ≤ k
    · refine ⟨l, ?_, ?_⟩
      · rw [P_alike_23, if_pos ⟨by omega, by omega⟩, Int.toNat_natCast, O1, if_neg (by omega), if_pos ⟨by omega, by omega⟩, Int.toNat_natCast, B1, if_pos (by omega)]
      · rw [R_alike_23, w6o (by omega), if_pos ⟨by omega, by omega⟩, Int.toNat_natCast, O2, if_neg (by omega), w6o (by omega), if_pos ⟨by omega, by omega⟩, Int.toNat_natCast, B2, if_pos (by omega)]
    have e1 : R_pageAt n' m (o : Int) (k : Int) 2 = some ((c 0).2 0 (32 * o + k), m) := by
      rw [R_pageAt_ok _ _ ho (by omega) (by decide) (by decide)]
      exact congrArg (fun y => some (y, m)) (P o k ho (by omega)).2.1
    have e2 : R_pageAt n' m (b : Int) (k : Int) 2 = some ((c 0).2 0 (32 * b + k), m) := by
      rw [R_pageAt_ok _ _ hb (by omega) (by decide) (by decide)]
      exact congrArg (fun y => some (y, m)) (P b k hb (by omega)).2.1
    have eP : P_alike_23 (n + 1) (c, T0) (o : Int) (b : Int) (l : Int) (k : Int) = if (c 0).2 0 (32 * o + k) = (c 0).2 0 (32 * b + k) then P_alike_23 n (c, T0) (o : Int) (b : Int) ((l + 1 : Nat) : Int) ((k + 1 : Nat) : Int) else P_alike_23 n (c, T0) (o : Int) (b : Int) (l : Int) ((k + 1 : Nat) : Int) := by
      rw [P_alike_23, if_pos ⟨by omega, by omega⟩, Int.toNat_natCast, O1, if_neg (by omega), if_pos ⟨by omega, by omega⟩, Int.toNat_natCast, B1, if_neg (by omega), wix ho (by omega), wix hb (by omega), if_pos ⟨by omega, by omega⟩, if_pos ⟨by omega, by omega⟩, Int.toNat_natCast, Int.toNat_natCast, wad1 (by omega), wad1 (by omega)]
    have eR : R_alike_23 (n' + 1) m (o : Int) (b : Int) (l : Int) (k : Int) = if (c 0).2 0 (32 * o + k) = (c 0).2 0 (32 * b + k) then R_alike_23 n' m (o : Int) (b : Int) ((l + 1 : Nat) : Int) ((k + 1 : Nat) : Int) else R_alike_23 n' m (o : Int) (b : Int) (l : Int) ((k + 1 : Nat) : Int) := by
      rw [R_alike_23, w6o (by omega), if_pos ⟨by omega, by omega⟩, Int.toNat_natCast, O2, if_neg (by omega), w6o (by omega), if_pos ⟨by omega, by omega⟩, Int.toNat_natCast, B2, if_neg (by omega), bb_s e1, bb_s e2, wad1 (by omega), wad1 (by omega), Int.add_zero, ay_wn (by omega)]
    rw [eP, eR]
    by_cases h : (c 0).2 0 (32 * o + k) = (c 0).2 0 (32 * b + k)
    · rw [if_pos h, if_pos h]
      exact ih (k + 1) n n' (l + 1) (by omega) (by omega) (by omega) (by omega)
    · rw [if_neg h, if_neg h]
      exact ih (k + 1) n n' l (by omega) (by omega) (by omega) (by omega)
theorem L_alike (H : GI z zp B Kt c U m) (ha : -2147483648 ≤ a1 ∧ a1 < 2147483648) (ha2 : -2147483648 ≤ a2 ∧ a2 < 2147483648) : ∃ c' U' m', LStep 33 c U m a1 a2 a3 a4 a5 c' U' m' ∧ NX1 B Kt c' U' m' := by
  obtain ⟨T, X, hst, hT⟩ := H.1.1
  rcases obj_ok (a1 := a1) H.1.2.1 ha with ⟨p1, p2⟩ | ⟨o, e1, ho, hz, hz32, p1, p2⟩
  · exact ⟨c, U, m, ⟨0, 0, -1, by unfold P_alike; rw [bb_s (p1 _ _), if_pos rfl], by unfold R_alike; rw [bb_s (p2 _), if_pos rfl]⟩, NX1_s H⟩
  rcases obj_ok (a1 := a2) H.1.2.1 ha2 with ⟨q1, q2⟩ | ⟨b, e2, hb, hy, hy32, q1, q2⟩
  · exact ⟨c, U, m, ⟨0, 0, -1, by unfold P_alike; rw [bb_s (p1 _ _), if_neg (by decide), bb_s (q1 _ _), if_pos rfl], by unfold R_alike; rw [bb_s (p2 _), if_neg (by decide), bb_s (q2 _), if_pos rfl]⟩, NX1_s H⟩
  subst e1 e2
  obtain ⟨O1, O2, O3⟩ := H.1.2.1.1 o ho
  obtain ⟨B1, B2, B3⟩ := H.1.2.1.1 b hb
  obtain ⟨V, v1, v2⟩ := alike_ok (T0 := mC m ++ U) ho O1 O2 O3 hb B1 B2 B3 X.1.1.2.1 32 0 100 100 0 (by omega) (by omega) (by omega) (by omega)
  exact ⟨c, U, m, ⟨100, 100, V, by unfold P_alike; rw [bb_s (p1 _ _), if_neg (by decide), bb_s (q1 _ _), if_neg (by decide)]; exact v1, by unfold R_alike; rw [bb_s (p2 _), if_neg (by decide), bb_s (q2 _), if_neg (by decide)]; exact v2⟩, NX1_s H⟩
theorem eldest_ok (ho : o < 4) (O1 : (c 1).2 0 o = (z o : Int)) (O2 : m.2 0 (6 + o) = (z o : Int)) (O3 : z o ≤ 32) (P : RP (c 0) (m.2 0)) (d : Nat) : ∀ (k n n' : Nat) (l : Int), k + d = z o → (l = -1 ∨ ∃ q : Nat, q < 32 ∧ l = (q : Int)) → d < n → d < n' → ∃ V : Int, P_eldest_14 n (c, T0) (o : Int) l (k : Int) = some (V, (c, T0)) ∧ R_eldest_14 n' m (o : Int) l (k : Int) = some (V, m) := by
  induction d with
  | zero =>
    intro k n n' l hk hl hn hn'
    obtain ⟨n, rfl⟩ : ∃ N, n = N + 1 := ⟨n - 1, by omega⟩
    obtain ⟨n', rfl⟩ : ∃ N, n' = N + 1 := ⟨n' - 1, by omega⟩
    refine ⟨l, ?_, ?_⟩
    · rw [P_eldest_14, if_pos ⟨by omega, by omega⟩, Int.toNat_natCast, O1, if_pos (by omega)]
    · rw [R_eldest_14, w6o (by omega), if_pos ⟨by omega, by omega⟩, Int.toNat_natCast, O2, if_pos (by omega)]
  | succ d ih =>
    intro k n n' l hk hl hn hn'
    obtain ⟨n, rfl⟩ : ∃ N, n = N + 1 := ⟨n - 1, by omega⟩
    obtain ⟨n', rfl⟩ : ∃ N, n' = N + 1 := ⟨n' - 1, by omega⟩
    have hk32 : k < 32 := by omega
    have e1 : ∀ q : Nat, q < 32 → R_pageAt n' m (o : Int) (q : Int) 6 = some ((c 0).2 2 (32 * o + q), m) := fun q hq => by
      rw [R_pageAt_ok _ _ ho hq (by decide) (by decide)]
      exact congrArg (fun y => some (y, m)) (P o q ho hq).2.2.2.2.2
    have eP : P_eldest_14 (n + 1) (c, T0) (o : Int) l (k : Int) = if thr (c 0) o k = true then (if l = -1 then P_eldest_14 n (c, T0) (o : Int) (k : Int) ((k + 1 : Nat) : Int) else (if 0 ≤ (ay_w ((ay_w ((o : Int) * 32)) + (k : Int))) ∧ (ay_w ((ay_w ((o : Int) * 32)) + (k : Int))) < 128 then (if 0 ≤ (ay_w ((ay_w ((o : Int) * 32)) + l)) ∧ (ay_w ((ay_w ((o : Int) * 32)) + l)) < 128 then (if ((c 0).2 2 (ay_w ((ay_w ((o : Int) * 32)) + l)).toNat) ≤ ((c 0).2 2 (ay_w ((ay_w ((o : Int) * 32)) + (k : Int))).toNat) then P_eldest_14 n (c, T0) (o : Int) l ((k + 1 : Nat) : Int) else P_eldest_14 n (c, T0) (o : Int) (k : Int) ((k + 1 : Nat) : Int)) else none) else none)) else P_eldest_14 n (c, T0) (o : Int) l ((k + 1 : Nat) : Int) := by
      rw [P_eldest_14, if_pos ⟨by omega, by omega⟩, Int.toNat_natCast, O1, if_neg (by omega), bb_s (W_isThere_ok _ _ ho hk32), wad1 (by omega)]
      dsimp only
      rw [bU_id]
      by_cases ht : thr (c 0) o k = true
      · rw [if_pos ht, if_pos ht, if_neg (by decide)]
      · rw [if_neg ht, if_neg ht, if_pos rfl]
    have eR : R_eldest_14 (n' + 1) m (o : Int) l (k : Int) = if thr (c 0) o k = true then (if l = -1 then R_eldest_14 n' m (o : Int) (k : Int) ((k + 1 : Nat) : Int) else (bb (R_pageAt n' m (o : Int) (k : Int) 6) fun v3 s3 => (bb (R_pageAt n' s3 (o : Int) l 6) fun v4 s4 => (if v4 ≤ v3 then R_eldest_14 n' s4 (o : Int) l ((k + 1 : Nat) : Int) else R_eldest_14 n' s4 (o : Int) (k : Int) ((k + 1 : Nat) : Int))))) else R_eldest_14 n' m (o : Int) l ((k + 1 : Nat) : Int) := by
      rw [R_eldest_14, w6o (by omega), if_pos ⟨by omega, by omega⟩, Int.toNat_natCast, O2, if_neg (by omega), bb_s (R_isThere_ok _ P ho hk32), wad1 (by omega)]
      by_cases ht : thr (c 0) o k = true
      · rw [if_pos ht, if_pos ht, if_neg (by decide)]
      · rw [if_neg ht, if_neg ht, if_pos rfl]
    rw [eP, eR]
    clear eP eR
    by_cases ht : thr (c 0) o k = true
    · rw [if_pos ht, if_pos ht]
      rcases hl with hl | ⟨q, hq, hl⟩
      · rw [if_pos hl, if_pos hl]
        exact ih (k + 1) n n' k (by omega) (Or.inr ⟨k, hk32, rfl⟩) (by omega) (by omega)
      · subst hl
        rw [if_neg (show ¬ (q : Int) = -1 by omega), if_neg (show ¬ (q : Int) = -1 by omega), wix ho hk32, wix ho hq, bb_s (e1 k hk32), bb_s (e1 q hq), Int.toNat_natCast, Int.toNat_natCast, if_pos (show 0 ≤ ((32 * o + k : Nat) : Int) ∧ ((32 * o + k : Nat) : Int) < 128 by omega), if_pos (show 0 ≤ ((32 * o + q : Nat) : Int) ∧ ((32 * o + q : Nat) : Int) < 128 by omega)]
        by_cases h : (c 0).2 2 (32 * o + q) ≤ (c 0).2 2 (32 * o + k)
        · rw [if_pos h, if_pos h]
          exact ih (k + 1) n n' q (by omega) (Or.inr ⟨q, hq, rfl⟩) (by omega) (by omega)
        · rw [if_neg h, if_neg h]
          exact ih (k + 1) n n' k (by omega) (Or.inr ⟨k, hk32, rfl⟩) (by omega) (by omega)
    · rw [if_neg ht, if_neg ht]
      exact ih (k + 1) n n' l (by omega) hl (by omega) (by omega)
theorem L_eldest (H : GI z zp B Kt c U m) (ha : -2147483648 ≤ a1 ∧ a1 < 2147483648) : ∃ c' U' m', LStep 34 c U m a1 a2 a3 a4 a5 c' U' m' ∧ NX1 B Kt c' U' m' := by
  obtain ⟨T, X, hst, hT⟩ := H.1.1
  rcases obj_ok (a1 := a1) H.1.2.1 ha with ⟨p1, p2⟩ | ⟨o, e1, ho, hz, hz32, p1, p2⟩
  · exact ⟨c, U, m, ⟨0, 0, -1, by unfold P_eldest; rw [bb_s (p1 _ _), if_pos rfl], by unfold R_eldest; rw [bb_s (p2 _), if_pos rfl]⟩, NX1_s H⟩
  subst e1
  obtain ⟨O1, O2, O3⟩ := H.1.2.1.1 o ho
  obtain ⟨V, v1, v2⟩ := eldest_ok (T0 := mC m ++ U) ho O1 O2 O3 X.1.1.2.1 (z o) 0 100 100 (-1) (by omega) (Or.inl rfl) (by omega) (by omega)
  exact ⟨c, U, m, ⟨100, 100, V, by unfold P_eldest; rw [bb_s (p1 _ _), if_neg (by decide)]; exact v1, by unfold R_eldest; rw [bb_s (p2 _), if_neg (by decide)]; exact v2⟩, NX1_s H⟩
theorem bT_lshl1 : ∀ p, p < 32 → ∀ q, q < 64 → bT (ay_lshl 1 ((p : Nat) : Int)) q = decide (q = p) := by decide +kernel
theorem bT_m32 : ∀ q, q < 64 → bT 4294967295 q = decide (q < 32) := by decide +kernel
theorem bT_bt (x : Int) (hi : i < 32) : bT x i = bt x i := by
  unfold bT bt
  show (BitVec.ofInt 64 x).toNat.testBit i = (BitVec.ofInt 32 x).toNat.testBit i
  rw [BitVec.toNat_ofInt, BitVec.toNat_ofInt]
  have e : (x % ((2 ^ 32 : Nat) : Int)).toNat = (x % ((2 ^ 64 : Nat) : Int)).toNat % 2 ^ 32 := by omega
  rw [e, Nat.testBit_mod_two_pow, decide_eq_true hi, Bool.true_and]
theorem lor_ok (x y : Int) : -9223372036854775808 ≤ ay_lor x y ∧ ay_lor x y < 9223372036854775808 := ⟨Int64.le_toInt _, Int64.toInt_lt _⟩
theorem bits_ok (ho : o < 4) (O2 : m.2 0 (6 + o) = (z o : Int)) (O3 : z o ≤ 32) {g : Nat → Bool} {fl : Int} (h1 : 0 ≤ fl) (h2 : fl < 7) (hP : ∀ p, p < 32 → m.2 0 (18 + 7 * (32 * o + p) + fl.toNat) = if g p = true then 1 else 0) (d : Nat) : ∀ (k n : Nat) (l : Int), k + d = z o → (-9223372036854775808 ≤ l ∧ l < 9223372036854775808) → (∀ i, i < 64 → bT l i = (decide (i < k) && g i)) → d < n → ∃ V : Int, R_bitsOf_5 n m (o : Int) fl l (k : Int) = some (V, m) ∧ (-9223372036854775808 ≤ V ∧ V < 9223372036854775808) ∧ ∀ i, i < 64 → bT V i = (decide (i < z o) && g i) := by
  induction d with
  | zero =>
    intro k n l hk hr hl hn
    obtain ⟨n, rfl⟩ : ∃ N, n = N + 1 := ⟨n - 1, by omega⟩
    refine ⟨l, ?_, hr, ?_⟩
    · rw [R_bitsOf_5, w6o (by omega), if_pos ⟨by omega, by omega⟩, Int.toNat_natCast, O2, if_pos (by omega)]
    · rw [show z o = k by omega]; exact hl
  | succ d ih =>
    intro k n l hk hr hl hn
    obtain ⟨n, rfl⟩ : ∃ N, n = N + 1 := ⟨n - 1, by omega⟩
    rw [R_bitsOf_5, w6o (by omega), if_pos ⟨by omega, by omega⟩, Int.toNat_natCast, O2, if_neg (by omega), bb_s (R_pageAt_ok _ _ ho (show k < 32 by omega) h1 h2), hP k (by omega), wad1 (by omega)]
    by_cases hg : g k = true
    · rw [if_pos hg, if_pos rfl]
      refine ih (k + 1) n _ (by omega) (lor_ok _ _) (fun i hi => ?_) (by omega)
      rw [bT_or, hl i hi, bT_lshl1 k (by omega) i hi]
      by_cases e : i = k
      · rw [e, hg, decide_eq_false (by omega), decide_eq_true (show k < k + 1 by omega)]; simp
      · rw [decide_eq_false e, Bool.or_false]
        have : decide (i < k) = decide (i < k + 1) := decide_eq_decide.2 (by omega)
        rw [this]
    · rw [if_neg hg, if_neg (by decide)]
      refine ih (k + 1) n _ (by omega) (lor_ok _ _) (fun i hi => ?_) (by omega)
      rw [bT_or, hl i hi, bT_z, Bool.or_false]
      by_cases e : i = k
      · rw [e, Bool.eq_false_iff.2 hg, Bool.and_false, Bool.and_false]
      · have : decide (i < k) = decide (i < k + 1) := decide_eq_decide.2 (by omega)
        rw [this]
theorem land_ok {g : Nat → Bool} {V : Int} (O3 : z o ≤ 32) (hg : ∀ i, i < 32 → bt x i = g i) (hz : ∀ i, i < 32 → g i = true → i < z o) (hr : -9223372036854775808 ≤ V ∧ V < 9223372036854775808) (hV : ∀ i, i < 64 → bT V i = (decide (i < z o) && g i)) : ay_land x 4294967295 = V := by
  refine bT_ext (ay_land_ok _ _) hr fun i hi => ?_
  rw [bT_and, bT_m32 i hi, hV i hi]
  by_cases h : i < 32
  · rw [bT_bt x h, hg i h, decide_eq_true h, Bool.and_true]
    by_cases e : g i = true
    · rw [e, decide_eq_true (hz i h e)]; rfl
    · rw [Bool.eq_false_iff.2 e, Bool.and_false]
  · rw [decide_eq_false h, Bool.and_false, decide_eq_false (by omega)]; rfl
theorem L_dirty (H : GI z zp B Kt c U m) (ha : -2147483648 ≤ a1 ∧ a1 < 2147483648) : ∃ c' U' m', LStep 35 c U m a1 a2 a3 a4 a5 c' U' m' ∧ NX1 B Kt c' U' m' := by
  obtain ⟨T, X, hst, hT⟩ := H.1.1
  rcases obj_ok (a1 := a1) H.1.2.1 ha with ⟨p1, p2⟩ | ⟨o, e1, ho, hz, hz32, p1, p2⟩
  · exact ⟨c, U, m, ⟨0, 0, -1, by unfold P_dirty; rw [bb_s (p1 _ _), if_pos rfl], by unfold R_dirty; rw [bb_s (p2 _), if_pos rfl]⟩, NX1_s H⟩
  subst e1
  obtain ⟨O1, O2, O3⟩ := H.1.2.1.1 o ho
  obtain ⟨V, v1, v2, v3⟩ := bits_ok (g := drt (c 0) o) (fl := 4) ho O2 O3 (by decide) (by decide) (fun p hp => (X.1.1.2.1 o p ho hp).2.2.2.1) (z o) 0 100 0 (by omega) (by decide) (fun i hi => by rw [bT_z, decide_eq_false (Nat.not_lt_zero _)]; rfl) (by omega)
  have e := land_ok (x := (c 0).2 7 o) O3 (fun i hi => rfl) (fun i hi hg => X.2.2.2.1.1 o i ho hi ((X.1.2.2.2.1 o i ho hi).1 hg)) v2 v3
  refine ⟨c, U, m, ⟨100, 100, V, ?_, ?_⟩, NX1_s H⟩
  · unfold P_dirty
    rw [bb_s (p1 _ _), if_neg (by decide), if_pos ⟨by omega, by omega⟩, Int.toNat_natCast]
    exact congrArg (fun y => some (y, (c, mC m ++ U))) e
  · unfold R_dirty R_bitsOf
    have v1' : R_bitsOf_5 100 m (o : Int) 4 0 0 = some (V, m) := v1
    rw [bb_s (p2 _), if_neg (by decide), bb_s v1']
theorem L_there (H : GI z zp B Kt c U m) (ha : -2147483648 ≤ a1 ∧ a1 < 2147483648) : ∃ c' U' m', LStep 36 c U m a1 a2 a3 a4 a5 c' U' m' ∧ NX1 B Kt c' U' m' := by
  obtain ⟨T, X, hst, hT⟩ := H.1.1
  rcases obj_ok (a1 := a1) H.1.2.1 ha with ⟨p1, p2⟩ | ⟨o, e1, ho, hz, hz32, p1, p2⟩
  · exact ⟨c, U, m, ⟨0, 0, -1, by unfold P_there; rw [bb_s (p1 _ _), if_pos rfl], by unfold R_there; rw [bb_s (p2 _), if_pos rfl]⟩, NX1_s H⟩
  subst e1
  obtain ⟨O1, O2, O3⟩ := H.1.2.1.1 o ho
  obtain ⟨V, v1, v2, v3⟩ := bits_ok (g := thr (c 0) o) (fl := 1) ho O2 O3 (by decide) (by decide) (fun p hp => (X.1.1.2.1 o p ho hp).1) (z o) 0 100 0 (by omega) (by decide) (fun i hi => by rw [bT_z, decide_eq_false (Nat.not_lt_zero _)]; rfl) (by omega)
  have e := land_ok (x := (c 0).2 6 o) O3 (fun i hi => rfl) (fun i hi hg => X.2.2.2.1.1 o i ho hi hg) v2 v3
  refine ⟨c, U, m, ⟨100, 100, V, ?_, ?_⟩, NX1_s H⟩
  · unfold P_there
    rw [bb_s (p1 _ _), if_neg (by decide), if_pos ⟨by omega, by omega⟩, Int.toNat_natCast]
    exact congrArg (fun y => some (y, (c, mC m ++ U))) e
  · unfold R_there R_bitsOf
    have v1' : R_bitsOf_5 100 m (o : Int) 1 0 0 = some (V, m) := v1
    rw [bb_s (p2 _), if_neg (by decide), bb_s v1']
end
