/-! Questions that count pages. -/
section
variable {n n' B Kt T k j i o p f s M b : Nat} {z zp : Nat → Nat} {c : Nat → bS} {U : bH} {m w tt kk xx m' : bS} {a : Nat → Int} {v a1 a2 a3 a4 a5 x y : Int} {T0 : bH}
theorem pages_loop (ho : o < 4) (hp : p < 32) (hM : isN M) (hb : b = p - p % M) (O2 : m.2 0 (6 + o) = (z o : Int)) (O3 : z o ≤ 32) (P : RP w (m.2 0)) (hz : ∀ q, q < 32 → thr w o q = true → q < z o) (d : Nat) : ∀ (k n : Nat), k + d = b + M → b ≤ k → d < n → R_pages_28 n m (o : Int) (p : Int) (M : Int) ((cn (fun q => thr w o q && decide (b ≤ q ∧ q < b + M)) k : Nat) : Int) (k : Int) = some (((cn (fun q => thr w o q && decide (b ≤ q ∧ q < b + M)) 32 : Nat) : Int), m) := by
  have hM0 := isN_r hM
  have hpm : p % M ≤ p := Nat.mod_le _ _
  have hb32 : b + M ≤ 32 := by
    rcases hM with h | h | h <;> subst h <;> omega
  have e1 : ay_rem (p : Int) (M : Int) = ((p % M : Nat) : Int) := by rw [ay_rn' (by omega) (by omega) (by omega) (by omega)]; rfl
  have e2 : ay_w ((p : Int) - ((p % M : Nat) : Int)) = (b : Int) := by
    clear e1
    rw [ay_wi (by omega) (by omega)]; omega
  have e3 : ay_w ((b : Int) + (M : Int)) = ((b + M : Nat) : Int) := wadd (by clear e1 e2; omega)
  have fin : ∀ k, k ≤ 32 → (b + M ≤ k ∨ z o ≤ k) → cn (fun q => thr w o q && decide (b ≤ q ∧ q < b + M)) k = cn (fun q => thr w o q && decide (b ≤ q ∧ q < b + M)) 32 := fun k hk h => (cn_ext hk fun i i1 i2 => by
    clear e1 e2 e3
    rcases h with h | h
    · rw [decide_eq_false (by omega), Bool.and_false]
    · by_cases t : thr w o i = true
      · exact absurd (hz i (by omega) t) (by omega)
      · rw [Bool.eq_false_iff.2 t, Bool.false_and]).symm
  induction d with
  | zero =>
    intro k n hk hbk hn
    obtain ⟨n, rfl⟩ : ∃ N, n = N + 1 := ⟨n - 1, by clear e1 e2 e3; omega⟩
    rw [R_pages_28, if_neg (by clear e1 e2 e3; omega), e1, e2, e3, if_pos (by clear e1 e2 e3; omega), fin k (by clear e1 e2 e3; omega) (by clear e1 e2 e3; omega)]
  | succ d ih =>
    intro k n hk hbk hn
    obtain ⟨n, rfl⟩ : ∃ N, n = N + 1 := ⟨n - 1, by clear e1 e2 e3 ih; omega⟩
    have hl := cn_le (fun q => thr w o q && decide (b ≤ q ∧ q < b + M)) k
    rw [R_pages_28, if_neg (by clear e1 e2 e3 ih; omega), e1, e2, e3, if_neg (by clear e1 e2 e3 ih; omega), w6o (by clear e1 e2 e3 ih; omega), if_pos ⟨by clear e1 e2 e3 ih; omega, by clear e1 e2 e3 ih; omega⟩, Int.toNat_natCast, O2]
    by_cases hzk : z o ≤ k
    · rw [if_pos (by clear e1 e2 e3 ih; omega), fin k (by clear e1 e2 e3 ih; omega) (Or.inr hzk)]
    · rw [if_neg (by clear e1 e2 e3 ih; omega), bb_s (R_isThere_ok _ P ho (by clear e1 e2 e3 ih; omega)), wad1 (by clear e1 e2 e3 ih; omega), wad1 (by clear e1 e2 e3 ih; omega), Int.add_zero, ay_wn (by clear e1 e2 e3 ih; omega)]
      have I := ih (k + 1) n (by clear e1 e2 e3 ih; omega) (by clear e1 e2 e3 ih; omega) (by clear e1 e2 e3 ih; omega)
      rw [cn_s] at I
      by_cases t : thr w o k = true
      · rw [if_pos t, if_neg (by decide)]
        rw [t, decide_eq_true (show b ≤ k ∧ k < b + M by clear e1 e2 e3 ih I; omega), if_pos (show (true && true) = true from rfl)] at I
        exact I
      · rw [if_neg t, if_pos rfl]
        rw [Bool.eq_false_iff.2 t, Bool.false_and, if_neg (by decide), Nat.add_zero] at I
        exact I
theorem L_pages (H : GI z zp B Kt c U m) (ha : -2147483648 ≤ a1 ∧ a1 < 2147483648) (ha2 : -2147483648 ≤ a2 ∧ a2 < 2147483648) : ∃ c' U' m', LStep 28 c U m a1 a2 a3 a4 a5 c' U' m' ∧ NX1 B Kt c' U' m' := by
  obtain ⟨T, X, hst, hT⟩ := H.1.1
  rcases page_ok (a1 := a1) (a2 := a2) H.1.2.1 ha ha2 with ⟨p1, p2⟩ | ⟨o, p, e1, e2, ho, hp, hz, p1, p2⟩
  · exact ⟨c, U, m, ⟨0, 0, -1, by unfold P_pages; rw [bb_s (p1 _ _), if_pos rfl], by unfold R_pages; rw [bb_s (p2 _), if_pos rfl]⟩, NX1_s H⟩
  rcases block_ok (a1 := a3) with ⟨q1, q2⟩ | ⟨M, hM, e3, q1, q2⟩
  · exact ⟨c, U, m, ⟨0, 0, -1, by unfold P_pages; rw [bb_s (p1 _ _), if_neg (by decide), b1_s (q1 _), if_pos rfl], by unfold R_pages; rw [bb_s (p2 _), if_neg (by decide), b1_s (q2 _), if_pos rfl]⟩, NX1_s H⟩
  subst e1 e2 e3
  obtain ⟨O1, O2, O3⟩ := H.1.2.1.1 o ho
  have hM0 := isN_r hM
  have hpm : p % M ≤ p := Nat.mod_le _ _
  have L := pages_loop (b := p - p % M) ho hp hM rfl O2 O3 X.1.1.2.1 (fun q hq t => X.2.2.2.1.1 o q ho hq t) M (p - p % M) 100 rfl (Nat.le_refl _) (by omega)
  have c0 : cn (fun q => thr (c 0) o q && decide (p - p % M ≤ q ∧ q < p - p % M + M)) (p - p % M) = 0 := cn_0 fun i hi => by
    rw [decide_eq_false (by omega), Bool.and_false]
  rw [c0] at L
  refine ⟨c, U, m, ⟨100, 100, ((cn (fun q => thr (c 0) o q && decide (p - p % M ≤ q ∧ q < p - p % M + M)) 32 : Nat) : Int), ?_, ?_⟩, NX1_s H⟩
  · unfold P_pages
    rw [bb_s (p1 _ _), if_neg (by decide), b1_s (q1 _), if_neg (by decide), if_pos ⟨by omega, by omega⟩, Int.toNat_natCast, b1_s (P_blockBits_ok _ hM hp), b1_s (bitCount_ok _ _)]
    refine congrArg (fun y : Nat => some ((y : Int), (c, mC m ++ U))) (cn_congr fun i hi => ?_)
    rw [bt_and, bk_bt hM hp hi]
    rfl
  · unfold R_pages
    rw [bb_s (p2 _), if_neg (by decide), b1_s (q2 _), if_neg (by decide), if_neg (by omega)]
    have e4 : ay_rem (p : Int) (M : Int) = ((p % M : Nat) : Int) := by rw [ay_rn' (by omega) (by omega) (by omega) (by omega)]; rfl
    have e5 : ay_w ((p : Int) - ((p % M : Nat) : Int)) = ((p - p % M : Nat) : Int) := by
      clear e4
      rw [ay_wi (by omega) (by omega)]; omega
    rw [e4, e5]
    exact L
theorem lvlf4 (hI : IL w) (ho : o < 4) (hp : p < 32) : (fou w o p || six w o p) = decide (4 ≤ lvl w o p) := by
  obtain ⟨_, h2, h3⟩ := hI o p ho hp
  unfold lvl
  cases hs : six w o p with
  | true => rw [(h3 hs).1]; simp
  | false =>
    cases hf : fou w o p with
    | true => rw [(h2 hf).1]; simp
    | false =>
      cases ht : thr w o p with
      | true => simp
      | false => simp
theorem lvl_t (h : 0 < lvl w o p) : thr w o p = true := by
  unfold lvl at h
  cases ht : thr w o p with
  | true => rfl
  | false => rw [ht] at h; exact absurd h (Nat.lt_irrefl 0)
theorem reach16 (ho : o < 4) (O2 : m.2 0 (6 + o) = (z o : Int)) (O3 : z o ≤ 32) (P : RP w (m.2 0)) {K : bS → Int → Int → Option (Int × bS)} {A : Nat} (hA : A < 1000) (d : Nat) : ∀ (k n : Nat), k + d = z o → d < n → R_reach_16 K n m ((A + cn (fun q => decide (4 ≤ lvl w o q)) k : Nat) : Int) (o : Int) (k : Int) = K m ((A + cn (fun q => decide (4 ≤ lvl w o q)) (z o) : Nat) : Int) ((o + 1 : Nat) : Int) := by
  induction d with
  | zero =>
    intro k n hk hn
    obtain ⟨n, rfl⟩ : ∃ N, n = N + 1 := ⟨n - 1, by omega⟩
    rw [R_reach_16, w6o (by omega), if_pos ⟨by omega, by omega⟩, Int.toNat_natCast, O2, if_pos (by omega), wad1 (by omega), show z o = k by omega]
  | succ d ih =>
    intro k n hk hn
    obtain ⟨n, rfl⟩ : ∃ N, n = N + 1 := ⟨n - 1, by omega⟩
    have hl := cn_le (fun q => decide (4 ≤ lvl w o q)) k
    rw [R_reach_16, w6o (by omega), if_pos ⟨by omega, by omega⟩, Int.toNat_natCast, O2, if_neg (by omega), bb_s (R_levelOf_ok _ P ho (by omega)), wad1 (by omega), wad1 (by omega), Int.add_zero, ay_wn (by omega)]
    have I := ih (k + 1) n (by omega) (by omega)
    rw [cn_s] at I
    by_cases t : 4 ≤ lvl w o k
    · rw [if_neg (by omega)]
      rw [decide_eq_true t, if_pos rfl] at I
      exact I
    · rw [if_pos (by omega)]
      rw [decide_eq_false t, if_neg (by decide), Nat.add_zero] at I
      exact I
theorem reach_ok {q : Nat} (X : GX z (c 0) (m.2 0) T) (O : TO z (c 1) (m.2 0)) (q4 : q ≤ 4) (h1 : (c 1).1 4 = (q : Int)) (h2 : m.2 0 0 = (q : Int)) (d : Nat) : ∀ (o n n' A : Nat), o + d = q → A ≤ 32 * o → 40 + d < n → 40 + d < n' → ∃ V : Int, P_reach_4 n (c, T0) (A : Int) (o : Int) = some (V, (c, T0)) ∧ R_reach_4 n' m (A : Int) (o : Int) = some (V, m) := by
  induction d with
  | zero =>
    intro o n n' A ho hA hn hn'
    obtain ⟨n, rfl⟩ : ∃ N, n = N + 1 := ⟨n - 1, by omega⟩
    obtain ⟨n', rfl⟩ : ∃ N, n' = N + 1 := ⟨n' - 1, by omega⟩
    refine ⟨A, ?_, ?_⟩
    · rw [P_reach_4]; dsimp only; rw [h1, if_pos (by omega)]
    · rw [R_reach_4, h2, if_pos (by omega)]
  | succ d ih =>
    intro o n n' A ho hA hn hn'
    obtain ⟨n, rfl⟩ : ∃ N, n = N + 1 := ⟨n - 1, by omega⟩
    obtain ⟨n', rfl⟩ : ∃ N, n' = N + 1 := ⟨n' - 1, by omega⟩
    have ho4 : o < 4 := by omega
    obtain ⟨O1, O2, O3⟩ := O.1 o ho4
    have e : cn (bt (ay_or ((c 0).2 8 o) ((c 0).2 9 o))) 32 = cn (fun q => decide (4 ≤ lvl (c 0) o q)) (z o) := by
      rw [cn_congr (q := fun q => decide (4 ≤ lvl (c 0) o q)) fun i hi => (bt_or _ _ i).trans (lvlf4 X.1.2.2.2.1 ho4 hi)]
      refine cn_ext O3 fun i i1 i2 => decide_eq_false fun g => ?_
      have := X.2.2.2.1.1 o i ho4 i2 (lvl_t (by omega))
      omega
    have hl := cn_le (fun q => decide (4 ≤ lvl (c 0) o q)) (z o)
    obtain ⟨V, v1, v2⟩ := ih (o + 1) n n' (A + cn (fun q => decide (4 ≤ lvl (c 0) o q)) (z o)) (by omega) (by omega) (by omega) (by omega)
    refine ⟨V, ?_, ?_⟩
    · rw [P_reach_4]
      dsimp only
      rw [h1, if_neg (by omega), if_pos ⟨by omega, by omega⟩, if_pos ⟨by omega, by omega⟩, Int.toNat_natCast, b1_s (bitCount_ok _ _), e, wadd (by omega), wad1 (by omega)]
      exact v1
    · rw [R_reach_4, h2, if_neg (by omega)]
      have R := reach16 (K := fun s l1 l2 => R_reach_4 n' s l1 l2) (A := A) ho4 O2 O3 X.1.1.2.1 (by omega) (z o) 0 n' (by omega) (by omega)
      exact R.trans v2
theorem L_reach (H : GI z zp B Kt c U m) : ∃ c' U' m', LStep 30 c U m a1 a2 a3 a4 a5 c' U' m' ∧ NX1 B Kt c' U' m' := by
  obtain ⟨T, X, hst, hT⟩ := H.1.1
  obtain ⟨O1, q, q1, q2, q3, q4, q5⟩ := H.1.2.1
  obtain ⟨V, v1, v2⟩ := reach_ok (T0 := mC m ++ U) X H.1.2.1 q1 q2 q3 q 0 100 100 0 (by omega) (by omega) (by omega) (by omega)
  exact ⟨c, U, m, ⟨100, 100, V, v1, v2⟩, NX1_s H⟩
theorem cn_add (g : Nat → Bool) (a : Nat) : ∀ b, cn g (a + b) = cn g a + cn (fun i => g (a + i)) b
  | 0 => rfl
  | b + 1 => by rw [← Nat.add_assoc, cn_s, cn_s, cn_add g a b, Nat.add_assoc]
theorem cn_blk {g : Nat → Bool} (hM : 0 < M) (hu : ∀ q, g q = g (q - q % M)) (k : Nat) : cn g (k * M) = M * cn (fun p => g p && decide (p % M = 0)) (k * M) := by
  induction k with
  | zero => rw [Nat.zero_mul]; rfl
  | succ k ih =>
    have hmod : ∀ i, i < M → (k * M + i) % M = i := fun i hi => by rw [Nat.add_comm, Nat.add_mul_mod_self_right, Nat.mod_eq_of_lt hi]
    have hg : ∀ i, i < M → g (k * M + i) = g (k * M) := fun i hi => by rw [hu (k * M + i), hmod i hi, Nat.add_sub_cancel]
    rw [Nat.succ_mul, cn_add, cn_add, Nat.mul_add, ← ih]
    congr 1
    cases e : g (k * M) with
    | true =>
      rw [cn_full (n := M) fun i hi => (hg i hi).trans e]
      have e2 : cn (fun i => g (k * M + i) && decide ((k * M + i) % M = 0)) M = cn (fun i => decide (0 ≤ i ∧ i < 0 + 1)) M := cn_congr fun i hi => by
        rw [hg i hi, e, hmod i hi, Bool.true_and]
        exact decide_eq_decide.2 (by omega)
      rw [e2, cn_int]
      rw [show min (M - 0) 1 = 1 by omega, Nat.mul_one]
    | false =>
      rw [cn_0 fun i hi => (hg i hi).trans e, cn_0 fun i hi => by rw [hg i hi, e, Bool.false_and], Nat.mul_zero]
/-- how many entries -/
def ents (w : bS) (o : Nat) (q : Nat) : Bool := thr w o q && decide (q % lvl w o q = 0)
theorem ents_ok (hI : IL w) (ho : o < 4) : cn (ents w o) 32 = cn (bt (w.2 9 o)) 32 / 16 + cn (bt (w.2 8 o)) 32 / 4 + cn (fun q => bt (w.2 6 o) q && !bt (w.2 8 o) q && !bt (w.2 9 o) q) 32 := by
  have hs : cn (bt (w.2 9 o)) 32 = 16 * cn (fun p => bt (w.2 9 o) p && decide (p % 16 = 0)) 32 := cn_blk (M := 16) (by decide) (fun q => by
    by_cases hq : q < 32
    · cases e : bt (w.2 9 o) q with
      | true => exact (((hI o q ho hq).2.2 e).2.2 (q - q % 16) (by omega) (by omega)).1.symm
      | false =>
        cases e2 : bt (w.2 9 o) (q - q % 16) with
        | false => rfl
        | true =>
          have := (((hI o (q - q % 16) ho (by omega)).2.2 e2).2.2 q hq (by omega)).1
          exact absurd (e.symm.trans this) (by decide)
    · rw [bt_ge (by omega), bt_ge (by omega)]) 2
  have hf : cn (bt (w.2 8 o)) 32 = 4 * cn (fun p => bt (w.2 8 o) p && decide (p % 4 = 0)) 32 := cn_blk (M := 4) (by decide) (fun q => by
    by_cases hq : q < 32
    · cases e : bt (w.2 8 o) q with
      | true => exact (((hI o q ho hq).2.1 e).2.2.2 (q - q % 4) (by omega) (by omega)).1.symm
      | false =>
        cases e2 : bt (w.2 8 o) (q - q % 4) with
        | false => rfl
        | true =>
          have := (((hI o (q - q % 4) ho (by omega)).2.1 e2).2.2.2 q hq (by omega)).1
          exact absurd (e.symm.trans this) (by decide)
    · rw [bt_ge (by omega), bt_ge (by omega)]) 8
  rw [hs, hf, Nat.mul_div_cancel_left _ (by decide), Nat.mul_div_cancel_left _ (by decide)]
  have e : ∀ i, i < 32 → ents w o i = (((bt (w.2 9 o) i && decide (i % 16 = 0)) || (bt (w.2 8 o) i && decide (i % 4 = 0))) || (bt (w.2 6 o) i && !bt (w.2 8 o) i && !bt (w.2 9 o) i)) := fun i hi => by
    obtain ⟨_, h2, h3⟩ := hI o i ho hi
    have h2' : bt (w.2 8 o) i = true → bt (w.2 6 o) i = true ∧ bt (w.2 9 o) i = false := fun h => ⟨(h2 h).1, (h2 h).2.1⟩
    have h3' : bt (w.2 9 o) i = true → bt (w.2 6 o) i = true := fun h => (h3 h).1
    unfold ents lvl thr six fou
    cases e9 : bt (w.2 9 o) i with
    | true =>
      rw [h3' e9]
      cases e8 : bt (w.2 8 o) i with
      | true => exact absurd ((h2' e8).2.symm.trans e9) (by decide)
      | false => simp
    | false =>
      cases e8 : bt (w.2 8 o) i with
      | true => rw [(h2' e8).1]; simp
      | false =>
        cases e6 : bt (w.2 6 o) i with
        | true => simp; omega
        | false => simp
  rw [cn_congr e, cn_or, cn_or]
  · intro i hi h
    obtain ⟨h1, h2⟩ := h
    have h1 := (Bool.and_eq_true_iff.1 h1).1
    have h2 := (Bool.and_eq_true_iff.1 h2).1
    have := ((hI o i ho hi).2.1 h2).2.1
    exact absurd (this.symm.trans h1) (by decide)
  · intro i hi h
    obtain ⟨h1, h2⟩ := h
    simp at h1 h2
    rcases h1 with h1 | h1
    · rw [h2.2] at h1; exact absurd h1.1 (by decide)
    · rw [h2.1.2] at h1; exact absurd h1.1 (by decide)
theorem W_entriesOf_ok (n : Nat) (hI : IL w) (ho : o < 4) : W_entriesOf n w (o : Int) = some (((cn (ents w o) 32 : Nat) : Int), w) := by
  have l1 := cn_le (bt (w.2 9 o)) 32
  have l2 := cn_le (bt (w.2 8 o)) 32
  have l3 := cn_le (fun q => bt (w.2 6 o) q && !bt (w.2 8 o) q && !bt (w.2 9 o) q) 32
  have e3 : cn (bt (ay_and (ay_and (w.2 6 o) (ay_xor (w.2 8 o) (-1))) (ay_xor (w.2 9 o) (-1)))) 32 = cn (fun q => bt (w.2 6 o) q && !bt (w.2 8 o) q && !bt (w.2 9 o) q) 32 := cn_congr fun i hi => by rw [bt_and, bt_and, bt_not _ hi, bt_not _ hi]
  unfold W_entriesOf
  have c4 : 0 ≤ (o : Int) ∧ (o : Int) < 4 := by omega
  simp only [if_pos c4]
  rw [Int.toNat_natCast, b1_s (bitCount_ok _ _), b1_s (bitCount_ok _ _), b1_s (bitCount_ok _ _), e3, ay_dn (by omega) (by omega) (by omega), ay_dn (by omega) (by omega) (by omega), ents_ok hI ho, show ((cn (bt (w.2 9 o)) 32 : Nat) : Int) / 16 = ((cn (bt (w.2 9 o)) 32 / 16 : Nat) : Int) from rfl, show ((cn (bt (w.2 8 o)) 32 : Nat) : Int) / 4 = ((cn (bt (w.2 8 o)) 32 / 4 : Nat) : Int) from rfl, wadd (by omega), wadd (by omega)]
theorem R_entries4 (ho : o < 4) (O2 : m.2 0 (6 + o) = (z o : Int)) (O3 : z o ≤ 32) (P : RP w (m.2 0)) (d : Nat) : ∀ (k n : Nat), k + d = z o → d < n → R_entriesOf_4 n m (o : Int) ((cn (ents w o) k : Nat) : Int) (k : Int) = some (((cn (ents w o) (z o) : Nat) : Int), m) := by
  induction d with
  | zero =>
    intro k n hk hn
    obtain ⟨n, rfl⟩ : ∃ N, n = N + 1 := ⟨n - 1, by omega⟩
    rw [R_entriesOf_4, w6o (by omega), if_pos ⟨by omega, by omega⟩, Int.toNat_natCast, O2, if_pos (by omega), show z o = k by omega]
  | succ d ih =>
    intro k n hk hn
    obtain ⟨n, rfl⟩ : ∃ N, n = N + 1 := ⟨n - 1, by omega⟩
    have hl := cn_le (ents w o) k
    have hk32 : k < 32 := by omega
    rw [R_entriesOf_4, w6o (by omega), if_pos ⟨by omega, by omega⟩, Int.toNat_natCast, O2, if_neg (by omega), bb_s (R_isThere_ok _ P ho hk32), wad1 (by omega), wad1 (by omega), Int.add_zero, ay_wn (by omega)]
    have I := ih (k + 1) n (by omega) (by omega)
    rw [cn_s] at I
    unfold ents at I ⊢
    by_cases t : thr w o k = true
    · have hlv : 0 < lvl w o k ∧ lvl w o k ≤ 16 := by
        unfold lvl
        rw [t]
        cases six w o k <;> cases fou w o k <;> decide
      have er : ay_rem (k : Int) (lvl w o k : Int) = ((k % lvl w o k : Nat) : Int) := by rw [ay_rn' (by omega) (by omega) (by omega) (by omega)]; rfl
      rw [if_pos t, if_neg (by decide), bb_s (R_levelOf_ok _ P ho hk32), if_neg (by clear er; omega), er]
      clear er
      rw [t, Bool.true_and] at I
      by_cases h : k % lvl w o k = 0
      · rw [if_pos (by omega)]
        rw [decide_eq_true h, if_pos rfl] at I
        exact I
      · rw [if_neg (by omega)]
        rw [decide_eq_false h, if_neg (by decide), Nat.add_zero] at I
        exact I
    · rw [if_neg t, if_pos rfl]
      rw [Bool.eq_false_iff.2 t, Bool.false_and, if_neg (by decide), Nat.add_zero] at I
      exact I
theorem R_entriesOf_ok (ho : o < 4) (O2 : m.2 0 (6 + o) = (z o : Int)) (O3 : z o ≤ 32) (P : RP w (m.2 0)) (S : SZ z w) (hn : 40 < n) : R_entriesOf n m (o : Int) = some (((cn (ents w o) 32 : Nat) : Int), m) := by
  have e : cn (ents w o) 32 = cn (ents w o) (z o) := cn_ext O3 fun i i1 i2 => by
    unfold ents
    by_cases t : thr w o i = true
    · exact absurd (S.1 o i ho i2 t) (by omega)
    · rw [Bool.eq_false_iff.2 t, Bool.false_and]
  rw [e]
  exact R_entries4 ho O2 O3 P (z o) 0 n (by omega) (by omega)
theorem L_entries (H : GI z zp B Kt c U m) (ha : -2147483648 ≤ a1 ∧ a1 < 2147483648) : ∃ c' U' m', LStep 26 c U m a1 a2 a3 a4 a5 c' U' m' ∧ NX1 B Kt c' U' m' := by
  obtain ⟨T, X, hst, hT⟩ := H.1.1
  rcases obj_ok (a1 := a1) H.1.2.1 ha with ⟨p1, p2⟩ | ⟨o, e1, ho, hz, hz32, p1, p2⟩
  · exact ⟨c, U, m, ⟨0, 0, -1, by unfold P_entries; rw [bb_s (p1 _ _), if_pos rfl], by unfold R_entries; rw [bb_s (p2 _), if_pos rfl]⟩, NX1_s H⟩
  subst e1
  obtain ⟨O1, O2, O3⟩ := H.1.2.1.1 o ho
  exact ⟨c, U, m, ⟨100, 100, _, by unfold P_entries; rw [bb_s (p1 _ _), if_neg (by decide), bb_s (W_entriesOf_ok _ X.1.2.2.2.1 ho), bU_id], by unfold R_entries; rw [bb_s (p2 _), if_neg (by decide), bb_s (R_entriesOf_ok ho O2 O3 X.1.1.2.1 X.2.2.2.1 (by decide))]⟩, NX1_s H⟩
end
