/-! How many bits: Integer.bitCount. -/
def dg (B : Nat) (f : Nat → Nat) : Nat → Nat
  | 0 => 0
  | k + 1 => f 0 + B * dg B (fun i => f (i + 1)) k
theorem dg_congr {B : Nat} : ∀ {k : Nat} {f g : Nat → Nat}, (∀ i, i < k → f i = g i) → dg B f k = dg B g k
  | 0, _, _, _ => rfl
  | k + 1, f, g, h => by
    show f 0 + B * dg B (fun i => f (i + 1)) k = g 0 + B * dg B (fun i => g (i + 1)) k
    rw [h 0 (by omega), dg_congr (fun i hi => h (i + 1) (by omega))]
theorem dg_add (B : Nat) : ∀ (k : Nat) (f g : Nat → Nat), dg B (fun i => f i + g i) k = dg B f k + dg B g k
  | 0, _, _ => rfl
  | k + 1, f, g => by
    show f 0 + g 0 + B * dg B (fun i => f (i + 1) + g (i + 1)) k = (f 0 + B * dg B (fun i => f (i + 1)) k) + (g 0 + B * dg B (fun i => g (i + 1)) k)
    rw [dg_add B k (fun i => f (i + 1)) (fun i => g (i + 1)), Nat.mul_add]
    omega
theorem dg_lt {B : Nat} (hB : 0 < B) : ∀ {k : Nat} {f : Nat → Nat}, (∀ i, i < k → f i < B) → dg B f k < B ^ k
  | 0, _, _ => Nat.one_pos
  | k + 1, f, h => by
    show f 0 + B * dg B (fun i => f (i + 1)) k < B ^ (k + 1)
    have a := h 0 (by omega)
    have b := dg_lt hB (k := k) (f := fun i => f (i + 1)) (fun i hi => h (i + 1) (by omega))
    have c : B * (dg B (fun i => f (i + 1)) k + 1) ≤ B * B ^ k := Nat.mul_le_mul_left B b
    rw [Nat.pow_succ, Nat.mul_comm (B ^ k)]
    rw [Nat.mul_add] at c
    omega
theorem dg_div {B : Nat} {f : Nat → Nat} (k : Nat) (h : f 0 < B) : dg B f (k + 1) / B = dg B (fun i => f (i + 1)) k := by
  show (f 0 + B * dg B (fun i => f (i + 1)) k) / B = _
  rw [Nat.add_mul_div_left _ _ (by omega), Nat.div_eq_of_lt h, Nat.zero_add]
theorem dg_mod {B : Nat} {f : Nat → Nat} (k : Nat) (h : f 0 < B) : dg B f (k + 1) % B = f 0 := by
  show (f 0 + B * dg B (fun i => f (i + 1)) k) % B = _
  rw [Nat.add_mul_mod_self_left, Nat.mod_eq_of_lt h]
theorem dg_pad (B : Nat) : ∀ (k : Nat) (f : Nat → Nat), f k = 0 → dg B f (k + 1) = dg B f k
  | 0, f, h => by show f 0 + B * 0 = 0; rw [h, Nat.mul_zero]
  | k + 1, f, h => by
    show f 0 + B * dg B (fun i => f (i + 1)) (k + 1) = f 0 + B * dg B (fun i => f (i + 1)) k
    rw [dg_pad B k (fun i => f (i + 1)) h]
theorem dg_pair (B : Nat) : ∀ (k : Nat) (f : Nat → Nat), dg B f (2 * k) = dg (B * B) (fun i => f (2 * i) + B * f (2 * i + 1)) k
  | 0, _ => rfl
  | k + 1, f => by
    show f 0 + B * (f 1 + B * dg B (fun i => f (i + 2)) (2 * k)) = (f 0 + B * f 1) + B * B * dg (B * B) (fun i => f (2 * (i + 1)) + B * f (2 * (i + 1) + 1)) k
    rw [dg_pair B k (fun i => f (i + 2)), Nat.mul_add, Nat.mul_assoc, Nat.add_assoc]
    rfl
theorem and_split (r a A c C : Nat) (ha : a < 2 ^ r) (hc : c < 2 ^ r) : (a + 2 ^ r * A) &&& (c + 2 ^ r * C) = (a &&& c) + 2 ^ r * (A &&& C) := by
  have e := Nat.mod_add_div ((a + 2 ^ r * A) &&& (c + 2 ^ r * C)) (2 ^ r)
  have hp : 0 < 2 ^ r := Nat.two_pow_pos r
  rw [Nat.and_mod_two_pow, Nat.and_div_two_pow, Nat.add_mul_mod_self_left, Nat.add_mul_mod_self_left, Nat.mod_eq_of_lt ha, Nat.mod_eq_of_lt hc, Nat.add_mul_div_left _ _ hp, Nat.add_mul_div_left _ _ hp, Nat.div_eq_of_lt ha, Nat.div_eq_of_lt hc, Nat.zero_add, Nat.zero_add] at e
  exact e.symm
theorem dg_and (r : Nat) : ∀ (k : Nat) (f g : Nat → Nat), (∀ i, i < k → f i < 2 ^ r) → (∀ i, i < k → g i < 2 ^ r) → dg (2 ^ r) f k &&& dg (2 ^ r) g k = dg (2 ^ r) (fun i => f i &&& g i) k
  | 0, _, _, _, _ => Nat.and_self 0
  | k + 1, f, g, hf, hg => by
    show (f 0 + 2 ^ r * dg (2 ^ r) (fun i => f (i + 1)) k) &&& (g 0 + 2 ^ r * dg (2 ^ r) (fun i => g (i + 1)) k) = (f 0 &&& g 0) + 2 ^ r * dg (2 ^ r) (fun i => f (i + 1) &&& g (i + 1)) k
    rw [and_split r _ _ _ _ (hf 0 (by omega)) (hg 0 (by omega)), dg_and r k _ _ (fun i hi => hf (i + 1) (by omega)) (fun i hi => hg (i + 1) (by omega))]
def bn (b : Bool) : Nat := bif b then 1 else 0
theorem bn_le (b : Bool) : bn b ≤ 1 := by cases b <;> decide
theorem dg_bits : ∀ (k N : Nat), dg 2 (fun i => bn (N.testBit i)) k = N % 2 ^ k
  | 0, N => by show 0 = N % 1; omega
  | k + 1, N => by
    show bn (N.testBit 0) + 2 * dg 2 (fun i => bn (N.testBit (i + 1))) k = _
    have e : dg 2 (fun i => bn (N.testBit (i + 1))) k = (N / 2) % 2 ^ k := by
      rw [← dg_bits k (N / 2)]
      exact dg_congr (fun i _ => by rw [Nat.testBit_succ])
    rw [e, show N % 2 ^ (k + 1) = N % 2 + 2 * (N / 2 % 2 ^ k) by rw [Nat.pow_succ, Nat.mul_comm, Nat.mod_mul]]
    congr 1
    rw [Nat.testBit_zero]
    rcases Nat.mod_two_eq_zero_or_one N with h | h <;> rw [h] <;> rfl
theorem dg_cn (b : Nat → Bool) : ∀ k, dg 1 (fun i => bn (b i)) k = cn b k := by
  have g : ∀ (k : Nat) (f : Nat → Nat), dg 1 f (k + 1) = dg 1 f k + f k := by
    intro k
    induction k with
    | zero => intro f; show f 0 + 1 * 0 = 0 + f 0; omega
    | succ k ih =>
      intro f
      show f 0 + 1 * dg 1 (fun i => f (i + 1)) (k + 1) = (f 0 + 1 * dg 1 (fun i => f (i + 1)) k) + f (k + 1)
      rw [ih]; omega
  intro k
  induction k with
  | zero => rfl
  | succ k ih => rw [g, ih]; rfl
theorem pop_nat (b : Nat → Nat) (hb : ∀ i, b i ≤ 1) (h0 : ∀ i, 32 ≤ i → b i = 0) {N x1 x2 x3 x4 x5 : Nat} (hN : N = dg 2 b 32) (h1 : N = x1 + (N / 2 &&& 1431655765)) (h2 : x2 = (x1 &&& 858993459) + (x1 / 4 &&& 858993459)) (h3 : x3 = (x2 + x2 / 16) &&& 252645135) (h4 : x4 = x3 + x3 / 256) (h5 : x5 = x4 + x4 / 65536) : x1 < 2 ^ 32 ∧ x2 < 2 ^ 31 ∧ x2 + x2 / 16 < 2 ^ 32 ∧ x3 < 2 ^ 31 ∧ x4 < 2 ^ 31 ∧ x5 < 2 ^ 31 ∧ x5 &&& 63 = dg 1 b 32 := by
  have e0 : N = dg 4 (fun i => b (2 * i) + 2 * b (2 * i + 1)) 16 := by rw [hN]; exact dg_pair 2 16 b
  have e1 : N / 2 &&& 1431655765 = dg 4 (fun i => b (2 * i + 1)) 16 := by
    have a : N / 2 = dg 2 (fun i => b (i + 1)) 32 := by
      rw [hN, dg_div 31 (by have := hb 0; omega)]
      exact (dg_pad 2 31 (fun i => b (i + 1)) (h0 32 (by omega))).symm
    have c : (1431655765 : Nat) = dg 2 (fun i => 1 - i % 2) 32 := by decide
    rw [a, c]
    have d := dg_and 1 32 (fun i => b (i + 1)) (fun i => 1 - i % 2) (fun i _ => by have := hb (i + 1); omega) (fun i _ => by omega)
    rw [show (2 : Nat) ^ 1 = 2 from rfl] at d
    rw [d, dg_pair 2 16]
    refine dg_congr (fun i _ => ?_)
    show (b (2 * i + 1) &&& (1 - 2 * i % 2)) + 2 * (b (2 * i + 1 + 1) &&& (1 - (2 * i + 1) % 2)) = b (2 * i + 1)
    rw [show 1 - 2 * i % 2 = 1 by omega, show 1 - (2 * i + 1) % 2 = 0 by omega, Nat.and_zero, Nat.and_one_is_mod]
    have := hb (2 * i + 1)
    omega
  have e2 : x1 = dg 4 (fun i => b (2 * i) + b (2 * i + 1)) 16 := by
    have a := dg_add 4 16 (fun i => b (2 * i) + b (2 * i + 1)) (fun i => b (2 * i + 1))
    have c : dg 4 (fun i => b (2 * i) + b (2 * i + 1) + b (2 * i + 1)) 16 = N := by
      rw [e0]; exact dg_congr (fun i _ => by omega)
    rw [c] at a
    rw [e1] at h1
    omega
  generalize hc : (fun i => b (2 * i) + b (2 * i + 1)) = c at e2
  have hcb : ∀ i, c i ≤ 2 := fun i => by rw [← hc]; have := hb (2 * i); have := hb (2 * i + 1); show b (2 * i) + b (2 * i + 1) ≤ 2; omega
  have hc0 : ∀ i, 16 ≤ i → c i = 0 := fun i hi => by rw [← hc]; have := h0 (2 * i) (by omega); have := h0 (2 * i + 1) (by omega); show b (2 * i) + b (2 * i + 1) = 0; omega
  have mk : ∀ f : Nat → Nat, (∀ i, f i < 4) → dg 4 f 16 &&& 858993459 = dg 16 (fun i => f (2 * i)) 8 := fun f hf => by
    have d := dg_and 2 16 f (fun i => 3 * (1 - i % 2)) (fun i _ => hf i) (fun i _ => by omega)
    rw [show (2 : Nat) ^ 2 = 4 from rfl, show dg 4 (fun i => 3 * (1 - i % 2)) 16 = 858993459 by decide] at d
    rw [d, dg_pair 4 8]
    refine dg_congr (fun i _ => ?_)
    show (f (2 * i) &&& 3 * (1 - 2 * i % 2)) + 4 * (f (2 * i + 1) &&& 3 * (1 - (2 * i + 1) % 2)) = f (2 * i)
    rw [show 3 * (1 - 2 * i % 2) = 2 ^ 2 - 1 by omega, show 3 * (1 - (2 * i + 1) % 2) = 0 by omega, Nat.and_zero, Nat.and_two_pow_sub_one_eq_mod]
    have := hf (2 * i)
    omega
  have e3 : x2 = dg 16 (fun i => c (2 * i) + c (2 * i + 1)) 8 := by
    have a : x1 / 4 = dg 4 (fun i => c (i + 1)) 16 := by
      rw [e2, dg_div 15 (by have := hcb 0; omega)]
      exact (dg_pad 4 15 (fun i => c (i + 1)) (hc0 16 (by omega))).symm
    rw [h2, a, e2, mk c (fun i => by have := hcb i; omega), mk (fun i => c (i + 1)) (fun i => by have := hcb (i + 1); omega), ← dg_add]
  generalize he : (fun i => c (2 * i) + c (2 * i + 1)) = e at e3
  have heb : ∀ i, e i ≤ 4 := fun i => by rw [← he]; have := hcb (2 * i); have := hcb (2 * i + 1); show c (2 * i) + c (2 * i + 1) ≤ 4; omega
  have he0 : ∀ i, 8 ≤ i → e i = 0 := fun i hi => by rw [← he]; have := hc0 (2 * i) (by omega); have := hc0 (2 * i + 1) (by omega); show c (2 * i) + c (2 * i + 1) = 0; omega
  have e4 : x2 + x2 / 16 = dg 16 (fun i => e i + e (i + 1)) 8 := by
    have a : x2 / 16 = dg 16 (fun i => e (i + 1)) 8 := by
      rw [e3, dg_div 7 (by have := heb 0; omega)]
      exact (dg_pad 16 7 (fun i => e (i + 1)) (he0 8 (by omega))).symm
    rw [a, dg_add, ← e3]
  have e5 : x3 = dg 256 (fun i => e (2 * i) + e (2 * i + 1)) 4 := by
    have d := dg_and 4 8 (fun i => e i + e (i + 1)) (fun i => 15 * (1 - i % 2)) (fun i _ => by have := heb i; have := heb (i + 1); show e i + e (i + 1) < 16; omega) (fun i _ => by show 15 * (1 - i % 2) < 16; omega)
    rw [show (2 : Nat) ^ 4 = 16 from rfl, show dg 16 (fun i => 15 * (1 - i % 2)) 8 = 252645135 by decide] at d
    rw [h3, e4, d, dg_pair 16 4]
    refine dg_congr (fun i _ => ?_)
    show (e (2 * i) + e (2 * i + 1) &&& 15 * (1 - 2 * i % 2)) + 16 * (e (2 * i + 1) + e (2 * i + 1 + 1) &&& 15 * (1 - (2 * i + 1) % 2)) = e (2 * i) + e (2 * i + 1)
    rw [show 15 * (1 - 2 * i % 2) = 2 ^ 4 - 1 by omega, show 15 * (1 - (2 * i + 1) % 2) = 0 by omega, Nat.and_zero, Nat.and_two_pow_sub_one_eq_mod]
    have := heb (2 * i); have := heb (2 * i + 1)
    omega
  have b1 : x1 < 2 ^ 32 := by
    have := dg_lt (B := 4) (by omega) (k := 16) (f := c) (fun i _ => by have := hcb i; omega)
    rw [e2]; exact this
  have b2 : x2 < 2 ^ 31 := by
    rw [e3, show dg 16 e 8 = e 0 + 16 * (e 1 + 16 * (e 2 + 16 * (e 3 + 16 * (e 4 + 16 * (e 5 + 16 * (e 6 + 16 * (e 7 + 16 * 0))))))) from rfl]
    have := heb 0; have := heb 1; have := heb 2; have := heb 3; have := heb 4; have := heb 5; have := heb 6; have := heb 7
    omega
  rw [show dg 256 (fun i => e (2 * i) + e (2 * i + 1)) 4 = (e 0 + e 1) + 256 * ((e 2 + e 3) + 256 * ((e 4 + e 5) + 256 * ((e 6 + e 7) + 256 * 0))) from rfl] at e5
  have q0 := heb 0; have q1 := heb 1; have q2 := heb 2; have q3 := heb 3; have q4 := heb 4; have q5 := heb 5; have q6 := heb 6; have q7 := heb 7
  have d1 : x3 / 256 = (e 2 + e 3) + 256 * ((e 4 + e 5) + 256 * (e 6 + e 7)) := by clear h2 h3 e0 e1 e2 e3 e4 h1 b1 b2; omega
  have d2 : x4 = (e 0 + e 1 + (e 2 + e 3)) + 256 * ((e 2 + e 3 + (e 4 + e 5)) + 256 * ((e 4 + e 5 + (e 6 + e 7)) + 256 * (e 6 + e 7))) := by clear h2 h3 e0 e1 e2 e3 e4 h1 b1 b2; omega
  have d3 : x4 / 65536 = (e 4 + e 5 + (e 6 + e 7)) + 256 * (e 6 + e 7) := by clear h2 h3 e0 e1 e2 e3 e4 h1 b1 b2 h4 d1; omega
  have b5 : x5 % 64 = e 0 + e 1 + e 2 + e 3 + e 4 + e 5 + e 6 + e 7 ∧ x5 < 2 ^ 31 := by clear h2 h3 e0 e1 e2 e3 e4 h1 b1 b2 h4 d1 e5; omega
  refine ⟨b1, b2, by omega, by omega, by omega, b5.2, ?_⟩
  rw [show (63 : Nat) = 2 ^ 6 - 1 from rfl, Nat.and_two_pow_sub_one_eq_mod, show (2 : Nat) ^ 6 = 64 from rfl, b5.1, ← he, ← hc]
  show ((b 0 + b 1) + (b 2 + b 3)) + ((b 4 + b 5) + (b 6 + b 7)) + ((b 8 + b 9) + (b 10 + b 11)) + ((b 12 + b 13) + (b 14 + b 15)) + ((b 16 + b 17) + (b 18 + b 19)) + ((b 20 + b 21) + (b 22 + b 23)) + ((b 24 + b 25) + (b 26 + b 27)) + ((b 28 + b 29) + (b 30 + b 31)) = b 0 + 1 * (b 1 + 1 * (b 2 + 1 * (b 3 + 1 * (b 4 + 1 * (b 5 + 1 * (b 6 + 1 * (b 7 + 1 * (b 8 + 1 * (b 9 + 1 * (b 10 + 1 * (b 11 + 1 * (b 12 + 1 * (b 13 + 1 * (b 14 + 1 * (b 15 + 1 * (b 16 + 1 * (b 17 + 1 * (b 18 + 1 * (b 19 + 1 * (b 20 + 1 * (b 21 + 1 * (b 22 + 1 * (b 23 + 1 * (b 24 + 1 * (b 25 + 1 * (b 26 + 1 * (b 27 + 1 * (b 28 + 1 * (b 29 + 1 * (b 30 + 1 * (b 31 + 1 * 0)))))))))))))))))))))))))))))))
  omega
theorem bv_w (x : Int) : BitVec.ofInt 32 (ay_w x) = BitVec.ofInt 32 x := congrArg Int32.toBitVec (ay_w_of x)
theorem bv_add (x y : Int) : BitVec.ofInt 32 (ay_w (x + y)) = BitVec.ofInt 32 x + BitVec.ofInt 32 y := by rw [bv_w, BitVec.ofInt_add]
theorem bv_sub (x y : Int) : BitVec.ofInt 32 (ay_w (x - y)) = BitVec.ofInt 32 x - BitVec.ofInt 32 y := by
  rw [bv_w]; exact congrArg Int32.toBitVec (Int32.ofInt_sub x y)
theorem bt_N (x : Int) (i : Nat) : (BitVec.ofInt 32 x).toNat.testBit i = bt x i := rfl
theorem bitCount_ok (n : Nat) (x : Int) : I_bitCount n x = some ((cn (bt x) 32 : Nat) : Int) := by
  unfold I_bitCount
  generalize hy1 : ay_w (x - ay_and (ay_ushr x 1) 1431655765) = y1
  generalize hy2 : ay_w (ay_and y1 858993459 + ay_and (ay_ushr y1 2) 858993459) = y2
  generalize hy2' : ay_w (y2 + ay_ushr y2 4) = y2'
  generalize hy3 : ay_and y2' 252645135 = y3
  generalize hy4 : ay_w (y3 + ay_ushr y3 8) = y4
  generalize hy5 : ay_w (y4 + ay_ushr y4 16) = y5
  congr 1
  have z1 : BitVec.ofInt 32 y1 = BitVec.ofInt 32 x - (BitVec.ofInt 32 x >>> 1 &&& 1431655765#32) := by
    rw [← hy1, bv_sub, bv_and]; congr 2; exact bv_ushr x (p := 1) (by omega)
  have z2 : BitVec.ofInt 32 y2 = (BitVec.ofInt 32 y1 &&& 858993459#32) + (BitVec.ofInt 32 y1 >>> 2 &&& 858993459#32) := by
    rw [← hy2, bv_add, bv_and, bv_and]; congr 2; exact bv_ushr y1 (p := 2) (by omega)
  have z2' : BitVec.ofInt 32 y2' = BitVec.ofInt 32 y2 + BitVec.ofInt 32 y2 >>> 4 := by
    rw [← hy2', bv_add]; congr 1; exact bv_ushr y2 (p := 4) (by omega)
  have z3 : BitVec.ofInt 32 y3 = BitVec.ofInt 32 y2' &&& 252645135#32 := by rw [← hy3, bv_and]; rfl
  have z4 : BitVec.ofInt 32 y4 = BitVec.ofInt 32 y3 + BitVec.ofInt 32 y3 >>> 8 := by
    rw [← hy4, bv_add]; congr 1; exact bv_ushr y3 (p := 8) (by omega)
  have z5 : BitVec.ofInt 32 y5 = BitVec.ofInt 32 y4 + BitVec.ofInt 32 y4 >>> 16 := by
    rw [← hy5, bv_add]; congr 1; exact bv_ushr y4 (p := 16) (by omega)
  have t1 := congrArg BitVec.toNat z1
  have t2 := congrArg BitVec.toNat z2
  have t2' := congrArg BitVec.toNat z2'
  have t3 := congrArg BitVec.toNat z3
  have t4 := congrArg BitVec.toNat z4
  have t5 := congrArg BitVec.toNat z5
  simp only [BitVec.toNat_sub, BitVec.toNat_add, BitVec.toNat_and, BitVec.toNat_ushiftRight, Nat.shiftRight_eq_div_pow, BitVec.toNat_ofNat] at t1 t2 t2' t3 t4 t5
  have hN : (BitVec.ofInt 32 x).toNat = dg 2 (fun i => bn (bt x i)) 32 := by
    have := dg_bits 32 (BitVec.ofInt 32 x).toNat
    rw [Nat.mod_eq_of_lt (BitVec.isLt _)] at this
    exact this.symm
  have hlN := (BitVec.ofInt 32 x).isLt
  generalize (BitVec.ofInt 32 x).toNat = N at hN t1 hlN
  have hle : N / 2 &&& 1431655765 ≤ N / 2 := Nat.and_le_left
  obtain ⟨c1, c2, c3, c4, c5, c6, c7⟩ := pop_nat (fun i => bn (bt x i)) (fun i => bn_le _) (fun i hi => by show bn (bt x i) = 0; rw [bt_ge hi]; rfl) (x1 := N - (N / 2 &&& 1431655765)) hN (by omega) rfl rfl rfl rfl
  have s1 : (BitVec.ofInt 32 y1).toNat = N - (N / 2 &&& 1431655765) := by
    rw [t1]
    simp only [show (1431655765 % 2 ^ 32 : Nat) = 1431655765 from rfl, show (2 ^ 1 : Nat) = 2 from rfl]
    omega
  rw [s1] at t2
  simp only [show (858993459 % 2 ^ 32 : Nat) = 858993459 from rfl, show (2 ^ 2 : Nat) = 4 from rfl] at t2
  rw [Nat.mod_eq_of_lt (by omega)] at t2
  rw [t2] at t2'
  simp only [show (2 ^ 4 : Nat) = 16 from rfl] at t2'
  rw [Nat.mod_eq_of_lt c3] at t2'
  rw [t2'] at t3
  simp only [show (252645135 % 2 ^ 32 : Nat) = 252645135 from rfl] at t3
  rw [t3] at t4
  simp only [show (2 ^ 8 : Nat) = 256 from rfl] at t4
  rw [Nat.mod_eq_of_lt (by omega)] at t4
  rw [t4] at t5
  simp only [show (2 ^ 16 : Nat) = 65536 from rfl] at t5
  rw [Nat.mod_eq_of_lt (by omega)] at t5
  have hf : ay_and y5 63 = BitVec.toInt (BitVec.ofInt 32 y5 &&& 63#32) := rfl
  rw [hf]
  have hn : (BitVec.ofInt 32 y5 &&& 63#32).toNat = cn (bt x) 32 := by
    rw [BitVec.toNat_and, t5, ← dg_cn]
    exact c7
  have hc := cn_le (bt x) 32
  rw [BitVec.toInt_eq_toNat_of_lt (by rw [hn]; omega), hn]
