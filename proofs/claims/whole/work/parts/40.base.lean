/-! Numbers, bits, loops, counts, searches. -/
theorem ay_Wi {x : Int} (h1 : -9223372036854775808 ≤ x) (h2 : x < 9223372036854775808) : ay_W x = x := Int.bmod_eq_of_le (by omega) (by omega)
theorem ay_wn {x : Nat} (h : x < 2147483648) : ay_w (x : Int) = (x : Int) := ay_wi (by omega) (by omega)
theorem td_nn {x y : Int} (h1 : 0 ≤ x) : Int.tdiv x y = x / y := Int.tdiv_eq_ediv_of_nonneg h1
theorem ay_dn {x y : Int} (h1 : 0 ≤ x) (h2 : x < 2147483648) (h3 : 0 < y) : ay_w (Int.tdiv x y) = x / y := by
  rw [td_nn h1]
  have a : 0 ≤ x / y := Int.ediv_nonneg h1 (by omega)
  have b : x / y ≤ x := Int.ediv_le_self y h1
  exact ay_wi (by omega) (by omega)
theorem ay_rn' {x y : Int} (h1 : 0 ≤ x) (h2 : x < 2147483648) (h3 : 0 < y) (h4 : y < 2147483648) : ay_rem x y = x % y := by
  unfold ay_rem
  have a : 0 ≤ x / y := Int.ediv_nonneg h1 (by omega)
  have b : x / y ≤ x := Int.ediv_le_self y h1
  have e := Int.mul_ediv_add_emod x y
  have c := Int.emod_nonneg x (show y ≠ 0 by omega)
  have d := Int.emod_lt_of_pos x h3
  rw [ay_dn h1 h2 h3]
  have f : x / y * y = x - x % y := by rw [Int.mul_comm]; omega
  rw [f, ay_wi (x := x - x % y) (by omega) (by omega), ay_wi (by omega) (by omega)]
  omega
/-- bits of a number of 32 -/
def bt (x : Int) (p : Nat) : Bool := (BitVec.ofInt 32 x).getLsbD p
theorem bt_ge {x : Int} {p : Nat} (h : 32 ≤ p) : bt x p = false := BitVec.getLsbD_of_ge _ _ h
theorem bv_and (x y : Int) : BitVec.ofInt 32 (ay_and x y) = BitVec.ofInt 32 x &&& BitVec.ofInt 32 y := by
  show BitVec.ofInt 32 (BitVec.toInt (BitVec.ofInt 32 x &&& BitVec.ofInt 32 y)) = _
  rw [BitVec.ofInt_toInt]
theorem bv_or (x y : Int) : BitVec.ofInt 32 (ay_or x y) = BitVec.ofInt 32 x ||| BitVec.ofInt 32 y := by
  show BitVec.ofInt 32 (BitVec.toInt (BitVec.ofInt 32 x ||| BitVec.ofInt 32 y)) = _
  rw [BitVec.ofInt_toInt]
theorem bv_xor (x y : Int) : BitVec.ofInt 32 (ay_xor x y) = BitVec.ofInt 32 x ^^^ BitVec.ofInt 32 y := by
  show BitVec.ofInt 32 (BitVec.toInt (BitVec.ofInt 32 x ^^^ BitVec.ofInt 32 y)) = _
  rw [BitVec.ofInt_toInt]
theorem bt_and (x y : Int) (p : Nat) : bt (ay_and x y) p = (bt x p && bt y p) := by unfold bt; rw [bv_and, BitVec.getLsbD_and]
theorem bt_or (x y : Int) (p : Nat) : bt (ay_or x y) p = (bt x p || bt y p) := by unfold bt; rw [bv_or, BitVec.getLsbD_or]
theorem bt_not (x : Int) {p : Nat} (h : p < 32) : bt (ay_xor x (-1)) p = !bt x p := by
  unfold bt
  rw [bv_xor, BitVec.getLsbD_xor, show BitVec.ofInt 32 (-1) = BitVec.allOnes 32 from by decide, BitVec.getLsbD_allOnes, decide_eq_true h, Bool.xor_true]
theorem bt_z (p : Nat) : bt 0 p = false := by
  unfold bt; rw [show BitVec.ofInt 32 0 = 0#32 from by decide]; simp
theorem bt_m1 {p : Nat} (h : p < 32) : bt (-1) p = true := by
  unfold bt; rw [show BitVec.ofInt 32 (-1) = BitVec.allOnes 32 from by decide, BitVec.getLsbD_allOnes, decide_eq_true h]
theorem ay_and_ok (x y : Int) : -2147483648 ≤ ay_and x y ∧ ay_and x y < 2147483648 := ⟨Int32.le_toInt _, Int32.toInt_lt _⟩
theorem ay_or_ok (x y : Int) : -2147483648 ≤ ay_or x y ∧ ay_or x y < 2147483648 := ⟨Int32.le_toInt _, Int32.toInt_lt _⟩
theorem ay_xor_ok (x y : Int) : -2147483648 ≤ ay_xor x y ∧ ay_xor x y < 2147483648 := ⟨Int32.le_toInt _, Int32.toInt_lt _⟩
theorem ay_shl_ok (x y : Int) : -2147483648 ≤ ay_shl x y ∧ ay_shl x y < 2147483648 := ⟨Int32.le_toInt _, Int32.toInt_lt _⟩
theorem ay_ushr_ok (x y : Int) : -2147483648 ≤ ay_ushr x y ∧ ay_ushr x y < 2147483648 := ⟨Int32.le_toInt _, Int32.toInt_lt _⟩
/-- numbers with the same bits are the same -/
theorem bt_ext {x y : Int} (hx : -2147483648 ≤ x ∧ x < 2147483648) (hy : -2147483648 ≤ y ∧ y < 2147483648) (h : ∀ p, p < 32 → bt x p = bt y p) : x = y := by
  have e : BitVec.ofInt 32 x = BitVec.ofInt 32 y := BitVec.eq_of_getLsbD_eq (fun p hp => h p hp)
  have e2 := congrArg BitVec.toInt e
  rw [BitVec.toInt_ofInt, BitVec.toInt_ofInt] at e2
  have a : Int.bmod x (2 ^ 32) = x := Int.bmod_eq_of_le (by omega) (by omega)
  have b : Int.bmod y (2 ^ 32) = y := Int.bmod_eq_of_le (by omega) (by omega)
  rw [a, b] at e2
  exact e2
theorem bt_eq {x y : Int} (hx : -2147483648 ≤ x ∧ x < 2147483648) (hy : -2147483648 ≤ y ∧ y < 2147483648) : x = y ↔ ∀ p, p < 32 → bt x p = bt y p := ⟨fun e p _ => by rw [e], bt_ext hx hy⟩
theorem and_z (x y : Int) : ay_and x y = 0 ↔ ∀ p, p < 32 → bt y p = true → bt x p = false := by
  rw [bt_eq (ay_and_ok x y) (by omega)]
  refine ⟨fun h p hp hy => ?_, fun h p hp => ?_⟩
  · have := h p hp
    rw [bt_and, bt_z, hy, Bool.and_true] at this
    exact this
  · rw [bt_and, bt_z]
    cases hy : bt y p
    · rw [Bool.and_false]
    · rw [h p hp hy]; rfl
theorem and_s (x y : Int) (hy : -2147483648 ≤ y ∧ y < 2147483648) : ay_and x y = y ↔ ∀ p, p < 32 → bt y p = true → bt x p = true := by
  rw [bt_eq (ay_and_ok x y) hy]
  refine ⟨fun h p hp hy => ?_, fun h p hp => ?_⟩
  · have := h p hp
    rw [bt_and, hy, Bool.and_true] at this
    exact this
  · rw [bt_and]
    cases hy : bt y p
    · rw [Bool.and_false]
    · rw [h p hp hy]; rfl
theorem us_amt : ∀ p, p < 32 → ((Int32.ofInt ((p : Nat) : Int)).toUInt32 &&& Int32.toUInt32 31) = UInt32.ofNat p := by decide +kernel
theorem bv_ushr (x : Int) {p : Nat} (h : p < 32) : BitVec.ofInt 32 (ay_ushr x p) = BitVec.ofInt 32 x >>> p := by
  unfold ay_ushr
  rw [us_amt p h]
  show BitVec.ofInt 32 (BitVec.toInt (BitVec.ofInt 32 x >>> ((UInt32.ofNat p).toBitVec % 32#32))) = _
  rw [BitVec.ofInt_toInt]
  have e : ((UInt32.ofNat p).toBitVec % 32#32).toNat = p := by
    rw [BitVec.toNat_umod]
    show (UInt32.ofNat p).toNat % 32 = p
    rw [UInt32.toNat_ofNat_of_lt' (by show p < 4294967296; omega), Nat.mod_eq_of_lt h]
  rw [BitVec.ushiftRight_eq' , e]
theorem bt_ushr (x : Int) {p : Nat} (h : p < 32) (q : Nat) : bt (ay_ushr x p) q = bt x (p + q) := by
  unfold bt; rw [bv_ushr x h, BitVec.getLsbD_ushiftRight]
theorem bt_one : ∀ p, p < 32 → bt 1 p = decide (p = 0) := by decide +kernel
theorem bit_1 (x : Int) {p : Nat} (h : p < 32) : ay_and (ay_ushr x p) 1 = if bt x p then 1 else 0 := by
  refine bt_ext (ay_and_ok _ _) (by split <;> omega) (fun q hq => ?_)
  rw [bt_and, bt_ushr x h, bt_one q hq]
  by_cases hq0 : q = 0
  · subst hq0
    rw [decide_eq_true rfl, Bool.and_true, Nat.add_zero]
    cases bt x p
    · exact (bt_z 0).symm
    · exact (bt_one 0 (by omega)).symm
  · rw [decide_eq_false hq0, Bool.and_false]
    cases bt x p
    · exact (bt_z q).symm
    · rw [if_pos rfl, bt_one q hq, decide_eq_false hq0]
theorem bit_is (x : Int) {p : Nat} (h : p < 32) : (ay_and (ay_ushr x p) 1 = 1) ↔ bt x p = true := by
  rw [bit_1 x h]; cases bt x p <;> simp
theorem bt_shl1 : ∀ p, p < 32 → ∀ q, q < 32 → bt (ay_shl 1 ((p : Nat) : Int)) q = decide (q = p) := by decide +kernel
/-- how many below n -/
def cn (p : Nat → Bool) : Nat → Nat
  | 0 => 0
  | n + 1 => cn p n + (bif p n then 1 else 0)
theorem cn_le (p : Nat → Bool) : ∀ n, cn p n ≤ n
  | 0 => Nat.le_refl 0
  | n + 1 => by have := cn_le p n; unfold cn; cases p n <;> simp <;> omega
theorem cn_congr {p q : Nat → Bool} : ∀ {n : Nat}, (∀ i, i < n → p i = q i) → cn p n = cn q n
  | 0, _ => rfl
  | n + 1, h => by unfold cn; rw [cn_congr (fun i hi => h i (by omega)), h n (by omega)]
theorem cn_s (p : Nat → Bool) (n : Nat) : cn p (n + 1) = cn p n + (if p n = true then 1 else 0) := by
  show cn p n + (bif p n then 1 else 0) = _
  cases p n <;> rfl
theorem cn_0 {p : Nat → Bool} : ∀ {n : Nat}, (∀ i, i < n → p i = false) → cn p n = 0
  | 0, _ => rfl
  | n + 1, h => by unfold cn; rw [cn_0 (fun i hi => h i (by omega)), h n (by omega)]; rfl
theorem cn_ext {p : Nat → Bool} {n m : Nat} (hnm : n ≤ m) (h : ∀ i, n ≤ i → i < m → p i = false) : cn p m = cn p n := by
  induction m with
  | zero => rw [show n = 0 by omega]
  | succ m ih =>
    by_cases e : n = m + 1
    · rw [e]
    · rw [cn_s, ih (by omega) (fun i a b => h i a (by omega)), h m (by omega) (by omega)]; rfl
/-- the first below n, or n -/
def fs (p : Nat → Bool) : Nat → Nat
  | 0 => 0
  | n + 1 => bif Nat.blt (fs p n) n then fs p n else (bif p n then n else n + 1)
theorem fs_le (p : Nat → Bool) : ∀ n, fs p n ≤ n
  | 0 => Nat.le_refl 0
  | n + 1 => by
    have := fs_le p n
    unfold fs
    cases h : Nat.blt (fs p n) n
    · cases p n <;> simp
    · simp; omega
theorem fs_spec (p : Nat → Bool) : ∀ n, (∀ i, i < fs p n → p i = false) ∧ (fs p n < n → p (fs p n) = true)
  | 0 => ⟨fun _ h => absurd h (Nat.not_lt_zero _), fun h => absurd h (Nat.not_lt_zero _)⟩
  | n + 1 => by
    obtain ⟨h1, h2⟩ := fs_spec p n
    have hl := fs_le p n
    unfold fs
    cases h : Nat.blt (fs p n) n
    · have e : fs p n = n := by
        have : ¬ fs p n < n := fun q => by rw [Nat.blt_eq.mpr q] at h; cases h
        omega
      rw [e] at h1
      cases hp : p n
      · refine ⟨fun i hi => ?_, fun q => ?_⟩
        · simp at hi
          by_cases e2 : i = n
          · rw [e2]; exact hp
          · exact h1 i (by omega)
        · simp at q
      · exact ⟨fun i hi => h1 i (by simpa using hi), fun _ => by simpa using hp⟩
    · refine ⟨fun i hi => h1 i (by simpa using hi), fun _ => ?_⟩
      have := h2 (Nat.blt_eq.mp h)
      simpa using this
theorem fs_eq {p : Nat → Bool} {n j : Nat} (hj : j ≤ n) (h1 : ∀ i, i < j → p i = false) (h2 : j < n → p j = true) : fs p n = j := by
  obtain ⟨a, b⟩ := fs_spec p n
  have hl := fs_le p n
  rcases Nat.lt_trichotomy (fs p n) j with h | h | h
  · have := b (by omega); rw [h1 _ h] at this; cases this
  · exact h
  · have := h2 (by omega); rw [a _ h] at this; cases this
theorem fs_congr {p q : Nat → Bool} {n : Nat} (h : ∀ i, i < n → p i = q i) : fs p n = fs q n := by
  obtain ⟨a, b⟩ := fs_spec q n
  have hl := fs_le q n
  exact fs_eq hl (fun i hi => by rw [h i (by omega)]; exact a i hi) (fun hj => by rw [h _ hj]; exact b hj)
theorem fs_none {p : Nat → Bool} {n : Nat} : fs p n = n ↔ ∀ i, i < n → p i = false := by
  obtain ⟨a, b⟩ := fs_spec p n
  refine ⟨fun e i hi => a i (by omega), fun h => fs_eq (Nat.le_refl _) h (fun q => by omega)⟩
/-- a loop by its states -/
theorem runs {R : Type} (F : Nat → Nat → Option R) (j K : Nat) {r : R} (hs : ∀ n i, i < j → K ≤ n → F (n + 1) i = F n (i + 1)) (he : ∀ n, K ≤ n → F (n + 1) j = some r) : ∀ (k n i : Nat), k + i = j → k + 1 + K ≤ n → F n i = some r
  | 0, n, i, h, hn => by
    obtain ⟨n, rfl⟩ : ∃ m, n = m + 1 := ⟨n - 1, by omega⟩
    rw [show i = j by omega]; exact he n (by omega)
  | k + 1, n, i, h, hn => by
    obtain ⟨n, rfl⟩ : ∃ m, n = m + 1 := ⟨n - 1, by omega⟩
    rw [hs n i (by omega) (by omega)]
    exact runs F j K hs he k n (i + 1) (by omega) (by omega)
theorem runs0 {R : Type} (F : Nat → Nat → Option R) (j K : Nat) {r : R} (hs : ∀ n i, i < j → K ≤ n → F (n + 1) i = F n (i + 1)) (he : ∀ n, K ≤ n → F (n + 1) j = some r) {n : Nat} (hn : j + 1 + K ≤ n) : F n 0 = some r := runs F j K hs he j n 0 (by omega) hn
theorem b1_s {α γ : Type} {x : Option α} {v : α} {k : α → Option γ} (h : x = some v) : b1 x k = k v := by rw [h]; rfl
theorem bb_s {α β γ : Type} {x : Option (α × β)} {v : α} {s : β} {k : α → β → Option γ} (h : x = some (v, s)) : bb x k = k v s := by rw [h]; rfl
