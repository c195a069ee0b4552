/-! Free frames and blocks, on both sides. -/
def bT (x : Int) (p : Nat) : Bool := (BitVec.ofInt 64 x).getLsbD p
theorem bV_and (x y : Int) : BitVec.ofInt 64 (ay_land x y) = BitVec.ofInt 64 x &&& BitVec.ofInt 64 y := by
  show BitVec.ofInt 64 (BitVec.toInt (BitVec.ofInt 64 x &&& BitVec.ofInt 64 y)) = _
  rw [BitVec.ofInt_toInt]
theorem bV_or (x y : Int) : BitVec.ofInt 64 (ay_lor x y) = BitVec.ofInt 64 x ||| BitVec.ofInt 64 y := by
  show BitVec.ofInt 64 (BitVec.toInt (BitVec.ofInt 64 x ||| BitVec.ofInt 64 y)) = _
  rw [BitVec.ofInt_toInt]
theorem bT_and (x y : Int) (p : Nat) : bT (ay_land x y) p = (bT x p && bT y p) := by unfold bT; rw [bV_and, BitVec.getLsbD_and]
theorem bT_or (x y : Int) (p : Nat) : bT (ay_lor x y) p = (bT x p || bT y p) := by unfold bT; rw [bV_or, BitVec.getLsbD_or]
theorem bT_z (p : Nat) : bT 0 p = false := by
  unfold bT; rw [show BitVec.ofInt 64 0 = 0#64 from by decide]; simp
theorem bT_ge {x : Int} {p : Nat} (h : 64 ≤ p) : bT x p = false := BitVec.getLsbD_of_ge _ _ h
theorem ay_land_ok (x y : Int) : -9223372036854775808 ≤ ay_land x y ∧ ay_land x y < 9223372036854775808 := ⟨Int64.le_toInt _, Int64.toInt_lt _⟩
theorem bT_ext {x y : Int} (hx : -9223372036854775808 ≤ x ∧ x < 9223372036854775808) (hy : -9223372036854775808 ≤ y ∧ y < 9223372036854775808) (h : ∀ p, p < 64 → bT x p = bT y p) : x = y := by
  have e : BitVec.ofInt 64 x = BitVec.ofInt 64 y := BitVec.eq_of_getLsbD_eq (fun p hp => h p hp)
  have e2 := congrArg BitVec.toInt e
  rw [BitVec.toInt_ofInt, BitVec.toInt_ofInt] at e2
  have a : Int.bmod x (2 ^ 64) = x := Int.bmod_eq_of_le (by omega) (by omega)
  have b : Int.bmod y (2 ^ 64) = y := Int.bmod_eq_of_le (by omega) (by omega)
  rw [a, b] at e2
  exact e2
theorem land_z (x y : Int) : ay_land x y = 0 ↔ ∀ p, p < 64 → bT y p = true → bT x p = false := by
  refine ⟨fun h p hp hy => ?_, fun h => bT_ext (ay_land_ok x y) (by omega) (fun p hp => ?_)⟩
  · have := congrArg (fun z => bT z p) h
    simp only [bT_and, bT_z, hy, Bool.and_true] at this
    exact this
  · rw [bT_and, bT_z]
    cases hy : bT y p
    · rw [Bool.and_false]
    · rw [h p hp hy]; rfl
theorem cmp_z (x y : Int) : ay_cmp x y = 0 ↔ x = y := by
  unfold ay_cmp
  by_cases h : x < y
  · rw [if_pos h]; exact ⟨fun q => (by omega), fun q => (by omega)⟩
  · rw [if_neg h]
    by_cases h2 : x = y
    · rw [if_pos h2]; exact ⟨fun _ => h2, fun _ => rfl⟩
    · rw [if_neg h2]; exact ⟨fun q => (by omega), fun q => absurd q h2⟩
theorem lus_amt : ∀ p, p < 64 → ((Int32.ofInt ((p : Nat) : Int)).toInt64.toUInt64 &&& Int64.toUInt64 63) = UInt64.ofNat p := by decide +kernel
theorem bT_ushr (x : Int) {p : Nat} (h : p < 64) (q : Nat) : bT (ay_lushr x p) q = bT x (p + q) := by
  unfold ay_lushr bT
  rw [lus_amt p h]
  show (BitVec.ofInt 64 (BitVec.toInt (BitVec.ofInt 64 x >>> ((UInt64.ofNat p).toBitVec % 64#64)))).getLsbD q = _
  rw [BitVec.ofInt_toInt]
  have e : ((UInt64.ofNat p).toBitVec % 64#64).toNat = p := by
    rw [BitVec.toNat_umod]
    show (UInt64.ofNat p).toNat % 64 = p
    rw [UInt64.toNat_ofNat_of_lt' (by show p < 18446744073709551616; omega), Nat.mod_eq_of_lt h]
  rw [BitVec.ushiftRight_eq', e, BitVec.getLsbD_ushiftRight]
theorem fb_bits : ∀ s : Nat, s < 64 → ∀ f : Nat, f < 64 → bT (ay_lshl (ay_W (ay_lshl 1 0 - 1)) (s : Int)) f = false ∧ bT (ay_lshl (ay_W (ay_lshl 1 1 - 1)) (s : Int)) f = decide (s ≤ f ∧ f < s + 1) ∧ bT (ay_lshl (ay_W (ay_lshl 1 4 - 1)) (s : Int)) f = decide (s ≤ f ∧ f < s + 4) ∧ bT (ay_lshl (ay_W (ay_lshl 1 16 - 1)) (s : Int)) f = decide (s ≤ f ∧ f < s + 16) := by decide +kernel
theorem mk_bits : ∀ f, f < 64 → bT (ay_W (ay_lshl 1 1 - 1)) f = decide (f < 1) ∧ bT (ay_W (ay_lshl 1 4 - 1)) f = decide (f < 4) ∧ bT (ay_W (ay_lshl 1 16 - 1)) f = decide (f < 16) := by decide +kernel
/-- a block without anything kept -/
def fre (w : bS) (N k : Nat) : Bool := decide (fs (fun t => decide (cvs w (k * N + t) < 64)) N = N)
def isN (N : Nat) : Prop := N = 1 ∨ N = 4 ∨ N = 16
def bz (w : bS) : Nat → Int
  | 0 => 0
  | s + 1 => ay_lor (bz w s) (ay_lshl (ay_W (ay_lshl 1 (w.2 4 s) - 1)) (s : Int))
section
variable {n : Nat} {m w : bS} {f s N k : Nat}
theorem fre_iff : fre w N k = true ↔ ∀ t, t < N → ¬ cvs w (k * N + t) < 64 := by
  unfold fre
  rw [decide_eq_true_iff, fs_none]
  exact ⟨fun h t ht => of_decide_eq_false (h t ht), fun h t ht => decide_eq_false (h t ht)⟩
theorem W_busyFrames_ok (I : IF w) (hn : 66 ≤ n) : W_busyFrames n w = some (bz w 64, w) := by
  unfold W_busyFrames
  refine runs0 (fun n k => W_busyFrames_4 n w (bz w k) k) 64 0 (fun n k hk _ => ?_) (fun n _ => ?_) (n := n) (by omega)
  · show W_busyFrames_4 (n + 1) w (bz w k) k = W_busyFrames_4 n w (bz w (k + 1)) ((k + 1 : Nat) : Int)
    rw [W_busyFrames_4, if_neg (by omega)]
    unfold W_frameBits
    rw [if_pos (by omega), Int.toNat_natCast]
    simp (disch := omega) only [ay_wi]
    rw [show (k : Int) + 1 = ((k + 1 : Nat) : Int) by omega]
    rfl
  · show W_busyFrames_4 (n + 1) w (bz w 64) 64 = _
    rw [W_busyFrames_4, if_pos (by omega)]
theorem bz_bits (I : IF w) (hf : f < 64) : ∀ s, s ≤ 64 → (bT (bz w s) f = true ↔ ∃ k, k < s ∧ inF w f k)
  | 0, _ => by
    show bT 0 f = true ↔ _
    rw [bT_z]
    exact ⟨fun h => (by cases h), fun ⟨k, h, _⟩ => absurd h (Nat.not_lt_zero k)⟩
  | s + 1, h => by
    show bT (ay_lor (bz w s) (ay_lshl (ay_W (ay_lshl 1 (w.2 4 s) - 1)) (s : Int))) f = true ↔ _
    obtain ⟨a1, a2, a3, a4, a5⟩ := I.1 s (by omega)
    rw [bT_or, Bool.or_eq_true, bz_bits I hf s (by omega), a1]
    obtain ⟨b0, b1, b4, b16⟩ := fb_bits s (by omega) f hf
    have e : bT (ay_lshl (ay_W (ay_lshl 1 (spn w s : Int) - 1)) (s : Int)) f = true ↔ inF w f s := by
      unfold inF
      rcases a3 with h | h | h | h <;> rw [h]
      · rw [show ((0 : Nat) : Int) = 0 from rfl, b0]; exact ⟨fun q => (by cases q), fun q => (by omega)⟩
      · rw [show ((1 : Nat) : Int) = 1 from rfl, b1, decide_eq_true_iff]
      · rw [show ((4 : Nat) : Int) = 4 from rfl, b4, decide_eq_true_iff]
      · rw [show ((16 : Nat) : Int) = 16 from rfl, b16, decide_eq_true_iff]
    rw [e]
    refine ⟨fun q => ?_, fun ⟨k, hk, hin⟩ => ?_⟩
    · rcases q with ⟨k, hk, hin⟩ | hin
      · exact ⟨k, by omega, hin⟩
      · exact ⟨s, by omega, hin⟩
    · by_cases hks : k = s
      · subst hks; exact Or.inr hin
      · exact Or.inl ⟨k, by omega, hin⟩
theorem bz_cvs (I : IF w) (hf : f < 64) : bT (bz w 64) f = true ↔ cvs w f < 64 := by
  rw [bz_bits I hf 64 (Nat.le_refl _)]
  refine ⟨fun ⟨k, hk, hin⟩ => ?_, fun h => ⟨_, h, cvs_in h⟩⟩
  rw [cvs_eq I hf hk hin]; exact hk
/-- the class's test of a block -/
theorem blk_free (I : IF w) (hN : isN N) (hk : k * N + N ≤ 64) : (ay_cmp (ay_land (ay_lushr (bz w 64) ((k * N : Nat) : Int)) (ay_W (ay_lshl 1 (N : Int) - 1))) 0 = 0) ↔ fre w N k = true := by
  rw [cmp_z, land_z, fre_iff]
  have hpos : k * N < 64 := by rcases hN with h | h | h <;> subst h <;> omega
  have hm : ∀ p, p < 64 → (bT (ay_W (ay_lshl 1 (N : Int) - 1)) p = true ↔ p < N) := fun p hp => by
    obtain ⟨b1, b4, b16⟩ := mk_bits p hp
    rcases hN with h | h | h <;> subst h
    · rw [show ((1 : Nat) : Int) = 1 from rfl, b1, decide_eq_true_iff]
    · rw [show ((4 : Nat) : Int) = 4 from rfl, b4, decide_eq_true_iff]
    · rw [show ((16 : Nat) : Int) = 16 from rfl, b16, decide_eq_true_iff]
  have hN16 : N ≤ 16 := by rcases hN with h | h | h <;> omega
  refine ⟨fun h t ht hc => ?_, fun h p hp hy => ?_⟩
  · have := h t (by omega) ((hm t (by omega)).mpr ht)
    rw [bT_ushr _ hpos, (bz_cvs I (by omega)).mpr hc] at this
    cases this
  · have ht := (hm p hp).mp hy
    rw [bT_ushr _ hpos]
    cases hb : bT (bz w 64) (k * N + p)
    · rfl
    · exact absurd ((bz_cvs I (by omega)).mp hb) (h p ht)
theorem W_lowestFree_ok (I : IF w) (hN : isN N) (hn : 140 ≤ n) : W_lowestFree n w N = some (if fs (fre w N) (64 / N) < 64 / N then ((fs (fre w N) (64 / N) * N : Nat) : Int) else -1, w) := by
  unfold W_lowestFree
  rw [bb_s (W_busyFrames_ok I (by omega))]
  have hle := fs_le (fre w N) (64 / N)
  obtain ⟨q1, q2⟩ := fs_spec (fre w N) (64 / N)
  generalize hj : fs (fre w N) (64 / N) = j at hle q1 q2
  have hj64 : j ≤ 64 := by rcases hN with h | h | h <;> subst h <;> omega
  have hst : (if (1 : Int) < (N : Int) then (N : Int) else 1) = (N : Int) := by rcases hN with h | h | h <;> subst h <;> rfl
  have key := runs0 (fun n k => W_lowestFree_8 n w N (bz w 64) ((k * N : Nat) : Int)) j 0 (r := (if j < 64 / N then ((j * N : Nat) : Int) else -1, w)) (fun n k hk _ => ?_) (fun n _ => ?_) (n := n) (by omega)
  · simpa using key
  · have hb : k * N + N ≤ 64 := by rcases hN with h | h | h <;> subst h <;> omega
    have h64 : k * N < 64 := by rcases hN with h | h | h <;> subst h <;> omega
    have hs1 : (k + 1) * N = k * N + N := Nat.succ_mul k N
    show W_lowestFree_8 (n + 1) w N (bz w 64) ((k * N : Nat) : Int) = W_lowestFree_8 n w N (bz w 64) (((k + 1) * N : Nat) : Int)
    rw [W_lowestFree_8, if_neg (by omega), if_neg (by rw [blk_free I hN hb, q1 k hk]; decide), hst, ay_wi (by omega) (by omega), show ((k * N : Nat) : Int) + (N : Int) = (((k + 1) * N : Nat) : Int) by omega]
  · show W_lowestFree_8 (n + 1) w N (bz w 64) ((j * N : Nat) : Int) = _
    rw [W_lowestFree_8]
    by_cases hc : j < 64 / N
    · have hb : j * N + N ≤ 64 := by rcases hN with h | h | h <;> subst h <;> omega
      have h64 : j * N < 64 := by rcases hN with h | h | h <;> subst h <;> omega
      rw [if_neg (by omega), if_pos ((blk_free I hN hb).mpr (q2 hc)), if_pos hc]
    · have h64 : 64 ≤ j * N := by rcases hN with h | h | h <;> subst h <;> omega
      rw [if_pos (by omega), if_neg hc]
end
