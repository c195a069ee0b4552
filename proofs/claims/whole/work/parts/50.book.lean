/-! Freeing; the book. -/
def fr1 (a : Nat → Int) (f i : Nat) : Nat → Int := ay_u (ay_u (ay_u (ay_u (ay_u (ay_u a (914 + 5 * f) (-1)) (914 + 5 * f + 1) 0) (914 + 5 * f + 2) 0) (914 + 5 * f + 3) 0) (914 + 5 * f + 4) 0) (18 + 7 * i) (-1)
def frs (f h : Nat) : Nat → (Nat → Int) → (Nat → Int)
  | 0, a => a
  | k + 1, a => fr1 (frs f h k a) (f + k) (h + k)
section
variable {n : Nat} {m w : bS} {a : Nat → Int} {o p f s N k i h g j : Nat} {t : Int}
theorem fr1_f (hg : g < 64) (hj : j < 5) (hf : f < 64) (hi : i < 128) : fr1 a f i (914 + 5 * g + j) = if g = f then (if j = 0 then -1 else 0) else a (914 + 5 * g + j) := by
  unfold fr1
  rw [ay_ux (by omega)]
  by_cases e : g = f
  · subst e
    rw [if_pos rfl]
    by_cases j0 : j = 0
    · subst j0; rw [if_pos rfl, ay_ux (by omega), ay_ux (by omega), ay_ux (by omega), ay_ux (by omega), Nat.add_zero, ay_ue]
    · rw [if_neg j0]
      by_cases j1 : j = 1
      · subst j1; rw [ay_ux (by omega), ay_ux (by omega), ay_ux (by omega), ay_ue]
      · by_cases j2 : j = 2
        · subst j2; rw [ay_ux (by omega), ay_ux (by omega), ay_ue]
        · by_cases j3 : j = 3
          · subst j3; rw [ay_ux (by omega), ay_ue]
          · rw [show j = 4 by omega, ay_ue]
  · rw [if_neg e, ay_ux (by omega), ay_ux (by omega), ay_ux (by omega), ay_ux (by omega), ay_ux (by omega)]
theorem fr1_p (hg : g < 128) (hj : j < 7) (hf : f < 64) : fr1 a f i (18 + 7 * g + j) = if j = 0 ∧ g = i then -1 else a (18 + 7 * g + j) := by
  unfold fr1
  by_cases e : j = 0 ∧ g = i
  · obtain ⟨rfl, rfl⟩ := e
    rw [if_pos ⟨rfl, rfl⟩]
    exact ay_ue
  · rw [if_neg e, ay_ux (by omega), ay_ux (by omega), ay_ux (by omega), ay_ux (by omega), ay_ux (by omega), ay_ux (by omega)]
theorem fr1_o (hg : g < 18 ∨ 1234 ≤ g) (hf : f < 64) (hi : i < 128) : fr1 a f i g = a g := by
  unfold fr1
  rw [ay_ux (by omega), ay_ux (by omega), ay_ux (by omega), ay_ux (by omega), ay_ux (by omega), ay_ux (by omega)]
theorem frs_f (hg : g < 64) (hj : j < 5) (hf : f + k ≤ 64) (hh : h + k ≤ 128) : frs f h k a (914 + 5 * g + j) = if f ≤ g ∧ g < f + k then (if j = 0 then -1 else 0) else a (914 + 5 * g + j) := by
  induction k with
  | zero => rw [if_neg (by omega)]; rfl
  | succ k ih =>
    show fr1 (frs f h k a) (f + k) (h + k) (914 + 5 * g + j) = _
    rw [fr1_f hg hj (by omega) (by omega), ih (by omega) (by omega)]
    by_cases e : g = f + k
    · rw [if_pos e, if_pos (show f ≤ g ∧ g < f + (k + 1) by omega)]
    · rw [if_neg e]
      by_cases e2 : f ≤ g ∧ g < f + k
      · rw [if_pos e2, if_pos (show f ≤ g ∧ g < f + (k + 1) by omega)]
      · rw [if_neg e2, if_neg (show ¬ (f ≤ g ∧ g < f + (k + 1)) by omega)]
theorem frs_p (hg : g < 128) (hj : j < 7) (hf : f + k ≤ 64) (hh : h + k ≤ 128) : frs f h k a (18 + 7 * g + j) = if j = 0 ∧ h ≤ g ∧ g < h + k then -1 else a (18 + 7 * g + j) := by
  induction k with
  | zero => rw [if_neg (by omega)]; rfl
  | succ k ih =>
    show fr1 (frs f h k a) (f + k) (h + k) (18 + 7 * g + j) = _
    rw [fr1_p hg hj (by omega), ih (by omega) (by omega)]
    by_cases e : j = 0 ∧ g = h + k
    · rw [if_pos e, if_pos (by omega)]
    · rw [if_neg e]
      by_cases e2 : j = 0 ∧ h ≤ g ∧ g < h + k
      · rw [if_pos e2, if_pos (by omega)]
      · rw [if_neg e2, if_neg (by omega)]
theorem frs_o (hg : g < 18 ∨ 1234 ≤ g) (hf : f + k ≤ 64) (hh : h + k ≤ 128) : frs f h k a g = a g := by
  induction k with
  | zero => rfl
  | succ k ih =>
    show fr1 (frs f h k a) (f + k) (h + k) g = _
    rw [fr1_o hg (by omega) (by omega), ih (by omega) (by omega)]
theorem R_free_ok (hf : f < 64) (ho : o < 4) (hp : p < 32) (hn : 6 ≤ n) : R_free n m f o p = some (0, bC m 0 (fr1 (m.2 0) f (32 * o + p))) := by
  obtain ⟨n, rfl⟩ : ∃ k, n = k + 6 := ⟨n - 6, by omega⟩
  unfold R_free
  have st : ∀ (n : Nat) (m : bS) (k : Nat), k < 5 → R_free_3 (n + 1) m f o p k = R_free_3 n (bC m 0 (ay_u (m.2 0) (914 + 5 * f + k) (if k = 0 then -1 else 0))) f o p ((k + 1 : Nat) : Int) := fun n m k hk => by
    rw [R_free_3, if_neg (by omega)]
    unfold R_free_23
    rw [bb_s (R_putFrame_ok n m hf (by omega) (by omega) _), bb_s (R_putFrame_ok n m hf (by omega) (by omega) _), Int.toNat_natCast, ay_wi (by omega) (by omega), show (k : Int) + 1 = ((k + 1 : Nat) : Int) by omega]
    by_cases e : k = 0
    · rw [if_pos (by omega), if_pos e]
    · rw [if_neg (by omega), if_neg e]
  show R_free_3 (n + 5 + 1) m f o p ((0 : Nat) : Int) = _
  rw [st _ _ _ (by omega), st _ _ _ (by omega), st _ _ _ (by omega), st _ _ _ (by omega), st _ _ _ (by omega), R_free_3, if_pos (by decide), bb_s (R_putPage_ok n _ ho hp (by omega) (by omega) _), bC_C, bC_C, bC_C, bC_C, bC_C]
  rfl
def cl (w : bS) (s : Nat) : bS := bA w 4 (s : Int) 0
theorem cl_spn : spn (cl w s) g = if g = s then 0 else spn w g := by
  show (ay_u (w.2 4) ((s : Int)).toNat 0 g).toNat = _
  rw [Int.toNat_natCast]
  unfold ay_u spn
  split <;> simp
theorem cl_hom : hom (cl w s) g = hom w g := rfl
theorem cl_inF : inF (cl w s) f g ↔ g ≠ s ∧ inF w f g := by
  unfold inF
  rw [cl_spn]
  by_cases e : g = s
  · rw [if_pos e]; exact ⟨fun q => (by omega), fun q => absurd e q.1⟩
  · rw [if_neg e]; exact ⟨fun q => ⟨e, q⟩, fun q => q.2⟩
theorem cl_inH : inH (cl w s) i g ↔ g ≠ s ∧ inH w i g := by
  unfold inH
  rw [cl_spn, cl_hom]
  by_cases e : g = s
  · rw [if_pos e]; exact ⟨fun q => (by omega), fun q => absurd e q.1⟩
  · rw [if_neg e]; exact ⟨fun q => ⟨e, q⟩, fun q => q.2⟩
theorem IF_cl (I : IF w) : IF (cl w s) := by
  refine ⟨fun g hg => ?_, fun f g g' hf hg hg' h1 h2 => ?_, fun i g g' hi hg hg' h1 h2 => ?_⟩
  · obtain ⟨a1, a2, a3, a4, a5⟩ := I.1 g hg
    rw [cl_spn, cl_hom]
    show ay_u (w.2 4) ((s : Int)).toNat 0 g = _ ∧ w.2 3 g = _ ∧ _
    rw [Int.toNat_natCast]
    by_cases e : g = s
    · rw [e, ay_ue, if_pos rfl]
      rw [e] at a2 a4
      exact ⟨rfl, a2, Or.inl rfl, a4, fun q => by omega⟩
    · rw [ay_ux e, if_neg e]
      exact ⟨a1, a2, a3, a4, a5⟩
  · exact I.2.1 f g g' hf hg hg' (cl_inF.mp h1).2 (cl_inF.mp h2).2
  · exact I.2.2 i g g' hi hg hg' (cl_inH.mp h1).2 (cl_inH.mp h2).2
theorem RF_cl (I : IF w) (H : RF w a) (hs : s < 64) (h0 : 0 < spn w s) : RF (cl w s) (frs s (hom w s) (spn w s) a) := by
  have ha := I.at hs h0
  refine ⟨fun f hf64 => ?_, fun g hg hg0 => ?_, fun i hi => ?_⟩
  · have e := frs_f (a := a) (f := s) (h := hom w s) (k := spn w s) hf64 (show 0 < 5 by omega) ha.2.1 ha.1
    rw [Nat.add_zero, if_pos rfl] at e
    by_cases c : s ≤ f ∧ f < s + spn w s
    · rw [if_pos c] at e
      refine Or.inr ⟨fun g hg hin => ?_, e⟩
      rw [cl_inF] at hin
      exact hin.1 (I.2.1 f g s hf64 hg hs hin.2 c)
    · rw [if_neg c] at e
      rcases H.1 f hf64 with ⟨g, hg, hin, e2⟩ | ⟨hno, e2⟩
      · exact Or.inl ⟨g, hg, cl_inF.mpr ⟨fun q => by subst q; exact c hin, hin⟩, by rw [e, e2]⟩
      · exact Or.inr ⟨fun g hg hin => hno g hg (cl_inF.mp hin).2, by rw [e, e2]⟩
  · rw [cl_spn] at hg0 ⊢
    have e : g ≠ s := fun q => by rw [if_pos q] at hg0; omega
    rw [if_neg e] at hg0 ⊢
    have hno : ¬ (s ≤ g ∧ g < s + spn w s) := fun q => e (I.2.1 g g s hg hg hs ⟨Nat.le_refl _, by omega⟩ q)
    have f1 := frs_f (a := a) (f := s) (h := hom w s) (k := spn w s) hg (show 1 < 5 by omega) ha.2.1 ha.1
    have f2 := frs_f (a := a) (f := s) (h := hom w s) (k := spn w s) hg (show 2 < 5 by omega) ha.2.1 ha.1
    have f3 := frs_f (a := a) (f := s) (h := hom w s) (k := spn w s) hg (show 3 < 5 by omega) ha.2.1 ha.1
    have f4 := frs_f (a := a) (f := s) (h := hom w s) (k := spn w s) hg (show 4 < 5 by omega) ha.2.1 ha.1
    rw [f1, f2, f3, f4, if_neg hno, if_neg hno, if_neg hno, if_neg hno]
    exact H.2.1 g hg hg0
  · have e := frs_p (a := a) (f := s) (h := hom w s) (k := spn w s) hi (show 0 < 7 by omega) ha.2.1 ha.1
    rw [Nat.add_zero] at e
    by_cases c : hom w s ≤ i ∧ i < hom w s + spn w s
    · rw [if_pos ⟨rfl, c⟩] at e
      refine Or.inr ⟨fun g hg hin => ?_, e⟩
      rw [cl_inH] at hin
      exact hin.1 (I.2.2 i g s hi hg hs hin.2 c)
    · rw [if_neg (fun q => c q.2)] at e
      rcases H.2.2 i hi with ⟨g, hg, hin, e2⟩ | ⟨hno, e2⟩
      · exact Or.inl ⟨g, hg, cl_inH.mpr ⟨fun q => by subst q; exact c hin, hin⟩, by rw [e, e2]; rfl⟩
      · exact Or.inr ⟨fun g hg hin => hno g hg (cl_inH.mp hin).2, by rw [e, e2]⟩
/-- numbers with shifts and masks -/
theorem bv_nat {x : Nat} (h : x < 2147483648) : (BitVec.ofInt 32 (x : Int)).toNat = x := by
  rw [BitVec.toNat_ofInt]
  omega
theorem toInt_nat {v : BitVec 32} {x : Nat} (h : v.toNat = x) (hx : x < 2147483648) : v.toInt = (x : Int) := by
  rw [BitVec.toInt_eq_toNat_of_lt (by rw [h]; omega), h]
theorem ay_orn {x y : Nat} (hx : x < 2147483648) (hy : y < 2147483648) : ay_or (x : Int) (y : Int) = ((x ||| y : Nat) : Int) := by
  show BitVec.toInt (BitVec.ofInt 32 (x : Int) ||| BitVec.ofInt 32 (y : Int)) = _
  exact toInt_nat (by rw [BitVec.toNat_or, bv_nat hx, bv_nat hy]) (Nat.or_lt_two_pow (n := 31) hx hy)
theorem ay_andn {x y : Nat} (hx : x < 2147483648) (hy : y < 2147483648) : ay_and (x : Int) (y : Int) = ((x &&& y : Nat) : Int) := by
  show BitVec.toInt (BitVec.ofInt 32 (x : Int) &&& BitVec.ofInt 32 (y : Int)) = _
  exact toInt_nat (by rw [BitVec.toNat_and, bv_nat hx, bv_nat hy]) (Nat.lt_of_le_of_lt Nat.and_le_left hx)
theorem ay_ushrn {x c : Nat} (hx : x < 2147483648) (hc : c < 32) : ay_ushr (x : Int) (c : Int) = ((x / 2 ^ c : Nat) : Int) := by
  have e := bv_ushr (x : Int) hc
  have e2 : (BitVec.ofInt 32 (ay_ushr (x : Int) (c : Int))).toInt = ay_ushr (x : Int) (c : Int) := by
    rw [BitVec.toInt_ofInt]
    have := ay_ushr_ok (x : Int) (c : Int)
    exact Int.bmod_eq_of_le (by omega) (by omega)
  rw [← e2, e]
  exact toInt_nat (by rw [BitVec.toNat_ushiftRight, bv_nat hx, Nat.shiftRight_eq_div_pow]) (Nat.lt_of_le_of_lt (Nat.div_le_self _ _) hx)
theorem shl_amt : ∀ c : Nat, c < 32 → ((BitVec.ofInt 32 (c : Int) &&& 31#32).smod 32#32).toNat = c := by decide +kernel
theorem ay_shln {x c : Nat} (hc : c < 32) (hx : x * 2 ^ c < 2147483648) : ay_shl (x : Int) (c : Int) = ((x * 2 ^ c : Nat) : Int) := by
  show BitVec.toInt (BitVec.ofInt 32 (x : Int) <<< ((BitVec.ofInt 32 (c : Int) &&& 31#32).smod 32#32)) = _
  have hp := Nat.two_pow_pos c
  have hx1 : x < 2147483648 := Nat.lt_of_le_of_lt (Nat.le_mul_of_pos_right x hp) hx
  refine toInt_nat ?_ hx
  rw [BitVec.shiftLeft_eq', shl_amt c hc, BitVec.toNat_shiftLeft, bv_nat hx1, Nat.shiftLeft_eq, Nat.mod_eq_of_lt (by omega)]
theorem line_or {T k x y : Nat} (hT : T < 131072) (hk : k < 8) (hx : x < 64) (hy : y < 32) : ay_or (ay_or (ay_or (ay_shl (T : Int) 14) (ay_shl (k : Int) 11)) (ay_shl (x : Int) 5)) (y : Int) = ((T * 16384 + k * 2048 + x * 32 + y : Nat) : Int) := by
  have s1 : ay_shl (T : Int) 14 = ((T * 2 ^ 14 : Nat) : Int) := ay_shln (c := 14) (by omega) (by omega)
  have s2 : ay_shl (k : Int) 11 = ((k * 2 ^ 11 : Nat) : Int) := ay_shln (c := 11) (by omega) (by omega)
  have s3 : ay_shl (x : Int) 5 = ((x * 2 ^ 5 : Nat) : Int) := ay_shln (c := 5) (by omega) (by omega)
  have o1 : T * 2 ^ 14 ||| k * 2 ^ 11 = T * 2 ^ 14 + k * 2 ^ 11 := by
    rw [Nat.mul_comm T, ← Nat.two_pow_add_eq_or_of_lt (by omega)]
  have o2 : T * 2 ^ 14 + k * 2 ^ 11 ||| x * 2 ^ 5 = T * 2 ^ 14 + k * 2 ^ 11 + x * 2 ^ 5 := by
    rw [show T * 2 ^ 14 + k * 2 ^ 11 = 2 ^ 11 * (T * 8 + k) by omega, ← Nat.two_pow_add_eq_or_of_lt (by omega)]
  have o3 : T * 2 ^ 14 + k * 2 ^ 11 + x * 2 ^ 5 ||| y = T * 2 ^ 14 + k * 2 ^ 11 + x * 2 ^ 5 + y := by
    rw [show T * 2 ^ 14 + k * 2 ^ 11 + x * 2 ^ 5 = 2 ^ 5 * (T * 512 + k * 64 + x) by omega, ← Nat.two_pow_add_eq_or_of_lt (by omega)]
  rw [s1, s2, s3, ay_orn (by omega) (by omega), o1, ay_orn (by omega) (by omega), o2, ay_orn (by omega) (by omega), o3]
/-- the book -/
def LN (x y : Int) (T k u v : Nat) : Prop := T < 131072 ∧ k < 6 ∧ u < 64 ∧ v < 32 ∧ x = ((T * 16384 + k * 2048 + u * 32 + v : Nat) : Int) ∧ y = ((T * 12288 + k * 2048 + u * 32 + v : Nat) : Int)
def RB (w : bS) (a : Nat → Int) : Prop := ∃ L : Nat, L ≤ 25 ∧ w.1 12 = (L : Int) ∧ a 14 = (L : Int) ∧ ∀ i, i < L → ∃ T k u v, LN (w.2 10 i) (a (1234 + i)) T k u v
end
