/-! What lies in a frame; which block is emptied next. -/
/-- what a frame shows: 32 * object + page, -1 free, -2 kept empty -/
def idf (w : bS) (f : Nat) : Int := if cvs w f < 64 then (if ful w f = true then ((hom w (cvs w f) + (f - cvs w f) : Nat) : Int) else -2) else -1
section
variable {n : Nat} {m w : bS} {o p f s N k i : Nat}
theorem W_inFrame_step (I : IF w) (hf : f < 64) (hN : isN N) (x : Int) : W_inFrame_5 (n + 1) w f x N = W_inFrame_5 n w f (if f % N < spn w (f - f % N) then ((f - f % N : Nat) : Int) else x) ((N / 4 : Nat) : Int) := by
  have hN16 : N ≤ 16 ∧ 0 < N := by rcases hN with h | h | h <;> omega
  have hm : f % N ≤ f := Nat.mod_le f N
  have hm2 : f % N < 16 := by have := Nat.mod_lt f hN16.2; omega
  obtain ⟨a1, _⟩ := I.1 (f - f % N) (by omega)
  have hr : ay_rem (f : Int) (N : Int) = ((f % N : Nat) : Int) := by rw [ay_rn' (by omega) (by omega) (by omega) (by omega)]; omega
  have hd : ay_w (Int.tdiv (N : Int) 4) = ((N / 4 : Nat) : Int) := by rw [ay_dn (by omega) (by omega) (by omega)]; omega
  rw [W_inFrame_5, if_neg (by omega), if_neg (by omega), hr, ay_wi (x := (f : Int) - ((f % N : Nat) : Int)) (by omega) (by omega), show (f : Int) - ((f % N : Nat) : Int) = ((f - f % N : Nat) : Int) by omega, if_pos (by omega), Int.toNat_natCast, a1, ay_wi (by omega) (by omega), hd]
  by_cases h : f % N < spn w (f - f % N)
  · rw [if_neg (by omega), if_pos h]
  · rw [if_pos (by omega), if_neg h]
theorem cand (h : f % N < spn w (f - f % N)) : inF w f (f - f % N) := ⟨Nat.sub_le _ _, by have := Nat.mod_le f N; omega⟩
theorem W_inFrame_ok (I : IF w) (hf : f < 64) (hn : 5 ≤ n) : W_inFrame n w f = some (idf w f, w) := by
  obtain ⟨n, rfl⟩ : ∃ k, n = k + 4 := ⟨n - 4, by omega⟩
  unfold W_inFrame
  rw [show (16 : Int) = ((16 : Nat) : Int) from rfl, W_inFrame_step I hf (Or.inr (Or.inr rfl)), show (16 / 4 : Nat) = 4 from rfl, W_inFrame_step I hf (Or.inr (Or.inl rfl)), show (4 / 4 : Nat) = 1 from rfl, W_inFrame_step I hf (Or.inl rfl)]
  have e : (if f % 1 < spn w (f - f % 1) then ((f - f % 1 : Nat) : Int) else if f % 4 < spn w (f - f % 4) then ((f - f % 4 : Nat) : Int) else if f % 16 < spn w (f - f % 16) then ((f - f % 16 : Nat) : Int) else -1) = if cvs w f < 64 then (cvs w f : Int) else -1 := by
    by_cases hc : cvs w f < 64
    · have hin := cvs_in hc
      have b1 := hin.1; have b2 := hin.2
      obtain ⟨_, _, a3, _, a5⟩ := I.1 _ hc
      have a5 := a5 (by omega)
      have hu : ∀ N, f % N < spn w (f - f % N) → f - f % N = cvs w f := fun N h => (cvs_eq I hf (by omega) (cand h)).symm
      rw [if_pos hc]
      by_cases h1 : f % 1 < spn w (f - f % 1)
      · rw [if_pos h1, hu 1 h1]
      · rw [if_neg h1]
        by_cases h4 : f % 4 < spn w (f - f % 4)
        · rw [if_pos h4, hu 4 h4]
        · rw [if_neg h4]
          by_cases h16 : f % 16 < spn w (f - f % 16)
          · rw [if_pos h16, hu 16 h16]
          · exfalso
            generalize hs : cvs w f = s at *
            rcases a3 with h | h | h | h
            · omega
            · rw [h] at b2
              have : s = f := by omega
              subst this
              rw [Nat.mod_one, Nat.sub_zero, h] at h1
              omega
            · rw [h] at b2 a5
              have : f - f % 4 = s := by omega
              rw [this, h] at h4
              omega
            · rw [h] at b2 a5
              have : f - f % 16 = s := by omega
              rw [this, h] at h16
              omega
    · have hno := cvs_no hc
      rw [if_neg hc, if_neg (fun h => hno _ (by omega) (cand h)), if_neg (fun h => hno _ (by omega) (cand h)), if_neg (fun h => hno _ (by omega) (cand h))]
  rw [e]
  unfold idf ful
  show W_inFrame_5 (n + 1) w f (if cvs w f < 64 then (cvs w f : Int) else -1) ((0 : Nat) : Int) = _
  rw [W_inFrame_5, if_pos (by decide)]
  by_cases hc : cvs w f < 64
  · have hin := cvs_in hc
    have hpg := inF_page I hc hin
    obtain ⟨a1, a2, _, a4, _⟩ := I.1 _ hc
    have b1 := hin.1; have b2 := hin.2
    rw [if_pos hc, if_pos hc, decide_eq_true hc, Bool.true_and, if_neg (by omega), if_pos (by omega), Int.toNat_natCast, a2]
    simp (disch := omega) only [ay_wi]
    rw [show (hom w (cvs w f) : Int) + (f : Int) - (cvs w f : Int) = ((hom w (cvs w f) + (f - cvs w f) : Nat) : Int) by omega, hd32 hpg.1, hm32 hpg.1, bb_s (W_isThere_ok n w (by omega) (by omega)), i01, hpg.2.1, hpg.2.2.1]
    unfold pgs
    split <;> rfl
  · rw [if_neg hc, if_neg hc, if_pos rfl]
/-- what a block of frames shows when it is to be emptied: whether something is kept, whether something is dirty, the latest use -/
def fIn (w : bS) (a : Nat) : Nat → Bool
  | 0 => false
  | t + 1 => fIn w a t || decide (cvs w (a + t) < 64)
def fDr (w : bS) (a : Nat) : Nat → Bool
  | 0 => false
  | t + 1 => fDr w a t || (ful w (a + t) && drt w (hom w (cvs w (a + t)) / 32) (hom w (cvs w (a + t)) % 32 + (a + t - cvs w (a + t))))
def fUs (w : bS) (a : Nat) : Nat → Int
  | 0 => -1
  | t + 1 => if ful w (a + t) = true then (if fUs w a t < w.2 2 (hom w (cvs w (a + t)) + (a + t - cvs w (a + t))) then w.2 2 (hom w (cvs w (a + t)) + (a + t - cvs w (a + t))) else fUs w a t) else fUs w a t
def bi (b : Bool) : Int := bif b then 1 else 0
theorem W_bte_60 (I : IF w) (hf : f < 64) (k27 : bS → Int → Int → Int → Int → Int → Int → Int → Int → Option (Int × bS)) (k7 : bS → Int → Int → Int → Int → Option (Int × bS)) (l1 l2 l3 l4 u t0 : Int) (b : Bool) : W_blockToEmpty_60 k27 k7 n w l1 l2 l3 l4 (bi b) u f (idf w f) t0 = k27 w l1 l2 l3 l4 t0 (bi (b || (ful w f && drt w (hom w (cvs w f) / 32) (hom w (cvs w f) % 32 + (f - cvs w f))))) (if ful w f = true then (if u < w.2 2 (hom w (cvs w f) + (f - cvs w f)) then w.2 2 (hom w (cvs w f) + (f - cvs w f)) else u) else u) ((f + 1 : Nat) : Int) := by
  unfold W_blockToEmpty_60
  rw [ay_wi (by omega) (by omega), show (f : Int) + 1 = ((f + 1 : Nat) : Int) by omega]
  unfold idf
  by_cases hc : cvs w f < 64
  · rw [if_pos hc]
    by_cases hfu : ful w f = true
    · have hin := cvs_in hc
      have hpg := inF_page I hc hin
      rw [if_pos hfu, if_neg (by omega), if_pos (by omega), hd32 hpg.1, hm32 hpg.1, if_pos (show (0 : Int) ≤ ((hom w (cvs w f) + (f - cvs w f)) / 32 : Nat) ∧ (((hom w (cvs w f) + (f - cvs w f)) / 32 : Nat) : Int) < 4 by omega), Int.toNat_natCast, Int.toNat_natCast, hpg.2.1, hpg.2.2.1, bit_1 _ (by omega), hfu, if_pos rfl, Bool.true_and]
      show (if bi b = 0 then (if (if drt w (hom w (cvs w f) / 32) (hom w (cvs w f) % 32 + (f - cvs w f)) = true then (1 : Int) else 0) = 1 then _ else _) else _) = _
      cases b <;> cases drt w (hom w (cvs w f) / 32) (hom w (cvs w f) % 32 + (f - cvs w f)) <;> rfl
    · rw [if_neg hfu, if_pos (by omega), if_neg hfu]
      rw [Bool.eq_false_iff.mpr hfu, Bool.false_and, Bool.or_false]
  · have hfu : ful w f = false := by unfold ful; rw [decide_eq_false hc, Bool.false_and]
    rw [if_neg hc, if_pos (by omega), hfu, if_neg (by decide), Bool.false_and, Bool.or_false]
end
