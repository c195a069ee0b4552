/-! Sweeping, on both sides. -/
theorem ay_us {f : Nat → Int} {i : Nat} : ay_u f i (f i) = f := by
  funext j; unfold ay_u; split
  · rename_i e; rw [e]
  · rfl
section
variable {n : Nat} {m m0 w w' w1 kk xx tt : bS} {a b' : Nat → Int} {o p f s N k i h g j x y T b L q S Z : Nat} {t v : Int}
def sv (w : bS) (o k : Nat) : bS := bC w 1 (fun i => if (32 * o ≤ i ∧ i < 32 * o + k) ∧ drt w o (i - 32 * o) = true then w.2 0 i else w.2 1 i)
def chg (w : bS) (o p : Nat) : Bool := drt w o p && decide (w.2 0 (32 * o + p) ≠ w.2 1 (32 * o + p))
def sr (a : Nat → Int) (w : bS) (o : Nat) : Nat → (Nat → Int)
  | 0 => a
  | k + 1 => if drt w o k = true then ay_u (ay_u (sr a w o k) (18 + 7 * (32 * o + k) + 3) (w.2 0 (32 * o + k))) (18 + 7 * (32 * o + k) + 4) 0 else sr a w o k
theorem sr_p (ho : o < 4) (hg : g < 128) (hj : j < 7) (hk : k ≤ 32) : sr a w o k (18 + 7 * g + j) = if (32 * o ≤ g ∧ g < 32 * o + k) ∧ drt w o (g - 32 * o) = true then (if j = 3 then w.2 0 g else if j = 4 then 0 else a (18 + 7 * g + j)) else a (18 + 7 * g + j) := by
  induction k with
  | zero => rw [if_neg (by omega)]; rfl
  | succ k ih =>
    show (if drt w o k = true then ay_u (ay_u (sr a w o k) (18 + 7 * (32 * o + k) + 3) (w.2 0 (32 * o + k))) (18 + 7 * (32 * o + k) + 4) 0 else sr a w o k) (18 + 7 * g + j) = _
    by_cases e : g = 32 * o + k
    · subst e
      rw [show 32 * o + k - 32 * o = k by omega]
      by_cases d : drt w o k = true
      · rw [if_pos d, if_pos ⟨by omega, d⟩]
        by_cases j3 : j = 3
        · subst j3; rw [if_pos rfl, ay_ux (by omega), ay_ue]
        · rw [if_neg j3]
          by_cases j4 : j = 4
          · subst j4; rw [if_pos rfl, ay_ue]
          · rw [if_neg j4, ay_ux (by omega), ay_ux (by omega), ih (by omega), if_neg (by omega)]
      · rw [if_neg d, if_neg (fun z => d z.2), ih (by omega), if_neg (by omega)]
    · have e2 : ((32 * o ≤ g ∧ g < 32 * o + (k + 1)) ∧ drt w o (g - 32 * o) = true) ↔ ((32 * o ≤ g ∧ g < 32 * o + k) ∧ drt w o (g - 32 * o) = true) := ⟨fun z => ⟨by omega, z.2⟩, fun z => ⟨by omega, z.2⟩⟩
      by_cases d : drt w o k = true
      · rw [if_pos d, ay_ux (by omega), ay_ux (by omega), ih (by omega)]
        by_cases c : (32 * o ≤ g ∧ g < 32 * o + k) ∧ drt w o (g - 32 * o) = true
        · rw [if_pos c, if_pos (e2.mpr c)]
        · rw [if_neg c, if_neg (fun z => c (e2.mp z))]
      · rw [if_neg d, ih (by omega)]
        by_cases c : (32 * o ≤ g ∧ g < 32 * o + k) ∧ drt w o (g - 32 * o) = true
        · rw [if_pos c, if_pos (e2.mpr c)]
        · rw [if_neg c, if_neg (fun z => c (e2.mp z))]
theorem sr_o (ho : o < 4) (hg : g < 18 ∨ 914 ≤ g) (hk : k ≤ 32) : sr a w o k g = a g := by
  induction k with
  | zero => rfl
  | succ k ih =>
    show (if drt w o k = true then ay_u (ay_u (sr a w o k) (18 + 7 * (32 * o + k) + 3) (w.2 0 (32 * o + k))) (18 + 7 * (32 * o + k) + 4) 0 else sr a w o k) g = _
    split
    · rw [ay_ux (by omega), ay_ux (by omega), ih (by omega)]
    · exact ih (by omega)
theorem sr_ext (hk : k ≤ q) (h : ∀ p, k ≤ p → p < q → drt w o p = false) : sr a w o q = sr a w o k := by
  induction q with
  | zero => rw [show k = 0 by omega]
  | succ q ih =>
    by_cases e : k = q + 1
    · rw [e]
    · show (if drt w o q = true then _ else sr a w o q) = _
      rw [if_neg (by rw [h q (by omega) (by omega)]; decide), ih (by omega) (fun p h1 h2 => h p h1 (by omega))]
theorem K_sw4 (ho : o < 4) (hn : 40 + 140 ≤ n) : K_sweepOut_4 tt n (kk, w, xx) o 0 0 = K_sweepOut_112 tt (n - 33) (kk, bI (bA (sv w o 32) 7 (o : Int) 0) 17 (ay_w (w.1 17 + ((cn (chg w o) 32 : Nat) : Int))), xx) o ((cn (chg w o) 32 : Nat) : Int) 0 := by
  have hc4 : (0 : Int) ≤ (o : Int) ∧ (o : Int) < 4 := by omega
  have st : ∀ k n, k < 32 → K_sweepOut_4 tt (n + 1) (kk, sv w o k, xx) o ((cn (chg w o) k : Nat) : Int) k = K_sweepOut_4 tt n (kk, sv w o (k + 1), xx) o ((cn (chg w o) (k + 1) : Nat) : Int) ((k + 1 : Nat) : Int) := fun k n hk => by
    have hl := cn_le (chg w o) k
    have hid : ay_w (ay_w ((o : Int) * 32) + (k : Int)) = ((32 * o + k : Nat) : Int) := by
      simp (disch := omega) only [ay_wi]; omega
    have hid2 : (0 : Int) ≤ ((32 * o + k : Nat) : Int) ∧ ((32 * o + k : Nat) : Int) < 128 := by omega
    rw [K_sweepOut_4, if_neg (by omega), if_pos hc4, hid, if_pos hid2, if_pos hid2, if_pos hid2, if_pos hid2, Int.toNat_natCast, Int.toNat_natCast, bit_1 _ hk, ay_wi (x := (k : Int) + 1) (by omega) (by omega), show (k : Int) + 1 = ((k + 1 : Nat) : Int) by omega]
    show (if (if drt w o k = true then (1 : Int) else 0) = 1 then (if w.2 0 (32 * o + k) = (sv w o k).2 1 (32 * o + k) then _ else _) else _) = _
    have e1 : (sv w o k).2 1 (32 * o + k) = w.2 1 (32 * o + k) := by
      show (if (32 * o ≤ 32 * o + k ∧ 32 * o + k < 32 * o + k) ∧ _ then _ else _) = _
      rw [if_neg (by omega)]
    have hch : chg w o k = (drt w o k && decide (w.2 0 (32 * o + k) ≠ w.2 1 (32 * o + k))) := rfl
    rw [e1, cn_s, hch]
    have same : ∀ (hs : drt w o k = true → w.2 0 (32 * o + k) = w.2 1 (32 * o + k)), sv w o (k + 1) = sv w o k := fun hs => by
      unfold sv
      refine congrArg (bC w 1) ?_
      funext i
      by_cases e : i = 32 * o + k
      · subst e
        rw [if_neg (show ¬ ((32 * o ≤ 32 * o + k ∧ 32 * o + k < 32 * o + k) ∧ drt w o (32 * o + k - 32 * o) = true) by omega), show 32 * o + k - 32 * o = k by omega]
        by_cases d : drt w o k = true
        · rw [if_pos ⟨by omega, d⟩]; exact hs d
        · rw [if_neg (fun z => d z.2)]
      · by_cases c : (32 * o ≤ i ∧ i < 32 * o + k) ∧ drt w o (i - 32 * o) = true
        · rw [if_pos c, if_pos ⟨by omega, c.2⟩]
        · rw [if_neg c, if_neg (fun z => c ⟨by omega, z.2⟩)]
    cases hd : drt w o k
    · rw [if_neg (by decide), same (fun z => by rw [hd] at z; cases z)]
      simp
    · rw [if_pos (by decide)]
      by_cases c : w.2 0 (32 * o + k) = w.2 1 (32 * o + k)
      · rw [if_pos c, same (fun _ => c)]
        simp [c]
      · rw [if_neg c, ay_wi (by omega) (by omega)]
        have e2 : bA (sv w o k) 1 ((32 * o + k : Nat) : Int) (w.2 0 (32 * o + k)) = sv w o (k + 1) := by
          refine Prod.ext rfl ?_
          funext r
          show (bif Nat.beq r 1 then ay_u ((sv w o k).2 1) (((32 * o + k : Nat) : Int)).toNat (w.2 0 (32 * o + k)) else (bif Nat.beq r 1 then _ else w.2 r)) = (bif Nat.beq r 1 then _ else w.2 r)
          cases Nat.beq r 1
          · rfl
          · rw [cond_true, cond_true, Int.toNat_natCast]
            funext i
            show ay_u (fun i => if (32 * o ≤ i ∧ i < 32 * o + k) ∧ drt w o (i - 32 * o) = true then w.2 0 i else w.2 1 i) (32 * o + k) (w.2 0 (32 * o + k)) i = _
            unfold ay_u
            by_cases e : i = 32 * o + k
            · subst e
              rw [if_pos rfl, if_pos ⟨by omega, by rw [show 32 * o + k - 32 * o = k by omega]; exact hd⟩]
            · rw [if_neg e]
              show (if (32 * o ≤ i ∧ i < 32 * o + k) ∧ drt w o (i - 32 * o) = true then w.2 0 i else w.2 1 i) = _
              by_cases c : (32 * o ≤ i ∧ i < 32 * o + k) ∧ drt w o (i - 32 * o) = true
              · rw [if_pos c, if_pos ⟨by omega, c.2⟩]
              · rw [if_neg c, if_neg (fun z => c ⟨by omega, z.2⟩)]
        have e3 : (if (true && decide (w.2 0 (32 * o + k) ≠ w.2 1 (32 * o + k))) = true then 1 else 0) = 1 := by
          rw [if_pos (by rw [Bool.true_and]; exact decide_eq_true c)]
        rw [e3]
        show K_sweepOut_4 tt n (kk, bA (sv w o k) 1 ((32 * o + k : Nat) : Int) (w.2 0 (32 * o + k)), xx) o _ _ = _
        rw [e2]
        rfl
  have all : ∀ k n, k ≤ 32 → k ≤ n → K_sweepOut_4 tt n (kk, sv w o 0, xx) o ((cn (chg w o) 0 : Nat) : Int) ((0 : Nat) : Int) = K_sweepOut_4 tt (n - k) (kk, sv w o k, xx) o ((cn (chg w o) k : Nat) : Int) k := fun k => by
    induction k with
    | zero => intro n _ _; rfl
    | succ k ih =>
      intro n h1 h2
      rw [ih n (by omega) (by omega), show n - k = (n - (k + 1)) + 1 by omega, st k _ (by omega)]
  have s0 : sv w o 0 = w := by
    refine Prod.ext rfl ?_
    funext r
    show (bif Nat.beq r 1 then _ else w.2 r) = w.2 r
    cases hr : Nat.beq r 1
    · rfl
    · rw [Nat.eq_of_beq_eq_true hr, cond_true]
      funext i
      rw [if_neg (by omega)]
  have h := all 32 n (Nat.le_refl _) (by omega)
  rw [s0] at h
  refine h.trans ?_
  rw [show n - 32 = (n - 33) + 1 by omega, K_sweepOut_4, if_pos (by decide), if_pos hc4]
  rfl
end
