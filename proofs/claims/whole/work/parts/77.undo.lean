/-! A reservation is undone: the two loops. -/
/-- a page of what begins at s that stays, that leaves, when frames from b on, M of them, are emptied -/
def kep (w : bS) (s b M c : Nat) : Bool := pgs w s c && !decide (b ≤ s + c ∧ s + c < b + M)
def lev (w : bS) (s b M c : Nat) : Bool := pgs w s c && decide (b ≤ s + c ∧ s + c < b + M)
/-- the reference's row behind k steps -/
def und (w : bS) (s b M : Nat) (a : Nat → Int) : Nat → (Nat → Int)
  | 0 => a
  | k + 1 => if pgs w s k = true then (if b ≤ s + k ∧ s + k < b + M then lv1 (fr1 (und w s b M a k) (s + k) (hom w s + k)) (hom w s + k) else ay_u (rsv (fr1 (und w s b M a k) (s + k) (hom w s + k)) (s + k) (hom w s + k) 1 (w.2 5 s)) (18 + 7 * (hom w s + k) + 5) 1) else fr1 (und w s b M a k) (s + k) (hom w s + k)
/-- the class's world, its bits that leave, behind k steps -/
def dsw (w : bS) (s b M : Nat) (w1 : bS) : Nat → bS
  | 0 => w1
  | k + 1 => if kep w s b M k = true then hd (dsw w s b M w1 k) (s + k) (hom w s + k) 1 (w.2 5 s) else dsw w s b M w1 k
def lvb (w : bS) (s b M : Nat) : Nat → Int
  | 0 => 0
  | k + 1 => if lev w s b M k = true then ay_or (lvb w s b M k) (ay_shl 1 ((hom w s % 32 + k : Nat) : Int)) else lvb w s b M k
section
variable {n n' : Nat} {m m' m1 w w' w1 w2 w0 kk k1 xx tt tx : bS} {z : Nat → Nat} {a b' : Nat → Int} {o p f s N k i h g j T b c M q : Nat} {t v x : Int}
theorem und_f (hg : g < 64) (hj : j < 5) (hs : s + N ≤ 64) (hh : hom w s + N ≤ 128) : ∀ k, k ≤ N → und w s b M a k (914 + 5 * g + j) = if s ≤ g ∧ g < s + k then (if kep w s b M (g - s) = true then (if j = 0 then (g : Int) else if j = 1 then (((hom w s + (g - s)) / 32 : Nat) : Int) else if j = 2 then (((hom w s + (g - s)) % 32 : Nat) : Int) else if j = 3 then 1 else w.2 5 s) else (if j = 0 then -1 else 0)) else a (914 + 5 * g + j)
  | 0, _ => by rw [und, if_neg (by omega)]
  | k + 1, hk => by
    have ih := und_f hg hj hs hh k (by omega)
    have f1 : fr1 (und w s b M a k) (s + k) (hom w s + k) (914 + 5 * g + j) = if g = s + k then (if j = 0 then -1 else 0) else und w s b M a k (914 + 5 * g + j) := fr1_f hg hj (by omega) (by omega)
    rw [und]
    by_cases e : g = s + k
    · have e2 : g - s = k := by omega
      rw [if_pos (show s ≤ g ∧ g < s + (k + 1) by omega), e2]
      rw [if_pos e] at f1
      unfold kep
      cases th : pgs w s k
      · rw [if_neg (by decide), f1]; rfl
      · rw [if_pos rfl]
        by_cases d : b ≤ s + k ∧ s + k < b + M
        · rw [if_pos d, decide_eq_true d, lv1_o (by omega) (by omega), f1]; rfl
        · rw [if_neg d, decide_eq_false d, ay_ux (by omega), rsv_f hg hj (by omega) (by omega) (by omega), if_pos e, if_pos (show s + k ≤ g ∧ g < s + k + 1 by omega)]
          rw [if_pos (show (true && !false) = true from rfl), e]
          rfl
    · rw [if_neg e] at f1
      have hc : (s ≤ g ∧ g < s + (k + 1)) ↔ (s ≤ g ∧ g < s + k) := by omega
      have key : (if pgs w s k = true then (if b ≤ s + k ∧ s + k < b + M then lv1 (fr1 (und w s b M a k) (s + k) (hom w s + k)) (hom w s + k) else ay_u (rsv (fr1 (und w s b M a k) (s + k) (hom w s + k)) (s + k) (hom w s + k) 1 (w.2 5 s)) (18 + 7 * (hom w s + k) + 5) 1) else fr1 (und w s b M a k) (s + k) (hom w s + k)) (914 + 5 * g + j) = und w s b M a k (914 + 5 * g + j) := by
        by_cases th : pgs w s k = true
        · rw [if_pos th]
          by_cases d : b ≤ s + k ∧ s + k < b + M
          · rw [if_pos d, lv1_o (by omega) (by omega), f1]
          · rw [if_neg d, ay_ux (by omega), rsv_f hg hj (by omega) (by omega) (by omega), if_neg e, if_neg (show ¬ (s + k ≤ g ∧ g < s + k + 1) by omega)]
            by_cases j0 : j = 0
            · subst j0; rw [if_pos rfl]; exact f1
            · rw [if_neg j0, f1]
        · rw [if_neg th, f1]
      rw [key, ih]
      by_cases y : s ≤ g ∧ g < s + k
      · rw [if_pos y, if_pos (hc.mpr y)]
      · rw [if_neg y, if_neg (fun q => y (hc.mp q))]
theorem und_p (hi : i < 128) (hs : s + N ≤ 64) (hh : hom w s + N ≤ 128) : ∀ k, k ≤ N → ∀ j, j < 7 → und w s b M a k (18 + 7 * i + j) = if hom w s ≤ i ∧ i < hom w s + k then (if j = 0 then (if kep w s b M (i - hom w s) = true then ((s + (i - hom w s) : Nat) : Int) else -1) else if kep w s b M (i - hom w s) = true then (if j = 5 then 1 else a (18 + 7 * i + j)) else if lev w s b M (i - hom w s) = true then (if j = 1 ∨ j = 4 ∨ j = 5 then 0 else if j = 2 then a (18 + 7 * i + 3) else a (18 + 7 * i + j)) else a (18 + 7 * i + j)) else a (18 + 7 * i + j)
  | 0, _, j, hj => by rw [und, if_neg (by omega)]
  | k + 1, hk, j, hj => by
    have ih := und_p hi hs hh k (by omega) j hj
    have ih3 := und_p hi hs hh k (by omega) 3 (by omega)
    have f1 : fr1 (und w s b M a k) (s + k) (hom w s + k) (18 + 7 * i + j) = if j = 0 ∧ i = hom w s + k then -1 else und w s b M a k (18 + 7 * i + j) := fr1_p hi hj (by omega)
    have f3 : fr1 (und w s b M a k) (s + k) (hom w s + k) (18 + 7 * (hom w s + k) + 3) = und w s b M a k (18 + 7 * (hom w s + k) + 3) := by rw [fr1_p (by omega) (by omega) (by omega), if_neg (by omega)]
    rw [und]
    by_cases e : i = hom w s + k
    · subst e
      have e2 : hom w s + k - hom w s = k := by omega
      rw [if_neg (by omega)] at ih3 ih
      rw [if_pos (show hom w s ≤ hom w s + k ∧ hom w s + k < hom w s + (k + 1) by omega), e2]
      unfold kep lev
      cases th : pgs w s k
      · rw [if_neg (by decide), f1, ih]
        by_cases j0 : j = 0
        · rw [if_pos ⟨j0, rfl⟩, if_pos j0]; rfl
        · rw [if_neg (fun q => j0 q.1), if_neg j0]; rfl
      · rw [if_pos rfl]
        by_cases d : b ≤ s + k ∧ s + k < b + M
        · rw [if_pos d, decide_eq_true d, lv1_p hi hj, f1, f3, ih, ih3]
          rcases (show j = 0 ∨ j = 1 ∨ j = 2 ∨ j = 3 ∨ j = 4 ∨ j = 5 ∨ j = 6 by omega) with y | y | y | y | y | y | y <;> subst y <;> simp
        · rw [if_neg d, decide_eq_false d]
          by_cases j5 : j = 5
          · subst j5
            rw [ay_ue]; rfl
          · rw [ay_ux (by omega), rsv_p hi hj (by omega) (by omega) (by omega), f1, ih]
            by_cases j0 : j = 0
            · rw [if_pos ⟨j0, by omega, by omega⟩, if_pos j0]
              rw [if_pos (show (true && !false) = true from rfl)]; omega
            · rw [if_neg (fun q => j0 q.1), if_neg (fun q => j0 q.1), if_neg j0]
              rw [if_pos (show (true && !false) = true from rfl), if_neg j5]
    · rw [if_neg (fun q => e q.2)] at f1
      have hc : (hom w s ≤ i ∧ i < hom w s + (k + 1)) ↔ (hom w s ≤ i ∧ i < hom w s + k) := by omega
      have key : (if pgs w s k = true then (if b ≤ s + k ∧ s + k < b + M then lv1 (fr1 (und w s b M a k) (s + k) (hom w s + k)) (hom w s + k) else ay_u (rsv (fr1 (und w s b M a k) (s + k) (hom w s + k)) (s + k) (hom w s + k) 1 (w.2 5 s)) (18 + 7 * (hom w s + k) + 5) 1) else fr1 (und w s b M a k) (s + k) (hom w s + k)) (18 + 7 * i + j) = und w s b M a k (18 + 7 * i + j) := by
        by_cases th : pgs w s k = true
        · rw [if_pos th]
          by_cases d : b ≤ s + k ∧ s + k < b + M
          · rw [if_pos d, lv1_p hi hj, if_neg (fun q => e q.1), f1]
          · rw [if_neg d, ay_ux (by omega), rsv_p hi hj (by omega) (by omega) (by omega), if_neg (by omega), f1]
        · rw [if_neg th, f1]
      rw [key, ih]
      by_cases y : hom w s ≤ i ∧ i < hom w s + k
      · rw [if_pos y, if_pos (hc.mpr y)]
      · rw [if_neg y, if_neg (fun q => y (hc.mp q))]
theorem und_o (hg : g < 18 ∨ 1234 ≤ g) (hs : s + N ≤ 64) (hh : hom w s + N ≤ 128) : ∀ k, k ≤ N → und w s b M a k g = a g
  | 0, _ => rfl
  | k + 1, hk => by
    have ih := und_o hg hs hh k (by omega)
    have f1 : fr1 (und w s b M a k) (s + k) (hom w s + k) g = a g := by rw [fr1_o hg (by omega) (by omega), ih]
    rw [und]
    by_cases th : pgs w s k = true
    · rw [if_pos th]
      by_cases d : b ≤ s + k ∧ s + k < b + M
      · rw [if_pos d, lv1_o (by omega) (by omega), f1]
      · rw [if_neg d, ay_ux (by omega), rsv_o hg (by omega) (by omega) (by omega), f1]
    · rw [if_neg th, f1]
/-- slots behind k steps of the class -/
theorem dsw_at (g : Nat) : ∀ k, spn (dsw w s b M w1 k) g = (if (s ≤ g ∧ g < s + k) ∧ kep w s b M (g - s) = true then 1 else spn w1 g) ∧ hom (dsw w s b M w1 k) g = (if (s ≤ g ∧ g < s + k) ∧ kep w s b M (g - s) = true then hom w s + (g - s) else hom w1 g) ∧ (dsw w s b M w1 k).2 5 g = (if (s ≤ g ∧ g < s + k) ∧ kep w s b M (g - s) = true then w.2 5 s else w1.2 5 g)
  | 0 => by rw [if_neg (by omega), if_neg (by omega), if_neg (by omega)]; exact ⟨rfl, rfl, rfl⟩
  | k + 1 => by
    obtain ⟨h1, h2, h3⟩ := dsw_at g k
    rw [dsw]
    by_cases c : kep w s b M k = true
    · rw [if_pos c, hd_spn, hd_hom, hd_snc]
      by_cases e : g = s + k
      · have e2 : g - s = k := by omega
        rw [if_pos e, if_pos e, if_pos e, e2, if_pos ⟨by omega, c⟩, if_pos ⟨by omega, c⟩, if_pos ⟨by omega, c⟩]
        exact ⟨rfl, rfl, rfl⟩
      · have hc : ((s ≤ g ∧ g < s + (k + 1)) ∧ kep w s b M (g - s) = true) = ((s ≤ g ∧ g < s + k) ∧ kep w s b M (g - s) = true) := propext ⟨fun q => ⟨by omega, q.2⟩, fun q => ⟨by omega, q.2⟩⟩
        rw [if_neg e, if_neg e, if_neg e]
        simp only [hc]
        exact ⟨h1, h2, h3⟩
    · have hc : ((s ≤ g ∧ g < s + (k + 1)) ∧ kep w s b M (g - s) = true) = ((s ≤ g ∧ g < s + k) ∧ kep w s b M (g - s) = true) := propext ⟨fun q => ⟨by
        by_cases e : g - s = k
        · rw [e] at q; exact absurd q.2 c
        · omega, q.2⟩, fun q => ⟨by omega, q.2⟩⟩
      rw [if_neg c]
      simp only [hc]
      exact ⟨h1, h2, h3⟩
theorem dsw_2 (h3 : j ≠ 3) (h4 : j ≠ 4) (h5 : j ≠ 5) : ∀ k, (dsw w s b M w1 k).2 j = w1.2 j
  | 0 => rfl
  | k + 1 => by
    rw [dsw]
    by_cases c : kep w s b M k = true
    · rw [if_pos c, hd_2 h3 h4 h5, dsw_2 h3 h4 h5 k]
    · rw [if_neg c, dsw_2 h3 h4 h5 k]
theorem dsw_1 : ∀ k, (dsw w s b M w1 k).1 = w1.1
  | 0 => rfl
  | k + 1 => by
    rw [dsw]
    by_cases c : kep w s b M k = true
    · rw [if_pos c]
      show (dsw w s b M w1 k).1 = w1.1
      exact dsw_1 k
    · rw [if_neg c]; exact dsw_1 k
theorem lvb_bt (hh : hom w s % 32 + N ≤ 32) (hq : q < 32) : ∀ k, k ≤ N → bt (lvb w s b M k) q = (decide (hom w s % 32 ≤ q ∧ q < hom w s % 32 + k) && lev w s b M (q - hom w s % 32))
  | 0, _ => by rw [lvb, bt_z, decide_eq_false (by omega)]; rfl
  | k + 1, hk => by
    have ih := lvb_bt hh hq k (by omega)
    rw [lvb]
    by_cases e : q = hom w s % 32 + k
    · have e2 : q - hom w s % 32 = k := by omega
      rw [e2] at ih ⊢
      rw [decide_eq_false (by omega), Bool.false_and] at ih
      rw [decide_eq_true (show hom w s % 32 ≤ q ∧ q < hom w s % 32 + (k + 1) by omega), Bool.true_and]
      by_cases c : lev w s b M k = true
      · rw [if_pos c, bt_or, bt_shl1 _ (by omega) q hq, decide_eq_true e, Bool.or_true, c]
      · rw [if_neg c, ih]
        cases y : lev w s b M k
        · rfl
        · exact absurd y c
    · have hc : decide (hom w s % 32 ≤ q ∧ q < hom w s % 32 + (k + 1)) = decide (hom w s % 32 ≤ q ∧ q < hom w s % 32 + k) := by
        by_cases y : hom w s % 32 ≤ q ∧ q < hom w s % 32 + k
        · rw [decide_eq_true y, decide_eq_true (by omega)]
        · rw [decide_eq_false y, decide_eq_false (by omega)]
      rw [hc]
      by_cases c : lev w s b M k = true
      · rw [if_pos c, bt_or, bt_shl1 _ (by omega) q hq, decide_eq_false e, Bool.or_false, ih]
      · rw [if_neg c, ih]
theorem cn_sh (f : Nat → Bool) (d k : Nat) : ∀ n, cn (fun q => decide (d ≤ q ∧ q < d + k) && f (q - d)) n = cn f (min (n - d) k)
  | 0 => by rw [show min (0 - d) k = 0 by omega]; rfl
  | n + 1 => by
    rw [cn_s, cn_sh f d k n]
    by_cases h : d ≤ n ∧ n < d + k
    · rw [decide_eq_true h, Bool.true_and, show min (n + 1 - d) k = min (n - d) k + 1 by omega, cn_s, show min (n - d) k = n - d by omega]
    · rw [decide_eq_false h, Bool.false_and, if_neg (by decide), show min (n + 1 - d) k = min (n - d) k by omega]; rfl
end
