/-! What a fault would do: plans. -/
/-- the lowest free block of so many -/
def lo (w : bS) (M : Nat) : Nat := fs (fre w M) (64 / M)
/-- a block of M can be kept, in free frames or by breaking what begins at s -/
def FIT (z : Nat → Nat) (w : bS) (o p M s : Nat) : Prop := (isN M ∧ p - p % M + M ≤ z o ∧ opn w o (p - p % M) M = true) ∧ (lo w M < 64 / M ∨ (¬ lo w M < 64 / M ∧ s < 64 ∧ 0 < spn w s ∧ hld w s < spn w s ∧ M ≤ spn w s ∧ fs (emp w s M) (spn w s / M) < spn w s / M))
/-- what the keeper has noted of it -/
def PL (w : bS) (p M s : Nat) (k1 : bS) : Prop := k1.1 4 = (M : Int) ∧ k1.1 6 = k1.1 5 + ((p % M : Nat) : Int) ∧ ((lo w M < 64 / M ∧ k1.1 7 = -1 ∧ k1.1 5 = ((lo w M * M : Nat) : Int)) ∨ (¬ lo w M < 64 / M ∧ k1.1 7 = (s : Int) ∧ k1.1 5 = ((s + fs (emp w s M) (spn w s / M) * M : Nat) : Int)))
/-- keepers that differ in plans alone -/
def Kk (k k1 : bS) : Prop := ∀ j, j ≠ 4 → j ≠ 5 → j ≠ 6 → j ≠ 7 → k1.1 j = k.1 j
section
variable {n n' : Nat} {m m' m1 w w' w0 kk xx tt tx : bS} {z : Nat → Nat} {a b' : Nat → Int} {o p f s N k i h g j T b c M x y q : Nat} {t v : Int} {cd sp : Nat → Bool}
theorem bI_1 (hj : j ≠ k) : (bI w k v).1 j = w.1 j := by
  show (bif Nat.beq j k then v else w.1 j) = w.1 j
  rw [nbeq hj]; rfl
theorem bI_e : (bI w k v).1 k = v := by
  show (bif Nat.beq k k then v else w.1 k) = v
  rw [Nat.beq_refl]; rfl
theorem Kk.rf : Kk kk kk := fun _ _ _ _ _ => rfl
theorem Kk.tr (h1 : Kk kk w) (h2 : Kk w w') : Kk kk w' := fun j a b c d => (h2 j a b c d).trans (h1 j a b c d)
theorem Kk.bI (hk : k = 4 ∨ k = 5 ∨ k = 6 ∨ k = 7) : Kk kk (bI kk k v) := fun j a b c d => bI_1 (by omega)
theorem dv4 (hN : isN N) : ay_w (Int.tdiv (N : Int) 4) = ((N / 4 : Nat) : Int) := by
  rw [ay_dn (by omega) (by rcases hN with e | e | e <;> omega) (by omega)]; omega
theorem lo_le : lo w M ≤ 64 / M := fs_le _ _
theorem isN_r (hN : isN N) : 0 < N ∧ N ≤ 16 := by rcases hN with e | e | e <;> omega
theorem lo_64 (hN : isN N) (h : lo w N < 64 / N) : lo w N * N + N ≤ 64 := by rcases hN with e | e | e <;> subst e <;> omega
end
