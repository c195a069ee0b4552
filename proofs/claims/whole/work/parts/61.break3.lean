/-! Breaking up: the reference's loops. -/
section
variable {n n' : Nat} {m w w' w0 kk xx tt : bS} {a b' : Nat → Int} {o p f s N k i h g j T b c : Nat} {t v x : Int}
theorem RP_p {e : Nat → Int} (E : ∀ g j, g < 128 → 0 < j → j < 7 → e (18 + 7 * g + j) = a (18 + 7 * g + j)) (H : RP w a) : RP w e := fun o p ho hp => by
  rw [E _ 1 (by omega) (by omega) (by omega), E _ 2 (by omega) (by omega) (by omega), E _ 3 (by omega) (by omega) (by omega), E _ 4 (by omega) (by omega) (by omega), E _ 5 (by omega) (by omega) (by omega), E _ 6 (by omega) (by omega) (by omega)]
  exact H o p ho hp
theorem rbk_p (hN : isN N) (hs : s + N ≤ 64) (hh : h + N ≤ 128) (hg : g < 128) (hj : 0 < j) (hj7 : j < 7) : ∀ k, k ≤ N → rbk w0 s h N t k a (18 + 7 * g + j) = a (18 + 7 * g + j)
  | 0, _ => rfl
  | k + 1, hk => by
    have ih := rbk_p hN hs hh hg hj hj7 k (by omega)
    rw [rbk]
    by_cases f : fgp w0 h N k = true
    · rw [if_pos f]
      have h16 := (fgp_iff.mp f).1
      by_cases k4 : k % 4 = 0
      · rw [if_pos k4, rsv_p hg hj7 (by omega) (by omega) (by omega), if_neg (by omega), ih]
      · rw [if_neg k4, ih]
    · rw [if_neg f]
      by_cases th : thr w0 (h / 32) (h % 32 + k) = true
      · rw [if_pos th, rsv_p hg hj7 (by omega) (by omega) (by omega), if_neg (by omega), ih]
      · rw [if_neg th, ih]
theorem rbk_o (hN : isN N) (hs : s + N ≤ 64) (hh : h + N ≤ 128) (hg : g < 18 ∨ 1234 ≤ g) : ∀ k, k ≤ N → rbk w0 s h N t k a g = a g
  | 0, _ => rfl
  | k + 1, hk => by
    have ih := rbk_o hN hs hh hg k (by omega)
    rw [rbk]
    by_cases f : fgp w0 h N k = true
    · rw [if_pos f]
      have h16 := (fgp_iff.mp f).1
      by_cases k4 : k % 4 = 0
      · rw [if_pos k4, rsv_o hg (by omega) (by omega) (by omega), ih]
      · rw [if_neg k4, ih]
    · rw [if_neg f]
      by_cases th : thr w0 (h / 32) (h % 32 + k) = true
      · rw [if_pos th, rsv_o hg (by omega) (by omega) (by omega), ih]
      · rw [if_neg th, ih]
theorem R_areThere4 (H : RP w (m.2 0)) (ho : o < 4) (hb : b + 4 ≤ 32) : R_areThere (n + 5) m o b 4 = some (if thr w o b = true ∧ thr w o (b + 1) = true ∧ thr w o (b + 2) = true ∧ thr w o (b + 3) = true then 1 else 0, m) := by
  have e4 : ay_w ((b : Int) + 4) = ((b + 4 : Nat) : Int) := by rw [ay_wi (by omega) (by omega)]; omega
  have st : ∀ n q, b ≤ q → q < b + 4 → R_areThere_3 (n + 1) m o b 4 q = if thr w o q = true then R_areThere_3 n m o b 4 ((q + 1 : Nat) : Int) else some (0, m) := fun n q h1 h2 => by
    rw [R_areThere_3, e4, if_neg (by omega), bb_s (R_isThere_ok n H ho (by omega)), i01, ay_wi (by omega) (by omega), show (q : Int) + 1 = ((q + 1 : Nat) : Int) by omega]
  have fin : R_areThere_3 (n + 1) m o b 4 ((b + 1 + 1 + 1 + 1 : Nat) : Int) = some (1, m) := by
    rw [R_areThere_3, e4, if_pos (show ((b + 4 : Nat) : Int) ≤ ((b + 1 + 1 + 1 + 1 : Nat) : Int) by omega)]
  unfold R_areThere
  rw [st (n + 4) b (by omega) (by omega), st (n + 3) (b + 1) (by omega) (by omega), st (n + 2) (b + 1 + 1) (by omega) (by omega), st (n + 1) (b + 1 + 1 + 1) (by omega) (by omega), fin, show b + 1 + 1 + 1 = b + 3 from rfl, show b + 1 + 1 = b + 2 from rfl]
  generalize thr w o b = A
  generalize thr w o (b + 1) = B
  generalize thr w o (b + 2) = C
  generalize thr w o (b + 3) = D
  cases A <;> cases B <;> cases C <;> cases D <;> rfl
end
