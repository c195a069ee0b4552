/-! Where a jump goes. -/
theorem ax_tg_s {pc : Nat} {off : Int} (h : ax_tg pc off = true) : ∃ t : Nat, (pc : Int) + off = (t : Int) ∧ ∀ {ρ : Type} (k : Nat → Option ρ), ax_jmp pc off k = k t := by
  cases off with
  | ofNat n => exact ⟨pc + n, rfl, fun _ => rfl⟩
  | negSucc n =>
    have h1 : Nat.ble (n + 1) pc = true := h
    have := Nat.le_of_ble_eq_true h1
    refine ⟨pc - (n + 1), by rw [Int.negSucc_eq]; omega, fun {ρ} k => ?_⟩
    show (bif Nat.ble (n + 1) pc then k (pc - (n + 1)) else none) = _
    rw [h1]
    rfl
