/-! Breaking up: the reference's loops, on. -/
section
variable {n n' : Nat} {m w w' w0 kk xx tt : bS} {a b' : Nat → Int} {o p f s N k i h g j T b c : Nat} {t v x : Int}
theorem wadd {x y : Nat} (h : x + y < 2147483648) : ay_w ((x : Int) + (y : Int)) = ((x + y : Nat) : Int) := by rw [ay_wi (by omega) (by omega)]; omega
theorem wad1 {x : Nat} (h : x < 2147483647) : ay_w ((x : Int) + 1) = ((x + 1 : Nat) : Int) := by rw [ay_wi (by omega) (by omega)]; omega
theorem wad4 {x : Nat} (h : x < 2147483644) : ay_w ((x : Int) + 4) = ((x + 4 : Nat) : Int) := by rw [ay_wi (by omega) (by omega)]; omega
theorem rem4 {x : Nat} (h : x < 2147483648) : ay_rem (x : Int) 4 = ((x % 4 : Nat) : Int) := by rw [ay_rn' (by omega) (by omega) (by omega) (by omega)]; omega
theorem rbk_4 (f : fgp w0 h N k = true) (k4 : k % 4 = 0) : rbk w0 s h N t (k + 4) a = rbk w0 s h N t (k + 1) a := by
  have st : ∀ c, k < c → c < k + 4 → rbk w0 s h N t (c + 1) a = rbk w0 s h N t c a := fun c h1 h2 => by
    rw [rbk, if_pos ((fgp_g (show c / 4 = k / 4 by omega)).trans f), if_neg (by omega)]
  rw [show k + 4 = k + 1 + 1 + 1 + 1 from rfl, st _ (by omega) (by omega), st _ (by omega) (by omega), st _ (by omega) (by omega)]
/-- from a step on a new group, or within one that is not whole, the loop walks to the end -/
theorem R_bn69 (hN : isN N) (hs : s + N ≤ 64) (hh : h % 32 + N ≤ 32) (h128 : h < 128) (HP : RP w0 a) : ∀ (d n k : Nat), N ≤ k + d → k ≤ N → (k % 4 = 0 ∨ fgp w0 h N k = false) → d + 25 ≤ n → R_breakNow_69 n (bC m 0 (rbk w0 s h N t k a)) s ((h / 32 : Nat) : Int) ((h % 32 : Nat) : Int) N t k = some (0, bC m 0 (rbk w0 s h N t N a))
  | 0, n, k, hd, hk, _, hn => by
    obtain ⟨n, rfl⟩ : ∃ z, n = z + 1 := ⟨n - 1, by omega⟩
    have : k = N := by omega
    subst this
    rw [R_breakNow_69, if_pos (Int.le_refl _)]
  | d + 1, n, k, hd, hk, hg, hn => by
    obtain ⟨n, rfl⟩ : ∃ z, n = z + 1 := ⟨n - 1, by omega⟩
    by_cases kN : k = N
    · subst kN
      rw [R_breakNow_69, if_pos (Int.le_refl _)]
    have hN16 : N ≤ 16 := by rcases hN with e | e | e <;> omega
    have hP : RP w0 ((bC m 0 (rbk w0 s h N t k a)).2 0) := RP_p (fun g j h1 h2 h3 => rbk_p hN hs (by omega) h1 h2 h3 k (by omega)) HP
    have hb : (h + k) / 32 = h / 32 ∧ (h + k) % 32 = h % 32 + k := by omega
    have one : fgp w0 h N k = false → R_breakNow_125 (fun s l1 l2 l3 l4 l5 l6 => R_breakNow_69 n s l1 l2 l3 l4 l5 l6) n (bC m 0 (rbk w0 s h N t k a)) s ((h / 32 : Nat) : Int) ((h % 32 : Nat) : Int) N t k = some (0, bC m 0 (rbk w0 s h N t N a)) := fun f => by
      have nx : k + 1 ≤ N → ((k + 1) % 4 = 0 ∨ fgp w0 h N (k + 1) = false) := fun _ => by
        by_cases e : (k + 1) % 4 = 0
        · exact Or.inl e
        · exact Or.inr ((fgp_g (show (k + 1) / 4 = k / 4 by omega)).trans f)
      have go := R_bn69 hN hs hh h128 HP d n (k + 1) (by omega) (by omega) (nx (by omega)) (by omega)
      unfold R_breakNow_125
      rw [wadd (x := h % 32) (y := k) (by omega), wadd (x := s) (y := k) (by omega), wad1 (by omega)]
      refine (bb_s (R_isThere_ok n hP (by omega) (by omega))).trans ?_
      rw [i01]
      rw [rbk, f, if_neg (show ¬ (false = true) by decide)] at go
      by_cases th : thr w0 (h / 32) (h % 32 + k) = true
      · rw [if_pos th] at go ⊢
        have rs : R_reserve n (bC m 0 (rbk w0 s h N t k a)) ((s + k : Nat) : Int) ((h / 32 : Nat) : Int) ((h % 32 + k : Nat) : Int) 1 t = some (0, bC m 0 (rsv (rbk w0 s h N t k a) (s + k) (h + k) 1 t)) := by
          have := R_reserve_ok (n := n) (m := bC m 0 (rbk w0 s h N t k a)) (f := s + k) (h := h + k) (N := 1) (t := t) (Or.inl rfl) (by omega) (by omega) (by omega) (by omega)
          rw [hb.1, hb.2, bC_C] at this
          exact this
        exact (bb_s rs).trans go
      · rw [if_neg th] at go ⊢
        exact go
    rw [R_breakNow_69, if_neg (by omega)]
    by_cases c : N = 16
    · rw [if_pos (by omega), rem4 (by omega)]
      by_cases k4 : k % 4 = 0
      · rw [if_pos (by omega), wadd (x := h % 32) (y := k) (by omega), wadd (x := s) (y := k) (by omega), wad4 (by omega)]
        obtain ⟨n, rfl⟩ : ∃ z, n = z + 5 := ⟨n - 5, by omega⟩
        refine (bb_s (R_areThere4 hP (by omega) (by omega))).trans ?_
        rw [i01]
        have ff : (thr w0 (h / 32) (h % 32 + k) = true ∧ thr w0 (h / 32) (h % 32 + k + 1) = true ∧ thr w0 (h / 32) (h % 32 + k + 2) = true ∧ thr w0 (h / 32) (h % 32 + k + 3) = true) ↔ fgp w0 h N k = true := by
          unfold fgp
          rw [Bool.and_eq_true, Bool.and_eq_true, Bool.and_eq_true, Bool.and_eq_true, decide_eq_true_iff, k4, Nat.sub_zero]
          exact ⟨fun ⟨a, b, c', d⟩ => ⟨c, ⟨⟨a, b⟩, c'⟩, d⟩, fun ⟨_, ⟨⟨a, b⟩, c⟩, d⟩ => ⟨a, b, c, d⟩⟩
        by_cases f : fgp w0 h N k = true
        · rw [if_pos (ff.mpr f)]
          have go := R_bn69 hN hs hh h128 HP d (n + 5) (k + 4) (by omega) (by omega) (Or.inl (by omega)) (by omega)
          rw [rbk_4 f k4, rbk, if_pos f, if_pos k4] at go
          have rs : R_reserve (n + 5) (bC m 0 (rbk w0 s h N t k a)) ((s + k : Nat) : Int) ((h / 32 : Nat) : Int) ((h % 32 + k : Nat) : Int) 4 t = some (0, bC m 0 (rsv (rbk w0 s h N t k a) (s + k) (h + k) 4 t)) := by
            have := R_reserve_ok (n := n + 5) (m := bC m 0 (rbk w0 s h N t k a)) (f := s + k) (h := h + k) (N := 4) (t := t) (Or.inr (Or.inl rfl)) (by omega) (by omega) (by omega) (by omega)
            rw [hb.1, hb.2, bC_C] at this
            exact this
          exact (bb_s rs).trans go
        · rw [if_neg (fun q => f (ff.mp q))]
          refine one ?_
          cases e : fgp w0 h N k
          · rfl
          · exact absurd e f
      · rw [if_neg (by omega)]
        exact one (hg.resolve_left k4)
    · rw [if_neg (by omega)]
      refine one ?_
      cases e : fgp w0 h N k
      · rfl
      · exact absurd (fgp_iff.mp e).1 c
end
