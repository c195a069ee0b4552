/-! Breaking up: the two loops. -/
section
variable {n n' : Nat} {m w w' w0 kk xx tt : bS} {a b' : Nat → Int} {o p f s N k i h g j T b c : Nat} {t v x : Int}
theorem bt_15 : ∀ p, p < 32 → bt 15 p = decide (p < 4) := by decide +kernel
theorem grp15 {q : Nat} (hq : q + 4 ≤ 32) : ay_and (ay_ushr x (q : Int)) 15 = 15 ↔ bt x q = true ∧ bt x (q + 1) = true ∧ bt x (q + 2) = true ∧ bt x (q + 3) = true := by
  rw [and_s _ _ (by omega)]
  constructor
  · intro h
    have g : ∀ c, c < 4 → bt x (q + c) = true := fun c hc => by
      have := h c (by omega) (by rw [bt_15 c (by omega)]; exact decide_eq_true hc)
      rw [bt_ushr x (by omega)] at this; exact this
    exact ⟨g 0 (by omega), g 1 (by omega), g 2 (by omega), g 3 (by omega)⟩
  · rintro ⟨h0, h1, h2, h3⟩ c hc e
    rw [bt_15 c hc, decide_eq_true_iff] at e
    rw [bt_ushr x (by omega)]
    rcases (show c = 0 ∨ c = 1 ∨ c = 2 ∨ c = 3 by omega) with z | z | z | z <;> subst z
    · exact h0
    · exact h1
    · exact h2
    · exact h3
/-- the class's loop -/
theorem K_bu63_s (hN : isN N) (hs : s + N ≤ 64) (hh : h % 32 + N ≤ 32) (h128 : h < 128) (hk : k < N) (w : bS) : K_breakUp_63 tt (n + 1) (kk, brk w0 s h N t k w, xx) s h N t (ay_ushr (w0.2 6 (h / 32)) ((h % 32 : Nat) : Int)) k = K_breakUp_63 tt n (kk, brk w0 s h N t (k + 1) w, xx) s h N t (ay_ushr (w0.2 6 (h / 32)) ((h % 32 : Nat) : Int)) ((k + 1 : Nat) : Int) := by
  have hN16 : N ≤ 16 := by rcases hN with e | e | e <;> omega
  have us : ∀ q, bt (ay_ushr (w0.2 6 (h / 32)) ((h % 32 : Nat) : Int)) q = thr w0 (h / 32) (h % 32 + q) := fun q => bt_ushr _ (by omega) q
  have k1 : ay_w ((k : Int) + 1) = ((k + 1 : Nat) : Int) := by rw [ay_wi (by omega) (by omega)]; omega
  have sk : ay_w ((s : Int) + (k : Int)) = ((s + k : Nat) : Int) := by rw [ay_wi (by omega) (by omega)]; omega
  have hk' : ay_w ((h : Int) + (k : Int)) = ((h + k : Nat) : Int) := by rw [ay_wi (by omega) (by omega)]; omega
  have r4 : ay_rem (k : Int) 4 = ((k % 4 : Nat) : Int) := by rw [ay_rn' (by omega) (by omega) (by omega) (by omega)]; omega
  have bt1 : (ay_and (ay_ushr (ay_ushr (w0.2 6 (h / 32)) ((h % 32 : Nat) : Int)) (k : Int)) 1 = 1) ↔ thr w0 (h / 32) (h % 32 + k) = true := by
    rw [bit_is _ (by omega), us]
  have z0 : fgp w0 h N k = false → K_breakUp_97 tt (fun s l1 l2 l3 l4 l5 l6 => K_breakUp_63 tt n s l1 l2 l3 l4 l5 l6) n (kk, brk w0 s h N t k w, xx) s h N t (ay_ushr (w0.2 6 (h / 32)) ((h % 32 : Nat) : Int)) k 0 = K_breakUp_63 tt n (kk, brk w0 s h N t (k + 1) w, xx) s h N t (ay_ushr (w0.2 6 (h / 32)) ((h % 32 : Nat) : Int)) ((k + 1 : Nat) : Int) := fun f => by
    unfold K_breakUp_97
    rw [if_pos rfl]
    unfold K_breakUp_132
    rw [if_pos rfl, brk, f, if_neg (show ¬ (false = true) by decide), k1, sk, hk']
    by_cases th : thr w0 (h / 32) (h % 32 + k) = true
    · rw [if_pos (bt1.mpr th), if_pos th]
      exact bb_s (W_hold_ok (N := 1) n _ (by omega))
    · rw [if_neg (fun q => th (bt1.mp q)), if_neg th]
  have z1 : fgp w0 h N k = true → K_breakUp_97 tt (fun s l1 l2 l3 l4 l5 l6 => K_breakUp_63 tt n s l1 l2 l3 l4 l5 l6) n (kk, brk w0 s h N t k w, xx) s h N t (ay_ushr (w0.2 6 (h / 32)) ((h % 32 : Nat) : Int)) k 1 = K_breakUp_63 tt n (kk, brk w0 s h N t (k + 1) w, xx) s h N t (ay_ushr (w0.2 6 (h / 32)) ((h % 32 : Nat) : Int)) ((k + 1 : Nat) : Int) := fun f => by
    unfold K_breakUp_97
    rw [if_neg (show ¬ (1 : Int) = 0 by decide), r4, brk, if_pos f, k1, sk, hk']
    by_cases k4 : k % 4 = 0
    · rw [if_pos (by omega), if_pos k4]
      exact bb_s (W_hold_ok (N := 4) n _ (by omega))
    · rw [if_neg (by omega), if_neg k4]
      unfold K_breakUp_132
      rw [if_neg (show ¬ (1 : Int) = 0 by decide), k1]
  rw [K_breakUp_63, if_neg (by omega)]
  by_cases c : N ≤ 4
  · rw [if_pos (by omega)]
    refine z0 ?_
    cases e : fgp w0 h N k
    · rfl
    · have := (fgp_iff.mp e).1; omega
  · have h16 : N = 16 := by rcases hN with e | e | e <;> omega
    rw [if_neg (by omega), r4, ay_wi (x := (k : Int) - ((k % 4 : Nat) : Int)) (by omega) (by omega), show (k : Int) - ((k % 4 : Nat) : Int) = ((k - k % 4 : Nat) : Int) by omega]
    have ff : ay_and (ay_ushr (ay_ushr (w0.2 6 (h / 32)) ((h % 32 : Nat) : Int)) ((k - k % 4 : Nat) : Int)) 15 = 15 ↔ fgp w0 h N k = true := by
      rw [grp15 (by omega), us, us, us, us]
      unfold fgp
      rw [Bool.and_eq_true, Bool.and_eq_true, Bool.and_eq_true, Bool.and_eq_true, decide_eq_true_iff]
      exact ⟨fun ⟨a, b, c, d⟩ => ⟨h16, ⟨⟨a, b⟩, c⟩, d⟩, fun ⟨_, ⟨⟨a, b⟩, c⟩, d⟩ => ⟨a, b, c, d⟩⟩
    by_cases f : fgp w0 h N k = true
    · rw [if_pos (ff.mpr f)]; exact z1 f
    · rw [if_neg (fun q => f (ff.mp q))]
      refine z0 ?_
      cases e : fgp w0 h N k
      · rfl
      · exact absurd e f
end
