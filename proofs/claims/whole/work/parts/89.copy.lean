/-! Copies, on both sides (with and without a law; by wip/whole/tpl) -/
section
variable {n n' : Nat} {m m' m1 w w' w0 kk kq xx tt tx : bS} {z : Nat → Nat} {a b' : Nat → Int} {o p f s N k i h g j T b c M x y q : Nat} {t : Int} {v : Nat} {cd sp : Nat → Bool}
theorem use0_there (X : GX z w (m.2 0) T) (hT1 : T + 1 < 131072) (ho : o < 4) (hp : p < 32) (th : thr w o p = true) (hn : 100 ≤ n) : K0_use tt n (kk, w, xx) o p = some (((frm w (32 * o + p) : Nat) : Int), (kk, usw w (32 * o + p) T, xx)) ∧ ∀ n', R_touchNow n' m o p = some (((frm w (32 * o + p) : Nat) : Int), bC m 0 (usr (m.2 0) (32 * o + p) T)) := by
  refine ⟨?_, fun n' => ?_⟩
  · unfold K0_use
    dsimp only
    rw [bb_s (W_isThere_ok n w ho hp), i01, th, if_pos rfl]
    exact use290_ok X hT1 ho hp th hn
  · unfold R_touchNow
    rw [bb_s (R_isThere_ok n' X.1.1.2.1 ho hp), i01, th, if_pos rfl]
    exact touch15_ok X hT1 ho hp th
theorem use1_there (X : GX z w (m.2 0) T) (hT1 : T + 1 < 131072) (ho : o < 4) (hp : p < 32) (th : thr w o p = true) (hn : 100 ≤ n) : K1_use tt tx n (kk, w, xx) o p = some (((frm w (32 * o + p) : Nat) : Int), (kk, usw w (32 * o + p) T, xx)) ∧ ∀ n', R_touchNow n' m o p = some (((frm w (32 * o + p) : Nat) : Int), bC m 0 (usr (m.2 0) (32 * o + p) T)) := by
  refine ⟨?_, fun n' => ?_⟩
  · unfold K1_use
    dsimp only
    rw [bb_s (W_isThere_ok n w ho hp), i01, th, if_pos rfl]
    exact use291_ok X hT1 ho hp th hn
  · unfold R_touchNow
    rw [bb_s (R_isThere_ok n' X.1.1.2.1 ho hp), i01, th, if_pos rfl]
    exact touch15_ok X hT1 ho hp th
end
