/-! The asker's steps: what each piece of code does with the pile of numbers (by wip/whole/gen_eval.py). -/
def clp (v : Int) : Int := (if (if v < 1000000 then v else 1000000) < (-1000000) then (-1000000) else (if v < 1000000 then v else 1000000))
def CX (C : Nat → Int) (i j : Nat) (x : bS) (to : Nat) : Prop := (∀ k, i ≤ k → k < j → x.2 1 k = C k) ∧ j ≤ (x.1 7).toNat ∧ (x.1 7).toNat ≤ 600 ∧ j ≤ to
def arv (op : Nat) (l r : Int) : Int := if op = 8 then ay_W (l + r) else if op = 9 then ay_W (l - r) else if op = 10 then ay_W (l * r) else if r = 0 then 0 else ay_W (Int.tdiv l r)
def cmv (op : Nat) (l r : Int) : Bool := if op = 12 then decide (¬ 0 ≤ ay_cmp l r) else if op = 13 then decide (¬ 0 < ay_cmp l r) else if op = 14 then decide (¬ ay_cmp l r ≤ 0) else if op = 15 then decide (¬ ay_cmp l r < 0) else if op = 16 then decide (ay_cmp l r = 0) else decide (¬ ay_cmp l r = 0)
section
variable {t x w kk xx : bS} {n top i j to : Nat} {v l r a b : Int} {C : Nat → Int} {k6 : (bS × bS × bS) → Int → Int → Int → Option (Int × (bS × bS × bS))} {s : bS × bS × bS} {l3 l5 l6 l8 l9 l11 t0 t1 : Int}
theorem clp_id (h1 : -1000000 ≤ v) (h2 : v ≤ 1000000) : clp v = v := by
  unfold clp
  by_cases c : v < 1000000
  · rw [if_pos c, if_neg (by omega)]
  · rw [if_neg c, if_neg (by omega)]; omega
theorem clp_in : -1000000 ≤ clp v ∧ clp v ≤ 1000000 := by
  unfold clp
  by_cases c : v < 1000000
  · rw [if_pos c]
    by_cases d : v < -1000000
    · rw [if_pos d]; omega
    · rw [if_neg d]; omega
  · rw [if_neg c, if_neg (by omega)]; omega
theorem ay_cz : (ay_cmp r 0 = 0) ↔ r = 0 := by
  unfold ay_cmp
  by_cases c : r < 0
  · rw [if_pos c]; omega
  · rw [if_neg c]
    by_cases d : r = 0
    · rw [if_pos d]; omega
    · rw [if_neg d]; omega
theorem CX.sub {i' j' : Nat} (X : CX C i j x to) (h1 : i ≤ i') (h2 : j' ≤ j) : CX C i' j' x to := ⟨fun k k1 k2 => X.1 k (by omega) (by omega), by have := X.2.1; omega, X.2.2.1, by have := X.2.2.2; omega⟩
/-- into a piece -/
theorem A_ent (hl : (x.1 7).toNat ≤ 600) (h1 : i + 2 ≤ (x.1 7).toNat) (h2 : i + 2 ≤ to) (ht : top < 64) : A1_answer_6 t x (n + 1) (kk, w, xx) (to : Int) (top : Int) (i : Int) = A1_answer_92 t x (fun s l3 l5 l6 => A1_answer_6 t x n s l3 l5 l6) n (kk, w, xx) (to : Int) (top : Int) ((i + 2 : Nat) : Int) (x.2 1 i) (x.2 1 (i + 1)) (if top = 0 then 0 else xx.2 1 (top - 1)) (if top ≤ 1 then 0 else xx.2 1 (top - 2)) := by
  conv => lhs; unfold A1_answer_6
  have e2 : ay_w ((i : Int) + 2) = ((i + 2 : Nat) : Int) := wadd (y := 2) (by omega)
  rw [wad1 (x := i) (by omega), e2, ay_wn (by omega), if_neg (by omega), if_neg (by omega), if_neg (by omega), if_neg (by omega), if_pos ⟨by omega, by omega⟩, if_pos ⟨by omega, by omega⟩, Int.toNat_natCast, Int.toNat_natCast]
  have e71 : ∀ t0, A1_answer_71 t x (fun s l3 l5 l6 => A1_answer_6 t x n s l3 l5 l6) n (kk, w, xx) (to : Int) (top : Int) ((i + 2 : Nat) : Int) (x.2 1 i) (x.2 1 (i + 1)) t0 = A1_answer_92 t x (fun s l3 l5 l6 => A1_answer_6 t x n s l3 l5 l6) n (kk, w, xx) (to : Int) (top : Int) ((i + 2 : Nat) : Int) (x.2 1 i) (x.2 1 (i + 1)) t0 (if top ≤ 1 then 0 else xx.2 1 (top - 2)) := fun t0 => by
    unfold A1_answer_71
    by_cases c : top ≤ 1
    · rw [if_pos (by omega), if_pos c]
    · have e3 : ay_w ((top : Int) - 2) = ((top - 2 : Nat) : Int) := by rw [ay_wi (by omega) (by omega)]; omega
      rw [if_neg (by omega), if_neg c, e3, if_pos ⟨by omega, by omega⟩, Int.toNat_natCast]
  by_cases c : top = 0
  · rw [if_pos (by omega), if_pos c, e71]
  · have e3 : ay_w ((top : Int) - 1) = ((top - 1 : Nat) : Int) := by rw [ay_wi (by omega) (by omega)]; omega
    rw [if_neg (by omega), if_neg c, e3, if_pos ⟨by omega, by omega⟩, Int.toNat_natCast, e71]
theorem A_579 (h : top < 64) : A1_answer_579 t x k6 n (kk, w, xx) l3 ((top + 1 : Nat) : Int) l6 v = k6 (kk, w, bA xx 1 (top : Int) (clp v)) l3 ((top + 1 : Nat) : Int) l6 := by
  unfold A1_answer_579
  have e3 : ay_w (((top + 1 : Nat) : Int) - 1) = (top : Int) := by rw [ay_wi (by omega) (by omega)]; omega
  rw [if_neg (by omega), e3, if_pos ⟨by omega, by omega⟩]
  rfl
theorem A_152 {op : Int} {E : Option (Int × (bS × bS × bS))} (h2 : ¬ op = 2) (h3 : ¬ op = 3) (h : ∀ f, A1_answer_191 t x k6 n s l3 (ay_w (t0 + t1)) l6 op l8 l9 l11 f = E) : A1_answer_152 t x k6 n s l3 l6 op l8 l9 l11 t0 t1 = E := by
  unfold A1_answer_152
  rw [if_neg h2, if_neg h3, h 0, h 1]
  by_cases c : ay_cmp l9 0 < 0
  · rw [if_pos c]
  · rw [if_neg c]
    by_cases d : 0 ≤ ay_cmp l9 4
    · rw [if_pos d]
    · rw [if_neg d]
theorem A191_0 {f : Int} : A1_answer_191 t x k6 n s l3 l5 l6 0 l8 l9 l11 f = A1_answer_579 t x k6 n s l3 l5 l6 l8 := rfl
theorem A191_1 {f : Int} : A1_answer_191 t x k6 n s l3 l5 l6 1 l8 l9 l11 f = (if l8 < 0 then A1_answer_579 t x k6 n s l3 l5 l6 0 else (if 8 ≤ l8 then A1_answer_579 t x k6 n s l3 l5 l6 0 else (if 0 ≤ l8 ∧ l8 < 8 then A1_answer_579 t x k6 n s l3 l5 l6 (s.2.2.2 0 l8.toNat) else none))) := rfl
theorem A92_0 : A1_answer_92 t x k6 n s l3 l5 l6 0 l8 l9 t0 = A1_answer_152 t x k6 n s l3 l6 0 l8 l9 t0 l5 1 := rfl
theorem A92_1 : A1_answer_92 t x k6 n s l3 l5 l6 1 l8 l9 t0 = A1_answer_152 t x k6 n s l3 l6 1 l8 l9 t0 l5 1 := rfl
theorem A92_2 : A1_answer_92 t x k6 n s l3 l5 l6 2 l8 l9 t0 = k6 s l3 (ay_w (l5 + 0)) (if l6 < l8 then l8 else l6) := rfl
theorem A92_3 : A1_answer_92 t x k6 n s l3 l5 l6 3 l8 l9 t0 = if ay_cmp l9 0 = 0 then k6 s l3 (ay_w (l5 + (-1))) (if l6 < l8 then l8 else l6) else k6 s l3 (ay_w (l5 + (-1))) l6 := rfl
/-- numbers, names -/
theorem A_num (X : CX C i (i + 2) x to) (hc : C i = 0) (ht : top < 64) : A1_answer_6 t x (n + 1) (kk, w, xx) (to : Int) (top : Int) (i : Int) = A1_answer_6 t x n (kk, w, bA xx 1 (top : Int) (clp (C (i + 1)))) (to : Int) ((top + 1 : Nat) : Int) ((i + 2 : Nat) : Int) := by
  rw [A_ent X.2.2.1 X.2.1 X.2.2.2 ht, X.1 i (by omega) (by omega), X.1 (i + 1) (by omega) (by omega), hc, A92_0]
  refine A_152 (by decide) (by decide) (fun f => ?_)
  rw [wad1 (by omega), A191_0]
  exact A_579 ht
theorem A_name {k : Nat} (X : CX C i (i + 2) x to) (hc : C i = 1) (hk : C (i + 1) = (k : Int)) (h8 : k < 8) (ht : top < 64) : A1_answer_6 t x (n + 1) (kk, w, xx) (to : Int) (top : Int) (i : Int) = A1_answer_6 t x n (kk, w, bA xx 1 (top : Int) (clp (xx.2 0 k))) (to : Int) ((top + 1 : Nat) : Int) ((i + 2 : Nat) : Int) := by
  rw [A_ent X.2.2.1 X.2.1 X.2.2.2 ht, X.1 i (by omega) (by omega), X.1 (i + 1) (by omega) (by omega), hc, hk, A92_1]
  refine A_152 (by decide) (by decide) (fun f => ?_)
  rw [wad1 (by omega), A191_1, if_neg (by omega), if_neg (by omega), if_pos ⟨by omega, by omega⟩, Int.toNat_natCast]
  exact A_579 ht
/-- jumps -/
theorem jmx {d : Nat} (hi : i + 2 ≤ d) : (if ((i + 2 : Nat) : Int) < (d : Int) then (d : Int) else ((i + 2 : Nat) : Int)) = (d : Int) := by
  by_cases c : ((i + 2 : Nat) : Int) < (d : Int)
  · rw [if_pos c]
  · rw [if_neg c]; omega
theorem A_jump {d : Nat} (X : CX C i (i + 2) x to) (hc : C i = 2) (hd : C (i + 1) = (d : Int)) (hi : i + 2 ≤ d) (ht : top < 64) : A1_answer_6 t x (n + 1) (kk, w, xx) (to : Int) (top : Int) (i : Int) = A1_answer_6 t x n (kk, w, xx) (to : Int) (top : Int) (d : Int) := by
  rw [A_ent X.2.2.1 X.2.1 X.2.2.2 ht, X.1 i (by omega) (by omega), X.1 (i + 1) (by omega) (by omega), hc, hd, A92_2, jmx hi, Int.add_zero, ay_wn (by omega)]
theorem A_unl {d : Nat} (X : CX C i (i + 2) x to) (hc : C i = 3) (hd : C (i + 1) = (d : Int)) (hi : i + 2 ≤ d) (ht : top + 1 < 64) : A1_answer_6 t x (n + 1) (kk, w, xx) (to : Int) ((top + 1 : Nat) : Int) (i : Int) = A1_answer_6 t x n (kk, w, xx) (to : Int) (top : Int) (if xx.2 1 top = 0 then (d : Int) else ((i + 2 : Nat) : Int)) := by
  have e3 : ay_w (((top + 1 : Nat) : Int) + (-1)) = (top : Int) := by rw [ay_wi (by omega) (by omega)]; omega
  rw [A_ent X.2.2.1 X.2.1 X.2.2.2 ht, X.1 i (by omega) (by omega), X.1 (i + 1) (by omega) (by omega), hc, hd, if_neg (show ¬ top + 1 = 0 by omega), Nat.add_sub_cancel, A92_3, jmx hi, e3]
  by_cases c : xx.2 1 top = 0
  · rw [if_pos (ay_cz.2 c), if_pos c]
  · rw [if_neg (fun h => c (ay_cz.1 h)), if_neg c]
/-- of one -/
theorem A_of {op : Int} (X : CX C i (i + 2) x to) (ho : C i = op) (h1 : 3 < op) (h2 : op < 8) (ht : top + 1 < 64) (h : ∀ f k6 l5, A1_answer_191 t x k6 n (kk, w, xx) (to : Int) l5 ((i + 2 : Nat) : Int) op (C (i + 1)) (xx.2 1 top) (if top + 1 ≤ 1 then 0 else xx.2 1 (top + 1 - 2)) f = A1_answer_579 t x k6 n (kk, w, xx) (to : Int) l5 ((i + 2 : Nat) : Int) v) : A1_answer_6 t x (n + 1) (kk, w, xx) (to : Int) ((top + 1 : Nat) : Int) (i : Int) = A1_answer_6 t x n (kk, w, bA xx 1 (top : Int) (clp v)) (to : Int) ((top + 1 : Nat) : Int) ((i + 2 : Nat) : Int) := by
  rw [A_ent X.2.2.1 X.2.1 X.2.2.2 ht, X.1 i (by omega) (by omega), X.1 (i + 1) (by omega) (by omega), ho, if_neg (show ¬ top + 1 = 0 by omega), Nat.add_sub_cancel]
  unfold A1_answer_92 A1_answer_122
  rw [if_neg (by omega), if_neg (by omega), if_pos (by omega), if_neg (by omega), if_pos h2]
  refine A_152 (by omega) (by omega) (fun f => ?_)
  rw [h, Int.add_zero, ay_wn (by omega)]
  exact A_579 (by omega)
/-- of two -/
theorem A_of2 {op : Int} (X : CX C i (i + 2) x to) (ho : C i = op) (h1 : 8 ≤ op) (ht : top + 2 < 64) (h : ∀ f k6 l5, A1_answer_191 t x k6 n (kk, w, xx) (to : Int) l5 ((i + 2 : Nat) : Int) op (C (i + 1)) (xx.2 1 (top + 1)) (xx.2 1 top) f = A1_answer_579 t x k6 n (kk, w, xx) (to : Int) l5 ((i + 2 : Nat) : Int) v) : A1_answer_6 t x (n + 1) (kk, w, xx) (to : Int) ((top + 2 : Nat) : Int) (i : Int) = A1_answer_6 t x n (kk, w, bA xx 1 (top : Int) (clp v)) (to : Int) ((top + 1 : Nat) : Int) ((i + 2 : Nat) : Int) := by
  rw [A_ent X.2.2.1 X.2.1 X.2.2.2 ht, X.1 i (by omega) (by omega), X.1 (i + 1) (by omega) (by omega), ho, if_neg (show ¬ top + 2 = 0 by omega), if_neg (show ¬ top + 2 ≤ 1 by omega), Nat.add_sub_cancel, show top + 2 - 1 = top + 1 by omega]
  unfold A1_answer_92 A1_answer_122
  have e3 : ay_w (((top + 2 : Nat) : Int) + (-1)) = ((top + 1 : Nat) : Int) := by rw [ay_wi (by omega) (by omega)]; omega
  rw [if_neg (by omega), if_neg (by omega), if_pos (by omega), if_neg (by omega), if_neg (by omega)]
  refine A_152 (by omega) (by omega) (fun f => ?_)
  rw [h, e3]
  exact A_579 (by omega)
theorem A191_8 {f : Int} : A1_answer_191 t x k6 n s l3 l5 l6 8 l8 l9 l11 f = A1_answer_579 t x k6 n s l3 l5 l6 (arv 8 l11 l9) := rfl
theorem A191_9 {f : Int} : A1_answer_191 t x k6 n s l3 l5 l6 9 l8 l9 l11 f = A1_answer_579 t x k6 n s l3 l5 l6 (arv 9 l11 l9) := rfl
theorem A191_10 {f : Int} : A1_answer_191 t x k6 n s l3 l5 l6 10 l8 l9 l11 f = A1_answer_579 t x k6 n s l3 l5 l6 (arv 10 l11 l9) := rfl
theorem A191_11 {f : Int} : A1_answer_191 t x k6 n s l3 l5 l6 11 l8 l9 l11 f = A1_answer_579 t x k6 n s l3 l5 l6 (arv 11 l11 l9) := by
  show (if ay_cmp l9 0 = 0 then A1_answer_579 t x k6 n s l3 l5 l6 0 else (if l9 = 0 then none else A1_answer_579 t x k6 n s l3 l5 l6 (ay_W (Int.tdiv l11 l9)))) = A1_answer_579 t x k6 n s l3 l5 l6 (if l9 = 0 then 0 else ay_W (Int.tdiv l11 l9))
  by_cases c : l9 = 0
  · rw [if_pos (ay_cz.2 c), if_pos c]
  · rw [if_neg (fun h => c (ay_cz.1 h)), if_neg c, if_neg c]
theorem A191_ar {op : Nat} {f : Int} (h : op = 8 ∨ op = 9 ∨ op = 10 ∨ op = 11) : A1_answer_191 t x k6 n s l3 l5 l6 (op : Int) l8 l9 l11 f = A1_answer_579 t x k6 n s l3 l5 l6 (arv op l11 l9) := by
  rcases h with h | h | h | h <;> subst h
  · exact A191_8
  · exact A191_9
  · exact A191_10
  · exact A191_11
theorem A191_12 {f : Int} : A1_answer_191 t x k6 n s l3 l5 l6 12 l8 l9 l11 f = A1_answer_579 t x k6 n s l3 l5 l6 (bi (cmv 12 l11 l9)) := by
  show (if 0 ≤ ay_cmp l11 l9 then A1_answer_579 t x k6 n s l3 l5 l6 0 else A1_answer_579 t x k6 n s l3 l5 l6 1) = A1_answer_579 t x k6 n s l3 l5 l6 (bi (decide (¬ 0 ≤ ay_cmp l11 l9)))
  by_cases c : 0 ≤ ay_cmp l11 l9
  · rw [if_pos c, decide_eq_false (not_not_intro c)]; rfl
  · rw [if_neg c, decide_eq_true c]; rfl
theorem A191_13 {f : Int} : A1_answer_191 t x k6 n s l3 l5 l6 13 l8 l9 l11 f = A1_answer_579 t x k6 n s l3 l5 l6 (bi (cmv 13 l11 l9)) := by
  show (if 0 < ay_cmp l11 l9 then A1_answer_579 t x k6 n s l3 l5 l6 0 else A1_answer_579 t x k6 n s l3 l5 l6 1) = A1_answer_579 t x k6 n s l3 l5 l6 (bi (decide (¬ 0 < ay_cmp l11 l9)))
  by_cases c : 0 < ay_cmp l11 l9
  · rw [if_pos c, decide_eq_false (not_not_intro c)]; rfl
  · rw [if_neg c, decide_eq_true c]; rfl
theorem A191_14 {f : Int} : A1_answer_191 t x k6 n s l3 l5 l6 14 l8 l9 l11 f = A1_answer_579 t x k6 n s l3 l5 l6 (bi (cmv 14 l11 l9)) := by
  show (if ay_cmp l11 l9 ≤ 0 then A1_answer_579 t x k6 n s l3 l5 l6 0 else A1_answer_579 t x k6 n s l3 l5 l6 1) = A1_answer_579 t x k6 n s l3 l5 l6 (bi (decide (¬ ay_cmp l11 l9 ≤ 0)))
  by_cases c : ay_cmp l11 l9 ≤ 0
  · rw [if_pos c, decide_eq_false (not_not_intro c)]; rfl
  · rw [if_neg c, decide_eq_true c]; rfl
theorem A191_15 {f : Int} : A1_answer_191 t x k6 n s l3 l5 l6 15 l8 l9 l11 f = A1_answer_579 t x k6 n s l3 l5 l6 (bi (cmv 15 l11 l9)) := by
  show (if ay_cmp l11 l9 < 0 then A1_answer_579 t x k6 n s l3 l5 l6 0 else A1_answer_579 t x k6 n s l3 l5 l6 1) = A1_answer_579 t x k6 n s l3 l5 l6 (bi (decide (¬ ay_cmp l11 l9 < 0)))
  by_cases c : ay_cmp l11 l9 < 0
  · rw [if_pos c, decide_eq_false (not_not_intro c)]; rfl
  · rw [if_neg c, decide_eq_true c]; rfl
theorem A191_16 {f : Int} : A1_answer_191 t x k6 n s l3 l5 l6 16 l8 l9 l11 f = A1_answer_579 t x k6 n s l3 l5 l6 (bi (cmv 16 l11 l9)) := by
  show (if ay_cmp l11 l9 = 0 then A1_answer_579 t x k6 n s l3 l5 l6 1 else A1_answer_579 t x k6 n s l3 l5 l6 0) = A1_answer_579 t x k6 n s l3 l5 l6 (bi (decide (ay_cmp l11 l9 = 0)))
  by_cases c : ay_cmp l11 l9 = 0
  · rw [if_pos c, decide_eq_true c]; rfl
  · rw [if_neg c, decide_eq_false c]; rfl
theorem A191_17 {f : Int} : A1_answer_191 t x k6 n s l3 l5 l6 17 l8 l9 l11 f = A1_answer_579 t x k6 n s l3 l5 l6 (bi (cmv 17 l11 l9)) := by
  show (if ay_cmp l11 l9 = 0 then A1_answer_579 t x k6 n s l3 l5 l6 0 else A1_answer_579 t x k6 n s l3 l5 l6 1) = A1_answer_579 t x k6 n s l3 l5 l6 (bi (decide (¬ ay_cmp l11 l9 = 0)))
  by_cases c : ay_cmp l11 l9 = 0
  · rw [if_pos c, decide_eq_false (not_not_intro c)]; rfl
  · rw [if_neg c, decide_eq_true c]; rfl
theorem A191_cm {op : Nat} {f : Int} (h1 : 12 ≤ op) (h2 : op ≤ 17) : A1_answer_191 t x k6 n s l3 l5 l6 (op : Int) l8 l9 l11 f = A1_answer_579 t x k6 n s l3 l5 l6 (bi (cmv op l11 l9)) := by
  have h : op = 12 ∨ op = 13 ∨ op = 14 ∨ op = 15 ∨ op = 16 ∨ op = 17 := by omega
  rcases h with h | h | h | h | h | h <;> subst h
  · exact A191_12
  · exact A191_13
  · exact A191_14
  · exact A191_15
  · exact A191_16
  · exact A191_17
theorem land_bi (A B : Bool) : ay_land (bi A) (bi B) = bi (A && B) := by cases A <;> cases B <;> decide
theorem lor_bi (A B : Bool) : ay_lor (bi A) (bi B) = bi (A || B) := by cases A <;> cases B <;> decide
theorem not_bi (A : Bool) : ay_W (1 - bi A) = bi (!A) := by cases A <;> decide
theorem clp_bi (A : Bool) : clp (bi A) = bi A := by cases A <;> decide
/-- what an object has, what of it is soiled -/
def hsv (w : bS) (row : Nat) (v : Int) : Int := if 0 ≤ v ∧ v < 4 then ((cn (bt (w.2 row v.toNat)) 32 : Nat) : Int) else 0
theorem hsv_in {row : Nat} : 0 ≤ hsv w row v ∧ hsv w row v ≤ 32 := by
  unfold hsv
  by_cases c : 0 ≤ v ∧ v < 4
  · rw [if_pos c]
    have := cn_le (bt (w.2 row v.toNat)) 32
    omega
  · rw [if_neg c]; omega
theorem A_152h {op : Int} {row : Nat} (ho : (op = 4 ∧ row = 6) ∨ (op = 5 ∧ row = 7)) (h : -1000000 ≤ l9 ∧ l9 ≤ 1000000) : A1_answer_152 t x k6 n (kk, w, xx) l3 l6 op l8 l9 l11 t0 t1 = A1_answer_579 t x k6 n (kk, w, xx) l3 (ay_w (t0 + t1)) l6 (hsv w row l9) := by
  have z : ∀ l5, A1_answer_191 t x k6 n (kk, w, xx) l3 l5 l6 op l8 l9 l11 0 = A1_answer_579 t x k6 n (kk, w, xx) l3 l5 l6 0 := fun l5 => by
    rcases ho with ⟨e, _⟩ | ⟨e, _⟩ <;> subst e <;> rfl
  have y : ∀ l5, (0 ≤ l9 ∧ l9 < 4) → A1_answer_191 t x k6 n (kk, w, xx) l3 l5 l6 op l8 l9 l11 1 = A1_answer_579 t x k6 n (kk, w, xx) l3 l5 l6 ((cn (bt (w.2 row l9.toNat)) 32 : Nat) : Int) := fun l5 hc => by
    rcases ho with ⟨e, e'⟩ | ⟨e, e'⟩ <;> subst e <;> subst e'
    · show (if 0 ≤ ay_w l9 ∧ ay_w l9 < 4 then (b1 (I_bitCount n (w.2 6 (ay_w l9).toNat)) fun v1 => A1_answer_579 t x k6 n (kk, w, xx) l3 l5 l6 v1) else none) = _
      rw [ay_wi (by omega) (by omega), if_pos hc, b1_s (bitCount_ok n _)]
    · show (if 0 ≤ ay_w l9 ∧ ay_w l9 < 4 then (b1 (I_bitCount n (w.2 7 (ay_w l9).toNat)) fun v1 => A1_answer_579 t x k6 n (kk, w, xx) l3 l5 l6 v1) else none) = _
      rw [ay_wi (by omega) (by omega), if_pos hc, b1_s (bitCount_ok n _)]
  unfold A1_answer_152 hsv
  rw [if_neg (by omega), if_neg (by omega)]
  by_cases c : l9 < 0
  · have e : ay_cmp l9 0 = -1 := if_pos c
    rw [e, if_pos (by decide), if_neg (by omega), z]
  · have e : ¬ ay_cmp l9 0 < 0 := by
      unfold ay_cmp
      rw [if_neg c]
      by_cases d : l9 = 0
      · rw [if_pos d]; decide
      · rw [if_neg d]; decide
    rw [if_neg e]
    by_cases d : l9 < 4
    · have e : ay_cmp l9 4 = -1 := if_pos d
      rw [e, if_neg (by decide), if_pos ⟨by omega, d⟩, y _ ⟨by omega, d⟩]
    · have e : 0 ≤ ay_cmp l9 4 := by
        unfold ay_cmp
        rw [if_neg d]
        by_cases d : l9 = 4
        · rw [if_pos d]; decide
        · rw [if_neg d]; decide
      rw [if_pos e, if_neg (by omega), z]
theorem A_has {op : Int} {row : Nat} (X : CX C i (i + 2) x to) (hc : C i = op) (ho : (op = 4 ∧ row = 6) ∨ (op = 5 ∧ row = 7)) (h : -1000000 ≤ xx.2 1 top ∧ xx.2 1 top ≤ 1000000) (ht : top + 1 < 64) : A1_answer_6 t x (n + 1) (kk, w, xx) (to : Int) ((top + 1 : Nat) : Int) (i : Int) = A1_answer_6 t x n (kk, w, bA xx 1 (top : Int) (hsv w row (xx.2 1 top))) (to : Int) ((top + 1 : Nat) : Int) ((i + 2 : Nat) : Int) := by
  rw [A_ent X.2.2.1 X.2.1 X.2.2.2 ht, X.1 i (by omega) (by omega), X.1 (i + 1) (by omega) (by omega), hc, if_neg (show ¬ top + 1 = 0 by omega), Nat.add_sub_cancel]
  unfold A1_answer_92 A1_answer_122
  rw [if_neg (by omega), if_neg (by omega), if_pos (by omega), if_neg (by omega), if_pos (by omega), A_152h ho h, Int.add_zero, ay_wn (by omega), A_579 (by omega)]
  have := hsv_in (w := w) (v := xx.2 1 top) (row := row)
  rw [clp_id (by omega) (by omega)]
end
