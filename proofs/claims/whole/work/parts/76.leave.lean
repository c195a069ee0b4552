/-! Pages leave, on both sides. -/
/-- the reference's row: a page leaves -/
def lv1 (a : Nat → Int) (i : Nat) : Nat → Int := ay_u (ay_u (ay_u (ay_u a (18 + 7 * i + 1) 0) (18 + 7 * i + 5) 0) (18 + 7 * i + 4) 0) (18 + 7 * i + 2) (a (18 + 7 * i + 3))
/-- the class's world: pages of an object leave -/
def lvc (w : bS) (o : Nat) (x : Int) : bS := bA (bA (bA (bA w 6 (o : Int) (ay_and (w.2 6 o) (ay_xor x (-1)))) 7 (o : Int) (ay_and (w.2 7 o) (ay_xor x (-1)))) 8 (o : Int) (ay_and (w.2 8 o) (ay_xor x (-1)))) 9 (o : Int) (ay_and (w.2 9 o) (ay_xor x (-1)))
def lvv (w : bS) (o : Nat) (x : Int) : Nat → bS
  | 0 => lvc w o x
  | k + 1 => if bt x k = true then bA (lvv w o x k) 0 ((32 * o + k : Nat) : Int) ((lvv w o x k).2 1 (32 * o + k)) else lvv w o x k
def lvw (w : bS) (o : Nat) (x : Int) : bS := lvv w o x 32
section
variable {n n' : Nat} {m m' m1 w w' w1 w2 w0 kk k1 xx tt tx : bS} {z : Nat → Nat} {a b' : Nat → Int} {o p f s N k i h g j T b c M q : Nat} {t v x : Int}
theorem lv1_p (hg : g < 128) (hj : j < 7) : lv1 a i (18 + 7 * g + j) = if g = i ∧ (j = 1 ∨ j = 2 ∨ j = 4 ∨ j = 5) then (if j = 2 then a (18 + 7 * i + 3) else 0) else a (18 + 7 * g + j) := by
  unfold lv1
  by_cases c : g = i ∧ (j = 1 ∨ j = 2 ∨ j = 4 ∨ j = 5)
  · rw [if_pos c]
    obtain ⟨e, c⟩ := c
    subst e
    rcases c with e | e | e | e <;> subst e
    · rw [ay_ux (by omega), ay_ux (by omega), ay_ux (by omega), ay_ue]; rfl
    · rw [ay_ue]; rfl
    · rw [ay_ux (by omega), ay_ue]; rfl
    · rw [ay_ux (by omega), ay_ux (by omega), ay_ue]; rfl
  · rw [if_neg c, ay_ux (by omega), ay_ux (by omega), ay_ux (by omega), ay_ux (by omega)]
theorem lv1_o (hg : g < 18 ∨ 914 ≤ g) (hi : i < 128) : lv1 a i g = a g := by
  unfold lv1
  rw [ay_ux (by omega), ay_ux (by omega), ay_ux (by omega), ay_ux (by omega)]
theorem R_leave_ok (n : Nat) (m : bS) (ho : o < 4) (hp : p < 32) : R_leave n m o p = some (0, bC m 0 (lv1 (m.2 0) (32 * o + p))) := by
  unfold R_leave
  rw [bb_s (R_putPage_ok n m ho hp (by omega) (by omega) _)]
  rw [bb_s (R_putPage_ok n _ ho hp (by omega) (by omega) _), bC_C]
  rw [bb_s (R_putPage_ok n _ ho hp (by omega) (by omega) _), bC_C]
  rw [bb_s (R_pageAt_ok n _ ho hp (by omega) (by omega))]
  rw [bb_s (R_putPage_ok n _ ho hp (by omega) (by omega) _), bC_C]
  have ev : (ay_u (ay_u (ay_u (m.2 0) (18 + 7 * (32 * o + p) + 1) 0) (18 + 7 * (32 * o + p) + 5) 0) (18 + 7 * (32 * o + p) + 4) 0) (18 + 7 * (32 * o + p) + 3) = m.2 0 (18 + 7 * (32 * o + p) + 3) := by
    rw [ay_ux (by omega), ay_ux (by omega), ay_ux (by omega)]
  show some ((0 : Int), bC m 0 (ay_u (ay_u (ay_u (ay_u (m.2 0) (18 + 7 * (32 * o + p) + 1) 0) (18 + 7 * (32 * o + p) + 5) 0) (18 + 7 * (32 * o + p) + 4) 0) (18 + 7 * (32 * o + p) + 2) ((ay_u (ay_u (ay_u (m.2 0) (18 + 7 * (32 * o + p) + 1) 0) (18 + 7 * (32 * o + p) + 5) 0) (18 + 7 * (32 * o + p) + 4) 0) (18 + 7 * (32 * o + p) + 3)))) = _
  rw [ev]; rfl
theorem bA_2 {i : Int} (hj : j ≠ k) : (bA w k i v).2 j = w.2 j := by
  show (bif Nat.beq j k then _ else w.2 j) = w.2 j
  rw [nbeq hj]; rfl
theorem bA_e (hi : i < 1000000) : (bA w k (i : Int) v).2 k g = if g = i then v else w.2 k g := by
  show (bif Nat.beq k k then ay_u (w.2 k) ((i : Int)).toNat v else w.2 k) g = _
  rw [Nat.beq_refl, Int.toNat_natCast]; rfl
theorem lvv_j (h0 : j ≠ 0) : ∀ k, (lvv w o x k).2 j = (lvc w o x).2 j
  | 0 => rfl
  | k + 1 => by
    rw [lvv]
    by_cases c : bt x k = true
    · rw [if_pos c, bA_2 h0, lvv_j h0 k]
    · rw [if_neg c, lvv_j h0 k]
theorem lvv_1 : ∀ k, (lvv w o x k).1 = w.1
  | 0 => rfl
  | k + 1 => by
    rw [lvv]
    by_cases c : bt x k = true
    · rw [if_pos c]
      show (lvv w o x k).1 = w.1
      exact lvv_1 k
    · rw [if_neg c]; exact lvv_1 k
theorem lvc_2 (h6 : j ≠ 6) (h7 : j ≠ 7) (h8 : j ≠ 8) (h9 : j ≠ 9) : (lvc w o x).2 j = w.2 j := by
  unfold lvc; rw [bA_2 h9, bA_2 h8, bA_2 h7, bA_2 h6]
theorem lvv_2 (h0 : j ≠ 0) (h6 : j ≠ 6) (h7 : j ≠ 7) (h8 : j ≠ 8) (h9 : j ≠ 9) : (lvv w o x k).2 j = w.2 j := by
  rw [lvv_j h0, lvc_2 h6 h7 h8 h9]
theorem lvv_0 (ho : o < 4) : ∀ k, k ≤ 32 → (lvv w o x k).2 0 g = if (32 * o ≤ g ∧ g < 32 * o + k) ∧ bt x (g - 32 * o) = true then w.2 1 g else w.2 0 g
  | 0, _ => by
    rw [lvv, lvc_2 (by omega) (by omega) (by omega) (by omega), if_neg (by omega)]
  | k + 1, hk => by
    have ih := lvv_0 ho k (by omega)
    rw [lvv]
    by_cases c : bt x k = true
    · rw [if_pos c, bA_e (by omega)]
      by_cases y : g = 32 * o + k
      · subst y
        rw [if_pos rfl, lvv_2 (by omega) (by omega) (by omega) (by omega) (by omega), if_pos ⟨by omega, by rw [show 32 * o + k - 32 * o = k by omega]; exact c⟩]
      · rw [if_neg y, ih]
        by_cases d : (32 * o ≤ g ∧ g < 32 * o + k) ∧ bt x (g - 32 * o) = true
        · rw [if_pos d, if_pos ⟨by omega, d.2⟩]
        · rw [if_neg d, if_neg (fun y => d ⟨by omega, y.2⟩)]
    · rw [if_neg c, ih]
      by_cases d : (32 * o ≤ g ∧ g < 32 * o + k) ∧ bt x (g - 32 * o) = true
      · rw [if_pos d, if_pos ⟨by omega, d.2⟩]
      · have d' : ¬ ((32 * o ≤ g ∧ g < 32 * o + (k + 1)) ∧ bt x (g - 32 * o) = true) := fun y => by
          by_cases e : g - 32 * o = k
          · rw [e] at y; exact c y.2
          · exact d ⟨by omega, y.2⟩
        rw [if_neg d, if_neg d']
theorem bt_clr (ho : o < 4) (r : Nat) (hq : q < 32) : bt ((bA w r (o : Int) (ay_and (w.2 r o) (ay_xor x (-1)))).2 r g) q = (bt (w.2 r g) q && !(decide (g = o) && bt x q)) := by
  rw [bA_bt w r ho]
  by_cases c : g = o
  · rw [if_pos c, bt_and, bt_not x hq, decide_eq_true c, Bool.true_and, c]
  · rw [if_neg c, decide_eq_false c, Bool.false_and, Bool.not_false, Bool.and_true]
theorem lvv_6 (ho : o < 4) (hq : q < 32) : thr (lvv w o x k) g q = (thr w g q && !(decide (g = o) && bt x q)) := by
  unfold thr
  rw [lvv_j (by omega)]
  unfold lvc
  rw [bA_2 (by omega), bA_2 (by omega), bA_2 (by omega)]
  exact bt_clr ho 6 hq
theorem lvv_7 (ho : o < 4) (hq : q < 32) : drt (lvv w o x k) g q = (drt w g q && !(decide (g = o) && bt x q)) := by
  unfold drt
  rw [lvv_j (by omega)]
  unfold lvc
  rw [bA_2 (by omega), bA_2 (by omega)]
  have e : (bA w 6 (o : Int) (ay_and (w.2 6 o) (ay_xor x (-1)))).2 7 = w.2 7 := bA_2 (by omega)
  have := bt_clr (w := bA w 6 (o : Int) (ay_and (w.2 6 o) (ay_xor x (-1)))) (x := x) (g := g) ho 7 hq
  rw [e] at this
  exact this
theorem lvv_8 (ho : o < 4) (hq : q < 32) : fou (lvv w o x k) g q = (fou w g q && !(decide (g = o) && bt x q)) := by
  unfold fou
  rw [lvv_j (by omega)]
  unfold lvc
  rw [bA_2 (by omega)]
  generalize hy : bA (bA w 6 (o : Int) (ay_and (w.2 6 o) (ay_xor x (-1)))) 7 (o : Int) (ay_and (w.2 7 o) (ay_xor x (-1))) = y
  have e : y.2 8 = w.2 8 := by rw [← hy, bA_2 (by omega), bA_2 (by omega)]
  have := bt_clr (w := y) (x := x) (g := g) ho 8 hq
  rw [e] at this
  exact this
theorem lvv_9 (ho : o < 4) (hq : q < 32) : six (lvv w o x k) g q = (six w g q && !(decide (g = o) && bt x q)) := by
  unfold six
  rw [lvv_j (by omega)]
  unfold lvc
  generalize hy : bA (bA (bA w 6 (o : Int) (ay_and (w.2 6 o) (ay_xor x (-1)))) 7 (o : Int) (ay_and (w.2 7 o) (ay_xor x (-1)))) 8 (o : Int) (ay_and (w.2 8 o) (ay_xor x (-1))) = y
  have e : y.2 9 = w.2 9 := by rw [← hy, bA_2 (by omega), bA_2 (by omega), bA_2 (by omega)]
  have := bt_clr (w := y) (x := x) (g := g) ho 9 hq
  rw [e] at this
  exact this
theorem W_leave_s (ho : o < 4) (hk : k < 32) : W_leave_50 (n + 1) (lvv w o x k) o x k = W_leave_50 n (lvv w o x (k + 1)) o x ((k + 1 : Nat) : Int) := by
  have hid2 : (0 : Int) ≤ ((32 * o + k : Nat) : Int) ∧ ((32 * o + k : Nat) : Int) < 128 := by omega
  rw [W_leave_50, if_neg (by omega), wob ho hk, wad1 (by omega), bit_1 x hk, Int.toNat_natCast]
  by_cases c : bt x k = true
  · rw [if_pos c, if_pos rfl, if_pos hid2, if_pos hid2, lvv, if_pos c]
  · rw [if_neg c, if_neg (by decide), lvv, if_neg c]
theorem W_leave_ok (ho : o < 4) (hn : 40 ≤ n) : W_leave n w o x = some (0, lvw w o x) := by
  have hc4 : (0 : Int) ≤ (o : Int) ∧ (o : Int) < 4 := by omega
  have key : W_leave_50 n (lvv w o x 0) o x ((0 : Nat) : Int) = some (0, lvw w o x) := runs0 (fun n k => W_leave_50 n (lvv w o x k) o x k) 32 0 (fun n k hk _ => W_leave_s ho hk) (fun n _ => by
    show W_leave_50 (n + 1) (lvv w o x 32) o x 32 = _
    rw [W_leave_50, if_pos (by omega)]
    rfl) (n := n) (by omega)
  rw [lvv] at key
  unfold W_leave
  rw [if_pos hc4, if_pos hc4, if_pos hc4, if_pos hc4, if_pos hc4, if_pos hc4, if_pos hc4, if_pos hc4, Int.toNat_natCast]
  exact key
end
