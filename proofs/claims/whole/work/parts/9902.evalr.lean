/-! The reference's sums, step by step (by wip/whole/gen_evr.py). -/
def RX (R : Nat → Int) (u v : Nat) (m : bS) (cl cb : Nat) : Prop := (∀ k, 2 * u ≤ k → k < 2 * v → m.2 2 (cb + k) = R k) ∧ (v : Int) ≤ m.2 2 (cl + 2) ∧ cl + 2 < 2916 ∧ cb + 2 * v ≤ 2916
def M21 (m m' : bS) : Prop := m'.1 = m.1 ∧ ∀ j, j ≠ 21 → j ≠ 22 → m'.2 j = m.2 j
section
variable {m m' m1 : bS} {n cl cb top tr u v : Nat} {R : Nat → Int} {l r y : Int} {A B : Bool}
theorem wad2 {x : Nat} (h : x < 2147483000) : ay_w ((x : Int) + 2) = ((x + 2 : Nat) : Int) := by rw [ay_wi (by omega) (by omega)]; omega
theorem wcu {cb u : Nat} (h : cb + 2 * u < 100000) : ay_w ((cb : Int) + ay_w (2 * (u : Int))) = ((cb + 2 * u : Nat) : Int) := by rw [ay_wi (x := 2 * (u : Int)) (by omega) (by omega), ay_wi (by omega) (by omega)]; omega
theorem wm1 {x : Nat} (h : x < 2147483000) : ay_w (((x + 1 : Nat) : Int) + (-1)) = (x : Int) := by rw [ay_wi (by omega) (by omega)]; omega
theorem wm1' {x : Nat} (h : x < 2147483000) : ay_w (((x + 1 : Nat) : Int) - 1) = (x : Int) := by rw [ay_wi (by omega) (by omega)]; omega
theorem wm21 {x : Nat} (h : x < 2147483000) : ay_w (((x + 2 : Nat) : Int) + (-1)) = ((x + 1 : Nat) : Int) := by rw [ay_wi (by omega) (by omega)]; omega
theorem wm2 {x : Nat} (h : x < 2147483000) : ay_w (((x + 2 : Nat) : Int) + (-2)) = (x : Int) := by rw [ay_wi (by omega) (by omega)]; omega
theorem M21.refl (m : bS) : M21 m m := ⟨rfl, fun _ _ _ => rfl⟩
theorem M21.trans (h : M21 m m') (h' : M21 m' m1) : M21 m m1 := ⟨h'.1.trans h.1, fun j a b => (h'.2 j a b).trans (h.2 j a b)⟩
theorem M21_a {i v : Int} : M21 m (bA m 21 i v) := ⟨rfl, fun _ h _ => bA_2 h⟩
theorem M21_b {i v : Int} : M21 m (bA m 22 i v) := ⟨rfl, fun _ _ h => bA_2 h⟩
theorem RX.sub {u' v' : Nat} (X : RX R u v m cl cb) (h1 : u ≤ u') (h2 : v' ≤ v) : RX R u' v' m cl cb := ⟨fun k k1 k2 => X.1 k (by omega) (by omega), by have := X.2.1; omega, X.2.2.1, by have := X.2.2.2; omega⟩
theorem RX.mm (X : RX R u v m cl cb) (h : M21 m m') : RX R u v m' cl cb := by
  unfold RX
  rw [h.2 2 (by decide) (by decide)]
  exact X
theorem clip_ok : R_clip n y = some (clp y) := by
  unfold R_clip clp ay_cmp
  by_cases a : y < 1000000
  · rw [if_pos a, if_pos a, if_pos (by decide)]
    by_cases b : y < -1000000
    · rw [if_pos b, if_pos b, if_neg (by decide)]
    · rw [if_neg b, if_neg b]
      by_cases c : y = -1000000
      · rw [if_pos c, if_pos (by decide)]
      · rw [if_neg c, if_pos (by decide)]
  · rw [if_neg a, if_neg a]
    by_cases b : y = 1000000
    · rw [if_pos b, if_pos (by decide), if_neg (show ¬ (1000000 : Int) < -1000000 by decide), b]
      rfl
    · rw [if_neg b, if_neg (by decide), if_neg (show ¬ (1000000 : Int) < -1000000 by decide)]
theorem two_ok {op : Nat} (h : op = 8 ∨ op = 9 ∨ op = 10 ∨ op = 11) : R_two n ((op : Int) - 2) l r = some (clp (arv op l r)) := by
  rcases h with h | h | h | h <;> subst h
  · show (b1 (R_clip n (ay_W (l + r))) fun v1 => some v1) = _
    rw [b1_s clip_ok]; rfl
  · show (b1 (R_clip n (ay_W (l - r))) fun v1 => some v1) = _
    rw [b1_s clip_ok]; rfl
  · show (b1 (R_clip n (ay_W (l * r))) fun v1 => some v1) = _
    rw [b1_s clip_ok]; rfl
  · show (if ay_cmp r 0 = 0 then some 0 else (if r = 0 then none else (b1 (R_clip n (ay_W (Int.tdiv l r))) fun v4 => some v4))) = some (clp (if r = 0 then 0 else ay_W (Int.tdiv l r)))
    by_cases c : r = 0
    · rw [if_pos (ay_cz.2 c), if_pos c]; rfl
    · rw [if_neg (fun h => c (ay_cz.1 h)), if_neg c, if_neg c, b1_s clip_ok]
theorem ask_ok {op : Nat} (h1 : 12 ≤ op) (h2 : op ≤ 17) : R_isAsked n ((op : Int) - 2) l r = some (bi (cmv op l r)) := by
  have h : op = 12 ∨ op = 13 ∨ op = 14 ∨ op = 15 ∨ op = 16 ∨ op = 17 := by omega
  rcases h with h | h | h | h | h | h <;> subst h
  · show (if 0 ≤ ay_cmp l r then some 0 else some 1) = some (bi (decide (¬ 0 ≤ ay_cmp l r)))
    by_cases c : 0 ≤ ay_cmp l r
    · rw [if_pos c, decide_eq_false (not_not_intro c)]; rfl
    · rw [if_neg c, decide_eq_true c]; rfl
  · show (if 0 < ay_cmp l r then some 0 else some 1) = some (bi (decide (¬ 0 < ay_cmp l r)))
    by_cases c : 0 < ay_cmp l r
    · rw [if_pos c, decide_eq_false (not_not_intro c)]; rfl
    · rw [if_neg c, decide_eq_true c]; rfl
  · show (if ay_cmp l r ≤ 0 then some 0 else some 1) = some (bi (decide (¬ ay_cmp l r ≤ 0)))
    by_cases c : ay_cmp l r ≤ 0
    · rw [if_pos c, decide_eq_false (not_not_intro c)]; rfl
    · rw [if_neg c, decide_eq_true c]; rfl
  · show (if ay_cmp l r < 0 then some 0 else some 1) = some (bi (decide (¬ ay_cmp l r < 0)))
    by_cases c : ay_cmp l r < 0
    · rw [if_pos c, decide_eq_false (not_not_intro c)]; rfl
    · rw [if_neg c, decide_eq_true c]; rfl
  · show (if ay_cmp l r = 0 then some 1 else some 0) = some (bi (decide (ay_cmp l r = 0)))
    by_cases c : ay_cmp l r = 0
    · rw [if_pos c, decide_eq_true c]; rfl
    · rw [if_neg c, decide_eq_false c]; rfl
  · show (if ay_cmp l r = 0 then some 0 else some 1) = some (bi (decide (¬ ay_cmp l r = 0)))
    by_cases c : ay_cmp l r = 0
    · rw [if_pos c, decide_eq_false (not_not_intro c)]; rfl
    · rw [if_neg c, decide_eq_true c]; rfl
theorem and_ok : R_joined n 21 (bi A) (bi B) = some (bi (A && B)) := by cases A <;> cases B <;> rfl
theorem or_ok : R_joined n 22 (bi A) (bi B) = some (bi (A || B)) := by cases A <;> cases B <;> rfl
theorem bi_01 : bi A = 0 ∨ bi A = 1 := by cases A; exact Or.inl rfl; exact Or.inr rfl
theorem R38_num (X : RX R u (u + 1) m cl cb) (ho : R (2 * u) = 0) (ht : top < 330) : R_summedUp_38 (n + 1) m cl cb top tr u = R_summedUp_38 n (bA m 21 (top : Int) (R (2 * u + 1))) cl cb ((top + 1 : Nat) : Int) tr ((u + 1 : Nat) : Int) := by
  obtain ⟨X1, X2, X3, X4⟩ := X
  have o1 : m.2 2 (cb + 2 * u) = R (2 * u) := X1 (2 * u) (by omega) (by omega)
  have o2 : m.2 2 (cb + 2 * u + 1) = R (2 * u + 1) := X1 (2 * u + 1) (by omega) (by omega)
  conv => lhs; unfold R_summedUp_38
  rw [wad2 (x := cl) (by omega), wcu (cb := cb) (u := u) (by omega), wad1 (x := cb + 2 * u) (by omega), wad1 (x := u) (by omega), if_pos ⟨by omega, by omega⟩, Int.toNat_natCast, if_neg (by omega), if_pos ⟨by omega, by omega⟩, if_pos ⟨by omega, by omega⟩, Int.toNat_natCast, Int.toNat_natCast, o1, o2, ho, if_neg (by decide), if_pos rfl, if_pos ⟨by omega, by omega⟩, wad1 (x := top) (by omega)]
theorem R38_nam {k : Nat} (X : RX R u (u + 1) m cl cb) (ho : R (2 * u) = 1) (hk : R (2 * u + 1) = (k : Int)) (h8 : k < 8) (ht : top < 330) : R_summedUp_38 (n + 1) m cl cb top tr u = R_summedUp_38 n (bA m 21 (top : Int) (m.2 20 k)) cl cb ((top + 1 : Nat) : Int) tr ((u + 1 : Nat) : Int) := by
  obtain ⟨X1, X2, X3, X4⟩ := X
  have o1 : m.2 2 (cb + 2 * u) = R (2 * u) := X1 (2 * u) (by omega) (by omega)
  have o2 : m.2 2 (cb + 2 * u + 1) = R (2 * u + 1) := X1 (2 * u + 1) (by omega) (by omega)
  conv => lhs; unfold R_summedUp_38
  rw [wad2 (x := cl) (by omega), wcu (cb := cb) (u := u) (by omega), wad1 (x := cb + 2 * u) (by omega), wad1 (x := u) (by omega), if_pos ⟨by omega, by omega⟩, Int.toNat_natCast, if_neg (by omega), if_pos ⟨by omega, by omega⟩, if_pos ⟨by omega, by omega⟩, Int.toNat_natCast, Int.toNat_natCast, o1, o2, ho, hk, if_neg (by decide), if_neg (by decide), if_pos ⟨by omega, by omega⟩, if_pos ⟨by omega, by omega⟩, wad1 (x := top) (by omega), Int.toNat_natCast]
theorem R38_sel (X : RX R u (u + 1) m cl cb) (ho : R (2 * u) = 3) (ht : top + 2 < 330) (hr : tr + 1 < 330) : R_summedUp_38 (n + 1) m cl cb ((top + 2 : Nat) : Int) ((tr + 1 : Nat) : Int) u = R_summedUp_38 n (if m.2 22 tr = 0 then bA m 21 (top : Int) (m.2 21 (top + 1)) else m) cl cb ((top + 1 : Nat) : Int) tr ((u + 1 : Nat) : Int) := by
  obtain ⟨X1, X2, X3, X4⟩ := X
  have o1 : m.2 2 (cb + 2 * u) = R (2 * u) := X1 (2 * u) (by omega) (by omega)
  have o2 : m.2 2 (cb + 2 * u + 1) = R (2 * u + 1) := X1 (2 * u + 1) (by omega) (by omega)
  conv => lhs; unfold R_summedUp_38
  rw [wad2 (x := cl) (by omega), wcu (cb := cb) (u := u) (by omega), wad1 (x := cb + 2 * u) (by omega), wad1 (x := u) (by omega), if_pos ⟨by omega, by omega⟩, Int.toNat_natCast, if_neg (by omega), if_pos ⟨by omega, by omega⟩, if_pos ⟨by omega, by omega⟩, Int.toNat_natCast, Int.toNat_natCast, o1, o2, ho, wm21 (x := top) (by omega), wm1' (x := top) (by omega), wm1 (x := tr) (by omega), if_pos (by decide), if_pos rfl, if_pos ⟨by omega, by omega⟩, Int.toNat_natCast, Int.toNat_natCast]
  by_cases c : m.2 22 tr = 0
  · rw [if_pos c, if_pos c, if_pos ⟨by omega, by omega⟩, if_pos ⟨by omega, by omega⟩]
  · rw [if_neg c, if_neg c]
theorem R38_one {op : Int} (X : RX R u (u + 1) m cl cb) (ho : R (2 * u) = op) (h1 : 1 < op) (h3 : ¬ op = 3) (h5 : op ≤ 5) (ht : top + 1 < 330) (hv : R_ofOne n m op (m.2 21 top) = some (y, m)) : R_summedUp_38 (n + 1) m cl cb ((top + 1 : Nat) : Int) tr u = R_summedUp_38 n (bA m 21 (top : Int) y) cl cb ((top + 1 : Nat) : Int) tr ((u + 1 : Nat) : Int) := by
  obtain ⟨X1, X2, X3, X4⟩ := X
  have o1 : m.2 2 (cb + 2 * u) = R (2 * u) := X1 (2 * u) (by omega) (by omega)
  have o2 : m.2 2 (cb + 2 * u + 1) = R (2 * u + 1) := X1 (2 * u + 1) (by omega) (by omega)
  conv => lhs; unfold R_summedUp_38
  rw [wad2 (x := cl) (by omega), wcu (cb := cb) (u := u) (by omega), wad1 (x := cb + 2 * u) (by omega), wad1 (x := u) (by omega), if_pos ⟨by omega, by omega⟩, Int.toNat_natCast, if_neg (by omega), if_pos ⟨by omega, by omega⟩, if_pos ⟨by omega, by omega⟩, Int.toNat_natCast, Int.toNat_natCast, o1, o2, ho, wm1' (x := top) (by omega), if_pos h1, if_neg h3, if_neg (by omega), if_pos ⟨by omega, by omega⟩, Int.toNat_natCast, bb_s hv, if_pos ⟨by omega, by omega⟩]
theorem R38_two {op : Int} (X : RX R u (u + 1) m cl cb) (ho : R (2 * u) = op) (h1 : 5 < op) (h5 : op < 10) (ht : top + 2 < 330) (hv : R_two n op (m.2 21 top) (m.2 21 (top + 1)) = some y) : R_summedUp_38 (n + 1) m cl cb ((top + 2 : Nat) : Int) tr u = R_summedUp_38 n (bA m 21 (top : Int) y) cl cb ((top + 1 : Nat) : Int) tr ((u + 1 : Nat) : Int) := by
  obtain ⟨X1, X2, X3, X4⟩ := X
  have o1 : m.2 2 (cb + 2 * u) = R (2 * u) := X1 (2 * u) (by omega) (by omega)
  have o2 : m.2 2 (cb + 2 * u + 1) = R (2 * u + 1) := X1 (2 * u + 1) (by omega) (by omega)
  conv => lhs; unfold R_summedUp_38
  rw [wad2 (x := cl) (by omega), wcu (cb := cb) (u := u) (by omega), wad1 (x := cb + 2 * u) (by omega), wad1 (x := u) (by omega), if_pos ⟨by omega, by omega⟩, Int.toNat_natCast, if_neg (by omega), if_pos ⟨by omega, by omega⟩, if_pos ⟨by omega, by omega⟩, Int.toNat_natCast, Int.toNat_natCast, o1, o2, ho, wm21 (x := top) (by omega), wm1' (x := top) (by omega), if_pos (by omega), if_neg (by omega), if_pos h1, if_neg (by omega), if_pos ⟨by omega, by omega⟩, if_pos ⟨by omega, by omega⟩, Int.toNat_natCast, Int.toNat_natCast, b1_s hv, if_pos ⟨by omega, by omega⟩]
theorem R38_ask {op : Int} (X : RX R u (u + 1) m cl cb) (ho : R (2 * u) = op) (h1 : 10 ≤ op) (h5 : op < 20) (ht : top + 2 < 330) (hr : tr < 330) (hv : R_isAsked n op (m.2 21 top) (m.2 21 (top + 1)) = some (bi A)) : R_summedUp_38 (n + 1) m cl cb ((top + 2 : Nat) : Int) tr u = R_summedUp_38 n (bA m 22 (tr : Int) (bi A)) cl cb top ((tr + 1 : Nat) : Int) ((u + 1 : Nat) : Int) := by
  obtain ⟨X1, X2, X3, X4⟩ := X
  have o1 : m.2 2 (cb + 2 * u) = R (2 * u) := X1 (2 * u) (by omega) (by omega)
  have o2 : m.2 2 (cb + 2 * u + 1) = R (2 * u + 1) := X1 (2 * u + 1) (by omega) (by omega)
  conv => lhs; unfold R_summedUp_38
  rw [wad2 (x := cl) (by omega), wcu (cb := cb) (u := u) (by omega), wad1 (x := cb + 2 * u) (by omega), wad1 (x := u) (by omega), if_pos ⟨by omega, by omega⟩, Int.toNat_natCast, if_neg (by omega), if_pos ⟨by omega, by omega⟩, if_pos ⟨by omega, by omega⟩, Int.toNat_natCast, Int.toNat_natCast, o1, o2, ho, wm2 (x := top) (by omega), wad1 (x := top) (by omega), if_pos (by omega), if_neg (by omega), if_pos (by omega), if_pos h1, if_neg (by omega), if_pos ⟨by omega, by omega⟩, if_pos ⟨by omega, by omega⟩, Int.toNat_natCast, Int.toNat_natCast, b1_s hv, if_pos ⟨by omega, by omega⟩, if_pos bi_01, wad1 (x := tr) (by omega)]
theorem R38_not (X : RX R u (u + 1) m cl cb) (ho : R (2 * u) = 20) (hr : tr + 1 < 330) (hA : m.2 22 tr = bi A) : R_summedUp_38 (n + 1) m cl cb top ((tr + 1 : Nat) : Int) u = R_summedUp_38 n (bA m 22 (tr : Int) (bi (!A))) cl cb top ((tr + 1 : Nat) : Int) ((u + 1 : Nat) : Int) := by
  obtain ⟨X1, X2, X3, X4⟩ := X
  have o1 : m.2 2 (cb + 2 * u) = R (2 * u) := X1 (2 * u) (by omega) (by omega)
  have o2 : m.2 2 (cb + 2 * u + 1) = R (2 * u + 1) := X1 (2 * u + 1) (by omega) (by omega)
  conv => lhs; unfold R_summedUp_38
  rw [wad2 (x := cl) (by omega), wcu (cb := cb) (u := u) (by omega), wad1 (x := cb + 2 * u) (by omega), wad1 (x := u) (by omega), if_pos ⟨by omega, by omega⟩, Int.toNat_natCast, if_neg (by omega), if_pos ⟨by omega, by omega⟩, if_pos ⟨by omega, by omega⟩, Int.toNat_natCast, Int.toNat_natCast, o1, o2, ho, wm1' (x := tr) (by omega), if_pos (by decide), if_neg (by decide), if_pos (by decide), if_pos (by decide), if_pos (by decide), if_pos rfl, if_pos ⟨by omega, by omega⟩, Int.toNat_natCast, hA]
  cases A
  · rw [if_pos (show bi false = 0 from rfl), if_pos ⟨by omega, by omega⟩, if_pos (Or.inr rfl)]; rfl
  · rw [if_neg (show ¬ bi true = 0 by decide), if_pos ⟨by omega, by omega⟩, if_pos (Or.inl rfl)]; rfl
theorem R38_join {op : Int} (X : RX R u (u + 1) m cl cb) (ho : R (2 * u) = op) (h1 : 20 < op) (hr : tr + 2 < 330) (hv : R_joined n op (m.2 22 tr) (m.2 22 (tr + 1)) = some (bi A)) : R_summedUp_38 (n + 1) m cl cb top ((tr + 2 : Nat) : Int) u = R_summedUp_38 n (bA m 22 (tr : Int) (bi A)) cl cb top ((tr + 1 : Nat) : Int) ((u + 1 : Nat) : Int) := by
  obtain ⟨X1, X2, X3, X4⟩ := X
  have o1 : m.2 2 (cb + 2 * u) = R (2 * u) := X1 (2 * u) (by omega) (by omega)
  have o2 : m.2 2 (cb + 2 * u + 1) = R (2 * u + 1) := X1 (2 * u + 1) (by omega) (by omega)
  conv => lhs; unfold R_summedUp_38
  rw [wad2 (x := cl) (by omega), wcu (cb := cb) (u := u) (by omega), wad1 (x := cb + 2 * u) (by omega), wad1 (x := u) (by omega), if_pos ⟨by omega, by omega⟩, Int.toNat_natCast, if_neg (by omega), if_pos ⟨by omega, by omega⟩, if_pos ⟨by omega, by omega⟩, Int.toNat_natCast, Int.toNat_natCast, o1, o2, ho, wm21 (x := tr) (by omega), wm1' (x := tr) (by omega), if_pos (by omega), if_neg (by omega), if_pos (by omega), if_pos (by omega), if_pos (by omega), if_neg (by omega), if_pos ⟨by omega, by omega⟩, if_pos ⟨by omega, by omega⟩, Int.toNat_natCast, Int.toNat_natCast, b1_s hv, if_pos ⟨by omega, by omega⟩, if_pos bi_01]
end
