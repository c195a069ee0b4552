/-! Clauses: from their first word to their end; whole texts. -/
section
variable {q s s' s2 m m' m1 m2 : bS} {K S A C R : Nat → Int} {L n n' i i' j k t t' N u u' T x ix st d b : Nat} {lo hi l1 f v : Int} {F : Option (Int × bS)} {RF : Nat → Option (Int × bS)}
def D_tail (q : bS) (d n : Nat) (s2 : bS) (l1 : Int) : Option (Int × bS) := (if l1 = 200 then (bb (D_readLaw q d n s2 l1) fun v3 s3 => D_readClause_221 q d n s3 l1) else (if l1 = 201 then (bb (D_readLaw q d n s2 l1) fun v4 s4 => D_readClause_221 q d n s4 l1) else (if l1 = 202 then (bb (D_expectNumber q n s2 1 1 32) fun v5 s5 => D_readClause_221 q d n s5 l1) else (if l1 = 203 then (bb (D_expectNumber q n s2 1 0 31) fun v6 s6 => (bb (D_expect q n s6 209) fun v7 s7 => (bb (D_expectNumber q n s7 2 0 3) fun v8 s8 => D_readClause_221 q d n s8 l1))) else (if l1 = 204 then (bb (D_expectNumber q n s2 1 0 31) fun v9 s9 => (bb (D_expect q n s9 209) fun v10 s10 => (bb (D_expectNumber q n s10 2 0 3) fun v11 s11 => D_readClause_221 q d n s11 l1))) else (if l1 = 205 then (bb (D_expectNumber q n s2 1 0 3) fun v12 s12 => D_readClause_221 q d n s12 l1) else (if l1 = 206 then (bb (D_expectNumber q n s2 1 1 16) fun v13 s13 => D_readClause_221 q d n s13 l1) else (if l1 = 207 then (bb (D_expectNumber q n s2 1 0 3) fun v14 s14 => D_readClause_221 q d n s14 l1) else (if l1 = 208 then (bb (D_expectNumber q n s2 1 1 60) fun v15 s15 => D_readClause_221 q d n s15 l1) else (bb (D_expectNumber q n s2 1 0 3) fun v16 s16 => D_readClause_221 q d n s16 l1))))))))))
theorem rb_0 {y : Int} : R_body n m ((0 : Nat) : Int) y = R_lawClause n m y := bb_id
theorem rb_1 {y : Int} : R_body n m ((1 : Nat) : Int) y = R_lawClause n m y := bb_id
theorem rb_3 {y : Int} : R_body n m ((3 : Nat) : Int) y = R_touchClause n m y := bb_id
theorem rb_4 {y : Int} : R_body n m ((4 : Nat) : Int) y = R_writeClause n m y := bb_id
theorem rb_2 {y : Int} : R_body n m ((2 : Nat) : Int) y = R_figure n m (ay_w (y + 1)) 1 32 := bb_id
theorem rb_5 {y : Int} : R_body n m ((5 : Nat) : Int) y = R_figure n m (ay_w (y + 1)) 0 3 := bb_id
theorem rb_6 {y : Int} : R_body n m ((6 : Nat) : Int) y = R_figure n m (ay_w (y + 1)) 1 16 := bb_id
theorem rb_7 {y : Int} : R_body n m ((7 : Nat) : Int) y = R_figure n m (ay_w (y + 1)) 0 3 := bb_id
theorem rb_8 {y : Int} : R_body n m ((8 : Nat) : Int) y = R_figure n m (ay_w (y + 1)) 1 60 := bb_id
theorem dt_0 : D_tail q d n s (200 + ((0 : Nat) : Int)) = bb (D_readLaw q d n s (200 + ((0 : Nat) : Int))) fun v3 s3 => D_readClause_221 q d n s3 (200 + ((0 : Nat) : Int)) := rfl
theorem dt_1 : D_tail q d n s (200 + ((1 : Nat) : Int)) = bb (D_readLaw q d n s (200 + ((1 : Nat) : Int))) fun v3 s3 => D_readClause_221 q d n s3 (200 + ((1 : Nat) : Int)) := rfl
theorem dt_2 : D_tail q d n s (200 + ((2 : Nat) : Int)) = bb (D_expectNumber q n s 1 1 32) fun v5 s5 => D_readClause_221 q d n s5 (200 + ((2 : Nat) : Int)) := rfl
theorem dt_5 : D_tail q d n s (200 + ((5 : Nat) : Int)) = bb (D_expectNumber q n s 1 0 3) fun v5 s5 => D_readClause_221 q d n s5 (200 + ((5 : Nat) : Int)) := rfl
theorem dt_6 : D_tail q d n s (200 + ((6 : Nat) : Int)) = bb (D_expectNumber q n s 1 1 16) fun v5 s5 => D_readClause_221 q d n s5 (200 + ((6 : Nat) : Int)) := rfl
theorem dt_7 : D_tail q d n s (200 + ((7 : Nat) : Int)) = bb (D_expectNumber q n s 1 0 3) fun v5 s5 => D_readClause_221 q d n s5 (200 + ((7 : Nat) : Int)) := rfl
theorem dt_8 : D_tail q d n s (200 + ((8 : Nat) : Int)) = bb (D_expectNumber q n s 1 1 60) fun v5 s5 => D_readClause_221 q d n s5 (200 + ((8 : Nat) : Int)) := rfl
theorem dt_3 : D_tail q d n s (200 + ((3 : Nat) : Int)) = bb (D_expectNumber q n s 1 0 31) fun v6 s6 => (bb (D_expect q n s6 209) fun v7 s7 => (bb (D_expectNumber q n s7 2 0 3) fun v8 s8 => D_readClause_221 q d n s8 203)) := rfl
theorem dt_4 : D_tail q d n s (200 + ((4 : Nat) : Int)) = bb (D_expectNumber q n s 1 0 31) fun v6 s6 => (bb (D_expect q n s6 209) fun v7 s7 => (bb (D_expectNumber q n s7 2 0 3) fun v8 s8 => D_readClause_221 q d n s8 204)) := rfl
theorem body_ok (B : BY q L) (H : TB (q.2 0) L N K S A) (hn : 2000 ≤ n) (hb : BX q L K S A N s m t k i u T) (hk : k < 24) (hst : st < 9) (h14 : m.1 14 = (st : Int)) : FO T (D_tail q 30 (n + 1) s (200 + (st : Int))) (fun n => R_body n m (st : Int) ((729 * T + (1 + 5 * k) : Nat) : Int)) s m ∨ ∃ (s8 m8 : bS) (t' i' u' : Nat), D_tail q 30 (n + 1) s (200 + (st : Int)) = D_readClause_243 q 30 (n + 1) s8 ∧ (∀ n, 3000 ≤ n → R_body n m (st : Int) ((729 * T + (1 + 5 * k) : Nat) : Int) = some (0, m8)) ∧ BS q L K S A N s m s8 m8 st t t' k i i' u u' T := by
  have T2 := hb.2.2.2.2.2
  have ew : ay_w (((729 * T + (1 + 5 * k) : Nat) : Int) + 1) = ((729 * T + (1 + 5 * k + 1) : Nat) : Int) := by rw [wad1 (by omega), Nat.add_assoc]
  have hc : st = 0 ∨ st = 1 ∨ st = 2 ∨ st = 3 ∨ st = 4 ∨ st = 5 ∨ st = 6 ∨ st = 7 ∨ st = 8 := by omega
  have law : ∀ b : Nat, b < 2 → m.1 14 = (b : Int) → (D_tail q 30 (n + 1) s (200 + (b : Int)) = bb (D_readLaw q 30 (n + 1) s (200 + (b : Int))) fun v3 s3 => D_readClause_221 q 30 (n + 1) s3 (200 + (b : Int))) → (∀ n, R_body n m (b : Int) ((729 * T + (1 + 5 * k) : Nat) : Int) = R_lawClause n m ((729 * T + (1 + 5 * k) : Nat) : Int)) → FO T (D_tail q 30 (n + 1) s (200 + (b : Int))) (fun n => R_body n m (b : Int) ((729 * T + (1 + 5 * k) : Nat) : Int)) s m ∨ ∃ (s8 m8 : bS) (t' i' u' : Nat), D_tail q 30 (n + 1) s (200 + (b : Int)) = D_readClause_243 q 30 (n + 1) s8 ∧ (∀ n, 3000 ≤ n → R_body n m (b : Int) ((729 * T + (1 + 5 * k) : Nat) : Int) = some (0, m8)) ∧ BS q L K S A N s m s8 m8 b t t' k i i' u u' T := fun b hb2 hb14 e1 e2 => by
    rw [e1]
    rcases B_law B H hn hb hk hb2 hb14 with h | ⟨s8, m8, t', i', u', x1, x2, x3⟩
    · exact Or.inl (FO_c h (fun n _ => e2 n))
    · exact Or.inr ⟨s8, m8, t', i', u', x1, fun n hn => (e2 n).trans (x2 n hn), x3⟩
  have fig : ∀ (st : Nat) (lo hi : Int), 0 ≤ lo → hi ≤ 60 → 2 ≤ st ∧ st ≠ 3 ∧ st ≠ 4 → (D_tail q 30 (n + 1) s (200 + (st : Int)) = bb (D_expectNumber q (n + 1) s 1 lo hi) fun v5 s5 => D_readClause_221 q 30 (n + 1) s5 (200 + (st : Int))) → (∀ n, R_body n m (st : Int) ((729 * T + (1 + 5 * k) : Nat) : Int) = R_figure n m (ay_w (((729 * T + (1 + 5 * k) : Nat) : Int) + 1)) lo hi) → FO T (D_tail q 30 (n + 1) s (200 + (st : Int))) (fun n => R_body n m (st : Int) ((729 * T + (1 + 5 * k) : Nat) : Int)) s m ∨ ∃ (s8 m8 : bS) (t' i' u' : Nat), D_tail q 30 (n + 1) s (200 + (st : Int)) = D_readClause_243 q 30 (n + 1) s8 ∧ (∀ n, 3000 ≤ n → R_body n m (st : Int) ((729 * T + (1 + 5 * k) : Nat) : Int) = some (0, m8)) ∧ BS q L K S A N s m s8 m8 st t t' k i i' u u' T := fun st lo hi h1 h2 h3 e1 e2 => by
    rw [e1]
    rcases B_fig (n := n + 1) (d := 30) (l1 := 200 + (st : Int)) (st := st) B H hb hk h1 h2 (by omega) h3 with h | ⟨s8, m8, t', x1, x2, x3⟩
    · exact Or.inl (FO_c h (fun n _ => by show R_body n m (st : Int) _ = _; rw [e2 n, ew]))
    · exact Or.inr ⟨s8, m8, t', i, u, x1, fun n hn => by rw [e2 n, ew]; exact x2 n hn, x3⟩
  rcases hc with h | h | h | h | h | h | h | h | h <;> subst h
  · exact law 0 (by decide) h14 dt_0 (fun n => rb_0)
  · exact law 1 (by decide) h14 dt_1 (fun n => rb_1)
  · exact fig 2 1 32 (by decide) (by decide) (by decide) dt_2 (fun n => rb_2)
  · rcases B_touch (n := n + 1) (d := 30) B H hb hk with h | ⟨s8, m8, t', x1, x2, x3⟩
    · exact Or.inl (by rw [dt_3]; exact FO_c h (fun n _ => rb_3))
    · exact Or.inr ⟨s8, m8, t', i, u, dt_3.trans x1, fun n hn => rb_3.trans (x2 n hn), x3⟩
  · rcases B_write (n := n + 1) (d := 30) B H hb hk with h | ⟨s8, m8, t', x1, x2, x3⟩
    · exact Or.inl (by rw [dt_4]; exact FO_c h (fun n _ => rb_4))
    · exact Or.inr ⟨s8, m8, t', i, u, dt_4.trans x1, fun n hn => rb_4.trans (x2 n hn), x3⟩
  · exact fig 5 0 3 (by decide) (by decide) (by decide) dt_5 (fun n => rb_5)
  · exact fig 6 1 16 (by decide) (by decide) (by decide) dt_6 (fun n => rb_6)
  · exact fig 7 0 3 (by decide) (by decide) (by decide) dt_7 (fun n => rb_7)
  · exact fig 8 1 60 (by decide) (by decide) (by decide) dt_8 (fun n => rb_8)
theorem has_ok (hb : b < 2) : R_has n (onc s) (b : Int) = some (if s.2 6 (2 * b) = -1 then 0 else 1) := by
  have h : b = 0 ∨ b = 1 := by omega
  unfold onc
  by_cases c0 : s.2 6 0 = -1
  · by_cases c2 : s.2 6 2 = -1
    · rw [if_pos c0, if_pos c2]
      rcases h with h | h <;> subst h
      · rw [if_pos (show s.2 6 (2 * 0) = -1 from c0)]; exact (by decide +kernel : R_has 0 (0 + 0) ((0 : Nat) : Int) = some 0)
      · rw [if_pos (show s.2 6 (2 * 1) = -1 from c2)]; exact (by decide +kernel : R_has 0 (0 + 0) ((1 : Nat) : Int) = some 0)
    · rw [if_pos c0, if_neg c2]
      rcases h with h | h <;> subst h
      · rw [if_pos (show s.2 6 (2 * 0) = -1 from c0)]; exact (by decide +kernel : R_has 0 (0 + 2) ((0 : Nat) : Int) = some 0)
      · rw [if_neg (show ¬ s.2 6 (2 * 1) = -1 from c2)]; exact (by decide +kernel : R_has 0 (0 + 2) ((1 : Nat) : Int) = some 1)
  · by_cases c2 : s.2 6 2 = -1
    · rw [if_neg c0, if_pos c2]
      rcases h with h | h <;> subst h
      · rw [if_neg (show ¬ s.2 6 (2 * 0) = -1 from c0)]; exact (by decide +kernel : R_has 0 (1 + 0) ((0 : Nat) : Int) = some 1)
      · rw [if_pos (show s.2 6 (2 * 1) = -1 from c2)]; exact (by decide +kernel : R_has 0 (1 + 0) ((1 : Nat) : Int) = some 0)
    · rw [if_neg c0, if_neg c2]
      rcases h with h | h <;> subst h
      · rw [if_neg (show ¬ s.2 6 (2 * 0) = -1 from c0)]; exact (by decide +kernel : R_has 0 (1 + 2) ((0 : Nat) : Int) = some 1)
      · rw [if_neg (show ¬ s.2 6 (2 * 1) = -1 from c2)]; exact (by decide +kernel : R_has 0 (1 + 2) ((1 : Nat) : Int) = some 1)
theorem once_ok (hb : b < 2) (h0 : s.2 6 (2 * b) = -1) (h1 : s'.2 6 (2 * b) ≠ -1) (h2 : ∀ j, j ≠ 2 * b → j ≠ 2 * b + 1 → s'.2 6 j = s.2 6 j) : ay_or (onc s) (ay_shl 1 (b : Int)) = onc s' := by
  have h : b = 0 ∨ b = 1 := by omega
  unfold onc
  rcases h with h | h <;> subst h
  · rw [show s'.2 6 2 = s.2 6 2 from h2 2 (by decide) (by decide), if_pos (show s.2 6 0 = -1 from h0), if_neg (show ¬ s'.2 6 0 = -1 from h1)]
    by_cases c2 : s.2 6 2 = -1
    · rw [if_pos c2]; decide +kernel
    · rw [if_neg c2]; decide +kernel
  · rw [show s'.2 6 0 = s.2 6 0 from h2 0 (by decide) (by decide), if_pos (show s.2 6 2 = -1 from h0), if_neg (show ¬ s'.2 6 2 = -1 from h1)]
    by_cases c2 : s.2 6 0 = -1
    · rw [if_pos c2]; decide +kernel
    · rw [if_neg c2]; decide +kernel
/-- a clause refused at its first word -/
theorem ref73 (hw : s.1 13 ≠ 0) : D_readClause_73 q d n s l1 = some (0, s) := by
  unfold D_readClause_73
  rw [if_neg hw]
theorem x5k (h : T < 4) (hk : k < 24) : ay_w (ay_w (((729 * T : Nat) : Int) + 1) + ay_w (5 * (k : Int))) = ((729 * T + (1 + 5 * k) : Nat) : Int) := by
  rw [ay_wi (x := ((729 * T : Nat) : Int) + 1) (by omega) (by omega), ay_wi (x := 5 * (k : Int)) (by omega) (by omega), ay_wi (by omega) (by omega)]; omega
theorem k4w (hk : k < 24) : ay_w ((k : Int) * 4) = ((4 * k : Nat) : Int) := by rw [ay_wi (by omega) (by omega)]; omega
theorem LR_old (h : LR s m T k i u b) (hst : st ≠ b) (h6 : s'.2 6 (2 * b) = s.2 6 (2 * b) ∧ s'.2 6 (2 * b + 1) = s.2 6 (2 * b + 1)) (h4 : ∀ j, j < i → s'.2 4 j = s.2 4 j) (hm : ∀ j, (1 ≤ j ∧ j < 1 + 5 * k) ∨ (121 ≤ j ∧ j < 121 + 2 * u) → m'.2 2 (729 * T + j) = m.2 2 (729 * T + j)) (hk : m'.2 2 (729 * T + (1 + 5 * k)) = (st : Int)) (hi : i ≤ i') (hu : u ≤ u') (hk24 : k < 24) : LR s' m' T (k + 1) i' u' b := by
  have em : ∀ j y, j < k → y < 5 → m'.2 2 (729 * T + 1 + 5 * j + y) = m.2 2 (729 * T + 1 + 5 * j + y) := fun j y hj hy => by
    have := hm (1 + 5 * j + y) (by omega)
    rw [show 729 * T + (1 + 5 * j + y) = 729 * T + 1 + 5 * j + y by omega] at this
    exact this
  have ek : m'.2 2 (729 * T + 1 + 5 * k) = (st : Int) := by rw [show 729 * T + 1 + 5 * k = 729 * T + (1 + 5 * k) by omega]; exact hk
  rcases h with ⟨a1, a2⟩ | ⟨j, i0, i1, u0, u1, a1, a2, a3, a4, a5, a6, a7, a8, a9⟩
  · refine Or.inl ⟨h6.1.trans a1, fun j hj => ?_⟩
    by_cases c : j = k
    · rw [c, ek]; omega
    · have := em j 0 (by omega) (by omega)
      rw [Nat.add_zero] at this
      rw [this]; exact a2 j (by omega)
  · refine Or.inr ⟨j, i0, i1, u0, u1, by omega, fun j' hj' => ?_, h6.1.trans a3, h6.2.trans a4, by rw [em j 1 a1 (by omega)]; exact a5, by rw [em j 2 a1 (by omega)]; exact a6, by omega, by omega, a9.c (fun y y1 y2 => h4 y (by omega)) (fun y y1 y2 => ?_) (Nat.le_refl _)⟩
    · by_cases c : j' = k
      · rw [c, ek]; omega
      · have := em j' 0 (by omega) (by omega)
        rw [Nat.add_zero] at this
        rw [this]; exact a2 j' (by omega)
    · have := hm (121 + y) (by omega)
      show m'.2 2 (729 * T + 121 + y) = m.2 2 (729 * T + 121 + y)
      rw [Nat.add_assoc]; exact this
end
