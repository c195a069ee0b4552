/-! Laws: the same on both sides. -/
/-- a text's clause, by its rows -/
def CT (c r : Nat → Int) (T j : Nat) : Prop := ∃ st : Nat, st < 9 ∧ r (729 * T + 1 + 5 * j) = (st : Int) ∧ c (4 * j) = 200 + (st : Int) ∧ (2 ≤ st → c (4 * j + 1) = r (729 * T + 1 + 5 * j + 1) ∧ 0 ≤ c (4 * j + 1) ∧ c (4 * j + 1) ≤ 60) ∧ (st = 3 ∨ st = 4 → c (4 * j + 2) = r (729 * T + 1 + 5 * j + 2) ∧ 0 ≤ c (4 * j + 2) ∧ c (4 * j + 2) ≤ 3) ∧ (st = 4 → c (4 * j + 3) = r (729 * T + 1 + 5 * j + 3) ∧ 0 ≤ c (4 * j + 3) ∧ c (4 * j + 3) ≤ 99)
/-- a law of a text -/
def LX (x : bS) (r : Nat → Int) (T k b : Nat) : Prop := (x.1 (2 + 2 * b) = -1 ∧ ∀ j, j < k → ¬ r (729 * T + 1 + 5 * j) = (b : Int)) ∨ ∃ j i0 i1 u0 u1 : Nat, j < k ∧ (∀ j', j' < k → (r (729 * T + 1 + 5 * j') = (b : Int) ↔ j' = j)) ∧ x.1 (2 + 2 * b) = (i0 : Int) ∧ x.1 (3 + 2 * b) = (i1 : Int) ∧ r (729 * T + 1 + 5 * j + 1) = (u0 : Int) ∧ r (729 * T + 1 + 5 * j + 2) = (u1 : Int) ∧ i1 ≤ (x.1 7).toNat ∧ u1 ≤ 300 ∧ SN (od b) (x.2 1) i0 i1 (fun y => r (729 * T + 121 + y)) u0 u1 44
/-- a text on both sides -/
def TXR (x : bS) (r : Nat → Int) (T : Nat) : Prop := ∃ k : Nat, k ≤ 24 ∧ r (729 * T) = (k : Int) ∧ (x.1 6).toNat = 4 * k ∧ (x.1 7).toNat ≤ 600 ∧ (∀ j, j < k → CT (x.2 0) r T j) ∧ LX x r T k 0 ∧ LX x r T k 1
section
variable {q s s' m m' m1 w x x' tt kk xx : bS} {K S A a nn r r' : Nat → Int} {z : Nat → Nat} {L n i j k t N u T Tm o p b y c : Nat} {v l V : Int}
/-- what was read is such a text -/
theorem TXR_read (h : CLS q L K S A N s m t k i u T) : TXR (txO s) (m.2 2) T := by
  obtain ⟨hb, h24, h0, _, hcf, hl0, hl1⟩ := h
  obtain ⟨C, M, ⟨w1, w2, w3, w4⟩, ⟨u1, u2⟩, T1, T2⟩ := hb
  have hN := C.2.2
  have e6 : ((txO s).1 6).toNat = 4 * k := by
    show (ay_w (s.1 12 * 4)).toNat = _
    rw [w4, ay_wi (by omega) (by omega)]; omega
  have e7 : ((txO s).1 7).toNat = i := by
    show (s.1 11).toNat = _
    rw [w2]; omega
  have r0 : ∀ y, y < 4 * k → (txO s).2 0 y = s.2 5 y := fun y hy => by
    show cpO (s.2 5) 96 (ay_w (s.1 12 * 4)).toNat y = _
    rw [show (ay_w (s.1 12 * 4)).toNat = 4 * k from e6]
    unfold cpO
    by_cases c : 4 * k = 96
    · rw [if_pos c]
    · rw [if_neg c]
      unfold ay_cpy
      rw [if_pos ⟨by omega, by omega⟩, Nat.sub_zero, Nat.zero_add]
  have r1 : ∀ y, y < i → (txO s).2 1 y = s.2 4 y := fun y hy => by
    show cpO (s.2 4) 600 (s.1 11).toNat y = _
    rw [show (s.1 11).toNat = i from e7]
    unfold cpO
    by_cases c : i = 600
    · rw [if_pos c]
    · rw [if_neg c]
      unfold ay_cpy
      rw [if_pos ⟨by omega, by omega⟩, Nat.sub_zero, Nat.zero_add]
  have hL : ∀ b, b < 2 → LR s m T k i u b → LX (txO s) (m.2 2) T k b := fun b hb hl => by
    have f1 : (txO s).1 (2 + 2 * b) = s.2 6 (2 * b) ∧ (txO s).1 (3 + 2 * b) = s.2 6 (2 * b + 1) := by
      have : b = 0 ∨ b = 1 := by omega
      rcases this with h | h <;> subst h <;> exact ⟨rfl, rfl⟩
    rcases hl with ⟨a1, a2⟩ | ⟨j, i0, i1, u0, u1', a1, a2, a3, a4, a5, a6, a7, a8, a9⟩
    · exact Or.inl ⟨f1.1.trans a1, a2⟩
    · exact Or.inr ⟨j, i0, i1, u0, u1', a1, a2, f1.1.trans a3, f1.2.trans a4, a5, a6, by rw [e7]; exact a7, by omega, a9.c (fun y y1 y2 => r1 y (by omega)) (fun _ _ _ => rfl) (Nat.le_refl _)⟩
  refine ⟨k, h24, h0, e6, by rw [e7]; omega, fun j hj => ?_, hL 0 (by decide) hl0, hL 1 (by decide) hl1⟩
  obtain ⟨st, a1, a2, a3, a4, a5, a6⟩ := hcf j hj
  refine ⟨st, a1, a2, ?_, ?_, ?_, ?_⟩
  · rw [r0 _ (by omega)]; exact a3
  · intro h; rw [r0 _ (by omega)]; exact a4 h
  · intro h; rw [r0 _ (by omega)]; exact a5 h
  · intro h; rw [r0 _ (by omega)]; exact a6 h
theorem LX_c (h : LX x r T k b) (hb : b < 2) (hk : k ≤ 24) (h1 : ∀ y, 2 ≤ y → y < 6 → x'.1 y = x.1 y) (h7 : (x'.1 7).toNat = (x.1 7).toNat) (h2 : x'.2 1 = x.2 1) (hr : ∀ y, y < 729 → r' (729 * T + y) = r (729 * T + y)) : LX x' r' T k b := by
  have er : ∀ j y, j < k → y < 5 → r' (729 * T + 1 + 5 * j + y) = r (729 * T + 1 + 5 * j + y) := fun j y hj hy => by
    have := hr (1 + 5 * j + y) (by omega)
    rw [show 729 * T + (1 + 5 * j + y) = 729 * T + 1 + 5 * j + y by omega] at this
    exact this
  have er0 : ∀ j, j < k → r' (729 * T + 1 + 5 * j) = r (729 * T + 1 + 5 * j) := fun j hj => er j 0 hj (by omega)
  rcases h with ⟨a1, a2⟩ | ⟨j, i0, i1, u0, u1, a1, a2, a3, a4, a5, a6, a7, a8, a9⟩
  · exact Or.inl ⟨by rw [h1 _ (by omega) (by omega)]; exact a1, fun j hj => by rw [er0 j hj]; exact a2 j hj⟩
  · refine Or.inr ⟨j, i0, i1, u0, u1, a1, fun j' hj' => by rw [er0 j' hj']; exact a2 j' hj', by rw [h1 _ (by omega) (by omega)]; exact a3, by rw [h1 _ (by omega) (by omega)]; exact a4, by rw [er j 1 a1 (by omega)]; exact a5, by rw [er j 2 a1 (by omega)]; exact a6, by rw [h7]; exact a7, a8, a9.c (fun y _ _ => by rw [h2]) (fun y y1 y2 => ?_) (Nat.le_refl _)⟩
    have := hr (121 + y) (by omega)
    rw [← Nat.add_assoc] at this
    exact this
theorem TXR_c (h : TXR x r T) (h1 : ∀ y, 2 ≤ y → y < 6 → x'.1 y = x.1 y) (h6 : (x'.1 6).toNat = (x.1 6).toNat) (h7 : (x'.1 7).toNat = (x.1 7).toNat) (h0 : x'.2 0 = x.2 0) (h2 : x'.2 1 = x.2 1) (hr : ∀ y, y < 729 → r' (729 * T + y) = r (729 * T + y)) : TXR x' r' T := by
  obtain ⟨k, a1, a2, a3, a4, a5, a6, a7⟩ := h
  refine ⟨k, a1, by have := hr 0 (by omega); rw [Nat.add_zero] at this; rw [this]; exact a2, by rw [h6]; exact a3, by rw [h7]; exact a4, fun j hj => ?_, LX_c a6 (by decide) a1 h1 h7 h2 hr, LX_c a7 (by decide) a1 h1 h7 h2 hr⟩
  have er : ∀ y, y < 5 → r' (729 * T + 1 + 5 * j + y) = r (729 * T + 1 + 5 * j + y) := fun y hy => by
    have := hr (1 + 5 * j + y) (by omega)
    rw [show 729 * T + (1 + 5 * j + y) = 729 * T + 1 + 5 * j + y by omega] at this
    exact this
  obtain ⟨st, b1, b2, b3, b4, b5, b6⟩ := a5 j hj
  refine ⟨st, b1, ?_, ?_, ?_, ?_, ?_⟩
  · have := er 0 (by omega)
    rw [Nat.add_zero] at this
    rw [this]; exact b2
  · rw [h0]; exact b3
  · intro h; rw [h0, er 1 (by omega)]; exact b4 h
  · intro h; rw [h0, er 2 (by omega)]; exact b5 h
  · intro h; rw [h0, er 3 (by omega)]; exact b6 h
/-- texts in the same cells are the same text -/
theorem txH_2 {U : bH} (h : txH U j x) (h' : txH U j x') (H : TXR x r T) : TXR x' r T := by
  obtain ⟨a1, a2, a3⟩ := h
  obtain ⟨b1, b2, b3⟩ := h'
  rw [a1] at b1
  rw [a2] at b2
  rw [a3] at b3
  simp only [Option.some.injEq, Sum.inr.injEq, Sum.inl.injEq, Prod.mk.injEq, List.cons.injEq, true_and, and_true] at b1 b2 b3
  obtain ⟨c2, c3, c4, c5⟩ := b1
  refine TXR_c H (fun y y1 y2 => ?_) b2.1.symm b3.1.symm b2.2.symm b3.2.symm (fun _ _ => rfl)
  have hy : y = 2 ∨ y = 3 ∨ y = 4 ∨ y = 5 := by omega
  rcases hy with h | h | h | h <;> subst h
  · exact c2.symm
  · exact c3.symm
  · exact c4.symm
  · exact c5.symm
/-- what objects have -/
theorem thereOf_ok (HP : RP w (m.2 0)) (ho : o < 4) (hz : m.2 0 (6 + o) = (y : Int)) (hy : y ≤ 32) (hn : 40 ≤ n) : R_thereOf n m (o : Int) = some (((cn (thr w o) y : Nat) : Int), m) := by
  have e6 : ay_w (6 + (o : Int)) = ((6 + o : Nat) : Int) := wadd (x := 6) (by omega)
  have key := runs0 (fun n k => R_thereOf_4 n m (o : Int) ((cn (thr w o) k : Nat) : Int) (k : Int)) y 0 (r := (((cn (thr w o) y : Nat) : Int), m)) (fun n k hk _ => ?_) (fun n _ => ?_) (n := n) (by omega)
  · exact key
  · have hl := cn_le (thr w o) k
    have hc : ((cn (thr w o) (k + 1) : Nat) : Int) = ((cn (thr w o) k : Nat) : Int) + (if thr w o k = true then 1 else 0) := by
      rw [cn_s]
      by_cases c : thr w o k = true
      · rw [if_pos c, if_pos c]; omega
      · rw [if_neg c, if_neg c]; omega
    show R_thereOf_4 (n + 1) m (o : Int) ((cn (thr w o) k : Nat) : Int) (k : Int) = R_thereOf_4 n m (o : Int) ((cn (thr w o) (k + 1) : Nat) : Int) ((k + 1 : Nat) : Int)
    conv => lhs; unfold R_thereOf_4
    rw [e6, if_pos ⟨by clear e6; omega, by clear e6; omega⟩, Int.toNat_natCast, hz, if_neg (by clear e6; omega), bb_s (R_isThere_ok n HP ho (by clear e6; omega)), hc, wad1 (x := k) (by clear e6; omega)]
    by_cases c : thr w o k = true
    · rw [if_pos c, if_neg (by decide), ay_wi (x := ((cn (thr w o) k : Nat) : Int) + 1) (by clear e6; omega) (by clear e6; omega)]
    · rw [if_neg c, if_pos rfl, ay_wi (x := ((cn (thr w o) k : Nat) : Int) + 0) (by clear e6; omega) (by clear e6; omega)]
  · show R_thereOf_4 (n + 1) m (o : Int) ((cn (thr w o) y : Nat) : Int) (y : Int) = _
    unfold R_thereOf_4
    rw [e6, if_pos ⟨by clear e6; omega, by clear e6; omega⟩, Int.toNat_natCast, hz, if_pos (Int.le_refl _)]
theorem dirtyOf_ok (HP : RP w (m.2 0)) (ho : o < 4) (hz : m.2 0 (6 + o) = (y : Int)) (hy : y ≤ 32) (hn : 40 ≤ n) : R_dirtyOf n m (o : Int) = some (((cn (drt w o) y : Nat) : Int), m) := by
  have e6 : ay_w (6 + (o : Int)) = ((6 + o : Nat) : Int) := wadd (x := 6) (by omega)
  have key := runs0 (fun n k => R_dirtyOf_4 n m (o : Int) ((cn (drt w o) k : Nat) : Int) (k : Int)) y 0 (r := (((cn (drt w o) y : Nat) : Int), m)) (fun n k hk _ => ?_) (fun n _ => ?_) (n := n) (by omega)
  · exact key
  · have hl := cn_le (drt w o) k
    have hc : ((cn (drt w o) (k + 1) : Nat) : Int) = ((cn (drt w o) k : Nat) : Int) + (if drt w o k = true then 1 else 0) := by
      rw [cn_s]
      by_cases c : drt w o k = true
      · rw [if_pos c, if_pos c]; omega
      · rw [if_neg c, if_neg c]; omega
    show R_dirtyOf_4 (n + 1) m (o : Int) ((cn (drt w o) k : Nat) : Int) (k : Int) = R_dirtyOf_4 n m (o : Int) ((cn (drt w o) (k + 1) : Nat) : Int) ((k + 1 : Nat) : Int)
    conv => lhs; unfold R_dirtyOf_4
    rw [e6, if_pos ⟨by clear e6; omega, by clear e6; omega⟩, Int.toNat_natCast, hz, if_neg (by clear e6; omega), bb_s (R_isDirty_ok n HP ho (by clear e6; omega)), hc, wad1 (x := k) (by clear e6; omega)]
    by_cases c : drt w o k = true
    · rw [if_pos c, if_neg (by decide), ay_wi (x := ((cn (drt w o) k : Nat) : Int) + 1) (by clear e6; omega) (by clear e6; omega)]
    · rw [if_neg c, if_pos rfl, ay_wi (x := ((cn (drt w o) k : Nat) : Int) + 0) (by clear e6; omega) (by clear e6; omega)]
  · show R_dirtyOf_4 (n + 1) m (o : Int) ((cn (drt w o) y : Nat) : Int) (y : Int) = _
    unfold R_dirtyOf_4
    rw [e6, if_pos ⟨by clear e6; omega, by clear e6; omega⟩, Int.toNat_natCast, hz, if_pos (Int.le_refl _)]
theorem cmp_neg : (ay_cmp v l < 0) ↔ v < l := by
  unfold ay_cmp
  by_cases c : v < l
  · rw [if_pos c]; omega
  · rw [if_neg c]
    by_cases d : v = l
    · rw [if_pos d]; omega
    · rw [if_neg d]; omega
theorem EV_ok (X : GX z w a Tm) (O : TO z tt a) : EV w a := fun n m v hn hm v1 v2 => by
  have HP : RP w (m.2 0) := by rw [hm]; exact X.1.1.2.1
  have IL := X.1.2.2.2.1
  have SZ := X.2.2.2.1.1
  obtain ⟨O1, q, q1, q2, q3, q4, q5⟩ := O
  have no : ∀ o, o < 4 → q ≤ o → ∀ p, p < 32 → thr w o p = false := fun o ho hq p hp => by
    cases h : thr w o p
    · rfl
    · have := SZ o p ho hp h
      rw [q5 o ho hq] at this; omega
  have nd : ∀ o p, o < 4 → p < 32 → thr w o p = false → drt w o p = false := fun o p ho hp h => by
    cases h' : drt w o p
    · rfl
    · have := (IL o p ho hp).1 h'
      rw [h] at this; cases this
  have out : ∀ o, o < 4 → ∀ p, z o ≤ p → p < 32 → thr w o p = false := fun o ho p h1 hp => by
    cases h : thr w o p
    · rfl
    · have := SZ o p ho hp h
      omega
  have key : ∀ op : Int, ¬ op = 5 → R_ofOne n m op v = (if v < 0 then some (0, m) else if v < (q : Int) then (if op = 2 then (bb (R_thereOf n m (ay_w v)) fun v1 s1 => some (v1, s1)) else (bb (R_dirtyOf n m (ay_w v)) fun v2 s2 => some (v2, s2))) else some (0, m)) := fun op h5 => by
    unfold R_ofOne
    rw [if_neg h5, hm, q3]
    by_cases c : v < 0
    · rw [if_pos (cmp_neg.2 c), if_pos c]
    · rw [if_neg (fun h => c (cmp_neg.1 h)), if_neg c]
      by_cases d : v < (q : Int)
      · rw [if_pos (cmp_neg.2 d), if_pos d]
      · rw [if_neg (fun h => d (cmp_neg.1 h)), if_neg d]
  rw [key 2 (by decide), key 4 (by decide)]
  unfold hsv
  by_cases c : v < 0
  · rw [if_pos c, if_pos c, if_neg (by omega), if_neg (by omega)]; exact ⟨rfl, rfl⟩
  · rw [if_neg c, if_neg c]
    obtain ⟨o, ho⟩ : ∃ o : Nat, v = (o : Int) := ⟨v.toNat, by omega⟩
    subst ho
    by_cases d : (o : Int) < (q : Int)
    · have ho4 : o < 4 := by omega
      have hz : m.2 0 (6 + o) = ((z o : Nat) : Int) := by rw [hm]; exact (O1 o ho4).2.1
      have h32 := (O1 o ho4).2.2
      have e1 : cn (bt (w.2 6 o)) 32 = cn (thr w o) (z o) := cn_ext h32 (fun p h1 h2 => out o ho4 p h1 h2)
      have e2 : cn (bt (w.2 7 o)) 32 = cn (drt w o) (z o) := cn_ext h32 (fun p h1 h2 => nd o p ho4 h2 (out o ho4 p h1 h2))
      refine ⟨?_, ?_⟩
      · rw [if_pos d, if_pos rfl, ay_wn (by omega), bb_s (thereOf_ok HP ho4 hz h32 (by omega)), if_pos ⟨by omega, by omega⟩, Int.toNat_natCast, e1]
      · rw [if_pos d, if_neg (by decide), ay_wn (by omega), bb_s (dirtyOf_ok HP ho4 hz h32 (by omega)), if_pos ⟨by omega, by omega⟩, Int.toNat_natCast, e2]
    · rw [if_neg d, if_neg d]
      by_cases e : o < 4
      · have e1 : cn (bt (w.2 6 o)) 32 = 0 := cn_0 (fun p hp => no o e (by omega) p hp)
        have e2 : cn (bt (w.2 7 o)) 32 = 0 := cn_0 (fun p hp => nd o p e hp (no o e (by omega) p hp))
        rw [if_pos ⟨by omega, by omega⟩, if_pos ⟨by omega, by omega⟩, Int.toNat_natCast, e1, e2]; exact ⟨rfl, rfl⟩
      · rw [if_neg (by omega), if_neg (by omega)]; exact ⟨rfl, rfl⟩
end
