/-! Reading laws: the reference's steps over its pile. -/
def FR (m m' : bS) : Prop := (∀ k, k < 7 ∨ k = 12 ∨ k = 14 ∨ 19 ≤ k → m'.1 k = m.1 k) ∧ (∀ j, j ≠ 2 → j ≠ 15 → m'.2 j = m.2 j) ∧ (∀ k : Nat, (k : Int) < m.1 12 + 121 + 2 * m.1 13 ∨ m.1 12 + 729 ≤ (k : Int) → m'.2 2 k = m.2 2 k) ∧ m.1 13 ≤ m'.1 13
def SR (m m1 : bS) : Prop := (∀ k, k ≠ 13 → k ≠ 16 → k ≠ 17 → m1.1 k = m.1 k) ∧ ∀ j, j ≠ 2 → m1.2 j = m.2 j
def aA (f : Nat → Int) (p : Nat) : Bool := decide (opN f p = 41 ∧ (40 ≤ f (p - 1) ∨ (1 ≤ rk (f (p - 1)) ∧ rk (f (p - 1)) ≤ 3)))
/-- one more on the pile -/
def psh (p : Nat) (m : bS) (o : Int) : bS := bI (bI (bA m 15 (p : Int) o) 16 ((p + 1 : Nat) : Int)) 18 0
def pso (p o : Nat) (m : bS) (x : Int) : bS := bI (bA (bI m 17 ((o + 1 : Nat) : Int)) 15 (p : Int) x) 16 ((p + 1 : Nat) : Int)
section
variable {q s m m' m1 : bS} {f g K S A : Nat → Int} {L n i j d k t N p u T o : Nat} {x y kd am v l op : Int}
theorem isw_y (H : RT kd am m) (hj : j < 28) (h : kd = 200 + (j : Int)) : R_isWord n m ((wcd.getD j 0 : Nat) : Int) = some (1, m) := by rw [isw H hj, if_pos h]
theorem isw_n (H : RT kd am m) (hj : j < 28) (h : ¬ kd = 200 + (j : Int)) : R_isWord n m ((wcd.getD j 0 : Nat) : Int) = some (0, m) := by rw [isw H hj, if_neg h]
theorem rk_b : 0 ≤ rk x ∧ rk x ≤ 7 := by
  unfold rk
  by_cases a : x < 40
  · rw [if_pos a]
    by_cases b : x = 22
    · rw [if_pos b]; omega
    · rw [if_neg b]
      by_cases c : x = 21
      · rw [if_pos c]; omega
      · rw [if_neg c]
        by_cases d : x = 20
        · rw [if_pos d]; omega
        · rw [if_neg d]
          by_cases e : x < 10
          · rw [if_pos e]
            by_cases f : x < 8
            · rw [if_pos f]
              by_cases g : x < 6
              · rw [if_pos g]; omega
              · rw [if_neg g]; omega
            · rw [if_neg f]; omega
          · rw [if_neg e]; omega
  · rw [if_neg a]; omega
theorem rk_0 (h : rk x = 0) : 40 ≤ x := by
  unfold rk at h
  by_cases a : x < 40
  · rw [if_pos a] at h
    by_cases b : x = 22
    · rw [if_pos b] at h; omega
    · rw [if_neg b] at h
      by_cases c : x = 21
      · rw [if_pos c] at h; omega
      · rw [if_neg c] at h
        by_cases d : x = 20
        · rw [if_pos d] at h; omega
        · rw [if_neg d] at h
          by_cases e : x < 10
          · rw [if_pos e] at h
            by_cases f : x < 8
            · rw [if_pos f] at h
              by_cases g : x < 6
              · rw [if_pos g] at h; omega
              · rw [if_neg g] at h; omega
            · rw [if_neg f] at h; omega
          · rw [if_neg e] at h; omega
  · omega
theorem FR.rfl' : FR m m := ⟨fun _ _ => rfl, fun _ _ _ => rfl, fun _ _ => rfl, Int.le_refl _⟩
theorem FR.tr (h1 : FR m m') (h2 : FR m' m1) : FR m m1 := by
  refine ⟨fun k h => (h2.1 k h).trans (h1.1 k h), fun j a b => (h2.2.1 j a b).trans (h1.2.1 j a b), fun k h => ?_, Int.le_trans h1.2.2.2 h2.2.2.2⟩
  have e := h1.1 12 (by omega)
  have := h1.2.2.2
  rw [h2.2.2.1 k (by omega)]
  exact h1.2.2.1 k h
theorem FR_NX (h : NX m m') : FR m m' := ⟨fun k hk => h.1 k (by omega), fun j _ _ => by rw [h.2], fun k _ => by rw [h.2], by rw [h.1 13 (by omega)]; exact Int.le_refl _⟩
theorem FR_bI (h : 7 ≤ k ∧ k ≠ 12 ∧ k ≠ 13 ∧ k ≠ 14 ∧ k < 19) : FR m (bI m k v) := ⟨fun j hj => bI_1 (by omega), fun _ _ _ => rfl, fun _ _ => rfl, by rw [bI_1 (by omega)]; exact Int.le_refl _⟩
theorem FR_pile {i : Int} : FR m (bA m 15 i v) := ⟨fun _ _ => rfl, fun j _ h => bA_2 h, fun k _ => by rw [bA_2 (by decide)], Int.le_refl _⟩
theorem FR_em (hT : m.1 12 = ((729 * T : Nat) : Int)) (hu : m.1 13 = (u : Int)) (h3 : u < 304) : FR m (em T u m x v) := ⟨fun j hj => em_1 (by omega), fun j h _ => em_j h, fun k hk => em_2 (by omega) (by omega), by rw [hu]; show (u : Int) ≤ ((u + 1 : Nat) : Int); omega⟩
theorem FR_psh : FR m (psh p m x) := (FR_pile.tr (FR_bI (by omega))).tr (FR_bI (by omega))
theorem FR_pso : FR m (pso p o m x) := ((FR_bI (by omega)).tr FR_pile).tr (FR_bI (by omega))
theorem FR_ppd (hT : m.1 12 = ((729 * T : Nat) : Int)) (hu : m.1 13 = (u : Int)) (h3 : u < 304) : FR m (ppd T u p m) := by
  have h1 : FR m (em T u (bI m 16 (p : Int)) (m.2 15 p) 0) := (FR_bI (m := m) (k := 16) (v := (p : Int)) (by omega)).tr (FR_em hT hu h3)
  unfold ppd
  by_cases c : rk (m.2 15 p) = 7 ∨ m.2 15 p = 20
  · rw [if_pos c]; exact h1.tr (FR_bI (by omega))
  · rw [if_neg c]; exact h1
theorem SR.rf' : SR m m := ⟨fun _ _ _ _ => rfl, fun _ _ => rfl⟩
theorem SR.tr (h1 : SR m m') (h2 : SR m' m1) : SR m m1 := ⟨fun k a b c => (h2.1 k a b c).trans (h1.1 k a b c), fun j a => (h2.2 j a).trans (h1.2 j a)⟩
theorem SR_ppd : SR m (ppd T u p m) := by
  have h1 : SR m (em T u (bI m 16 (p : Int)) (m.2 15 p) 0) := ⟨fun k a b _ => by rw [em_1 a, bI_1 b], fun j h => em_j h⟩
  unfold ppd
  by_cases c : rk (m.2 15 p) = 7 ∨ m.2 15 p = 20
  · rw [if_pos c]; exact h1.tr ⟨fun k _ _ h => bI_1 h, fun _ _ => rfl⟩
  · rw [if_neg c]; exact h1
theorem ppd_13 : (ppd T u p m).1 13 = ((u + 1 : Nat) : Int) := by
  unfold ppd
  by_cases c : rk (m.2 15 p) = 7 ∨ m.2 15 p = 20
  · rw [if_pos c]; rfl
  · rw [if_neg c]; rfl
theorem ppd_16 : (ppd T u p m).1 16 = (p : Int) := by
  unfold ppd
  by_cases c : rk (m.2 15 p) = 7 ∨ m.2 15 p = 20
  · rw [if_pos c]; rfl
  · rw [if_neg c]; rfl
theorem ppd_17 (h : ¬ rk (m.2 15 p) = 7) (h' : ¬ m.2 15 p = 20) : (ppd T u p m).1 17 = m.1 17 := by
  unfold ppd
  rw [if_neg (by intro c; rcases c with c | c; exact h c; exact h' c)]; rfl
theorem ppd_17' (h : rk (m.2 15 p) = 7 ∨ m.2 15 p = 20) (ho : m.1 17 = ((o + 1 : Nat) : Int)) (h8 : o < 9) : (ppd T u p m).1 17 = (o : Int) := by
  unfold ppd
  rw [if_pos h]
  show ay_w (m.1 17 - 1) = _
  rw [ho, ay_wi (by omega) (by omega)]; omega
theorem ppd_RC : RC T (ppd T u p m) = fun k => if k = 2 * u + 1 then 0 else if k = 2 * u then m.2 15 p else RC T m k := by
  have h1 : RC T (em T u (bI m 16 (p : Int)) (m.2 15 p) 0) = fun k => if k = 2 * u + 1 then 0 else if k = 2 * u then m.2 15 p else RC T m k := em_RC
  unfold ppd
  by_cases c : rk (m.2 15 p) = 7 ∨ m.2 15 p = 20
  · rw [if_pos c]; exact h1
  · rw [if_neg c]; exact h1
/-- what begins one -/
theorem isOf_ok {k : Int} (h : m.1 14 = 0 ∨ m.1 14 = 1) (hk : 0 ≤ k) : R_isOf n m k = some (if (m.1 14 = 0 ∧ k ≤ 4) ∨ (m.1 14 = 1 ∧ k ≠ 4) then 1 else 0, m) := by
  unfold R_isOf
  by_cases a : k < 4
  · rw [if_pos a, if_pos (by omega)]
  · rw [if_neg a]
    by_cases b : k = 4
    · rw [if_pos b]
      by_cases c : m.1 14 = 0
      · rw [if_pos c, if_pos (by omega)]
      · rw [if_neg c, if_neg (by omega)]
    · rw [if_neg b]
      by_cases c : m.1 14 = 1
      · rw [if_pos c, if_pos (by omega)]
      · rw [if_neg c, if_neg (by omega)]
theorem bb_id {F : Option (Int × bS)} : (bb F fun v s => some (v, s)) = F := by
  cases F <;> rfl
theorem bb_2 {F : Option (Int × bS)} {G : bS → Option (Int × bS)} : (bb (bb F fun v20 s20 => some ((0 : Int), s20)) fun v1 s1 => if v1 = 0 then G s1 else some (v1, s1)) = bb F fun _ s => G s := by
  cases F <;> rfl
theorem bb_3 {F : Option (Int × bS)} {G H : bS → Option (Int × bS)} : (bb (bb F fun v20 s20 => some ((1 : Int), s20)) fun v1 s1 => if v1 = 0 then H s1 else G s1) = bb F fun _ s => G s := by
  cases F <;> rfl
theorem beg_81 (hT : m.1 12 = ((729 * T : Nat) : Int)) (h4 : T < 4) (hu : m.1 13 = (u : Int)) (h3 : u < 304) (hw : m.1 18 = 0) (he : R_beginOne n m = R_beginOne_81 n m x v) (hx : R_nextToken n (em T u m x v) = some (0, m')) : R_summed_15 (n + 1) m = bb (R_settle_0 n (bI m' 18 1) 7) fun _ s => R_summed_15 n s := by
  conv => lhs; unfold R_summed_15
  rw [if_pos hw, he]
  unfold R_beginOne_81
  rw [bb_s (emit_ok hT h4 hu h3), bb_s hx]
  exact bb_2
theorem beg_n {f : Int} (hw : m.1 18 = 0) (he : R_beginOne n m = some (f, m)) (hf : f ≠ 0) : R_summed_15 (n + 1) m = some (f, m) := by
  unfold R_summed_15
  rw [if_pos hw, bb_s he, if_neg hf]
/-- a leaf -/
theorem beg_num (H : RT kd am m) (hk : kd = 2) (ha : am ≤ 9999) : R_beginOne n m = R_beginOne_81 n m 0 am := by
  have a1 := (tok_1 H).2 hk
  have a2 := (tok_am H hk).1 ha
  unfold R_beginOne
  rw [if_pos a1, if_pos (by omega)]
  unfold R_beginOne_20
  rw [bb_s (nameOf_ok H), if_neg (show ¬ 220 ≤ kd by omega), if_pos (by decide)]
  unfold R_beginOne_39 R_beginOne_51 R_beginOne_65
  rw [if_pos a1, if_pos a1, if_pos a1, a2]
theorem beg_numx (H : RT kd am m) (hk : kd = 2) (ha : 9999 < am) : R_beginOne n m = some (2, m) := by
  have a1 := (tok_1 H).2 hk
  have a2 := (tok_am H hk).2.1 ha
  unfold R_beginOne
  rw [if_pos a1, if_neg (by omega)]
theorem beg_20 (H : RT kd am m) (hk : kd ≠ 2) : R_beginOne n m = R_beginOne_20 n m := by
  unfold R_beginOne
  rw [if_neg (fun h => hk ((tok_1 H).1 h))]
theorem beg_nam (H : RT kd am m) (hk : 220 ≤ kd) (hs : m.1 14 = 0 ∨ m.1 14 = 1) (ho : (m.1 14 = 0 ∧ kd - 220 ≤ 4) ∨ (m.1 14 = 1 ∧ kd - 220 ≠ 4)) : R_beginOne n m = R_beginOne_81 n m 1 (kd - 220) := by
  have a1 : ¬ m.1 9 = 1 := fun h => by have := (tok_1 H).1 h; omega
  rw [beg_20 H (by omega)]
  unfold R_beginOne_20
  rw [bb_s (nameOf_ok H), if_pos hk, if_neg (by omega), bb_s (isOf_ok hs (by omega)), if_pos ho, if_neg (by decide)]
  unfold R_beginOne_39 R_beginOne_51 R_beginOne_65
  rw [if_neg a1, if_neg (by omega), if_neg a1, if_neg a1]
theorem beg_namx (H : RT kd am m) (hk : 220 ≤ kd) (hs : m.1 14 = 0 ∨ m.1 14 = 1) (ho : ¬ ((m.1 14 = 0 ∧ kd - 220 ≤ 4) ∨ (m.1 14 = 1 ∧ kd - 220 ≠ 4))) : R_beginOne n m = some (5, m) := by
  rw [beg_20 H (by omega)]
  unfold R_beginOne_20
  rw [bb_s (nameOf_ok H), if_pos hk, if_neg (by omega), bb_s (isOf_ok hs (by omega)), if_neg ho, if_pos rfl]
theorem beg_39 (H : RT kd am m) (hk : kd ≠ 2) (hk2 : kd < 220) : R_beginOne n m = R_beginOne_39 n m (-1) := by
  rw [beg_20 H hk]
  unfold R_beginOne_20
  rw [bb_s (nameOf_ok H), if_neg (show ¬ 220 ≤ kd by omega), if_pos (by decide)]
theorem askAhead_ok (h : m.1 16 = (p : Int)) (hp : p ≤ 160) (hn : 200 ≤ n) : R_isAskAhead n m = some (bi (aA (m.2 15) p), m) := by
  unfold R_isAskAhead aA
  rw [bb_s (openNow_ok h hp hn)]
  by_cases c : opN (m.2 15) p = 41
  · have hp0 : 0 < p := by
      rcases Nat.eq_zero_or_pos p with e | e
      · rw [e] at c
        exact absurd c (by show ¬ (if (-1 : Int) < 0 then (-1 : Int) else _) = 41; rw [if_pos (by decide)]; decide)
      · exact e
    have e : ay_w ((p : Int) - 1) = ((p - 1 : Nat) : Int) := by rw [ay_wi (by omega) (by omega)]; omega
    rw [if_pos c, h, e, if_pos ⟨by omega, by omega⟩, Int.toNat_natCast]
    by_cases d : 40 ≤ m.2 15 (p - 1)
    · rw [if_pos d, decide_eq_true ⟨c, Or.inl d⟩]; rfl
    · rw [if_neg d, if_pos ⟨by omega, by omega⟩, b1_s rank_ok, b1_s (R_isIn_ok n _ 1 3)]
      by_cases e : 1 ≤ rk (m.2 15 (p - 1)) ∧ rk (m.2 15 (p - 1)) ≤ 3
      · rw [if_pos e, if_neg (by decide), decide_eq_true ⟨c, Or.inr e⟩]; rfl
      · rw [if_neg e, if_pos rfl, decide_eq_false (by intro h; rcases h.2 with h | h; exact d h; exact e h)]; rfl
  · rw [if_neg c, decide_eq_false (fun h => c h.1)]; rfl
theorem beg_op (H : RT kd am m) (hk : (kd = 40 ∧ op = 40) ∨ (kd = 45 ∧ op = 5) ∨ (kd = 211 ∧ op = 2) ∨ (kd = 212 ∧ op = 4) ∨ (kd = 213 ∧ op = 41)) : R_beginOne n m = R_opened n m op := by
  have a0 : ¬ m.1 9 = 1 := fun h => by have := (tok_1 H).1 h; omega
  rw [beg_39 H (by omega) (by omega)]
  unfold R_beginOne_39
  have s40 := tok_sg (x := 40) H (by decide) (by decide) (by decide)
  have s45 := tok_sg (x := 45) H (by decide) (by decide) (by decide)
  rw [if_neg a0, if_pos (by decide), bb_id, bb_id]
  rcases hk with ⟨h1, h2⟩ | ⟨h1, h2⟩ | ⟨h1, h2⟩ | ⟨h1, h2⟩ | ⟨h1, h2⟩
  · rw [if_pos (s40.2 h1), h2]
  · rw [if_neg (fun h => by have := s40.1 h; omega), if_pos (s45.2 h1), h2]
  · rw [if_neg (fun h => by have := s40.1 h; omega), if_neg (fun h => by have := s45.1 h; omega), b1_s w_11, bb_s (isw_y (j := 11) H (by decide) (by omega)), if_neg (by decide), bb_id, h2]
  · rw [if_neg (fun h => by have := s40.1 h; omega), if_neg (fun h => by have := s45.1 h; omega), b1_s w_11, bb_s (isw_n (j := 11) H (by decide) (by omega)), if_pos rfl, b1_s w_12, bb_s (isw_y (j := 12) H (by decide) (by omega)), if_neg (by decide), bb_id, h2]
  · rw [if_neg (fun h => by have := s40.1 h; omega), if_neg (fun h => by have := s45.1 h; omega), b1_s w_11, bb_s (isw_n (j := 11) H (by decide) (by omega)), if_pos rfl, b1_s w_12, bb_s (isw_n (j := 12) H (by decide) (by omega)), if_pos rfl, b1_s w_13, bb_s (isw_y (j := 13) H (by decide) (by omega)), if_neg (by decide), bb_id, h2]
theorem beg_rest (H : RT kd am m) (h1 : kd ≠ 2) (h2 : kd < 220) (h3 : kd ≠ 40) (h4 : kd ≠ 45) (h5 : kd ≠ 211) (h6 : kd ≠ 212) (h7 : kd ≠ 213) (h : m.1 16 = (p : Int)) (hp : p ≤ 160) (hn : 200 ≤ n) : R_beginOne n m = if kd = 219 ∧ aA (m.2 15) p = true then R_opened n m 20 else some (1, m) := by
  have a0 : ¬ m.1 9 = 1 := fun h => by have := (tok_1 H).1 h; omega
  rw [beg_39 H h1 h2]
  unfold R_beginOne_39
  have s40 := tok_sg (x := 40) H (by decide) (by decide) (by decide)
  have s45 := tok_sg (x := 45) H (by decide) (by decide) (by decide)
  rw [if_neg a0, if_pos (by decide), if_neg (fun h => h3 (s40.1 h)), if_neg (fun h => h4 (s45.1 h)), b1_s w_11, bb_s (isw_n (j := 11) H (by decide) (by omega)), if_pos rfl, b1_s w_12, bb_s (isw_n (j := 12) H (by decide) (by omega)), if_pos rfl, b1_s w_13, bb_s (isw_n (j := 13) H (by decide) (by omega)), if_pos rfl, b1_s w_19]
  by_cases c : kd = 219
  · rw [bb_s (isw_y (j := 19) H (by decide) (by omega)), if_neg (by decide), bb_s (askAhead_ok h hp hn)]
    by_cases d : aA (m.2 15) p = true
    · rw [d, if_neg (by decide), bb_id, if_pos ⟨c, rfl⟩]
    · have e : aA (m.2 15) p = false := by cases h : aA (m.2 15) p; rfl; exact absurd h d
      rw [e, if_pos (show bi false = 0 from rfl), if_neg (by intro h; cases h.2)]
  · rw [bb_s (isw_n (j := 19) H (by decide) (by omega)), if_pos rfl, if_neg (fun h => c h.1)]
theorem opened_x (h : m.1 17 = 8) : R_opened n m op = some (3, m) := by
  unfold R_opened
  rw [if_pos h]
theorem opened_ok (h16 : m.1 16 = (p : Int)) (hp : p < 160) (h17 : m.1 17 = (o : Int)) (ho : o < 8) (hx : R_nextToken n (pso p o m op) = some (0, m')) : R_opened n m op = some (0, m') := by
  unfold R_opened
  rw [h17, if_neg (by omega), h16, if_pos ⟨by omega, by omega⟩, wad1 (x := o) (by omega), wad1 (x := p) (by omega)]
  show bb (R_nextToken n (pso p o m op)) _ = _
  rw [bb_s hx]
theorem beg_opened (hw : m.1 18 = 0) (he : R_beginOne n m = some (0, m')) : R_summed_15 (n + 1) m = R_summed_15 n m' := by
  conv => lhs; unfold R_summed_15
  rw [if_pos hw, bb_s he, if_pos rfl]
/-- what stands behind one -/
theorem btw_4 (H : RT kd am m) (h : (kd = 43 ∧ x = 6) ∨ (kd = 45 ∧ x = 7) ∨ (kd = 42 ∧ x = 8) ∨ (kd = 47 ∧ x = 9)) : R_betweenOf n m = some (x, m) := by
  have s43 := tok_sg (x := 43) H (by decide) (by decide) (by decide)
  have s45 := tok_sg (x := 45) H (by decide) (by decide) (by decide)
  have s42 := tok_sg (x := 42) H (by decide) (by decide) (by decide)
  have s47 := tok_sg (x := 47) H (by decide) (by decide) (by decide)
  unfold R_betweenOf
  rcases h with ⟨h1, h2⟩ | ⟨h1, h2⟩ | ⟨h1, h2⟩ | ⟨h1, h2⟩
  · rw [if_pos (s43.2 h1), h2]
  · rw [if_neg (fun h => by have := s43.1 h; omega), if_pos (s45.2 h1), h2]
  · rw [if_neg (fun h => by have := s43.1 h; omega), if_neg (fun h => by have := s45.1 h; omega), if_pos (s42.2 h1), h2]
  · rw [if_neg (fun h => by have := s43.1 h; omega), if_neg (fun h => by have := s45.1 h; omega), if_neg (fun h => by have := s42.1 h; omega), if_pos (s47.2 h1), h2]
def cmpv (kd : Int) : Int := if kd = 60 then 10 else if kd = 160 then 11 else if kd = 62 then 12 else if kd = 162 then 13 else if kd = 61 then 14 else if kd = 35 then 15 else -1
theorem btw_r (H : RT kd am m) (h1 : kd ≠ 43) (h2 : kd ≠ 45) (h3 : kd ≠ 42) (h4 : kd ≠ 47) (h : m.1 16 = (p : Int)) (hp : p ≤ 160) (hn : 200 ≤ n) : R_betweenOf n m = some (if opN (m.2 15) p = 41 then (if cmA (m.2 15) p = true then (if kd = 218 then 21 else if kd = 217 then 22 else -1) else cmpv kd) else -1, m) := by
  have s43 := tok_sg (x := 43) H (by decide) (by decide) (by decide)
  have s45 := tok_sg (x := 45) H (by decide) (by decide) (by decide)
  have s42 := tok_sg (x := 42) H (by decide) (by decide) (by decide)
  have s47 := tok_sg (x := 47) H (by decide) (by decide) (by decide)
  unfold R_betweenOf
  rw [if_neg (fun h => h1 (s43.1 h)), if_neg (fun h => h2 (s45.1 h)), if_neg (fun h => h3 (s42.1 h)), if_neg (fun h => h4 (s47.1 h)), bb_s (openNow_ok h hp hn)]
  by_cases c : opN (m.2 15) p = 41
  · rw [if_pos c, if_pos c, bb_s (isCompared_ok h hp hn)]
    by_cases d : cmA (m.2 15) p = true
    · rw [d, if_neg (show ¬ bi true = 0 by decide), if_pos rfl, b1_s w_18]
      by_cases e : kd = 218
      · rw [bb_s (isw_y (j := 18) H (by decide) (by omega)), if_neg (by decide), if_pos e]
      · rw [bb_s (isw_n (j := 18) H (by decide) (by omega)), if_pos rfl, if_neg e, b1_s w_17]
        by_cases f : kd = 217
        · rw [bb_s (isw_y (j := 17) H (by decide) (by omega)), if_neg (by decide), if_pos f]
        · rw [bb_s (isw_n (j := 17) H (by decide) (by omega)), if_pos rfl, if_neg f]
    · have e : cmA (m.2 15) p = false := by cases h : cmA (m.2 15) p; rfl; exact absurd h d
      rw [e, if_pos (show bi false = 0 from rfl), if_neg (by decide), bb_s (compareOf_ok H)]
      rfl
  · rw [if_neg c, if_neg c]
theorem beh_op {lv : Int} (hw : m.1 18 = 1) (hb : R_betweenOf n m = some (op, m)) (ho : 0 ≤ op) (hlv : lv = if rk op = 4 then 5 else rk op) (hs : R_settle n m lv = some (0, m1)) (h16 : m1.1 16 = (p : Int)) (hp : p < 160) (hx : R_nextToken n (psh p m1 op) = some (0, m')) : R_summed_15 (n + 1) m = R_summed_15 n m' := by
  have e26 : R_behindOne_26 n m op lv = some (1, m') := by
    unfold R_behindOne_26
    rw [bb_s hs, h16, if_pos ⟨by omega, by omega⟩, wad1 (by omega)]
    show bb (R_nextToken n (psh p m1 op)) _ = _
    rw [bb_s hx]
  have e : R_behindOne n m = some (1, m') := by
    unfold R_behindOne
    rw [bb_s hb, if_neg (by omega), b1_s rank_ok]
    by_cases c : rk op = 4
    · rw [if_pos c]
      rw [if_pos c] at hlv
      rw [← hlv]; exact e26
    · rw [if_neg c, b1_s rank_ok]
      rw [if_neg c] at hlv
      rw [← hlv]; exact e26
  conv => lhs; unfold R_summed_15
  rw [hw, if_neg (by decide), bb_s e, if_neg (by decide)]
/-- what nothing can stand behind: a fault, or the end -/
theorem beh_n (hw : m.1 18 = 1) (hb : R_betweenOf n m = some (-1, m)) (h16 : m.1 16 = (p : Int)) (hp : p ≤ 160) (hn : 200 ≤ n) (hx : R_partOf n m (opN (m.2 15) p) = some (-1, m)) : R_summed_15 (n + 1) m = if opN (m.2 15) p < 0 then (bb (R_settle n m 1) fun v4 s4 => some (0, s4)) else some (1, m) := by
  have e : R_behindOne n m = some (0, m) := by
    unfold R_behindOne
    rw [bb_s hb, if_pos (by decide), bb_s (openNow_ok h16 hp hn), bb_s hx, if_neg (by decide)]
  unfold R_summed_15
  rw [hw, if_neg (by decide), bb_s e, if_pos rfl, bb_s (openNow_ok h16 hp hn)]
/-- the next part of what is begun -/
theorem beh_p {v3 : Int} (hw : m.1 18 = 1) (hb : R_betweenOf n m = some (-1, m)) (h16 : m.1 16 = (p : Int)) (hp : p ≤ 160) (hn : 200 ≤ n) (hx : R_partOf n m (opN (m.2 15) p) = some (v3, m)) (h3 : 0 < v3) (hs : R_settle n m 1 = some (0, m1)) (hx1 : R_nextToken n m1 = some (0, m')) (h16' : m'.1 16 = ((k + 1 : Nat) : Int)) (hk : k < 160) (hk2 : 40 ≤ m'.2 15 k) : R_summed_15 (n + 1) m = R_summed_15 n (bI (bA m' 15 (k : Int) v3) 18 0) := by
  have eo : opA (m'.2 15) (k + 1) = (k : Int) := if_pos hk2
  have e : R_behindOne n m = some (1, bI (bA m' 15 (k : Int) v3) 18 0) := by
    unfold R_behindOne
    rw [bb_s hb, if_pos (by decide), bb_s (openNow_ok h16 hp hn), bb_s hx, if_pos (by omega), bb_s hs, bb_s hx1, if_neg (by omega), bb_s (openAt_k (p := k + 1) h16' (by omega) hn), eo, if_pos ⟨by omega, by omega⟩]
  conv => lhs; unfold R_summed_15
  rw [hw, if_neg (by decide), bb_s e, if_neg (by decide)]
/-- what is begun is shut -/
theorem beh_c (hw : m.1 18 = 1) (hb : R_betweenOf n m = some (-1, m)) (h16 : m.1 16 = (p : Int)) (hp : p ≤ 160) (hn : 200 ≤ n) (hx : R_partOf n m (opN (m.2 15) p) = some (0, m)) (h43 : ¬ opN (m.2 15) p = 43) (hs : R_settle n m 1 = some (0, m1)) (hx1 : R_nextToken n m1 = some (0, m')) (h16' : m'.1 16 = ((k + 1 : Nat) : Int)) (hk : k < 160) (h17 : m'.1 17 = ((o + 1 : Nat) : Int)) (ho : o < 100) : R_summed_15 (n + 1) m = bb (R_settle_0 n (bI (bI m' 17 (o : Int)) 16 (k : Int)) 7) fun _ s => R_summed_15 n s := by
  have e1 : ay_w (((k + 1 : Nat) : Int) - 1) = (k : Int) := by rw [ay_wi (by omega) (by omega)]; omega
  have e2 : ay_w (((o + 1 : Nat) : Int) - 1) = (o : Int) := by rw [ay_wi (by omega) (by omega)]; omega
  have e : R_behindOne n m = R_behindOne_139 n (bI (bI m' 17 (o : Int)) 16 (k : Int)) := by
    unfold R_behindOne
    rw [bb_s hb, if_pos (by decide), bb_s (openNow_ok h16 hp hn), bb_s hx, if_pos (by decide), bb_s hs, bb_s hx1, if_pos (by decide), if_neg h43, h17, h16', e1, e2]
  conv => lhs; unfold R_summed_15
  rw [hw, if_neg (by decide), e]
  unfold R_behindOne_139
  exact bb_3
theorem beh_e (hw : m.1 18 = 1) (hb : R_betweenOf n m = some (-1, m)) (h16 : m.1 16 = (p : Int)) (hp : p ≤ 160) (hn : 200 ≤ n) (hx : R_partOf n m (opN (m.2 15) p) = some (0, m)) (h43 : opN (m.2 15) p = 43) (hs : R_settle n m 1 = some (0, m1)) (hx1 : R_nextToken n m1 = some (0, m')) (h16' : m'.1 16 = ((k + 1 : Nat) : Int)) (hk : k < 160) (h17 : m'.1 17 = ((o + 1 : Nat) : Int)) (ho : o < 100) (hT : m'.1 12 = ((729 * T : Nat) : Int)) (h4 : T < 4) (hu : m'.1 13 = (u : Int)) (h3 : u < 304) : R_summed_15 (n + 1) m = bb (R_settle_0 n (em T u (bI (bI m' 17 (o : Int)) 16 (k : Int)) 3 0) 7) fun _ s => R_summed_15 n s := by
  have e1 : ay_w (((k + 1 : Nat) : Int) - 1) = (k : Int) := by rw [ay_wi (by omega) (by omega)]; omega
  have e2 : ay_w (((o + 1 : Nat) : Int) - 1) = (o : Int) := by rw [ay_wi (by omega) (by omega)]; omega
  have e : R_behindOne n m = R_behindOne_139 n (em T u (bI (bI m' 17 (o : Int)) 16 (k : Int)) 3 0) := by
    unfold R_behindOne
    rw [bb_s hb, if_pos (by decide), bb_s (openNow_ok h16 hp hn), bb_s hx, if_pos (by decide), bb_s hs, bb_s hx1, if_pos (by decide), if_pos h43, h17, h16', e1, e2, bb_s (emit_ok (m := bI (bI m' 17 (o : Int)) 16 (k : Int)) hT h4 hu h3)]
  conv => lhs; unfold R_summed_15
  rw [hw, if_neg (by decide), e]
  unfold R_behindOne_139
  exact bb_3
theorem part_ok (H : RT kd am m) (h16 : m.1 16 = (p : Int)) (hp : p ≤ 160) (hn : 200 ≤ n) : R_partOf n m x = some (if x = 40 then (if kd = 41 then 0 else -1) else if x = 41 then (if kd = 214 ∧ cmA (m.2 15) p = true then 42 else -1) else if x = 42 then (if kd = 215 then 43 else -1) else if x = 43 then (if kd = 216 then 0 else -1) else -1, m) := by
  have s41 := tok_sg (x := 41) H (by decide) (by decide) (by decide)
  unfold R_partOf
  by_cases a : x = 40
  · rw [if_pos a, if_pos a]
    by_cases b : kd = 41
    · rw [if_pos (s41.2 b), if_pos b]
    · rw [if_neg (fun h => b (s41.1 h)), if_neg b]
  · rw [if_neg a, if_neg a]
    by_cases b : x = 41
    · rw [if_pos b, if_pos b, b1_s w_14]
      by_cases c : kd = 214
      · rw [bb_s (isw_y (j := 14) H (by decide) (by omega)), if_neg (by decide), bb_s (isCompared_ok h16 hp hn)]
        by_cases d : cmA (m.2 15) p = true
        · rw [d, if_neg (show ¬ bi true = 0 by decide), if_pos ⟨c, rfl⟩]
        · have e : cmA (m.2 15) p = false := by cases h : cmA (m.2 15) p; rfl; exact absurd h d
          rw [e, if_pos (show bi false = 0 from rfl), if_neg (by intro h; cases h.2)]
      · rw [bb_s (isw_n (j := 14) H (by decide) (by omega)), if_pos rfl, if_neg (fun h => c h.1)]
    · rw [if_neg b, if_neg b]
      by_cases c : x = 42
      · rw [if_pos c, if_pos c, b1_s w_15]
        by_cases d : kd = 215
        · rw [bb_s (isw_y (j := 15) H (by decide) (by omega)), if_neg (by decide), if_pos d]
        · rw [bb_s (isw_n (j := 15) H (by decide) (by omega)), if_pos rfl, if_neg d]
      · rw [if_neg c, if_neg c]
        by_cases d : x = 43
        · rw [if_pos d, if_pos d, b1_s w_16]
          by_cases e : kd = 216
          · rw [bb_s (isw_y (j := 16) H (by decide) (by omega)), if_neg (by decide), if_pos e]
          · rw [bb_s (isw_n (j := 16) H (by decide) (by omega)), if_pos rfl, if_neg e]
        · rw [if_neg d, if_neg d]
end
