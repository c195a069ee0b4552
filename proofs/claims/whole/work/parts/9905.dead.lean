/-! Reading laws: the reader's steps, and what it does behind a fault. -/
def FS (W : Nat) (s s' : bS) : Prop := (∀ k, k ≠ 8 → k ≠ 9 → k ≠ 11 → k ≠ 13 → k ≠ 14 → s'.1 k = s.1 k) ∧ (∀ j, j ≠ 4 → s'.2 j = s.2 j) ∧ (∀ k, k < W → s'.2 4 k = s.2 4 k) ∧ (W : Int) ≤ s.1 11 ∧ s.1 11 ≤ s'.1 11 ∧ s'.1 11 ≤ 600 ∧ (s'.1 13 = 0 → s.1 13 = 0 ∧ s'.1 14 = s.1 14)
def DD (K S A : Nat → Int) (N : Nat) (s : bS) : Prop := s.1 13 ≠ 0 ∧ (∃ t, CS K S A N s t) ∧ 0 ≤ s.1 11 ∧ s.1 11 ≤ 600
def DO (K S A : Nat → Int) (N W : Nat) (F : Option (Int × bS)) (s : bS) : Prop := ∃ s', F = some (0, s') ∧ DD K S A N s' ∧ FS W s s' ∧ s'.1 13 = s.1 13 ∧ s'.1 14 = s.1 14
/-- a fault is told -/
def rf (s : bS) (f p : Int) : bS := bI (bI s 13 f) 14 p
/-- a piece of code is written -/
def ec (i : Nat) (s : bS) (a b : Int) : bS := bI (bA (bA s 4 (i : Int) a) 4 ((i + 1 : Nat) : Int) b) 11 ((i + 2 : Nat) : Int)
section
variable {q s s' s2 m m' : bS} {K S A : Nat → Int} {L n i j d k t N W W' l : Nat} {x y a b f v : Int} {F : Option (Int × bS)} {G : Int → bS → Option (Int × bS)} {r : Nat → bS → Int → Option (Int × bS)}
theorem FS.rf' (h : (W : Int) ≤ s.1 11) (h' : s.1 11 ≤ 600) : FS W s s := ⟨fun _ _ _ _ _ _ => rfl, fun _ _ => rfl, fun _ _ => rfl, h, Int.le_refl _, h', fun h => ⟨h, rfl⟩⟩
theorem FS.tr (h1 : FS W s s') (h2 : FS W s' s2) : FS W s s2 := ⟨fun k a b c d e => (h2.1 k a b c d e).trans (h1.1 k a b c d e), fun j h => (h2.2.1 j h).trans (h1.2.1 j h), fun k h => (h2.2.2.1 k h).trans (h1.2.2.1 k h), h1.2.2.2.1, by have := h1.2.2.2.2.1; have := h2.2.2.2.2.1; omega, h2.2.2.2.2.2.1, fun h => ⟨(h1.2.2.2.2.2.2 (h2.2.2.2.2.2.2 h).1).1, (h2.2.2.2.2.2.2 h).2.trans (h1.2.2.2.2.2.2 (h2.2.2.2.2.2.2 h).1).2⟩⟩
theorem FS.le (h : FS W s s') (hw : W' ≤ W) : FS W' s s' := ⟨h.1, h.2.1, fun k hk => h.2.2.1 k (by omega), by have := h.2.2.2.1; omega, h.2.2.2.2⟩
theorem CS_c (C : CS K S A N s t) (h7 : s'.1 7 = s.1 7) (h8 : s'.1 8 = s.1 8) (h9 : s'.1 9 = s.1 9) (h1 : s'.2 1 = s.2 1) (h2 : s'.2 2 = s.2 2) (h3 : s'.2 3 = s.2 3) : CS K S A N s' t := by
  unfold CS
  rw [h7, h8, h9, h1, h2, h3]
  exact C
theorem DO_r (h : DD K S A N s) (hw : (W : Int) ≤ s.1 11) : DO K S A N W (some (0, s)) s := ⟨s, rfl, h, FS.rf' hw h.2.2.2, rfl, rfl⟩
theorem DO_b (h : DO K S A N W F s) (g : ∀ s', DD K S A N s' → (W : Int) ≤ s'.1 11 → DO K S A N W (G 0 s') s') : DO K S A N W (bb F G) s := by
  obtain ⟨s', h1, h2, h3, h4, h5⟩ := h
  obtain ⟨s'', g1, g2, g3, g4, g5⟩ := g s' h2 (by have := h3.2.2.2; omega)
  exact ⟨s'', by rw [bb_s h1]; exact g1, g2, h3.tr g3, g4.trans h4, g5.trans h5⟩
theorem FS_89 (hw : (W : Int) ≤ s.1 11) (h6 : s.1 11 ≤ 600) : FS W s (bI (bI s 8 x) 9 y) := ⟨fun k a b _ _ _ => by rw [bI_1 b, bI_1 a], fun _ _ => rfl, fun _ _ => rfl, hw, Int.le_refl _, h6, fun h => ⟨h, rfl⟩⟩
theorem dd_adv (h : DD K S A N s) (hw : (W : Int) ≤ s.1 11) : DO K S A N W (D_advance q n s) s := by
  obtain ⟨h1, ⟨t, C⟩, h2, h3⟩ := h
  by_cases c : t < N
  · obtain ⟨e, C'⟩ := adv (q := q) (n := n) C c
    exact ⟨_, e, ⟨h1, ⟨_, C'⟩, h2, h3⟩, FS_89 hw h3, rfl, rfl⟩
  · obtain ⟨⟨c1, c2, c3⟩, ⟨c4, c5, c6⟩, c7, c8⟩ := C
    refine ⟨bI s 9 (K t), ?_, ⟨h1, ⟨t, ⟨c1, c2, rfl⟩, ⟨c4, c5, c6⟩, c7, c8⟩, h2, h3⟩, ⟨fun k _ b _ _ _ => bI_1 b, fun _ _ => rfl, fun _ _ => rfl, hw, Int.le_refl _, h3, fun h => ⟨h, rfl⟩⟩, rfl, rfl⟩
    unfold D_advance
    rw [c1, c2, if_pos (by omega), if_pos ⟨by omega, by omega⟩, Int.toNat_natCast, c4]
theorem dd_ref (h : s.1 13 ≠ 0) : D_refuse q n s f = some (0, s) := by
  unfold D_refuse
  rw [if_neg h]
theorem dd_exp (h : s.1 13 ≠ 0) : D_expect q n s f = some (0, s) := by
  unfold D_expect D_expect_22
  rw [if_neg h, bb_s (dd_ref h)]
theorem dd_num (h : s.1 13 ≠ 0) : D_expectNumber q n s f a b = some (0, s) := by
  unfold D_expectNumber D_expectNumber_15
  rw [if_neg h, bb_s (dd_ref h)]
theorem emitc (hi : s.1 11 = (i : Int)) (h : i + 2 ≤ 600) : D_emit q n s a b = some (0, ec i s a b) := by
  unfold D_emit
  have e2 : ay_w ((i : Int) + 2) = ((i + 2 : Nat) : Int) := wadd (y := 2) (by omega)
  rw [hi, wad1 (by omega), e2, if_neg (by omega), if_pos ⟨by omega, by omega⟩, if_pos ⟨by omega, by omega⟩]
  rfl
theorem ec_4 (hi : i < 600) : (ec i s a b).2 4 k = if k = i + 1 then b else if k = i then a else s.2 4 k := by
  show ay_u (ay_u (s.2 4) (i : Int).toNat a) ((i + 1 : Nat) : Int).toNat b k = _
  rw [Int.toNat_natCast, Int.toNat_natCast]
  by_cases c : k = i + 1
  · rw [if_pos c, c]; exact ay_ue
  · rw [if_neg c, ay_ux c]
    by_cases d : k = i
    · rw [if_pos d, d]; exact ay_ue
    · rw [if_neg d, ay_ux d]
theorem ec_j (h : j ≠ 4) : (ec i s a b).2 j = s.2 j := by
  show (bA (bA s 4 _ a) 4 _ b).2 j = _
  rw [bA_2 h, bA_2 h]
theorem ec_1 (h : j ≠ 11) : (ec i s a b).1 j = s.1 j := bI_1 h
theorem FS_ec (hi : s.1 11 = (i : Int)) (h : i + 2 ≤ 600) (hw : W ≤ i) : FS W s (ec i s a b) := ⟨fun k _ _ c _ _ => ec_1 c, fun j h => ec_j h, fun k hk => by rw [ec_4 (by omega), if_neg (by omega), if_neg (by omega)], by omega, by rw [hi]; show (i : Int) ≤ ((i + 2 : Nat) : Int); omega, by show ((i + 2 : Nat) : Int) ≤ 600; omega, fun h => ⟨h, rfl⟩⟩
theorem CS_ec (C : CS K S A N s t) : CS K S A N (ec i s a b) t := CS_c C rfl rfl rfl (ec_j (by decide)) (ec_j (by decide)) (ec_j (by decide))
theorem dd_emit (h : DD K S A N s) (hw : (W : Int) ≤ s.1 11) : DO K S A N W (D_emit q n s a b) s := by
  obtain ⟨h1, ⟨t, C⟩, h2, h3⟩ := h
  obtain ⟨i, hi⟩ : ∃ i : Nat, s.1 11 = (i : Int) := ⟨(s.1 11).toNat, by omega⟩
  by_cases c : i + 2 ≤ 600
  · exact ⟨_, emitc hi c, ⟨h1, ⟨t, CS_ec C⟩, by show (0 : Int) ≤ ((i + 2 : Nat) : Int); omega, by show ((i + 2 : Nat) : Int) ≤ 600; omega⟩, FS_ec hi c (by omega), rfl, rfl⟩
  · refine ⟨s, ?_, ⟨h1, ⟨t, C⟩, h2, h3⟩, FS.rf' hw h3, rfl, rfl⟩
    unfold D_emit
    rw [hi, wad1 (by omega), if_pos (by omega)]
theorem leadc (hi : 0 ≤ i) (h : i + 1 < 600) : D_lead q n s (i : Int) = some (0, bA s 4 ((i + 1 : Nat) : Int) (s.1 11)) := by
  unfold D_lead
  rw [wad1 (by omega), if_neg (by omega), if_neg (by omega), if_pos ⟨by omega, by omega⟩]
theorem FS_lead (h3 : s.1 11 ≤ 600) (hw : W ≤ i) (hw' : (W : Int) ≤ s.1 11) (hi : i < 1000) : FS W s (bA s 4 ((i + 1 : Nat) : Int) x) := ⟨fun _ _ _ _ _ _ => rfl, fun j h => bA_2 h, fun k hk => by rw [bA_e (by omega), if_neg (by omega)], hw', Int.le_refl _, h3, fun h => ⟨h, rfl⟩⟩
theorem dd_lead (h : DD K S A N s) (hw : (W : Int) ≤ s.1 11) (hx : (W : Int) ≤ x) (hx2 : x ≤ 600) : DO K S A N W (D_lead q n s x) s := by
  have hD := h
  obtain ⟨h1, ⟨t, C⟩, h2, h3⟩ := h
  obtain ⟨i, hi⟩ : ∃ i : Nat, x = (i : Int) := ⟨x.toNat, by omega⟩
  subst hi
  by_cases c : i + 1 < 600
  · exact ⟨_, leadc (Nat.zero_le i) c, ⟨h1, ⟨t, CS_c C rfl rfl rfl (bA_2 (by decide)) (bA_2 (by decide)) (bA_2 (by decide))⟩, h2, h3⟩, FS_lead h3 (by omega) hw (by omega), rfl, rfl⟩
  · refine ⟨s, ?_, hD, FS.rf' hw h3, rfl, rfl⟩
    unfold D_lead
    rw [wad1 (by omega), if_neg (by omega), if_pos (by omega)]
theorem dd_103 (h : DD K S A N s) (hw : (W : Int) ≤ s.1 11) : DO K S A N W (D_readLeaf_103 q n s) s := DO_b (dd_adv h hw) fun s h hw => DO_r h hw
theorem dd_97 (h : DD K S A N s) (hw : (W : Int) ≤ s.1 11) : DO K S A N W (D_readLeaf_97 q n s x) s := DO_b (dd_emit h hw) fun s h hw => dd_103 h hw
theorem dd_87 (h : DD K S A N s) (hw : (W : Int) ≤ s.1 11) : DO K S A N W (D_readLeaf_87 q n s x y) s := by
  unfold D_readLeaf_87
  by_cases c : y = 0
  · rw [if_pos c]; exact dd_97 h hw
  · rw [if_neg c, bb_s (dd_ref h.1)]; exact dd_97 h hw
theorem dd_37 (h : DD K S A N s) (hw : (W : Int) ≤ s.1 11) : DO K S A N W (D_readLeaf_37 q n s) s := by
  obtain ⟨t, ⟨c1, c2, c3⟩, _, c7, c8⟩ := h.2.1
  unfold D_readLeaf_37
  rw [c2, if_pos ⟨by omega, by omega⟩]
  exact DO_b (dd_emit h hw) fun s h hw => dd_103 h hw
theorem dd_leaf (h : DD K S A N s) (hw : (W : Int) ≤ s.1 11) : DO K S A N W (D_readLeaf q n s) s := by
  obtain ⟨t, ⟨c1, c2, c3⟩, _, c7, c8⟩ := h.2.1
  unfold D_readLeaf
  by_cases c : s.1 9 = 2
  · rw [if_pos c, c2, if_pos ⟨by omega, by omega⟩]
    by_cases d : s.2 3 (t : Int).toNat ≤ 9999
    · rw [if_pos d]; exact dd_37 h hw
    · rw [if_neg d, bb_s (dd_ref h.1)]; exact dd_37 h hw
  · rw [if_neg c]
    by_cases d : s.1 10 = 200
    · rw [if_pos d]
      by_cases e : ay_w (s.1 9 - 220) ≤ 4
      · rw [if_pos e]; exact dd_87 h hw
      · rw [if_neg e]; exact dd_87 h hw
    · rw [if_neg d]
      by_cases e : ay_w (s.1 9 - 220) = 4
      · rw [if_pos e]; exact dd_87 h hw
      · rw [if_neg e]; exact dd_87 h hw
theorem dd_one (h : DD K S A N s) (hw : (W : Int) ≤ s.1 11) : DO K S A N W (D_readOne q r n s x) s := by
  have e80 : ∀ l1 l2, D_readOne_80 q r n s l1 l2 = some (0, s) := fun l1 l2 => by
    unfold D_readOne_80
    rw [if_neg h.1]
  have e69 : ∀ l1 l2, DO K S A N W (D_readOne_69 q r n s l1 l2) s := fun l1 l2 => by
    unfold D_readOne_69
    by_cases c : l1 < 8
    · rw [if_pos c, e80]; exact DO_r h hw
    · rw [if_neg c, bb_s (dd_ref h.1), e80]; exact DO_r h hw
  have e18 : DO K S A N W (D_readOne_18 q r n s) s := DO_b (dd_leaf h hw) fun s h hw => DO_r h hw
  unfold D_readOne
  by_cases c1 : s.1 9 = 2
  · rw [if_pos c1]; exact e18
  · rw [if_neg c1]
    by_cases c2 : s.1 9 < 220
    · rw [if_pos c2]
      by_cases c3 : s.1 9 = 40
      · rw [if_pos c3]; exact e69 _ _
      · rw [if_neg c3]
        by_cases c4 : s.1 9 = 45
        · rw [if_pos c4]; exact e69 _ _
        · rw [if_neg c4]
          by_cases c5 : s.1 9 = 211
          · rw [if_pos c5]; exact e69 _ _
          · rw [if_neg c5]
            by_cases c6 : s.1 9 = 212
            · rw [if_pos c6]; exact e69 _ _
            · rw [if_neg c6]
              by_cases c7 : s.1 9 = 213
              · rw [if_pos c7]; exact e69 _ _
              · rw [if_neg c7, bb_s (dd_ref h.1), e80]; exact DO_r h hw
    · rw [if_neg c2]; exact e18
theorem dd_p7 (h : DD K S A N s) (hw : (W : Int) ≤ s.1 11) : DO K S A N W (D_readProduct_7 q r (n + 1) s x y) s := by
  unfold D_readProduct_7
  by_cases c : 300 ≤ y
  · rw [if_pos c]; exact DO_r h hw
  · rw [if_neg c, if_neg h.1]; exact DO_r h hw
theorem dd_prod (h : DD K S A N s) (hw : (W : Int) ≤ s.1 11) : DO K S A N W (D_readProduct q r (n + 1) s x) s := DO_b (dd_one h hw) fun s h hw => dd_p7 h hw
theorem dd_s7 (h : DD K S A N s) (hw : (W : Int) ≤ s.1 11) : DO K S A N W (D_readSum_7 q r (n + 1) s x y) s := by
  unfold D_readSum_7
  by_cases c : 300 ≤ y
  · rw [if_pos c]; exact DO_r h hw
  · rw [if_neg c, if_neg h.1]; exact DO_r h hw
theorem dd_sum (h : DD K S A N s) (hw : (W : Int) ≤ s.1 11) : DO K S A N W (D_readSum q r (n + 1) s x) s := DO_b (dd_prod h hw) fun s h hw => dd_s7 h hw
theorem rel_ok : ∃ v, D_relation q n s = some (v, s) := by
  unfold D_relation
  by_cases c1 : s.1 9 = 35
  · exact ⟨_, if_pos c1⟩
  · rw [if_neg c1]
    by_cases c2 : s.1 9 = 60
    · exact ⟨_, if_pos c2⟩
    · rw [if_neg c2]
      by_cases c3 : s.1 9 = 61
      · exact ⟨_, if_pos c3⟩
      · rw [if_neg c3]
        by_cases c4 : s.1 9 = 62
        · exact ⟨_, if_pos c4⟩
        · rw [if_neg c4]
          by_cases c5 : s.1 9 = 160
          · exact ⟨_, if_pos c5⟩
          · rw [if_neg c5]
            by_cases c6 : s.1 9 = 162
            · exact ⟨_, if_pos c6⟩
            · exact ⟨_, if_neg c6⟩
theorem dd_ask (hl : l ≤ 8) (hr : l < 8 → ∀ (s : bS) (W : Nat), DD K S A N s → (W : Int) ≤ s.1 11 → DO K S A N W (r 3 s ((l + 1 : Nat) : Int)) s) (h : DD K S A N s) (hw : (W : Int) ≤ s.1 11) : DO K S A N W (D_readAsk q r (n + 1) s (l : Int)) s := by
  unfold D_readAsk
  by_cases c : s.1 9 = 219
  · rw [if_pos c]
    by_cases d : l < 8
    · rw [if_pos (by omega), wad1 (by omega)]
      exact DO_b (dd_adv h hw) fun s h hw => DO_b (hr d s W h hw) fun s h hw => DO_b (dd_emit h hw) fun s h hw => DO_r h hw
    · rw [if_neg (by omega), bb_s (dd_ref h.1)]; exact DO_r h hw
  · rw [if_neg c]
    refine DO_b (dd_sum h hw) fun s h hw => ?_
    obtain ⟨v, hv⟩ := rel_ok (q := q) (n := n + 1) (s := s)
    rw [bb_s hv]
    by_cases d : v = -1
    · rw [if_pos d, bb_s (dd_ref h.1)]; exact DO_r h hw
    · rw [if_neg d]
      exact DO_b (dd_adv h hw) fun s h hw => DO_b (dd_sum h hw) fun s h hw => DO_b (dd_emit h hw) fun s h hw => DO_r h hw
theorem dd_b7 (h : DD K S A N s) (hw : (W : Int) ≤ s.1 11) : DO K S A N W (D_readBoth_7 q r (n + 1) s x y) s := by
  unfold D_readBoth_7
  by_cases c : 300 ≤ y
  · rw [if_pos c]; exact DO_r h hw
  · rw [if_neg c, if_neg h.1]; exact DO_r h hw
theorem dd_e7 (h : DD K S A N s) (hw : (W : Int) ≤ s.1 11) : DO K S A N W (D_readEither_7 q r (n + 1) s x y) s := by
  unfold D_readEither_7
  by_cases c : 300 ≤ y
  · rw [if_pos c]; exact DO_r h hw
  · rw [if_neg c, if_neg h.1]; exact DO_r h hw
theorem dd_both (hl : l ≤ 8) (hr : l < 8 → ∀ (s : bS) (W : Nat), DD K S A N s → (W : Int) ≤ s.1 11 → DO K S A N W (r 3 s ((l + 1 : Nat) : Int)) s) (h : DD K S A N s) (hw : (W : Int) ≤ s.1 11) : DO K S A N W (D_readBoth q r (n + 1) s (l : Int)) s := DO_b (dd_ask hl hr h hw) fun s h hw => dd_b7 h hw
theorem dd_either (hl : l ≤ 8) (hr : l < 8 → ∀ (s : bS) (W : Nat), DD K S A N s → (W : Int) ≤ s.1 11 → DO K S A N W (r 3 s ((l + 1 : Nat) : Int)) s) (h : DD K S A N s) (hw : (W : Int) ≤ s.1 11) : DO K S A N W (D_readEither q r (n + 1) s (l : Int)) s := DO_b (dd_both hl hr h hw) fun s h hw => dd_e7 h hw
/-- behind a fault in a choice: from each of its places on -/
theorem dd_c5 {z y : Int} (h : DD K S A N s) (hw : (W : Int) ≤ s.1 11) (hy : (W : Int) ≤ y) (hy2 : y ≤ 600) : DO K S A N W (bb (D_expect q n s 216) fun v9 s9 => (bb (D_lead q n s9 y) fun v10 s10 => some (0, s10))) s := by
  rw [bb_s (dd_exp h.1)]
  exact DO_b (dd_lead h hw hy hy2) fun s h hw => DO_r h hw
theorem dd_c4 {z : Int} (h : DD K S A N s) (hw : (W : Int) ≤ s.1 11) (hz : (W : Int) ≤ z) (hz2 : z ≤ 600) : DO K S A N W (bb (D_expect q (n + 1) s 215) fun v5 s5 => (bb (D_emit q (n + 1) s5 2 0) fun v6 s6 => (bb (D_lead q (n + 1) s6 z) fun v7 s7 => (bb (D_readSum q r (n + 1) s7 x) fun v8 s8 => (bb (D_expect q (n + 1) s8 216) fun v9 s9 => (bb (D_lead q (n + 1) s9 (s5.1 11)) fun v10 s10 => some (0, s10))))))) s := by
  rw [bb_s (dd_exp h.1)]
  exact DO_b (dd_emit h hw) fun s6 h6 hw6 => DO_b (dd_lead h6 hw6 hz hz2) fun s7 h7 hw7 => DO_b (dd_sum h7 hw7) fun s8 h8 hw8 => dd_c5 (z := 0) h8 hw8 hw h.2.2.2
theorem dd_c2 (h : DD K S A N s) (hw : (W : Int) ≤ s.1 11) : DO K S A N W (bb (D_expect q (n + 1) s 214) fun v2 s2 => (bb (D_emit q (n + 1) s2 3 0) fun v3 s3 => (bb (D_readSum q r (n + 1) s3 x) fun v4 s4 => (bb (D_expect q (n + 1) s4 215) fun v5 s5 => (bb (D_emit q (n + 1) s5 2 0) fun v6 s6 => (bb (D_lead q (n + 1) s6 (s2.1 11)) fun v7 s7 => (bb (D_readSum q r (n + 1) s7 x) fun v8 s8 => (bb (D_expect q (n + 1) s8 216) fun v9 s9 => (bb (D_lead q (n + 1) s9 (s5.1 11)) fun v10 s10 => some (0, s10)))))))))) s := by
  rw [bb_s (dd_exp h.1)]
  exact DO_b (dd_emit h hw) fun s3 h3 hw3 => DO_b (dd_sum h3 hw3) fun s4 h4 hw4 => dd_c4 h4 hw4 hw h.2.2.2
theorem dd_choice (hl : l ≤ 8) (hr : l < 8 → ∀ (s : bS) (W : Nat), DD K S A N s → (W : Int) ≤ s.1 11 → DO K S A N W (r 3 s ((l + 1 : Nat) : Int)) s) (h : DD K S A N s) (hw : (W : Int) ≤ s.1 11) : DO K S A N W (D_readChoice q r (n + 1) s (l : Int)) s := DO_b (dd_either hl hr h hw) fun s h hw => dd_c2 h hw
theorem dd_rec3 : ∀ (d l : Nat) (s : bS) (W : Nat), l ≤ 8 → 9 ≤ d + l → DD K S A N s → (W : Int) ≤ s.1 11 → DO K S A N W (D_rec q (n + 1) d 3 s (l : Int)) s
  | 0, l, s, W, h1, h2, _, _ => by omega
  | d + 1, l, s, W, h1, h2, h, hw => dd_ask (r := D_rec q (n + 1) d) h1 (fun hl s W h hw => dd_rec3 d (l + 1) s W (by omega) (by omega) h hw) h hw
/-- faults -/
theorem refuse_ok (C : CS K S A N s t) (h : s.1 13 = 0) : D_refuse q n s f = some (0, rf s f (S t)) := by
  obtain ⟨⟨c1, c2, c3⟩, ⟨c4, c5, c6⟩, c7, c8⟩ := C
  unfold D_refuse rf
  rw [if_pos h, c2, if_pos ⟨by omega, by omega⟩, Int.toNat_natCast, c5]
theorem rf_CS (C : CS K S A N s t) : CS K S A N (rf s f x) t := C
theorem rf_FS (hf : f ≠ 0) (hw : (W : Int) ≤ s.1 11) (h6 : s.1 11 ≤ 600) : FS W s (rf s f x) := ⟨fun k _ _ _ a b => by unfold rf; rw [bI_1 b, bI_1 a], fun _ _ => rfl, fun _ _ => rfl, hw, Int.le_refl _, h6, fun h => (hf h).elim⟩
theorem rf_DD (C : CS K S A N s t) (hf : f ≠ 0) (h0 : 0 ≤ s.1 11) (h6 : s.1 11 ≤ 600) : DD K S A N (rf s f x) := ⟨hf, ⟨t, rf_CS C⟩, h0, h6⟩
theorem exp_n (C : CS K S A N s t) (h : s.1 13 = 0) (hk : ¬ K t = x) : D_expect q n s x = some (0, rf s 1 (S t)) := by
  unfold D_expect D_expect_22
  rw [if_pos h, C.1.2.2, if_neg hk, bb_s (refuse_ok C h)]
theorem exp_y (C : CS K S A N s t) (h : s.1 13 = 0) (hk : K t = x) (ht : t < N) : D_expect q n s x = some (0, bI (bI s 8 ((t + 1 : Nat) : Int)) 9 (K (t + 1))) := by
  unfold D_expect
  rw [if_pos h, C.1.2.2, if_pos hk, bb_s (adv C ht).1]
end
