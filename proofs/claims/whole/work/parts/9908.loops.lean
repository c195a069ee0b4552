/-! Reading laws: products, sums, asks. -/
/-- one was read -/
def S1 (ow : Nat → Prop) (q : bS) (L : Nat) (K S A : Nat → Int) (N : Nat) (s m s' m' : bS) (t t' p o i i' u u' T dep : Nat) : Prop := t < t' ∧ STT ow q L K S A N s' m' t' p o i' u' T ∧ m'.1 18 = 1 ∧ GO1 N t t' m m' ∧ FR m m' ∧ (∀ k, k < p → m'.2 15 k = m.2 15 k) ∧ FS i s s' ∧ (i' + 2 * t ≤ i + 2 * t' ∧ u' + t ≤ u + t') ∧ SN ow (s'.2 4) i i' (RC T m') u u' dep
def P1 (ow : Nat → Prop) (q : bS) (L : Nat) (K S A : Nat → Int) (N : Nat) (F : bS → Option (Int × bS)) (o dep : Nat) : Prop := ∀ (s m : bS) (t p i u T : Nat), STT ow q L K S A N s m t p o i u T → m.1 18 = 0 → p ≤ 6 * o + 5 → (K t = 219 → aA (m.2 15) p = false) → FA K S A N (F s) s m t i ∨ ∃ (s' m' : bS) (t' i' u' : Nat), F s = some (0, s') ∧ S1 ow q L K S A N s m s' m' t t' p o i i' u u' T dep
def QT (_ : Int) : Prop := True
def QP (k : Int) : Prop := k ≠ 42 ∧ k ≠ 47
def QS (k : Int) : Prop := k ≠ 42 ∧ k ≠ 47 ∧ k ≠ 43 ∧ k ≠ 45
def QB (k : Int) : Prop := QS k ∧ k ≠ 218
def QE (k : Int) : Prop := QS k ∧ k ≠ 218 ∧ k ≠ 217
section
variable {ow : Nat → Prop} {q s s' s2 s3 m m' m1 m2 m3 : bS} {f g K S A C R : Nat → Int} {L n i i' j d k t t' t2 N p u u' T o c c' pb pb' dep dep' dep2 W : Nat} {x y kd am v l op r r' rb rb' lv : Int} {ak ak' ak2 : Bool} {F : Option (Int × bS)} {F' G : bS → Option (Int × bS)} {Q Q' : Int → Prop} {rc : Nat → bS → Int → Option (Int × bS)}
theorem SU.le (h : SU ow q L K S A N r ak s m s' m' m1 t t' p o i i' u u' T dep c) (hr : r' ≤ r) (hd : dep ≤ dep') : SU ow q L K S A N r' ak s m s' m' m1 t t' p o i i' u u' T dep' c := by
  obtain ⟨a1, a2, a3, a4, a5, a6, a7, a8, a9, a10, a11, a12, a13, a14, a15⟩ := h
  exact ⟨a1, a2, a3, a4, a5, a6.le hr, a7, a8, a9, a10, a11, a12, a13, a14, Sem_c a15 (fun _ _ _ => rfl) (fun _ _ _ => rfl) hd⟩
theorem P1_PG (h : P1 ow q L K S A N F' o dep) : PG ow q L K S A N F' o (6 * o + 5) 6 r false dep QT := fun s m t p i u T hs h18 hp hrk h219 _ => by
  rcases h s m t p i u T hs h18 hp (h219 rfl) with h | ⟨s', m', t', i', u', x1, x2, x3, x4, x5, x6, x7, x8, x9, x10⟩
  · exact Or.inl h
  · have e16 := x3.2.2.2.2.1.1
    have hN := x3.1.2.2
    have hpp : p ≤ 60 := by have := hs.2.2.2.2.1.2.2; omega
    refine Or.inr ⟨s', m', m', t', i', u', 0, x1, trivial, x2, x3, x4, fun n hn => ?_, SR.rf', PEND.z, ⟨by rw [e16]; rfl, by omega⟩, x6, x6, x7, ?_, ?_, x8, x9, ⟨fun _ => x10, fun h => by cases h⟩⟩
    · obtain ⟨n1, n2, g1, g2, g3, g4⟩ := x5 n hn
      obtain ⟨n3, hn3⟩ : ∃ n3, n2 = n3 + 1 := ⟨n2 - 1, by omega⟩
      subst hn3
      refine ⟨n1, ?_, g2, g3⟩
      rw [g1, bb_s (stl0 e16 (by omega) (by
        by_cases c0 : p = 0
        · exact Or.inl c0
        · refine Or.inr ?_
          rw [x7 (p - 1) (by omega)]
          rcases hrk with h | h
          · omega
          · omega))]
    · rw [Nat.add_zero]; exact opA_c x7
    · rw [Nat.add_zero, if_neg (by decide)]; exact cmA_c x7
theorem SU_kind (h : SU ow q L K S A N r ak s m s' m' m1 t t' p o i i' u u' T dep c) : s'.1 9 = K t' ∧ s'.1 13 = 0 ∧ t' ≤ N ∧ N ≤ 300 ∧ t < t' ∧ MS q L K S A N m' t' ∧ m'.1 16 = ((p + c : Nat) : Int) ∧ p + c ≤ 60 ∧ m'.1 18 = 1 := ⟨h.2.1.1.1.2.2, h.2.1.2.2.1.1, h.2.1.1.2.2.1, h.2.1.1.2.2.2, h.1, STT_MS h.2.1 h.2.2.2.2.1, h.2.2.2.2.2.2.1.1, h.2.2.2.2.2.2.1.2, (h.2.2.2.2.1.1 18 (by decide) (by decide) (by decide)).symm.trans h.2.2.1⟩
theorem SU_opN (h : SU ow q L K S A N r ak s m s' m' m1 t t' p o i i' u u' T dep c) : opN (m'.2 15) (p + c) = opN (m.2 15) p := opN_a h.2.2.2.2.2.2.2.2.2.2.1 h.2.2.2.2.2.2.2.2.2.1
theorem SU_cmA (h : SU ow q L K S A N r ak s m s' m' m1 t t' p o i i' u u' T dep c) : cmA (m'.2 15) (p + c) = (if ak = true then true else cmA (m.2 15) p) := h.2.2.2.2.2.2.2.2.2.2.2.1
theorem btw_q (H : RT kd am m) (hq : QS kd) (h : m.1 16 = (p : Int)) (hp : p ≤ 160) (hn : 200 ≤ n) : R_betweenOf n m = some (if opN (m.2 15) p = 41 then (if cmA (m.2 15) p = true then (if kd = 218 then 21 else if kd = 217 then 22 else -1) else cmpv kd) else -1, m) := btw_r H hq.2.2.1 hq.2.2.2 hq.1 hq.2.1 h hp hn
/-- products -/
theorem loop_P (B : BY q L) (H : TB (q.2 0) L N K S A) (HP : ∀ n, 1 ≤ n → P1 ow q L K S A N (fun s => D_readOne q rc n s (o : Int)) o (42 - 5 * o)) (ho8 : o ≤ 8) (hpb : p ≤ 6 * o + 4) (hst : p = 0 ∨ rk (m.2 15 (p - 1)) ≤ 5) : ∀ (k n2 : Nat) (s' m' m1 : bS) (t' i' u' c l2 : Nat), N - t' < k → k + 1 ≤ n2 → l2 < t' → QT (K t') → SU ow q L K S A N 6 false s m s' m' m1 t t' p o i i' u u' T (43 - 5 * o) c → FA K S A N (D_readProduct_7 q rc n2 s' (o : Int) (l2 : Int)) s m t i ∨ ∃ (s2 m' m1 : bS) (t' i' u' c : Nat), D_readProduct_7 q rc n2 s' (o : Int) (l2 : Int) = some (0, s2) ∧ QP (K t') ∧ SU ow q L K S A N 6 false s m s2 m' m1 t t' p o i i' u u' T (43 - 5 * o) c
  | 0, _, _, _, _, _, _, _, _, _, h, _, _, _, _ => by omega
  | k + 1, 0, _, _, _, _, _, _, _, _, _, h, _, _, _ => by omega
  | k + 1, n2 + 1, s', m', m1, t', i', u', c, l2, h1, h2, h3, hq, hSU => by
    obtain ⟨k1, k2, k3, k4, k5, k6, k7, k8, k9⟩ := SU_kind hSU
    have hRT := k6.2.2.1
    have ih := fun (s' m' m1 : bS) (t' i' u' c l2 : Nat) => loop_P B H HP ho8 hpb hst k n2 s' m' m1 t' i' u' c l2
    unfold D_readProduct_7
    rw [if_neg (by omega), if_pos k2, k1]
    by_cases c42 : K t' = 42
    · have htN : t' < N := K_lt H k3 (by omega)
      rw [if_pos c42]
      unfold D_readProduct_39 D_readProduct_55
      rw [k1, if_pos c42, wad1 (by omega)]
      have g := inf_ok (n := n2) (cop := 10) (op := 8) (lv := 6) (r2 := 6) (ak2 := false) (dep2 := 43 - 5 * o) B H (P1_PG (r := 6) (HP n2 (by omega))) hSU htN (fun n hn => btw_4 hRT (by omega)) (by decide) (by decide) rfl (by decide) (by decide) (hst.imp id (fun h => by omega)) (by omega) (by decide) (fun _ => by decide) (fun h => by cases h) (by decide) (by decide) (by decide) (by decide) (Or.inr (Or.inr ⟨rfl, by decide, rfl⟩)) (fun C R i j k u v y a b c1 c2 => ⟨fun _ => SN_ar (op := 10) (a.1 rfl) (b.1 rfl) (by omega) c1 c2 (by omega) (by omega) (by omega), fun h => by cases h⟩) (fun s4 => D_readProduct_7 q rc n2 s4 (o : Int) ((l2 + 1 : Nat) : Int)) (fun s4 h4 w4 => by
        obtain ⟨n4, hn4⟩ : ∃ n4, n2 = n4 + 1 := ⟨n2 - 1, by omega⟩
        subst hn4
        exact dd_p7 h4 w4)
      rcases g with g | ⟨s4, m3, m1', t3, i4, u4, c4, g1, g2, g3, g4⟩
      · exact Or.inl g
      · have := g4.2.1.1.2.2
        rcases ih s4 m3 m1' t3 i4 u4 c4 (l2 + 1) (by omega) (by omega) (by omega) g2 g4 with h | ⟨s5, m5, m6, t5, i5, u5, c5, y1, y2, y3⟩
        · left; exact (Eq.symm g1 ▸ h : FA K S A N _ s m t i)
        · exact Or.inr ⟨s5, m5, m6, t5, i5, u5, c5, g1.trans y1, y2, y3⟩
    · rw [if_neg c42]
      by_cases c47 : K t' = 47
      · have htN : t' < N := K_lt H k3 (by omega)
        rw [if_pos c47]
        unfold D_readProduct_39 D_readProduct_55
        rw [k1, if_neg c42, wad1 (by omega)]
        have g := inf_ok (n := n2) (cop := 11) (op := 9) (lv := 6) (r2 := 6) (ak2 := false) (dep2 := 43 - 5 * o) B H (P1_PG (r := 6) (HP n2 (by omega))) hSU htN (fun n hn => btw_4 hRT (by omega)) (by decide) (by decide) rfl (by decide) (by decide) (hst.imp id (fun h => by omega)) (by omega) (by decide) (fun _ => by decide) (fun h => by cases h) (by decide) (by decide) (by decide) (by decide) (Or.inr (Or.inr ⟨rfl, by decide, rfl⟩)) (fun C R i j k u v y a b c1 c2 => ⟨fun _ => SN_ar (op := 11) (a.1 rfl) (b.1 rfl) (by omega) c1 c2 (by omega) (by omega) (by omega), fun h => by cases h⟩) (fun s4 => D_readProduct_7 q rc n2 s4 (o : Int) ((l2 + 1 : Nat) : Int)) (fun s4 h4 w4 => by
          obtain ⟨n4, hn4⟩ : ∃ n4, n2 = n4 + 1 := ⟨n2 - 1, by omega⟩
          subst hn4
          exact dd_p7 h4 w4)
        rcases g with g | ⟨s4, m3, m1', t3, i4, u4, c4, g1, g2, g3, g4⟩
        · exact Or.inl g
        · have := g4.2.1.1.2.2
          rcases ih s4 m3 m1' t3 i4 u4 c4 (l2 + 1) (by omega) (by omega) (by omega) g2 g4 with h | ⟨s5, m5, m6, t5, i5, u5, c5, y1, y2, y3⟩
          · left; exact (Eq.symm g1 ▸ h : FA K S A N _ s m t i)
          · exact Or.inr ⟨s5, m5, m6, t5, i5, u5, c5, g1.trans y1, y2, y3⟩
      · rw [if_neg c47]
        exact Or.inr ⟨s', m', m1, t', i', u', c, rfl, ⟨c42, c47⟩, hSU⟩
theorem T_prod (B : BY q L) (H : TB (q.2 0) L N K S A) (HP : ∀ n, 1 ≤ n → P1 ow q L K S A N (fun s => D_readOne q rc n s (o : Int)) o (42 - 5 * o)) (ho8 : o ≤ 8) (hn : 400 ≤ n) : PG ow q L K S A N (fun s => D_readProduct q rc n s (o : Int)) o (6 * o + 4) 5 6 false (43 - 5 * o) QP := fun s m t p i u T hs h18 hp hrk h219 h41 => by
  have hp5 := P1_PG (r := 6) (HP n (by omega)) s m t p i u T hs h18 (by omega) (hrk.imp id (fun h => by omega)) h219 h41
  show FA K S A N (bb (D_readOne q rc n s (o : Int)) fun v1 s1 => D_readProduct_7 q rc n s1 (o : Int) 0) s m t i ∨ ∃ (s' m' m1 : bS) (t' i' u' c : Nat), (bb (D_readOne q rc n s (o : Int)) fun v1 s1 => D_readProduct_7 q rc n s1 (o : Int) 0) = some (0, s') ∧ QP (K t') ∧ SU ow q L K S A N 6 false s m s' m' m1 t t' p o i i' u u' T (43 - 5 * o) c
  rcases hp5 with h | ⟨s', m', m1, t', i', u', c, x1, x2, x3⟩
  · refine Or.inl (FA_b h (fun s' h' w' => ?_))
    obtain ⟨n4, hn4⟩ : ∃ n4, n = n4 + 1 := ⟨n - 1, by omega⟩
    subst hn4
    exact dd_p7 h' w'
  · have hk := SU_kind x3
    rw [bb_s x1]
    exact loop_P B H HP ho8 hp hrk (N - t' + 1) n s' m' m1 t' i' u' c 0 (by omega) (by omega) (by omega) trivial (x3.le (Int.le_refl _) (by omega))
/-- sums -/
theorem loop_S (B : BY q L) (H : TB (q.2 0) L N K S A) (HP : ∀ n, 400 ≤ n → PG ow q L K S A N (fun s => D_readProduct q rc n s (o : Int)) o (6 * o + 4) 5 6 false (43 - 5 * o) QP) (ho8 : o ≤ 8) (hpb : p ≤ 6 * o + 3) (hst : p = 0 ∨ rk (m.2 15 (p - 1)) ≤ 4) : ∀ (k n2 : Nat) (s' m' m1 : bS) (t' i' u' c l2 : Nat), N - t' < k → k + 400 ≤ n2 → l2 < t' → QP (K t') → SU ow q L K S A N 5 false s m s' m' m1 t t' p o i i' u u' T (44 - 5 * o) c → FA K S A N (D_readSum_7 q rc n2 s' (o : Int) (l2 : Int)) s m t i ∨ ∃ (s2 m' m1 : bS) (t' i' u' c : Nat), D_readSum_7 q rc n2 s' (o : Int) (l2 : Int) = some (0, s2) ∧ QS (K t') ∧ SU ow q L K S A N 5 false s m s2 m' m1 t t' p o i i' u u' T (44 - 5 * o) c
  | 0, _, _, _, _, _, _, _, _, _, h, _, _, _, _ => by omega
  | k + 1, 0, _, _, _, _, _, _, _, _, _, h, _, _, _ => by omega
  | k + 1, n2 + 1, s', m', m1, t', i', u', c, l2, h1, h2, h3, hq, hSU => by
    obtain ⟨k1, k2, k3, k4, k5, k6, k7, k8, k9⟩ := SU_kind hSU
    have hRT := k6.2.2.1
    have ih := fun (s' m' m1 : bS) (t' i' u' c l2 : Nat) => loop_S B H HP ho8 hpb hst k n2 s' m' m1 t' i' u' c l2
    unfold D_readSum_7
    rw [if_neg (by omega), if_pos k2, k1]
    by_cases c43 : K t' = 43
    · have htN : t' < N := K_lt H k3 (by omega)
      rw [if_pos c43]
      unfold D_readSum_39 D_readSum_55
      rw [k1, if_pos c43, wad1 (by omega)]
      have g := inf_ok (n := n2) (cop := 8) (op := 6) (lv := 5) (r2 := 5) (ak2 := false) (dep2 := 44 - 5 * o) B H (HP n2 (by omega)) hSU htN (fun n hn => btw_4 hRT (by omega)) (by decide) (by decide) rfl (by decide) (by decide) (hst.imp id (fun h => by omega)) (by omega) (by decide) (fun _ => by decide) (fun h => by cases h) (by decide) (by decide) (by decide) (by decide) (Or.inr (Or.inr ⟨rfl, by decide, rfl⟩)) (fun C R i j k u v y a b c1 c2 => ⟨fun _ => SN_ar (op := 8) (a.1 rfl) (b.1 rfl) (by omega) c1 c2 (by omega) (by omega) (by omega), fun h => by cases h⟩) (fun s4 => D_readSum_7 q rc n2 s4 (o : Int) ((l2 + 1 : Nat) : Int)) (fun s4 h4 w4 => by
        obtain ⟨n4, hn4⟩ : ∃ n4, n2 = n4 + 1 := ⟨n2 - 1, by omega⟩
        subst hn4
        exact dd_s7 h4 w4)
      rcases g with g | ⟨s4, m3, m1', t3, i4, u4, c4, g1, g2, g3, g4⟩
      · exact Or.inl g
      · have := g4.2.1.1.2.2
        rcases ih s4 m3 m1' t3 i4 u4 c4 (l2 + 1) (by omega) (by omega) (by omega) g2 g4 with h | ⟨s5, m5, m6, t5, i5, u5, c5, y1, y2, y3⟩
        · left; exact (Eq.symm g1 ▸ h : FA K S A N _ s m t i)
        · exact Or.inr ⟨s5, m5, m6, t5, i5, u5, c5, g1.trans y1, y2, y3⟩
    · rw [if_neg c43]
      by_cases c45 : K t' = 45
      · have htN : t' < N := K_lt H k3 (by omega)
        rw [if_pos c45]
        unfold D_readSum_39 D_readSum_55
        rw [k1, if_neg c43, wad1 (by omega)]
        have g := inf_ok (n := n2) (cop := 9) (op := 7) (lv := 5) (r2 := 5) (ak2 := false) (dep2 := 44 - 5 * o) B H (HP n2 (by omega)) hSU htN (fun n hn => btw_4 hRT (by omega)) (by decide) (by decide) rfl (by decide) (by decide) (hst.imp id (fun h => by omega)) (by omega) (by decide) (fun _ => by decide) (fun h => by cases h) (by decide) (by decide) (by decide) (by decide) (Or.inr (Or.inr ⟨rfl, by decide, rfl⟩)) (fun C R i j k u v y a b c1 c2 => ⟨fun _ => SN_ar (op := 9) (a.1 rfl) (b.1 rfl) (by omega) c1 c2 (by omega) (by omega) (by omega), fun h => by cases h⟩) (fun s4 => D_readSum_7 q rc n2 s4 (o : Int) ((l2 + 1 : Nat) : Int)) (fun s4 h4 w4 => by
          obtain ⟨n4, hn4⟩ : ∃ n4, n2 = n4 + 1 := ⟨n2 - 1, by omega⟩
          subst hn4
          exact dd_s7 h4 w4)
        rcases g with g | ⟨s4, m3, m1', t3, i4, u4, c4, g1, g2, g3, g4⟩
        · exact Or.inl g
        · have := g4.2.1.1.2.2
          rcases ih s4 m3 m1' t3 i4 u4 c4 (l2 + 1) (by omega) (by omega) (by omega) g2 g4 with h | ⟨s5, m5, m6, t5, i5, u5, c5, y1, y2, y3⟩
          · left; exact (Eq.symm g1 ▸ h : FA K S A N _ s m t i)
          · exact Or.inr ⟨s5, m5, m6, t5, i5, u5, c5, g1.trans y1, y2, y3⟩
      · rw [if_neg c45]
        exact Or.inr ⟨s', m', m1, t', i', u', c, rfl, ⟨hq.1, hq.2, c43, c45⟩, hSU⟩
theorem T_sum (B : BY q L) (H : TB (q.2 0) L N K S A) (HP : ∀ n, 400 ≤ n → PG ow q L K S A N (fun s => D_readProduct q rc n s (o : Int)) o (6 * o + 4) 5 6 false (43 - 5 * o) QP) (ho8 : o ≤ 8) (hn : 800 ≤ n) : PG ow q L K S A N (fun s => D_readSum q rc n s (o : Int)) o (6 * o + 3) 4 5 false (44 - 5 * o) QS := fun s m t p i u T hs h18 hp hrk h219 h41 => by
  have hp5 := HP n (by omega) s m t p i u T hs h18 (by omega) (hrk.imp id (fun h => by omega)) h219 h41
  show FA K S A N (bb (D_readProduct q rc n s (o : Int)) fun v1 s1 => D_readSum_7 q rc n s1 (o : Int) 0) s m t i ∨ ∃ (s' m' m1 : bS) (t' i' u' c : Nat), (bb (D_readProduct q rc n s (o : Int)) fun v1 s1 => D_readSum_7 q rc n s1 (o : Int) 0) = some (0, s') ∧ QS (K t') ∧ SU ow q L K S A N 5 false s m s' m' m1 t t' p o i i' u u' T (44 - 5 * o) c
  rcases hp5 with h | ⟨s', m', m1, t', i', u', c, x1, x2, x3⟩
  · refine Or.inl (FA_b h (fun s' h' w' => ?_))
    obtain ⟨n4, hn4⟩ : ∃ n4, n = n4 + 1 := ⟨n - 1, by omega⟩
    subst hn4
    exact dd_s7 h' w'
  · have hk := SU_kind x3
    rw [bb_s x1]
    exact loop_S B H HP ho8 hp hrk (N - t' + 1) n s' m' m1 t' i' u' c 0 (by omega) (by omega) (by omega) x2 (x3.le (by omega) (by omega))
/-- asks, joined -/
theorem loop_B (B : BY q L) (H : TB (q.2 0) L N K S A) (HP : ∀ n, 800 ≤ n → PG ow q L K S A N (fun s => D_readAsk q rc n s (o : Int)) o (6 * o + 2) 3 3 true (45 - 5 * o) QS) (ho8 : o ≤ 8) (hpb : p ≤ 6 * o + 1) (hst : p = 0 ∨ rk (m.2 15 (p - 1)) ≤ 1) (h41 : opN (m.2 15) p = 41) : ∀ (k n2 : Nat) (s' m' m1 : bS) (t' i' u' c l2 : Nat), N - t' < k → k + 800 ≤ n2 → l2 < t' → QS (K t') → SU ow q L K S A N 2 true s m s' m' m1 t t' p o i i' u u' T (46 - 5 * o) c → FA K S A N (D_readBoth_7 q rc n2 s' (o : Int) (l2 : Int)) s m t i ∨ ∃ (s2 m' m1 : bS) (t' i' u' c : Nat), D_readBoth_7 q rc n2 s' (o : Int) (l2 : Int) = some (0, s2) ∧ QB (K t') ∧ SU ow q L K S A N 2 true s m s2 m' m1 t t' p o i i' u u' T (46 - 5 * o) c
  | 0, _, _, _, _, _, _, _, _, _, h, _, _, _, _ => by omega
  | k + 1, 0, _, _, _, _, _, _, _, _, _, h, _, _, _ => by omega
  | k + 1, n2 + 1, s', m', m1, t', i', u', c, l2, h1, h2, h3, hq, hSU => by
    obtain ⟨k1, k2, k3, k4, k5, k6, k7, k8, k9⟩ := SU_kind hSU
    have hRT := k6.2.2.1
    have ih := fun (s' m' m1 : bS) (t' i' u' c l2 : Nat) => loop_B B H HP ho8 hpb hst h41 k n2 s' m' m1 t' i' u' c l2
    unfold D_readBoth_7
    rw [if_neg (by omega), if_pos k2, k1]
    by_cases c218 : K t' = 218
    · have htN : t' < N := K_lt H k3 (by omega)
      rw [if_pos c218, wad1 (by omega)]
      have g := inf_ok (n := n2) (cop := 18) (op := 21) (lv := 2) (r2 := 2) (ak2 := true) (dep2 := 46 - 5 * o) B H (HP n2 (by omega)) hSU htN (fun n hn => by rw [btw_q hRT hq k7 (by omega) hn, if_pos ((SU_opN hSU).trans h41), if_pos ((SU_cmA hSU).trans (if_pos rfl)), if_pos c218]) (by decide) (by decide) rfl (by decide) (by decide) (hst.imp id (fun h => by omega)) (by omega) (by decide) (fun h => by cases h) (fun _ => h41) (by decide) (by decide) (by decide) (by decide) (Or.inl ⟨rfl, rfl⟩) (fun C R i j k u v y a b c1 c2 => ⟨fun h => (by cases h), fun _ => SA_jn (a.2 rfl) (b.2 rfl) (Or.inl ⟨c1, c2⟩) (by omega) (by omega) (by omega)⟩) (fun s4 => D_readBoth_7 q rc n2 s4 (o : Int) ((l2 + 1 : Nat) : Int)) (fun s4 h4 w4 => by
        obtain ⟨n4, hn4⟩ : ∃ n4, n2 = n4 + 1 := ⟨n2 - 1, by omega⟩
        subst hn4
        exact dd_b7 h4 w4)
      rcases g with g | ⟨s4, m3, m1', t3, i4, u4, c4, g1, g2, g3, g4⟩
      · exact Or.inl g
      · have := g4.2.1.1.2.2
        rcases ih s4 m3 m1' t3 i4 u4 c4 (l2 + 1) (by omega) (by omega) (by omega) g2 g4 with h | ⟨s5, m5, m6, t5, i5, u5, c5, y1, y2, y3⟩
        · left; exact (Eq.symm g1 ▸ h : FA K S A N _ s m t i)
        · exact Or.inr ⟨s5, m5, m6, t5, i5, u5, c5, g1.trans y1, y2, y3⟩
    · rw [if_neg c218]
      exact Or.inr ⟨s', m', m1, t', i', u', c, rfl, ⟨hq, c218⟩, hSU⟩
theorem T_both (B : BY q L) (H : TB (q.2 0) L N K S A) (HP : ∀ n, 800 ≤ n → PG ow q L K S A N (fun s => D_readAsk q rc n s (o : Int)) o (6 * o + 2) 3 3 true (45 - 5 * o) QS) (ho8 : o ≤ 8) (hn : 1200 ≤ n) : PG ow q L K S A N (fun s => D_readBoth q rc n s (o : Int)) o (6 * o + 1) 1 2 true (46 - 5 * o) QB := fun s m t p i u T hs h18 hp hrk h219 h41 => by
  have hp5 := HP n (by omega) s m t p i u T hs h18 (by omega) (hrk.imp id (fun h => by omega)) h219 h41
  show FA K S A N (bb (D_readAsk q rc n s (o : Int)) fun v1 s1 => D_readBoth_7 q rc n s1 (o : Int) 0) s m t i ∨ ∃ (s' m' m1 : bS) (t' i' u' c : Nat), (bb (D_readAsk q rc n s (o : Int)) fun v1 s1 => D_readBoth_7 q rc n s1 (o : Int) 0) = some (0, s') ∧ QB (K t') ∧ SU ow q L K S A N 2 true s m s' m' m1 t t' p o i i' u u' T (46 - 5 * o) c
  rcases hp5 with h | ⟨s', m', m1, t', i', u', c, x1, x2, x3⟩
  · refine Or.inl (FA_b h (fun s' h' w' => ?_))
    obtain ⟨n4, hn4⟩ : ∃ n4, n = n4 + 1 := ⟨n - 1, by omega⟩
    subst hn4
    exact dd_b7 h' w'
  · have hk := SU_kind x3
    rw [bb_s x1]
    exact loop_B B H HP ho8 hp hrk (h41 rfl) (N - t' + 1) n s' m' m1 t' i' u' c 0 (by omega) (by omega) (by omega) x2 (x3.le (by omega) (by omega))
/-- asks, either -/
theorem loop_E (B : BY q L) (H : TB (q.2 0) L N K S A) (HP : ∀ n, 1200 ≤ n → PG ow q L K S A N (fun s => D_readBoth q rc n s (o : Int)) o (6 * o + 1) 1 2 true (46 - 5 * o) QB) (ho8 : o ≤ 8) (hpb : p ≤ 6 * o) (hst : p = 0 ∨ rk (m.2 15 (p - 1)) ≤ 0) (h41 : opN (m.2 15) p = 41) : ∀ (k n2 : Nat) (s' m' m1 : bS) (t' i' u' c l2 : Nat), N - t' < k → k + 1200 ≤ n2 → l2 < t' → QB (K t') → SU ow q L K S A N 1 true s m s' m' m1 t t' p o i i' u u' T (47 - 5 * o) c → FA K S A N (D_readEither_7 q rc n2 s' (o : Int) (l2 : Int)) s m t i ∨ ∃ (s2 m' m1 : bS) (t' i' u' c : Nat), D_readEither_7 q rc n2 s' (o : Int) (l2 : Int) = some (0, s2) ∧ QE (K t') ∧ SU ow q L K S A N 1 true s m s2 m' m1 t t' p o i i' u u' T (47 - 5 * o) c
  | 0, _, _, _, _, _, _, _, _, _, h, _, _, _, _ => by omega
  | k + 1, 0, _, _, _, _, _, _, _, _, _, h, _, _, _ => by omega
  | k + 1, n2 + 1, s', m', m1, t', i', u', c, l2, h1, h2, h3, hq, hSU => by
    obtain ⟨k1, k2, k3, k4, k5, k6, k7, k8, k9⟩ := SU_kind hSU
    have hRT := k6.2.2.1
    have ih := fun (s' m' m1 : bS) (t' i' u' c l2 : Nat) => loop_E B H HP ho8 hpb hst h41 k n2 s' m' m1 t' i' u' c l2
    unfold D_readEither_7
    rw [if_neg (by omega), if_pos k2, k1]
    by_cases c217 : K t' = 217
    · have htN : t' < N := K_lt H k3 (by omega)
      rw [if_pos c217, wad1 (by omega)]
      have g := inf_ok (n := n2) (cop := 19) (op := 22) (lv := 1) (r2 := 1) (ak2 := true) (dep2 := 47 - 5 * o) B H (HP n2 (by omega)) hSU htN (fun n hn => by rw [btw_q hRT hq.1 k7 (by omega) hn, if_pos ((SU_opN hSU).trans h41), if_pos ((SU_cmA hSU).trans (if_pos rfl)), if_neg (by omega), if_pos c217]) (by decide) (by decide) rfl (by decide) (by decide) (hst.imp id (fun h => by omega)) (by omega) (by decide) (fun h => by cases h) (fun _ => h41) (by decide) (by decide) (by decide) (by decide) (Or.inl ⟨rfl, rfl⟩) (fun C R i j k u v y a b c1 c2 => ⟨fun h => (by cases h), fun _ => SA_jn (a.2 rfl) (b.2 rfl) (Or.inr ⟨c1, c2⟩) (by omega) (by omega) (by omega)⟩) (fun s4 => D_readEither_7 q rc n2 s4 (o : Int) ((l2 + 1 : Nat) : Int)) (fun s4 h4 w4 => by
        obtain ⟨n4, hn4⟩ : ∃ n4, n2 = n4 + 1 := ⟨n2 - 1, by omega⟩
        subst hn4
        exact dd_e7 h4 w4)
      rcases g with g | ⟨s4, m3, m1', t3, i4, u4, c4, g1, g2, g3, g4⟩
      · exact Or.inl g
      · have := g4.2.1.1.2.2
        rcases ih s4 m3 m1' t3 i4 u4 c4 (l2 + 1) (by omega) (by omega) (by omega) g2 g4 with h | ⟨s5, m5, m6, t5, i5, u5, c5, y1, y2, y3⟩
        · left; exact (Eq.symm g1 ▸ h : FA K S A N _ s m t i)
        · exact Or.inr ⟨s5, m5, m6, t5, i5, u5, c5, g1.trans y1, y2, y3⟩
    · rw [if_neg c217]
      exact Or.inr ⟨s', m', m1, t', i', u', c, rfl, ⟨hq.1, hq.2, c217⟩, hSU⟩
theorem T_either (B : BY q L) (H : TB (q.2 0) L N K S A) (HP : ∀ n, 1200 ≤ n → PG ow q L K S A N (fun s => D_readBoth q rc n s (o : Int)) o (6 * o + 1) 1 2 true (46 - 5 * o) QB) (ho8 : o ≤ 8) (hn : 1600 ≤ n) : PG ow q L K S A N (fun s => D_readEither q rc n s (o : Int)) o (6 * o) 0 1 true (47 - 5 * o) QE := fun s m t p i u T hs h18 hp hrk h219 h41 => by
  have hp5 := HP n (by omega) s m t p i u T hs h18 (by omega) (hrk.imp id (fun h => by omega)) h219 h41
  show FA K S A N (bb (D_readBoth q rc n s (o : Int)) fun v1 s1 => D_readEither_7 q rc n s1 (o : Int) 0) s m t i ∨ ∃ (s' m' m1 : bS) (t' i' u' c : Nat), (bb (D_readBoth q rc n s (o : Int)) fun v1 s1 => D_readEither_7 q rc n s1 (o : Int) 0) = some (0, s') ∧ QE (K t') ∧ SU ow q L K S A N 1 true s m s' m' m1 t t' p o i i' u u' T (47 - 5 * o) c
  rcases hp5 with h | ⟨s', m', m1, t', i', u', c, x1, x2, x3⟩
  · refine Or.inl (FA_b h (fun s' h' w' => ?_))
    obtain ⟨n4, hn4⟩ : ∃ n4, n = n4 + 1 := ⟨n - 1, by omega⟩
    subst hn4
    exact dd_e7 h' w'
  · have hk := SU_kind x3
    rw [bb_s x1]
    exact loop_E B H HP ho8 hp hrk (h41 rfl) (N - t' + 1) n s' m' m1 t' i' u' c 0 (by omega) (by omega) (by omega) x2 (x3.le (by omega) (by omega))
end
