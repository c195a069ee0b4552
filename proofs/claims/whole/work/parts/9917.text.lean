/-! Clauses whole; texts. -/
section
variable {q s s' s2 m m' m1 m2 : bS} {K S A C R : Nat → Int} {L n n' i i' j k t t' N u u' T x ix st d b : Nat} {lo hi l1 f v : Int} {F : Option (Int × bS)} {RF : Nat → Option (Int × bS)}
/-- the end of a clause -/
def R_end65 (n : Nat) (s4 : bS) : Option (Int × bS) := (if 0 ≤ (s4.1 12) ∧ (s4.1 12) < 2916 then (if 0 ≤ (s4.1 12) ∧ (s4.1 12) < 2916 then (if (s4.1 9) = 59 then (bb (R_nextToken n (bA s4 2 (s4.1 12) (ay_w ((s4.2 2 (s4.1 12).toNat) + 1))) ) fun v5 s5 => some (0, s5)) else some (1, bA s4 2 (s4.1 12) (ay_w ((s4.2 2 (s4.1 12).toNat) + 1)))) else none) else none)
theorem r65 {y z : Int} : R_clause_65 n m y z = bb (R_nextToken n (bI m 14 y)) fun v3 s3 => (if 0 ≤ (ay_w ((ay_w ((s3.1 12) + 1)) + (ay_w (5 * z)))) ∧ (ay_w ((ay_w ((s3.1 12) + 1)) + (ay_w (5 * z)))) < 2916 then (bb (R_body n (bA s3 2 (ay_w ((ay_w ((s3.1 12) + 1)) + (ay_w (5 * z)))) y) y (ay_w ((ay_w ((s3.1 12) + 1)) + (ay_w (5 * z))))) fun v4 s4 => (if v4 = 0 then R_end65 n s4 else some (v4, s4))) else none) := rfl
theorem d73 {y : Int} : D_readClause_73 q d n s y = (if (s.1 13) = 0 then (if 0 ≤ (ay_w ((s.1 12) * 4)) ∧ (ay_w ((s.1 12) * 4)) < 96 then (bb (D_advance q n (bA s 5 (ay_w ((s.1 12) * 4)) y) ) fun v2 s2 => D_tail q d n s2 y) else none) else some (0, s)) := rfl
theorem end_ok (B : BY q L) (H : TB (q.2 0) L N K S A) (hb : BX q L K S A N s m t k i u T) (hk : k < 24) (hm : m.2 2 (729 * T) = (k : Int)) : FO T (D_readClause_243 q d n s) (fun n => R_end65 n m) s m ∨ ∃ m', D_readClause_243 q d n s = some (0, bI (bI (bI s 8 ((t + 1 : Nat) : Int)) 9 (K (t + 1))) 12 ((k + 1 : Nat) : Int)) ∧ (∀ n, 3000 ≤ n → R_end65 n m = some (0, m')) ∧ BX q L K S A N (bI (bI (bI s 8 ((t + 1 : Nat) : Int)) 9 (K (t + 1))) 12 ((k + 1 : Nat) : Int)) m' (t + 1) (k + 1) i u T ∧ NX (bA m 2 ((729 * T : Nat) : Int) ((k + 1 : Nat) : Int)) m' := by
  have hb0 := hb
  obtain ⟨C, M, ⟨w1, w2, w3, w4⟩, ⟨u1, u2⟩, T1, T2⟩ := hb
  have hRT := M.2.2.1
  have hN := C.2.2
  have s59 := tok_sg (x := 59) hRT (by decide) (by decide) (by decide)
  have eR : ∀ n, R_end65 n m = if K t = 59 then (bb (R_nextToken n (bA m 2 ((729 * T : Nat) : Int) ((k + 1 : Nat) : Int))) fun v5 s5 => some (0, s5)) else some (1, bA m 2 ((729 * T : Nat) : Int) ((k + 1 : Nat) : Int)) := fun n => by
    unfold R_end65
    rw [T1, if_pos ⟨by omega, by omega⟩, if_pos ⟨by omega, by omega⟩, Int.toNat_natCast, hm, wad1 (by omega)]
    by_cases c : K t = 59
    · rw [if_pos (s59.2 c), if_pos c]
    · rw [if_neg (fun h => c (s59.1 h)), if_neg c]
  by_cases c : K t = 59
  · have htN : t < N := K_lt H hN.1 (by omega)
    have Mp : MS q L K S A N (bA m 2 ((729 * T : Nat) : Int) ((k + 1 : Nat) : Int)) t := MS_c M (fun _ _ => rfl) (bA_2 (by decide))
    obtain ⟨m', x1, x2, x3⟩ := nxtt B H Mp htN
    refine Or.inr ⟨m', ?_, fun n hn => ?_, ⟨CS_c (adv (q := q) (n := 0) C htN).2 rfl rfl rfl rfl rfl rfl, x2, ⟨w1, w2, by omega, rfl⟩, ⟨(x3.1 13 (by omega)).trans u1, by omega⟩, (x3.1 12 (by omega)).trans T1, T2⟩, x3⟩
    · unfold D_readClause_243
      rw [bb_s (exp_y C w1 c htN)]
      show some ((0 : Int), bI (bI (bI s 8 _) 9 _) 12 (ay_w (s.1 12 + 1))) = _
      rw [w4, wad1 (by omega)]
    · rw [eR, if_pos c, bb_s (x1 n (by omega))]
  · left
    refine ⟨bI (rf s 1 (S t)) 12 (ay_w ((rf s 1 (S t)).1 12 + 1)), ?_, by show (1 : Int) ≠ 0; decide, rfl, fun n hn => ⟨bA m 2 ((729 * T : Nat) : Int) ((k + 1 : Nat) : Int), ?_, M.2.1, ?_⟩⟩
    · unfold D_readClause_243
      rw [bb_s (exp_n C w1 c)]
    · show R_end65 n m = _
      rw [eR, if_neg c]; rfl
    · have := FM_a (T := T) (m := m) (x := 0) (v := ((k + 1 : Nat) : Int)) (by decide)
      rw [Nat.add_zero] at this
      exact this
theorem clause_ok (B : BY q L) (H : TB (q.2 0) L N K S A) (hn : 2000 ≤ n) (hc : CLS q L K S A N s m t k i u T) (hK : K t ≠ 0) : FO T (D_readClause q 30 (n + 1) s) (fun n => R_clause n m) s m ∨ ∃ (s' m' : bS) (t' i' u' : Nat), D_readClause q 30 (n + 1) s = some (0, s') ∧ (∀ n, 3000 ≤ n → R_clause n m = some (0, m')) ∧ t < t' ∧ FM T m m' ∧ (s'.1 15 = s.1 15 ∧ s'.1 14 = s.1 14) ∧ CLS q L K S A N s' m' t' (k + 1) i' u' T := by
  obtain ⟨hb, hk24, ht0, hon, hcf, hl0, hl1⟩ := hc
  have hb0 := hb
  obtain ⟨C, M, ⟨w1, w2, w3, w4⟩, ⟨u1, u2⟩, T1, T2⟩ := hb
  have hRT := M.2.2.1
  have hN := C.2.2
  have hk9 : s.1 9 = K t := C.1.2.2
  have htN : t < N := K_lt H hN.1 hK
  have refuse : ∀ f : Int, f ≠ 0 → (bb (D_refuse q (n + 1) s f) fun v1 s1 => D_readClause_73 q 30 (n + 1) s1 (K t)) = some (0, rf s f (S t)) := fun f hf => by
    rw [bb_s (refuse_ok C w1)]
    exact ref73 (show (rf s f (S t)).1 13 ≠ 0 from hf)
  by_cases cw : 200 ≤ K t ∧ K t ≤ 208
  rotate_left
  · left
    refine FO_1 (f := 1) hb0 (by decide) ⟨0, Or.inr ?_⟩ (fun n hn => ?_)
    · unfold D_readClause D_readClause_19
      rw [hk9]
      by_cases c : K t < 200
      · rw [if_pos c]; exact refuse 1 (by decide)
      · rw [if_neg c, if_neg (by omega)]; exact refuse 1 (by decide)
    · show R_clause n m = _
      unfold R_clause
      rw [bb_s (sort_ok hRT), if_neg cw, if_neg (by decide)]
  obtain ⟨st, hst⟩ : ∃ st : Nat, K t = 200 + (st : Int) := ⟨(K t - 200).toNat, by omega⟩
  have hst9 : st < 9 := by omega
  -- the ways into the body
  have inD : (st < 2 → s.2 6 (2 * st) = -1) → D_readClause q 30 (n + 1) s = D_readClause_58 q 30 (n + 1) s (K t) := fun h => by
    unfold D_readClause
    rw [hk9, if_neg (by omega), if_pos cw.2]
    by_cases c : st < 2
    · rw [if_neg (by omega), hst, l2b c, if_pos ⟨by omega, by omega⟩, Int.toNat_natCast, if_pos (h c)]
    · rw [if_pos (by omega)]
  have inR : (st < 2 → s.2 6 (2 * st) = -1) → ∀ n, R_clause n m = R_clause_29 n m (st : Int) := fun h n => by
    unfold R_clause
    rw [bb_s (sort_ok hRT), if_pos cw, if_pos (by omega), show K t - 200 = (st : Int) by omega]
    by_cases c : st < 2
    · rw [if_neg (by omega), hon, b1_s (has_ok c), if_pos (h c), if_pos rfl]
    · rw [if_pos (by omega)]
  by_cases c4 : st < 2 ∧ s.2 6 (2 * st) ≠ -1
  · left
    refine FO_1 (f := 4) hb0 (by decide) ⟨0, Or.inr ?_⟩ (fun n hn => ?_)
    · unfold D_readClause
      rw [hk9, if_neg (by omega), if_pos cw.2, if_neg (by omega)]
      have := refuse 4 (by decide)
      rw [hst] at this ⊢
      rw [l2b c4.1, if_pos ⟨by omega, by omega⟩, Int.toNat_natCast, if_neg c4.2]
      exact this
    · show R_clause n m = _
      unfold R_clause
      rw [bb_s (sort_ok hRT), if_pos cw, if_pos (by omega), if_neg (by omega), show K t - 200 = (st : Int) by omega, hon, b1_s (has_ok c4.1), if_neg c4.2, if_neg (by decide)]
  have hset : st < 2 → s.2 6 (2 * st) = -1 := fun h => Classical.byContradiction (fun h' => c4 ⟨h, h'⟩)
  rw [inD hset]
  have e29 : ∀ n, R_clause_29 n m (st : Int) = if k = 24 then some (6, m) else (if 1 < (st : Int) then R_clause_65 n m (st : Int) (k : Int) else R_clause_65 n (bI m 19 (ay_or (m.1 19) (ay_shl 1 (st : Int)))) (st : Int) (k : Int)) := fun n => by
    unfold R_clause_29
    rw [T1, if_pos ⟨by omega, by omega⟩, Int.toNat_natCast, ht0]
    by_cases c : k = 24
    · rw [if_pos (by omega), if_pos c]
    · rw [if_neg (by omega), if_neg c]
  unfold D_readClause_58
  by_cases c6 : k = 24
  · left
    refine FO_1 (f := 6) hb0 (by decide) ⟨0, Or.inr ?_⟩ (fun n hn => ?_)
    · rw [w4, if_neg (by omega)]; exact refuse 6 (by decide)
    · show R_clause n m = _
      rw [inR hset, e29, if_pos c6]
  have hk : k < 24 := by omega
  rw [w4, if_pos (by omega), d73, if_pos w1, w4, k4w hk, if_pos ⟨by omega, by omega⟩]
  -- both sides behind the word
  obtain ⟨mo, hmo, mo19⟩ : ∃ mo, (∀ n, R_clause n m = R_clause_65 n mo (st : Int) (k : Int)) ∧ ((st < 2 ∧ mo = bI m 19 (ay_or (m.1 19) (ay_shl 1 (st : Int)))) ∨ (2 ≤ st ∧ mo = m)) := by
    by_cases c : st < 2
    · exact ⟨_, fun n => by rw [inR hset, e29, if_neg c6, if_neg (by omega)], Or.inl ⟨c, rfl⟩⟩
    · exact ⟨m, fun n => by rw [inR hset, e29, if_neg c6, if_pos (by omega)], Or.inr ⟨by omega, rfl⟩⟩
  have mo1 : ∀ y, y ≠ 19 → mo.1 y = m.1 y := fun y hy => by rcases mo19 with ⟨_, h⟩ | ⟨_, h⟩ <;> rw [h]; exact bI_1 hy
  have mo2 : mo.2 = m.2 := by rcases mo19 with ⟨_, h⟩ | ⟨_, h⟩ <;> rw [h]; rfl
  have Mo : MS q L K S A N (bI mo 14 (st : Int)) t := MS_c M (fun y hy => by rw [bI_1 (by omega), mo1 y (by omega)]) (by show mo.2 3 = _; rw [mo2])
  obtain ⟨m3, x1, x2, x3⟩ := nxtt B H Mo htN
  have e12 : m3.1 12 = ((729 * T : Nat) : Int) := by rw [x3.1 12 (by omega), bI_1 (by decide), mo1 12 (by decide)]; exact T1
  obtain ⟨m4, hm4⟩ : ∃ m4, m4 = bA m3 2 ((729 * T + (1 + 5 * k) : Nat) : Int) (st : Int) := ⟨_, rfl⟩
  have eR : ∀ n, 3000 ≤ n → R_clause n m = bb (R_body n m4 (st : Int) ((729 * T + (1 + 5 * k) : Nat) : Int)) fun v4 s4 => (if v4 = 0 then R_end65 n s4 else some (v4, s4)) := fun n hn => by
    rw [hmo, r65, bb_s (x1 n (by omega)), e12, x5k T2 hk, if_pos ⟨by omega, by omega⟩, ← hm4]
  have Cp : CS K S A N (bA s 5 ((4 * k : Nat) : Int) (K t)) t := CS_c C rfl rfl rfl (bA_2 (by decide)) (bA_2 (by decide)) (bA_2 (by decide))
  have Ca := adv (q := q) (n := n + 1) Cp htN
  rw [bb_s Ca.1]
  obtain ⟨sb, hsb⟩ : ∃ sb, sb = bI (bI (bA s 5 ((4 * k : Nat) : Int) (K t)) 8 ((t + 1 : Nat) : Int)) 9 (K (t + 1)) := ⟨_, rfl⟩
  rw [← hsb] at Ca ⊢
  have sb5 : ∀ y, sb.2 5 y = if y = 4 * k then K t else s.2 5 y := fun y => by
    rw [hsb]
    show (bA s 5 ((4 * k : Nat) : Int) (K t)).2 5 y = _
    rw [bA_e (by omega)]
  have sb4 : sb.2 4 = s.2 4 := by rw [hsb]; show (bA s 5 ((4 * k : Nat) : Int) (K t)).2 4 = _; rw [bA_2 (by decide)]
  have sb6 : sb.2 6 = s.2 6 := by rw [hsb]; show (bA s 5 ((4 * k : Nat) : Int) (K t)).2 6 = _; rw [bA_2 (by decide)]
  have sb15 : sb.1 15 = s.1 15 := by rw [hsb]; rfl
  have m42 : ∀ y, m4.2 2 y = if y = 729 * T + (1 + 5 * k) then (st : Int) else m.2 2 y := fun y => by
    rw [hm4, b2_e, x3.2]
    show (if y = _ then (st : Int) else mo.2 2 y) = _
    rw [mo2]
  have m41 : ∀ y, y < 7 ∨ 12 ≤ y → m4.1 y = (bI mo 14 (st : Int)).1 y := fun y hy => by rw [hm4]; exact x3.1 y hy
  have fm4 : FM T m m4 := ⟨fun y hy => by rw [m41 y (by omega), bI_1 (by omega), mo1 y (by omega)], fun y h1 h2 => by rw [hm4, bA_2 h1, x3.2]; show mo.2 y = _; rw [mo2], fun y hy => by rw [m42, if_neg (by omega)]⟩
  have hb4 : BX q L K S A N sb m4 (t + 1) k i u T := by
    refine ⟨Ca.2, by rw [hm4]; exact MS_c x2 (fun _ _ => rfl) (bA_2 (by decide)), ⟨by rw [hsb]; exact w1, by rw [hsb]; exact w2, by omega, by rw [hsb]; exact w4⟩, ⟨?_, by omega⟩, by rw [hm4]; exact e12, T2⟩
    rw [m41 13 (by omega), bI_1 (by decide), mo1 13 (by decide)]; exact u1
  have h14 : m4.1 14 = (st : Int) := by rw [m41 14 (by omega)]; exact bI_e
  rw [hst]
  rcases body_ok B H hn hb4 hk hst9 h14 with h | ⟨s8, m8, t8, i8, u8, y1, y2, y3⟩
  · left
    obtain ⟨sx, f1, f2, f3, f4⟩ := h
    refine ⟨sx, f1, f2, f3.trans sb15, fun n hn => ?_⟩
    obtain ⟨mf, g1, g2, g3⟩ := f4 n hn
    refine ⟨mf, ?_, g2, fm4.tr g3⟩
    show R_clause n m = _
    rw [eR n hn, bb_s (show R_body n m4 (st : Int) ((729 * T + (1 + 5 * k) : Nat) : Int) = some (sx.1 13, mf) from g1), if_neg f2]
  obtain ⟨z1, z2, z3, z4, z5, z6, z7, z8, z9⟩ := y3
  rw [y1]
  have em8 : ∀ y, y < 2 + 5 * k ∨ (121 ≤ y ∧ y < 121 + 2 * u) → m8.2 2 (729 * T + y) = m4.2 2 (729 * T + y) := z4.2.1
  have em80 : m8.2 2 (729 * T) = (k : Int) := by
    have := em8 0 (by omega)
    rw [Nat.add_zero] at this
    rw [this, m42, if_neg (by omega)]; exact ht0
  rcases end_ok (n := n + 1) (d := 30) B H z2 hk em80 with h | ⟨m9, v1, v2, v3, v4⟩
  · left
    obtain ⟨sx, f1, f2, f3, f4⟩ := h
    refine ⟨sx, f1, f2, (f3.trans z3.2.1).trans sb15, fun n hn => ?_⟩
    obtain ⟨mf, g1, g2, g3⟩ := f4 n hn
    refine ⟨mf, ?_, g2, (fm4.tr z4.1).tr g3⟩
    show R_clause n m = _
    rw [eR n hn, bb_s (y2 n hn), if_pos rfl]
    exact g1
  obtain ⟨s9, hs9⟩ : ∃ s9, s9 = bI (bI (bI s8 8 ((t8 + 1 : Nat) : Int)) 9 (K (t8 + 1))) 12 ((k + 1 : Nat) : Int) := ⟨_, rfl⟩
  rw [← hs9] at v1 v3
  have s92 : s9.2 = s8.2 := by rw [hs9]; rfl
  have m92 : ∀ y, m9.2 2 y = if y = 729 * T then ((k + 1 : Nat) : Int) else m8.2 2 y := fun y => by rw [v4.2, b2_e]
  have e2 : ∀ y, (1 ≤ y ∧ y < 1 + 5 * k) ∨ (121 ≤ y ∧ y < 121 + 2 * u) → m9.2 2 (729 * T + y) = m.2 2 (729 * T + y) := fun y hy => by
    rw [m92, if_neg (by omega), em8 y (by omega), m42, if_neg (by omega)]
  have ek : m9.2 2 (729 * T + (1 + 5 * k)) = (st : Int) := by rw [m92, if_neg (by omega), em8 _ (by omega), m42, if_pos rfl]
  have e5 : ∀ y, y < 4 * k → s9.2 5 y = s.2 5 y := fun y hy => by rw [s92, z3.1 y (by omega), sb5, if_neg (by omega)]
  have e4 : ∀ y, y < i → s9.2 4 y = s.2 4 y := fun y hy => by rw [s92, z5 y hy, sb4]
  have fm9 : FM T m m9 := by
    refine (fm4.tr z4.1).tr ?_
    have h1 := FM_a (T := T) (m := m8) (x := 0) (v := ((k + 1 : Nat) : Int)) (by decide)
    rw [Nat.add_zero] at h1
    exact h1.tr (FM_NX v4)
  have l19 : m9.1 19 = m4.1 19 := by rw [v4.1 19 (by omega)]; exact z4.2.2
  have l19' : m4.1 19 = mo.1 19 := by rw [m41 19 (by omega), bI_1 (by decide)]
  have lr : ∀ b, b < 2 → LR s m T k i u b → LR s9 m9 T (k + 1) i8 u8 b := fun b hb2 hl => by
    by_cases c : st = b
    · subst c
      obtain ⟨⟨p1, p2, p3⟩, p4, p5, p6⟩ := z9 hb2
      have hno : ∀ j, j < k → ¬ m.2 2 (729 * T + 1 + 5 * j) = (st : Int) := by
        rcases hl with ⟨_, h⟩ | ⟨_, i0, _, _, _, _, _, h, _⟩
        · exact h
        · rw [hset hb2] at h; omega
      refine Or.inr ⟨k, i, i8, u, u8, by omega, fun j' hj' => ?_, by rw [s92]; exact p1, by rw [s92]; exact p2, by rw [m92, if_neg (by omega)]; exact p4, by rw [m92, if_neg (by omega)]; exact p5, Nat.le_refl _, Nat.le_refl _, p6.c (fun y _ _ => by rw [s92]) (fun y _ _ => ?_) (Nat.le_refl _)⟩
      · by_cases c : j' = k
        · rw [c, show 729 * T + 1 + 5 * k = 729 * T + (1 + 5 * k) by omega, ek]; exact ⟨fun _ => rfl, fun _ => rfl⟩
        · have := e2 (1 + 5 * j') (by omega)
          rw [show 729 * T + (1 + 5 * j') = 729 * T + 1 + 5 * j' by omega] at this
          rw [this]
          exact ⟨fun h => (hno j' (by omega) h).elim, fun h => (c h).elim⟩
      · show m9.2 2 (729 * T + 121 + y) = m8.2 2 (729 * T + 121 + y)
        rw [m92, if_neg (by omega)]
    · refine LR_old (st := st) hl c ?_ e4 (fun y hy => ?_) ek z6.1 z6.2 hk
      · by_cases c2 : st < 2
        · obtain ⟨⟨p1, p2, p3⟩, _⟩ := z9 c2
          rw [s92, p3 (2 * b) (by omega) (by omega), p3 (2 * b + 1) (by omega) (by omega), sb6]
          exact ⟨rfl, rfl⟩
        · rw [s92, (z8 (by omega)).1, sb6]
          exact ⟨rfl, rfl⟩
      · exact e2 y hy
  refine Or.inr ⟨s9, m9, t8 + 1, i8, u8, v1, fun n hn => ?_, by omega, fm9, ⟨?_, ?_⟩, v3, by omega, ?_, ?_, fun j hj => ?_, ?_, ?_⟩
  · rw [eR n hn, bb_s (y2 n hn), if_pos rfl]
    exact v2 n hn
  · rw [hs9]
    show s8.1 15 = _
    rw [z3.2.1, sb15]
  · rw [hs9]
    show s8.1 14 = _
    rw [z3.2.2, hsb]; rfl
  · rw [m92, if_pos rfl]
  · rw [l19, l19']
    rcases mo19 with ⟨h1, h2⟩ | ⟨h1, h2⟩
    · obtain ⟨⟨p1, p2, p3⟩, _⟩ := z9 h1
      rw [h2, bI_e, hon]
      exact once_ok (s := s) (s' := s9) h1 (hset h1) (by rw [s92, p1]; omega) (fun y y1 y2 => by rw [s92, p3 y y1 y2, sb6])
    · rw [h2, hon]
      unfold onc
      rw [s92, (z8 h1).1, sb6]
  · by_cases c : j = k
    · subst c
      refine ⟨st, hst9, ?_, ?_, ?_, ?_, ?_⟩
      · rw [show 729 * T + 1 + 5 * j = 729 * T + (1 + 5 * j) by omega]; exact ek
      · rw [s92, z3.1 (4 * j) (by omega), sb5, if_pos rfl]; exact hst
      · intro h; rw [s92, m92, if_neg (by omega)]; exact z7.1 h
      · intro h; rw [s92, m92, if_neg (by omega)]; exact z7.2.1 h
      · intro h; rw [s92, m92, if_neg (by omega)]; exact z7.2.2 h
    · obtain ⟨st', a1, a2, a3, a4, a5, a6⟩ := hcf j (by omega)
      have em : ∀ y, y < 5 → m9.2 2 (729 * T + 1 + 5 * j + y) = m.2 2 (729 * T + 1 + 5 * j + y) := fun y hy => by
        have := e2 (1 + 5 * j + y) (by omega)
        rw [show 729 * T + (1 + 5 * j + y) = 729 * T + 1 + 5 * j + y by omega] at this
        exact this
      refine ⟨st', a1, ?_, ?_, ?_, ?_, ?_⟩
      · have := em 0 (by omega)
        rw [Nat.add_zero] at this
        rw [this]; exact a2
      · rw [e5 (4 * j) (by omega)]; exact a3
      · intro h; rw [e5 _ (by omega), em 1 (by omega)]; exact a4 h
      · intro h; rw [e5 _ (by omega), em 2 (by omega)]; exact a5 h
      · intro h; rw [e5 _ (by omega), em 3 (by omega)]; exact a6 h
  · exact lr 0 (by decide) hl0
  · exact lr 1 (by decide) hl1
end
