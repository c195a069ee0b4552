/-! Clauses, one by one. -/
/-- a law of a text that is being read, on both sides -/
def LR (s m : bS) (T k i u b : Nat) : Prop := (s.2 6 (2 * b) = -1 ∧ ∀ j, j < k → ¬ m.2 2 (729 * T + 1 + 5 * j) = (b : Int)) ∨ ∃ j i0 i1 u0 u1 : Nat, j < k ∧ (∀ j', j' < k → (m.2 2 (729 * T + 1 + 5 * j') = (b : Int) ↔ j' = j)) ∧ s.2 6 (2 * b) = (i0 : Int) ∧ s.2 6 (2 * b + 1) = (i1 : Int) ∧ m.2 2 (729 * T + 1 + 5 * j + 1) = (u0 : Int) ∧ m.2 2 (729 * T + 1 + 5 * j + 2) = (u1 : Int) ∧ i1 ≤ i ∧ u1 ≤ u ∧ SN (od b) (s.2 4) i0 i1 (RC T m) u0 u1 44
def onc (s : bS) : Int := (if s.2 6 0 = -1 then 0 else 1) + (if s.2 6 2 = -1 then 0 else 2)
def CLS (q : bS) (L : Nat) (K S A : Nat → Int) (N : Nat) (s m : bS) (t k i u T : Nat) : Prop := BX q L K S A N s m t k i u T ∧ k ≤ 24 ∧ m.2 2 (729 * T) = (k : Int) ∧ m.1 19 = onc s ∧ (∀ j, j < k → CF s m T j) ∧ LR s m T k i u 0 ∧ LR s m T k i u 1
section
variable {q s s' s2 m m' m1 m2 : bS} {K S A C R : Nat → Int} {L n n' i i' j k t t' N u u' T x ix st d b : Nat} {lo hi l1 f v : Int} {F : Option (Int × bS)} {RF : Nat → Option (Int × bS)}
theorem B_two (B : BY q L) (H : TB (q.2 0) L N K S A) (hb : BX q L K S A N s m t k i u T) (hk : k < 24) : FO T (bb (D_expectNumber q n s 1 0 31) fun v6 s6 => (bb (D_expect q n s6 209) fun v7 s7 => (bb (D_expectNumber q n s7 2 0 3) fun v8 s8 => D_readClause_221 q d n s8 l1))) (fun n => R_touchClause n m ((729 * T + (1 + 5 * k) : Nat) : Int)) s m ∨ ∃ (s8 m8 : bS) (t' : Nat), (bb (D_expectNumber q n s 1 0 31) fun v6 s6 => (bb (D_expect q n s6 209) fun v7 s7 => (bb (D_expectNumber q n s7 2 0 3) fun v8 s8 => D_readClause_221 q d n s8 l1))) = D_readClause_221 q d n s8 l1 ∧ (∀ n, 3000 ≤ n → R_touchClause n m ((729 * T + (1 + 5 * k) : Nat) : Int) = some (0, m8)) ∧ t ≤ t' ∧ BX q L K S A N s8 m8 t' k i u T ∧ GS k s s8 ∧ GM T k u m m8 ∧ s8.2 4 = s.2 4 ∧ s8.2 6 = s.2 6 ∧ (s8.2 5 (4 * k + 1) = m8.2 2 (729 * T + 1 + 5 * k + 1) ∧ 0 ≤ s8.2 5 (4 * k + 1) ∧ s8.2 5 (4 * k + 1) ≤ 60) ∧ (s8.2 5 (4 * k + 2) = m8.2 2 (729 * T + 1 + 5 * k + 2) ∧ 0 ≤ s8.2 5 (4 * k + 2) ∧ s8.2 5 (4 * k + 2) ≤ 3) := by
  have T2 := hb.2.2.2.2.2
  have eR : ∀ n, R_touchClause n m ((729 * T + (1 + 5 * k) : Nat) : Int) = bb (R_figure n m ((729 * T + (1 + 5 * k + 1) : Nat) : Int) 0 31) fun v1 s1 => (if v1 = 0 then R_further n s1 ((729 * T + (1 + 5 * k + 2) : Nat) : Int) ((wcd.getD 9 0 : Nat) : Int) 3 else some (v1, s1)) := fun n => by
    unfold R_touchClause
    rw [wad1 (x := 729 * T + (1 + 5 * k)) (by omega), wad2 (x := 729 * T + (1 + 5 * k)) (by omega), Nat.add_assoc (729 * T) (1 + 5 * k) 1, Nat.add_assoc (729 * T) (1 + 5 * k) 2]
    simp only [b1_s w_9, bb_id]
  rcases fig_ok (n := n) (ix := 1) (lo := 0) (hi := 31) B H hb hk (by decide) (by decide) (by decide) (by decide) with ⟨f, a1, a2, a3⟩ | ⟨ma, a1, a2, a3, a4, a5⟩
  · refine Or.inl (FO_1 (f := f) hb a1 ⟨ay_w ((rf s f (S t)).1 12 + 1), Or.inl ?_⟩ (fun n hn => ?_))
    · have hw : (rf s f (S t)).1 13 ≠ 0 := a1
      rw [bb_s (show D_expectNumber q n s 1 0 31 = some (0, rf s f (S t)) from a2), bb_s (dd_exp hw), bb_s (dd_num hw)]
      exact d221 hw
    · show R_touchClause n m _ = _
      rw [eR, bb_s (a3 n), if_neg a1]
  · obtain ⟨sa, hsa⟩ : ∃ sa, sa = bI (bI (bA s 5 ((4 * k + 1 : Nat) : Int) (A t)) 8 ((t + 1 : Nat) : Int)) 9 (K (t + 1)) := ⟨_, rfl⟩
    rw [← hsa] at a2 a4
    have g1 : GS k s sa := by rw [hsa]; exact (GS_5 (by omega) (by omega)).tr GS_89
    have g2 : GM T k u m ma := (GM_a (by omega) (by omega)).tr (GM_NX a5)
    have sa5 : ∀ j, sa.2 5 j = if j = 4 * k + 1 then A t else s.2 5 j := fun j => by
      rw [hsa]
      show (bA s 5 ((4 * k + 1 : Nat) : Int) (A t)).2 5 j = _
      rw [bA_e (by omega)]
    have sa4 : sa.2 4 = s.2 4 := by rw [hsa]; show (bA s 5 ((4 * k + 1 : Nat) : Int) (A t)).2 4 = _; rw [bA_2 (by decide)]
    have sa6 : sa.2 6 = s.2 6 := by rw [hsa]; show (bA s 5 ((4 * k + 1 : Nat) : Int) (A t)).2 6 = _; rw [bA_2 (by decide)]
    have ma2 : ma.2 2 (729 * T + (1 + 5 * k + 1)) = A t := by rw [a5.2, b2_e, if_pos rfl]
    rw [bb_s (show D_expectNumber q n s 1 0 31 = some (0, sa) from a2)]
    rcases wrd_ok (n := n) (j := 9) B H a4 (by decide) with ⟨b1, b2⟩ | ⟨mb, b1, b2, b3, b4, b5⟩
    · refine Or.inl (FO_up (s2 := sa) (m2 := ma) (FO_1 (f := 1) a4 (by decide) ⟨ay_w ((rf sa 1 (S (t + 1))).1 12 + 1), Or.inl ?_⟩ (fun n hn => ?_)) g1.2.1 g2.1)
      · have hw : (rf sa 1 (S (t + 1))).1 13 ≠ 0 := by show (1 : Int) ≠ 0; decide
        rw [bb_s (show D_expect q n sa 209 = some (0, rf sa 1 (S (t + 1))) from b1), bb_s (dd_num hw)]
        exact d221 hw
      · show R_touchClause n m _ = _
        rw [eR, bb_s (a3 n (by omega)), if_pos rfl]
        unfold R_further
        rw [bb_s (b2 n), if_pos rfl]
    · obtain ⟨sb, hsb⟩ : ∃ sb, sb = bI (bI sa 8 ((t + 1 + 1 : Nat) : Int)) 9 (K (t + 1 + 1)) := ⟨_, rfl⟩
      rw [← hsb] at b1 b4
      have sb5 : sb.2 5 = sa.2 5 := by rw [hsb]; rfl
      have sb4 : sb.2 4 = sa.2 4 := by rw [hsb]; rfl
      have sb6 : sb.2 6 = sa.2 6 := by rw [hsb]; rfl
      have g3 : GS k s sb := by rw [hsb]; exact g1.tr GS_89
      have g4 : GM T k u m mb := g2.tr (GM_NX b5)
      rw [bb_s (show D_expect q n sa 209 = some (0, sb) from b1)]
      have eF : ∀ n, 3000 ≤ n → R_touchClause n m ((729 * T + (1 + 5 * k) : Nat) : Int) = R_figure n mb ((729 * T + (1 + 5 * k + 2) : Nat) : Int) 0 3 := fun n hn => by
        rw [eR, bb_s (a3 n (by omega)), if_pos rfl]
        unfold R_further
        rw [bb_s (b2 n), if_neg (by decide), bb_s (b3 n (by omega)), bb_id]
      rcases fig_ok (n := n) (ix := 2) (lo := 0) (hi := 3) B H b4 hk (by decide) (by decide) (by decide) (by decide) with ⟨f, c1, c2, c3⟩ | ⟨mc, c1, c2, c3, c4, c5⟩
      · refine Or.inl (FO_up (s2 := sb) (m2 := mb) (FO_1 (f := f) b4 c1 ⟨ay_w ((rf sb f (S (t + 1 + 1))).1 12 + 1), Or.inl ?_⟩ (fun n hn => ?_)) g3.2.1 g4.1)
        · have hw : (rf sb f (S (t + 1 + 1))).1 13 ≠ 0 := c1
          rw [bb_s (show D_expectNumber q n sb 2 0 3 = some (0, rf sb f (S (t + 1 + 1))) from c2)]
          exact d221 hw
        · show R_touchClause n m _ = _
          rw [eF n hn]; exact c3 n
      · obtain ⟨sc, hsc⟩ : ∃ sc, sc = bI (bI (bA sb 5 ((4 * k + 2 : Nat) : Int) (A (t + 1 + 1))) 8 ((t + 1 + 1 + 1 : Nat) : Int)) 9 (K (t + 1 + 1 + 1)) := ⟨_, rfl⟩
        rw [← hsc] at c2 c4
        have sc5 : ∀ j, sc.2 5 j = if j = 4 * k + 2 then A (t + 1 + 1) else sb.2 5 j := fun j => by
          rw [hsc]
          show (bA sb 5 ((4 * k + 2 : Nat) : Int) (A (t + 1 + 1))).2 5 j = _
          rw [bA_e (by omega)]
        have mc2 : ∀ j, mc.2 2 j = if j = 729 * T + (1 + 5 * k + 2) then A (t + 1 + 1) else mb.2 2 j := fun j => by rw [c5.2, b2_e]
        have e1 : sc.2 5 (4 * k + 1) = A t := by rw [sc5, if_neg (by omega), sb5, sa5, if_pos rfl]
        have e2 : sc.2 5 (4 * k + 2) = A (t + 1 + 1) := by rw [sc5, if_pos rfl]
        refine Or.inr ⟨sc, mc, t + 1 + 1 + 1, ?_, fun n hn => ?_, by omega, c4, ?_, g4.tr ((GM_a (by omega) (by omega)).tr (GM_NX c5)), ?_, ?_, ⟨?_, ?_, ?_⟩, ⟨?_, ?_, ?_⟩⟩
        · rw [bb_s (show D_expectNumber q n sb 2 0 3 = some (0, sc) from c2)]
        · rw [eF n hn]; exact c3 n (by omega)
        · rw [hsc]; exact g3.tr ((GS_5 (by omega) (by omega)).tr GS_89)
        · rw [hsc]
          show (bA sb 5 ((4 * k + 2 : Nat) : Int) (A (t + 1 + 1))).2 4 = _
          rw [bA_2 (by decide), sb4, sa4]
        · rw [hsc]
          show (bA sb 5 ((4 * k + 2 : Nat) : Int) (A (t + 1 + 1))).2 6 = _
          rw [bA_2 (by decide), sb6, sa6]
        · rw [e1, mc2, if_neg (by omega), b5.2, show 729 * T + 1 + 5 * k + 1 = 729 * T + (1 + 5 * k + 1) by omega, ma2]
        · rw [e1]; omega
        · rw [e1]; omega
        · rw [e2, mc2, if_pos (by omega)]
        · rw [e2]; omega
        · rw [e2]; omega
theorem B_touch (B : BY q L) (H : TB (q.2 0) L N K S A) (hb : BX q L K S A N s m t k i u T) (hk : k < 24) : FO T (bb (D_expectNumber q n s 1 0 31) fun v6 s6 => (bb (D_expect q n s6 209) fun v7 s7 => (bb (D_expectNumber q n s7 2 0 3) fun v8 s8 => D_readClause_221 q d n s8 203))) (fun n => R_touchClause n m ((729 * T + (1 + 5 * k) : Nat) : Int)) s m ∨ ∃ (s8 m8 : bS) (t' : Nat), (bb (D_expectNumber q n s 1 0 31) fun v6 s6 => (bb (D_expect q n s6 209) fun v7 s7 => (bb (D_expectNumber q n s7 2 0 3) fun v8 s8 => D_readClause_221 q d n s8 203))) = D_readClause_243 q d n s8 ∧ (∀ n, 3000 ≤ n → R_touchClause n m ((729 * T + (1 + 5 * k) : Nat) : Int) = some (0, m8)) ∧ BS q L K S A N s m s8 m8 3 t t' k i i u u T := by
  rcases B_two (n := n) (d := d) (l1 := 203) B H hb hk with h | ⟨s8, m8, t', a1, a2, a3, a4, a5, a6, a7, a8, a9, a10⟩
  · exact Or.inl h
  · refine Or.inr ⟨s8, m8, t', ?_, a2, a3, a4, a5, a6, fun j _ => by rw [a7], ⟨Nat.le_refl i, Nat.le_refl u⟩, ⟨fun _ => a9, fun _ => a10, fun h => by omega⟩, fun _ => ⟨a8, rfl, rfl⟩, fun h => by omega⟩
    rw [a1]
    unfold D_readClause_221
    rw [if_neg (by decide)]
theorem B_write (B : BY q L) (H : TB (q.2 0) L N K S A) (hb : BX q L K S A N s m t k i u T) (hk : k < 24) : FO T (bb (D_expectNumber q n s 1 0 31) fun v6 s6 => (bb (D_expect q n s6 209) fun v7 s7 => (bb (D_expectNumber q n s7 2 0 3) fun v8 s8 => D_readClause_221 q d n s8 204))) (fun n => R_writeClause n m ((729 * T + (1 + 5 * k) : Nat) : Int)) s m ∨ ∃ (s8 m8 : bS) (t' : Nat), (bb (D_expectNumber q n s 1 0 31) fun v6 s6 => (bb (D_expect q n s6 209) fun v7 s7 => (bb (D_expectNumber q n s7 2 0 3) fun v8 s8 => D_readClause_221 q d n s8 204))) = D_readClause_243 q d n s8 ∧ (∀ n, 3000 ≤ n → R_writeClause n m ((729 * T + (1 + 5 * k) : Nat) : Int) = some (0, m8)) ∧ BS q L K S A N s m s8 m8 4 t t' k i i u u T := by
  have T2 := hb.2.2.2.2.2
  have e3 : ay_w (((729 * T + (1 + 5 * k) : Nat) : Int) + 3) = ((729 * T + (1 + 5 * k + 3) : Nat) : Int) := by rw [ay_wi (by omega) (by omega)]; omega
  have eR : ∀ n, R_writeClause n m ((729 * T + (1 + 5 * k) : Nat) : Int) = bb (R_touchClause n m ((729 * T + (1 + 5 * k) : Nat) : Int)) fun v1 s1 => (if v1 = 0 then R_further n s1 ((729 * T + (1 + 5 * k + 3) : Nat) : Int) ((wcd.getD 10 0 : Nat) : Int) 99 else some (v1, s1)) := fun n => by
    unfold R_writeClause
    rw [e3]
    simp only [b1_s w_10, bb_id]
  clear e3
  rcases B_two (n := n) (d := d) (l1 := 204) B H hb hk with ⟨sx, f1, f2, f3, f4⟩ | ⟨sa, ma, t1, a1, a2, a3, a4, a5, a6, a7, a8, a9, a10⟩
  · refine Or.inl ⟨sx, f1, f2, f3, fun n hn => ?_⟩
    obtain ⟨mf, g1, g2, g3⟩ := f4 n hn
    refine ⟨mf, ?_, g2, g3⟩
    show R_writeClause n m _ = _
    rw [eR, bb_s g1, if_neg f2]
  · rw [a1]
    unfold D_readClause_221
    rw [if_pos rfl]
    rcases wrd_ok (n := n) (j := 10) B H a4 (by decide) with ⟨b1, b2⟩ | ⟨mb, b1, b2, b3, b4, b5⟩
    · refine Or.inl (FO_up (s2 := sa) (m2 := ma) (FO_1 (f := 1) a4 (by decide) ⟨ay_w ((rf sa 1 (S t1)).1 12 + 1), Or.inl ?_⟩ (fun n hn => ?_)) a5.2.1 a6.1)
      · have hw : (rf sa 1 (S t1)).1 13 ≠ 0 := by show (1 : Int) ≠ 0; decide
        rw [bb_s (show D_expect q n sa 210 = some (0, rf sa 1 (S t1)) from b1), bb_s (dd_num hw)]
        exact d243 hw
      · show R_writeClause n m _ = _
        rw [eR, bb_s (a2 n hn), if_pos rfl]
        unfold R_further
        rw [bb_s (b2 n), if_pos rfl]
    · obtain ⟨sb, hsb⟩ : ∃ sb, sb = bI (bI sa 8 ((t1 + 1 : Nat) : Int)) 9 (K (t1 + 1)) := ⟨_, rfl⟩
      rw [← hsb] at b1 b4
      have sb5 : sb.2 5 = sa.2 5 := by rw [hsb]; rfl
      have sb4 : sb.2 4 = sa.2 4 := by rw [hsb]; rfl
      have sb6 : sb.2 6 = sa.2 6 := by rw [hsb]; rfl
      have g3 : GS k s sb := by rw [hsb]; exact a5.tr GS_89
      have g4 : GM T k u m mb := a6.tr (GM_NX b5)
      rw [bb_s (show D_expect q n sa 210 = some (0, sb) from b1)]
      have eF : ∀ n, 3000 ≤ n → R_writeClause n m ((729 * T + (1 + 5 * k) : Nat) : Int) = R_figure n mb ((729 * T + (1 + 5 * k + 3) : Nat) : Int) 0 99 := fun n hn => by
        rw [eR, bb_s (a2 n hn), if_pos rfl]
        unfold R_further
        rw [bb_s (b2 n), if_neg (by decide), bb_s (b3 n (by omega)), bb_id]
      rcases fig_ok (n := n) (ix := 3) (lo := 0) (hi := 99) B H b4 hk (by decide) (by decide) (by decide) (by decide) with ⟨f, c1, c2, c3⟩ | ⟨mc, c1, c2, c3, c4, c5⟩
      · refine Or.inl (FO_up (s2 := sb) (m2 := mb) (FO_1 (f := f) b4 c1 ⟨ay_w ((rf sb f (S (t1 + 1))).1 12 + 1), Or.inl ?_⟩ (fun n hn => ?_)) g3.2.1 g4.1)
        · have hw : (rf sb f (S (t1 + 1))).1 13 ≠ 0 := c1
          rw [bb_s (show D_expectNumber q n sb 3 0 99 = some (0, rf sb f (S (t1 + 1))) from c2)]
          exact d243 hw
        · show R_writeClause n m _ = _
          rw [eF n hn]; exact c3 n
      · obtain ⟨sc, hsc⟩ : ∃ sc, sc = bI (bI (bA sb 5 ((4 * k + 3 : Nat) : Int) (A (t1 + 1))) 8 ((t1 + 1 + 1 : Nat) : Int)) 9 (K (t1 + 1 + 1)) := ⟨_, rfl⟩
        rw [← hsc] at c2 c4
        have sc5 : ∀ j, sc.2 5 j = if j = 4 * k + 3 then A (t1 + 1) else sa.2 5 j := fun j => by
          rw [hsc]
          show (bA sb 5 ((4 * k + 3 : Nat) : Int) (A (t1 + 1))).2 5 j = _
          rw [bA_e (by omega), sb5]
        have mc2 : ∀ j, mc.2 2 j = if j = 729 * T + (1 + 5 * k + 3) then A (t1 + 1) else ma.2 2 j := fun j => by rw [c5.2, b2_e, b5.2]
        refine Or.inr ⟨sc, mc, t1 + 1 + 1, ?_, fun n hn => ?_, by omega, c4, ?_, g4.tr ((GM_a (by omega) (by omega)).tr (GM_NX c5)), fun j _ => ?_, ⟨Nat.le_refl i, Nat.le_refl u⟩, ⟨fun _ => ?_, fun _ => ?_, fun _ => ?_⟩, fun _ => ⟨?_, rfl, rfl⟩, fun h => by omega⟩
        · rw [bb_s (show D_expectNumber q n sb 3 0 99 = some (0, sc) from c2)]
        · rw [eF n hn]; exact c3 n (by omega)
        · rw [hsc]; exact g3.tr ((GS_5 (by omega) (by omega)).tr GS_89)
        · rw [hsc]
          show (bA sb 5 ((4 * k + 3 : Nat) : Int) (A (t1 + 1))).2 4 j = _
          rw [bA_2 (by decide), sb4, a7]
        · rw [sc5, if_neg (by omega), mc2, if_neg (by omega)]; exact a9
        · rw [sc5, if_neg (by omega), mc2, if_neg (by omega)]; exact a10
        · rw [sc5, if_pos rfl, mc2, if_pos (by omega)]; omega
        · rw [hsc]
          show (bA sb 5 ((4 * k + 3 : Nat) : Int) (A (t1 + 1))).2 6 = _
          rw [bA_2 (by decide), sb6, a8]
end
