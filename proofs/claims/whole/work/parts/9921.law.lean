/-! Laws: whom they spare; laws as keepers meet them. -/
section
variable {q s s' m m' m1 w x x' tt kk xx : bS} {K S A a nn r r' t2 : Nat → Int} {z : Nat → Nat} {L n i j k t N u T Tm o p b y c h : Nat} {v l V : Int}
theorem pos_ok : (if ay_cmp V 0 ≤ 0 then some ((0 : Int), m) else some (1, m)) = some (bi (decide (0 < V)), m) := by
  have e : ay_cmp V 0 ≤ 0 ↔ ¬ 0 < V := by
    unfold ay_cmp
    by_cases c : V < 0
    · rw [if_pos c]; omega
    · rw [if_neg c]
      by_cases d : V = 0
      · rw [if_pos d]; omega
      · rw [if_neg d]; omega
  by_cases c : 0 < V
  · rw [if_neg (fun h => e.1 h c), decide_eq_true c]; rfl
  · rw [if_pos (e.2 c), decide_eq_false c]; rfl
theorem spares_ok (H : TXR x (m.2 2) T) (h4 : T < 4) (hru : m.2 0 2 = (T : Int)) (X : GX z w (m.2 0) Tm) (O : TO z tt (m.2 0)) (hs : h < 64) (h0 : 0 < spn w h) : ∃ b : Bool, LWs (K1_letsGo tt x) m w h b := by
  obtain ⟨k, a1, a2, a3, a4, _, _, a7⟩ := H
  have E := EV_ok X O
  have hT : w.1 14 = (Tm : Int) := X.1.2.2.2.2.1
  have hT2 : Tm < 131072 := X.1.2.2.2.2.2
  have hTa : w.1 14 = m.2 0 10 := X.1.1.2.2.2.1
  have hfr := fr_b (w := w)
  have I := X.1.2.1
  obtain ⟨e4, e3, hsp, hh, _⟩ := I.1 h hs
  have h16 : spn w h ≤ 16 := by omega
  have RFs := X.1.1.1.2.1 h hs h0
  have hIS := X.2.2.2.2.1 h hs h0
  have hhl : hld w h ≤ 16 := by have := cn_le (pgs w h) (spn w h); unfold hld; omega
  obtain ⟨o, ho⟩ : ∃ o, o = hom w h / 32 := ⟨_, rfl⟩
  have ho4 : o < 4 := by omega
  have O1 := O.1 o ho4
  rcases a7 with ⟨b1, b2⟩ | ⟨j, i0, i1, u0, u1, b1, b2, b3, b4, b5, b6, b7, b8, b9⟩
  · refine ⟨true, fun n kk xx hn => ⟨xx, ?_⟩, fun n m' hn hm => ⟨m', ?_, hm⟩⟩
    · unfold K1_letsGo
      rw [if_pos (show x.1 4 = -1 from b1)]; rfl
    · have e2 := hm.2 2 (by decide) (by decide) (by decide)
      have e0 := hm.2 0 (by decide) (by decide) (by decide)
      unfold R_isSpared
      rw [e0, hru, bb_s (show R_clauseOf n m' (T : Int) 1 = some (-1, m') from clauseOf_n (b := 1) h4 a1 (by rw [e2]; exact a2) (by rw [e2]; exact b2) k n 0 (by omega) (by omega)), if_pos rfl]; rfl
  · obtain ⟨nn, hnn⟩ : ∃ nn : Nat → Int, nn = fun k => if k = 0 then (Tm : Int) else if k = 1 then (fr w : Int) else if k = 2 then (o : Int) else if k = 3 then (z o : Int) else if k = 5 then (Tm : Int) - w.2 5 h else if k = 6 then (hld w h : Int) else (spn w h : Int) := ⟨_, rfl⟩
    have nb : ∀ k, k < 8 → od 1 k → -1000000 ≤ nn k ∧ nn k ≤ 1000000 := fun k hk _ => by
      rw [hnn]
      have : k = 0 ∨ k = 1 ∨ k = 2 ∨ k = 3 ∨ k = 4 ∨ k = 5 ∨ k = 6 ∨ k = 7 := by omega
      rcases this with h | h | h | h | h | h | h | h <;> subst h
      · show -1000000 ≤ (Tm : Int) ∧ (Tm : Int) ≤ 1000000; omega
      · show -1000000 ≤ (fr w : Int) ∧ (fr w : Int) ≤ 1000000; omega
      · show -1000000 ≤ (o : Int) ∧ (o : Int) ≤ 1000000; omega
      · show -1000000 ≤ (z o : Int) ∧ (z o : Int) ≤ 1000000; omega
      · show -1000000 ≤ (spn w h : Int) ∧ (spn w h : Int) ≤ 1000000; omega
      · show -1000000 ≤ (Tm : Int) - w.2 5 h ∧ (Tm : Int) - w.2 5 h ≤ 1000000; omega
      · show -1000000 ≤ (hld w h : Int) ∧ (hld w h : Int) ≤ 1000000; omega
      · show -1000000 ≤ (spn w h : Int) ∧ (spn w h : Int) ≤ 1000000; omega
    obtain ⟨V, hV, c1, c2⟩ := b9.2 w (m.2 0) nn E nb
    have hle := b9.1
    have eid : ay_w ((Tm : Int) - w.2 5 h) = (Tm : Int) - w.2 5 h := ay_wi (by omega) (by omega)
    refine ⟨decide (0 < V), fun n kk xx hn => ?_, fun n m' hn hm => ?_⟩
    · have ed : ay_w (Int.tdiv ((hom w h : Nat) : Int) 32) = (o : Int) := by
        clear eid
        rw [ay_dn (by omega) (by omega) (by omega)]; omega
      obtain ⟨xx', g⟩ := ans_ok (t := tt) (kk := kk) (xx := bA (bA (bA (bA (bA (bA (bA xx 0 0 (w.1 14)) 0 1 (fr w : Int)) 0 2 (o : Int)) 0 3 (tt.2 0 o)) 0 5 ((Tm : Int) - w.2 5 h)) 0 6 (hld w h : Int)) 0 7 (spn w h : Int)) (n := n) c1 hle.1 b7 a4 hV (fun k hk hk2 => by
        have hk4 : k ≠ 4 := by rcases hk2 with h | h <;> omega
        rw [bA_0 (by decide), bA_0 (by decide), bA_0 (by decide), bA_0 (by decide), bA_0 (by decide), bA_0 (by decide), bA_0 (by decide), hnn, hT, O1.1]
        have : k = 0 ∨ k = 1 ∨ k = 2 ∨ k = 3 ∨ k = 5 ∨ k = 6 ∨ k = 7 := by clear ed eid; omega
        rcases this with h | h | h | h | h | h | h <;> subst h <;> rfl) (by clear ed eid; omega)
      refine ⟨xx', ?_⟩
      have hb : (0 : Int) ≤ (h : Int) ∧ (h : Int) < 64 := by clear ed eid; omega
      unfold K1_letsGo
      rw [if_neg (by rw [show x.1 4 = (i0 : Int) from b3]; clear ed eid; omega), if_pos hb, bb_s (W_freeFrames_ok I (by clear ed eid; omega)), Int.toNat_natCast]
      show (if 0 ≤ (ay_w (Int.tdiv (w.2 3 h) 32)) ∧ (ay_w (Int.tdiv (w.2 3 h) 32)) < 4 then _ else none) = _
      rw [e3, ed, if_pos ⟨by clear ed eid; omega, by clear ed eid; omega⟩]
      unfold A_setShared
      rw [bb_s rfl, if_pos hb, bb_s (W_holds_ok n I hs h0), if_pos hb, Int.toNat_natCast]
      show (bb (A1_answer tt x n (kk, w, bA (bA (bA (bA (bA (bA (bA xx 0 0 (w.1 14)) 0 1 (fr w : Int)) 0 2 (o : Int)) 0 3 (tt.2 0 o)) 0 5 (ay_w (w.1 14 - w.2 5 h))) 0 6 (hld w h : Int)) 0 7 (w.2 4 h)) (x.1 4) (x.1 5)) fun v5 s5 => (if v5 ≤ 0 then some (0, s5) else some (1, s5))) = _
      rw [hT] at g
      rw [hT, eid, e4, show x.1 4 = (i0 : Int) from b3, show x.1 5 = (i1 : Int) from b4, bb_s g]
      by_cases c : 0 < V
      · rw [if_neg (by clear ed eid; omega), decide_eq_true c]; rfl
      · rw [if_pos (by clear ed eid; omega), decide_eq_false c]; rfl
    · have e2 := hm.2 2 (by decide) (by decide) (by decide)
      have e0 := hm.2 0 (by decide) (by decide) (by decide)
      obtain ⟨m3, hm3⟩ : ∃ m3, m3 = bA (bA (bA (bA m' 20 0 (m'.2 0 10)) 20 1 (fr w : Int)) 20 2 (o : Int)) 20 3 (m'.2 0 (6 + o)) := ⟨_, rfl⟩
      have q3 : Mq m' m3 := by rw [hm3]; exact ((Mq20.tr' Mq20).tr' Mq20).tr' Mq20
      have f30 : m3.2 0 = m.2 0 := by rw [q3.2 0 (by decide) (by decide) (by decide), e0]
      obtain ⟨m5, hm5⟩ : ∃ m5, m5 = bA m3 20 5 ((Tm : Int) - w.2 5 h) := ⟨_, rfl⟩
      have q5 : Mq m3 m5 := by rw [hm5]; exact Mq20
      have f50 : m5.2 0 = m.2 0 := by rw [q5.2 0 (by decide) (by decide) (by decide), f30]
      obtain ⟨m6, hm6⟩ : ∃ m6, m6 = bA m5 20 6 (hld w h : Int) := ⟨_, rfl⟩
      have q6 : Mq m5 m6 := by rw [hm6]; exact Mq20
      have f60 : m6.2 0 = m.2 0 := by rw [q6.2 0 (by decide) (by decide) (by decide), f50]
      obtain ⟨m7, hm7⟩ : ∃ m7, m7 = bA m6 20 7 (spn w h : Int) := ⟨_, rfl⟩
      have q7 : Mq m6 m7 := by rw [hm7]; exact Mq20
      have f70 : m7.2 0 = m.2 0 := by rw [q7.2 0 (by decide) (by decide) (by decide), f60]
      have qa : Mq m' m7 := ((q3.tr' q5).tr' q6).tr' q7
      have f72 : m7.2 2 = m.2 2 := by rw [qa.2 2 (by decide) (by decide) (by decide), e2]
      obtain ⟨m9, g1, g2⟩ := sum_ok (m := m7) (T := T) (j := j) (n := n) h4 (by clear eid; omega) (by rw [f72, f70]; exact c2) hle.2 b8 (by rw [f72]; exact b5) (by rw [f72]; exact b6) (fun k hk hk2 => by
        have hk4 : k ≠ 4 := by rcases hk2 with h | h <;> (clear eid; omega)
        rw [hm7, bA_20 (by decide), hm6, bA_20 (by decide), hm5, bA_20 (by decide), hm3, bA_20 (by decide), bA_20 (by decide), bA_20 (by decide), bA_20 (by decide), hnn, e0, ← hTa, hT, O1.2.1]
        have : k = 0 ∨ k = 1 ∨ k = 2 ∨ k = 3 ∨ k = 5 ∨ k = 6 ∨ k = 7 := by clear eid; omega
        rcases this with h | h | h | h | h | h | h <;> subst h <;> rfl) (by clear eid; omega)
      refine ⟨m9, ?_, (hm.tr' qa).tr' (Mq21 g2)⟩
      unfold R_isSpared
      have fa1 : R_frameAt n m' (h : Int) 1 = some ((o : Int), m') := by rw [R_frameAt_ok n m' hs (by decide) (by decide), e0]; show some (m.2 0 (914 + 5 * h + 1), m') = _; rw [RFs.1, ho]
      have fa4 : R_frameAt n m3 (h : Int) 4 = some (w.2 5 h, m3) := by rw [R_frameAt_ok n m3 hs (by decide) (by decide), f30]; show some (m.2 0 (914 + 5 * h + 4), m3) = _; rw [RFs.2.2.2]
      have fa3 : R_frameAt n m6 (h : Int) 3 = some ((spn w h : Int), m6) := by rw [R_frameAt_ok n m6 hs (by decide) (by decide), f60]; show some (m.2 0 (914 + 5 * h + 3), m6) = _; rw [RFs.2.2.1]
      rw [e0, hru, bb_s (show R_clauseOf n m' (T : Int) 1 = some ((j : Int), m') from clauseOf_y (b := 1) h4 a1 (by rw [e2]; exact a2) b1 (by rw [e2]; exact b2) j n 0 (by clear eid; omega) (by clear eid; omega)), if_neg (by clear eid; omega), bb_s fa1, bb_s (name_ok (z := z) (Tm := Tm) (w := w) (m := m') (by rw [e0]; exact X) ho4 (by clear eid; omega)), ← hm3, bb_s fa4, f30, ← hTa, hT, eid, ← hm5, bb_s (R_holdsOf_ok (m := m5) I (by rw [f50]; exact X.1.1.1) (by rw [f50]; exact X.1.1.2.1) hs h0 (by clear eid; omega)), ← hm6, bb_s fa3, ← hm7, f60, hru, bb_s g1]
      exact pos_ok
theorem LAW_1 (H : TXR x t2 T) (h4 : T < 4) : LAW z tt (K1_wanted tt x) (K1_letsGo tt x) t2 (T : Int) := fun m w Tm X O h2 hr => ⟨fun o p ho hp => by
  subst h2
  obtain ⟨v, h1, h2, h3⟩ := wants_ok H h4 X O ho hp
  exact ⟨v, h1, h2, by rw [hr]; exact h3⟩, fun s hs h0 => by
  subst h2
  exact spares_ok H h4 hr X O hs h0⟩
theorem LAW_0 : LAW z tt (K0_wanted tt) (K0_letsGo tt) t2 (-1) := fun m w Tm X O h2 hr => by
  have cl : ∀ (n : Nat) (m' : bS) (b : Int), 1 ≤ n → R_clauseOf n m' (-1) b = some (-1, m') := fun n m' b hn => by
    obtain ⟨n2, hn2⟩ : ∃ n2, n = n2 + 1 := ⟨n - 1, by omega⟩
    subst hn2
    unfold R_clauseOf R_clauseOf_2
    rw [if_pos (by decide)]
  refine ⟨fun o p ho hp => ⟨16, by omega, fun n kk xx hn => ⟨xx, rfl⟩, fun n m' hn hm => ⟨m', ?_, hm⟩⟩, fun s hs h0 => ⟨true, fun n kk xx hn => ⟨xx, rfl⟩, fun n m' hn hm => ⟨m', ?_, hm⟩⟩⟩
  · unfold R_wantsBy
    rw [hr, bb_s (cl n m' 0 (by omega)), if_pos rfl]; rfl
  · unfold R_isSpared
    rw [hm.2 0 (by decide) (by decide) (by decide), hr, bb_s (cl n m' 1 (by omega)), if_pos rfl]; rfl
end
