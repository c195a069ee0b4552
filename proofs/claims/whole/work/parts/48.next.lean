/-! Which block is emptied next, on both sides. -/
theorem runsE {R : Type} (F : Nat → Nat → Option R) (j K : Nat) {r : Option R} (hs : ∀ n i, i < j → K ≤ n → F (n + 1) i = F n (i + 1)) (he : ∀ n, K ≤ n → F (n + 1) j = r) : ∀ (k n i : Nat), k + i = j → k + 1 + K ≤ n → F n i = r
  | 0, n, i, h, hn => by
    obtain ⟨n, rfl⟩ : ∃ m, n = m + 1 := ⟨n - 1, by omega⟩
    rw [show i = j by omega]; exact he n (by omega)
  | k + 1, n, i, h, hn => by
    obtain ⟨n, rfl⟩ : ∃ m, n = m + 1 := ⟨n - 1, by omega⟩
    rw [hs n i (by omega) (by omega)]
    exact runsE F j K hs he k n (i + 1) (by omega) (by omega)
section
variable {n : Nat} {m w : bS} {o p f s N k i a : Nat}
def nxt (w : bS) (N k : Nat) (r : Int × Int) : Int × Int := if (fIn w (k * N) N = true ∧ fDr w (k * N) N = false) ∧ (r.1 = -1 ∨ fUs w (k * N) N < r.2) then (((k * N : Nat) : Int), fUs w (k * N) N) else r
def bst (w : bS) (N : Nat) : Nat → Int × Int
  | 0 => (-1, 0)
  | k + 1 => nxt w N k (bst w N k)
theorem W_bte_27 (I : IF w) (hN : isN N) (ha : a + N ≤ 64) (k7 : bS → Int → Int → Int → Int → Option (Int × bS)) (l2 l3 : Int) (hn : 25 ≤ n) : W_blockToEmpty_27 k7 n w N l2 l3 a 0 0 (-1) a = (if (fIn w a N = true ∧ fDr w a N = false) ∧ (l2 = -1 ∨ fUs w a N < l3) then k7 w N a (fUs w a N) ((a + N : Nat) : Int) else k7 w N l2 l3 ((a + N : Nat) : Int)) := by
  have hN16 : N ≤ 16 ∧ 0 < N := by rcases hN with h | h | h <;> omega
  have hst : (if (1 : Int) < (N : Int) then (N : Int) else 1) = (N : Int) := by rcases hN with h | h | h <;> subst h <;> rfl
  refine Eq.trans (runsE (fun n t => W_blockToEmpty_27 k7 n w N l2 l3 a (bi (fIn w a t)) (bi (fDr w a t)) (fUs w a t) ((a + t : Nat) : Int)) N 5 (fun n t ht hn => ?_) (fun n _ => ?_) N n 0 (by omega) (by omega)) rfl
  · show W_blockToEmpty_27 k7 (n + 1) w N l2 l3 a (bi (fIn w a t)) (bi (fDr w a t)) (fUs w a t) ((a + t : Nat) : Int) = W_blockToEmpty_27 k7 n w N l2 l3 a (bi (fIn w a (t + 1))) (bi (fDr w a (t + 1))) (fUs w a (t + 1)) ((a + (t + 1) : Nat) : Int)
    rw [W_blockToEmpty_27, ay_wi (x := (a : Int) + (N : Int)) (by omega) (by omega), if_neg (by omega), bb_s (W_inFrame_ok I (by omega) hn)]
    have hx : idf w (a + t) = -1 ↔ ¬ cvs w (a + t) < 64 := by
      unfold idf
      by_cases hc : cvs w (a + t) < 64
      · rw [if_pos hc]
        refine ⟨fun q => ?_, fun q => absurd hc q⟩
        split at q <;> omega
      · rw [if_neg hc]; exact ⟨fun _ => hc, fun _ => rfl⟩
    rw [W_bte_60 I (f := a + t) (by omega), W_bte_60 I (f := a + t) (by omega)]
    show (if bi (fIn w a t) = 0 then (if idf w (a + t) = -1 then _ else _) else _) = W_blockToEmpty_27 k7 n w N l2 l3 a (bi (fIn w a t || decide (cvs w (a + t) < 64))) _ _ _
    cases hfi : fIn w a t
    · rw [if_pos (show bi false = 0 from rfl), Bool.false_or]
      by_cases hc : cvs w (a + t) < 64
      · rw [if_neg (fun q => hx.mp q hc), decide_eq_true hc]; rfl
      · rw [if_pos (hx.mpr hc), decide_eq_false hc]; rfl
    · rw [if_neg (show ¬ bi true = 0 by decide), Bool.true_or]; rfl
  · show W_blockToEmpty_27 k7 (n + 1) w N l2 l3 a (bi (fIn w a N)) (bi (fDr w a N)) (fUs w a N) ((a + N : Nat) : Int) = _
    rw [W_blockToEmpty_27, ay_wi (x := (a : Int) + (N : Int)) (by omega) (by omega), if_pos (by omega)]
    unfold W_blockToEmpty_148
    rw [hst, ay_wi (by omega) (by omega), show (a : Int) + (N : Int) = ((a + N : Nat) : Int) by omega]
    cases fIn w a N
    · rw [if_pos (by decide), if_neg (fun q => by cases q.1.1)]
    · rw [if_neg (by decide)]
      cases fDr w a N
      · rw [if_pos (by decide)]
        by_cases h2 : l2 = -1
        · rw [if_pos h2, if_pos ⟨⟨rfl, rfl⟩, Or.inl h2⟩]
        · rw [if_neg h2]
          by_cases h3 : l3 ≤ fUs w a N
          · rw [if_pos h3, if_neg (fun q => by rcases q.2 with q | q <;> omega)]
          · rw [if_neg h3, if_pos ⟨⟨rfl, rfl⟩, Or.inr (by omega)⟩]
      · rw [if_neg (by decide), if_neg (fun q => by cases q.1.2)]
theorem W_blockToEmpty_ok (I : IF w) (hN : isN N) (hn : 100 ≤ n) : W_blockToEmpty n w N = some ((bst w N (64 / N)).1, w) := by
  unfold W_blockToEmpty
  have h64N : 64 / N ≤ 64 ∧ 64 / N * N = 64 := by rcases hN with h | h | h <;> subst h <;> decide
  generalize hj : 64 / N = j at h64N
  have hN16 : N ≤ 16 ∧ 0 < N := by rcases hN with h | h | h <;> omega
  have key := runs0 (fun n k => W_blockToEmpty_7 n w N (bst w N k).1 (bst w N k).2 ((k * N : Nat) : Int)) j 25 (r := ((bst w N j).1, w)) (fun n k hk hn => ?_) (fun n hn => ?_) (n := n) (by omega)
  · simp only [Nat.zero_mul] at key
    exact key
  · have hs1 : (k + 1) * N = k * N + N := Nat.succ_mul k N
    have hb : k * N + N ≤ 64 := by
      have : (k + 1) * N ≤ j * N := Nat.mul_le_mul_right N hk
      omega
    show W_blockToEmpty_7 (n + 1) w N (bst w N k).1 (bst w N k).2 ((k * N : Nat) : Int) = W_blockToEmpty_7 n w N (bst w N (k + 1)).1 (bst w N (k + 1)).2 (((k + 1) * N : Nat) : Int)
    rw [W_blockToEmpty_7, if_neg (by omega), W_bte_27 I hN hb _ _ _ hn, hs1]
    show _ = W_blockToEmpty_7 n w N (nxt w N k (bst w N k)).1 (nxt w N k (bst w N k)).2 _
    unfold nxt
    split <;> rfl
  · show W_blockToEmpty_7 (n + 1) w N (bst w N j).1 (bst w N j).2 ((j * N : Nat) : Int) = _
    rw [W_blockToEmpty_7, if_pos (by omega)]
/-- dirt in a frame -/
def dqf (w : bS) (f : Nat) : Bool := ful w f && drt w (hom w (cvs w f) / 32) (hom w (cvs w f) % 32 + (f - cvs w f))
theorem fDr_iff : ∀ t, fDr w a t = true ↔ ∃ i, i < t ∧ dqf w (a + i) = true
  | 0 => ⟨fun h => (by cases h), fun ⟨i, h, _⟩ => absurd h (Nat.not_lt_zero i)⟩
  | t + 1 => by
    show (fDr w a t || dqf w (a + t)) = true ↔ _
    rw [Bool.or_eq_true, fDr_iff t]
    refine ⟨fun q => ?_, fun ⟨i, hi, hd⟩ => ?_⟩
    · rcases q with ⟨i, hi, hd⟩ | hd
      · exact ⟨i, by omega, hd⟩
      · exact ⟨t, by omega, hd⟩
    · by_cases e : i = t
      · subst e; exact Or.inr hd
      · exact Or.inl ⟨i, by omega, hd⟩
theorem fIn_iff : ∀ t, fIn w a t = true ↔ ∃ i, i < t ∧ cvs w (a + i) < 64
  | 0 => ⟨fun h => (by cases h), fun ⟨i, h, _⟩ => absurd h (Nat.not_lt_zero i)⟩
  | t + 1 => by
    show (fIn w a t || decide (cvs w (a + t) < 64)) = true ↔ _
    rw [Bool.or_eq_true, fIn_iff t, decide_eq_true_iff]
    refine ⟨fun q => ?_, fun ⟨i, hi, hd⟩ => ?_⟩
    · rcases q with ⟨i, hi, hd⟩ | hd
      · exact ⟨i, by omega, hd⟩
      · exact ⟨t, by omega, hd⟩
    · by_cases e : i = t
      · subst e; exact Or.inr hd
      · exact Or.inl ⟨i, by omega, hd⟩
theorem fIn_fre : fIn w (k * N) N = !fre w N k := by
  rw [Bool.eq_iff_iff, fIn_iff, Bool.not_eq_true', Bool.eq_false_iff, Ne, fre_iff]
  refine ⟨fun ⟨i, hi, h⟩ q => q i hi h, fun h => ?_⟩
  by_cases e : ∃ i, i < N ∧ cvs w (k * N + i) < 64
  · exact e
  · exact absurd (fun t ht hc => e ⟨t, ht, hc⟩) h
def usd (w : bS) (N k : Nat) : Int := if fDr w (k * N) N = true then 1000000 else if fIn w (k * N) N = true then fUs w (k * N) N else 1000000
theorem R_usedIn_ok (I : IF w) (HF : RF w (m.2 0)) (HP : RP w (m.2 0)) (hN : isN N) (hk : k * N + N ≤ 64) (hn : 45 ≤ n) : R_usedIn n m ((k * N : Nat) : Int) N = some (usd w N k, m) := by
  unfold R_usedIn
  have hN16 : N ≤ 16 ∧ 0 < N := by rcases hN with h | h | h <;> omega
  obtain ⟨q1, q2⟩ := fs_spec (fun t => dqf w (k * N + t)) N
  have q0 := fs_le (fun t => dqf w (k * N + t)) N
  have hfd : fDr w (k * N) N = true ↔ fs (fun t => dqf w (k * N + t)) N < N := by
    rw [fDr_iff]
    refine ⟨fun ⟨i, hi, hd⟩ => ?_, fun h => ⟨_, h, q2 h⟩⟩
    by_cases e : fs (fun t => dqf w (k * N + t)) N < N
    · exact e
    · have := q1 i (by omega); simp only [hd] at this; cases this
  generalize hj : fs (fun t => dqf w (k * N + t)) N = j at q0 q1 q2 hfd
  refine Eq.trans (runs0 (fun n t => R_usedIn_5 n m ((k * N : Nat) : Int) N (fUs w (k * N) t) ((k * N + t : Nat) : Int)) j 20 (r := (usd w N k, m)) (fun n t ht _ => ?_) (fun n hn => ?_) (n := n) (by omega)) rfl
  · have hq : dqf w (k * N + t) = false := q1 t ht
    show R_usedIn_5 (n + 1) m ((k * N : Nat) : Int) N (fUs w (k * N) t) ((k * N + t : Nat) : Int) = R_usedIn_5 n m ((k * N : Nat) : Int) N (fUs w (k * N) (t + 1)) ((k * N + (t + 1) : Nat) : Int)
    rw [R_usedIn_5, ay_wi (x := ((k * N : Nat) : Int) + (N : Int)) (by omega) (by omega), if_neg (by omega), bb_s (R_isFull_ok n I HF HP (by omega)), i01, ay_wi (by omega) (by omega), show ((k * N + t : Nat) : Int) + 1 = ((k * N + (t + 1) : Nat) : Int) by omega]
    show _ = R_usedIn_5 n m ((k * N : Nat) : Int) N (if ful w (k * N + t) = true then (if fUs w (k * N) t < w.2 2 (hom w (cvs w (k * N + t)) + (k * N + t - cvs w (k * N + t))) then w.2 2 (hom w (cvs w (k * N + t)) + (k * N + t - cvs w (k * N + t))) else fUs w (k * N) t) else fUs w (k * N) t) ((k * N + (t + 1) : Nat) : Int)
    generalize hff : k * N + t = f at *
    by_cases hfu : ful w f = true
    · rw [if_pos hfu, if_pos hfu]
      have hc : cvs w f < 64 := by
        unfold ful at hfu
        rw [Bool.and_eq_true, decide_eq_true_iff] at hfu
        exact hfu.1
      have hin := cvs_in hc
      have hpg := inF_page I hc hin
      have hf64 : f < 64 := by omega
      have e := HF.fst I hf64
      rw [if_pos hc] at e
      obtain ⟨a1, a2, a3, a4⟩ := HF.2.1 _ hc (I.in hc hin).1
      have hdr : drt w (hom w (cvs w f) / 32) (hom w (cvs w f) % 32 + (f - cvs w f)) = false := by
        unfold dqf at hq
        rw [hfu, Bool.true_and] at hq
        exact hq
      have ha := I.at hc (I.in hc hin).1
      have b1 := hin.1; have b2 := hin.2
      rw [bb_s (R_ownerOf_ok n m hf64 hc e), bb_s (R_pageIn_ok n m hf64 hc e a2 (by omega) b1), a1, bb_s (R_isDirty_ok n HP (by omega) (by omega)), i01, hdr, if_neg (by decide), bb_s (R_ownerOf_ok n m hf64 hc e), bb_s (R_pageIn_ok n m hf64 hc e a2 (by omega) b1), a1, bb_s (R_pageAt_ok n m (by omega) (by omega) (by omega) (by omega)), show (6 : Int).toNat = 6 from rfl, (HP _ _ (by omega) (by omega)).2.2.2.2.2, show 32 * (hom w (cvs w f) / 32) + (hom w (cvs w f) % 32 + (f - cvs w f)) = hom w (cvs w f) + (f - cvs w f) by omega]
      by_cases hu : fUs w (k * N) t < w.2 2 (hom w (cvs w f) + (f - cvs w f))
      · rw [if_pos hu, if_neg (by omega)]
      · rw [if_neg hu, if_pos (by omega)]
    · rw [if_neg hfu, if_neg hfu]
  · show R_usedIn_5 (n + 1) m ((k * N : Nat) : Int) N (fUs w (k * N) j) ((k * N + j : Nat) : Int) = _
    unfold usd
    rw [R_usedIn_5, ay_wi (x := ((k * N : Nat) : Int) + (N : Int)) (by omega) (by omega)]
    by_cases h : j < N
    · have hq : dqf w (k * N + j) = true := q2 h
      rw [if_neg (by omega), bb_s (R_isFull_ok n I HF HP (by omega)), i01, if_pos (hfd.mpr h)]
      generalize hff : k * N + j = f at *
      unfold dqf at hq
      rw [Bool.and_eq_true] at hq
      obtain ⟨hfu, hdr⟩ := hq
      have hc : cvs w f < 64 := by
        have := hfu
        unfold ful at this
        rw [Bool.and_eq_true, decide_eq_true_iff] at this
        exact this.1
      have hin := cvs_in hc
      have hf64 : f < 64 := by omega
      have e := HF.fst I hf64
      rw [if_pos hc] at e
      obtain ⟨a1, a2, a3, a4⟩ := HF.2.1 _ hc (I.in hc hin).1
      have ha := I.at hc (I.in hc hin).1
      have b1 := hin.1; have b2 := hin.2
      rw [if_pos hfu, bb_s (R_ownerOf_ok n m hf64 hc e), bb_s (R_pageIn_ok n m hf64 hc e a2 (by omega) b1), a1, bb_s (R_isDirty_ok n HP (by omega) (by omega)), i01, hdr, if_pos rfl]
    · have hj' : j = N := by omega
      have hf : ¬ fDr w (k * N) N = true := fun q => h (hfd.mp q)
      rw [if_pos (by omega), bb_s (R_areFree_ok I HF hN hk hn), i01, if_neg hf, fIn_fre, hj']
      cases fre w N k <;> rfl
/-- uses are below what the reference calls far off -/
def IU (w : bS) : Prop := ∀ i, i < 128 → -1 ≤ w.2 2 i ∧ w.2 2 i < 1000000
theorem fUs_lt (I : IF w) (U : IU w) : ∀ t, a + t ≤ 64 → -1 ≤ fUs w a t ∧ fUs w a t < 1000000
  | 0, _ => by show (-1 : Int) ≤ -1 ∧ (-1 : Int) < 1000000; omega
  | t + 1, h => by
    have ih := fUs_lt I U t (by omega)
    show _ ≤ (if ful w (a + t) = true then (if fUs w a t < w.2 2 (hom w (cvs w (a + t)) + (a + t - cvs w (a + t))) then w.2 2 (hom w (cvs w (a + t)) + (a + t - cvs w (a + t))) else fUs w a t) else fUs w a t) ∧ (if ful w (a + t) = true then (if fUs w a t < w.2 2 (hom w (cvs w (a + t)) + (a + t - cvs w (a + t))) then w.2 2 (hom w (cvs w (a + t)) + (a + t - cvs w (a + t))) else fUs w a t) else fUs w a t) < _
    by_cases hfu : ful w (a + t) = true
    · have hc : cvs w (a + t) < 64 := by
        have := hfu
        unfold ful at this
        rw [Bool.and_eq_true, decide_eq_true_iff] at this
        exact this.1
      have hpg := inF_page I hc (cvs_in hc)
      have hu := U _ hpg.1
      rw [if_pos hfu]
      split <;> omega
    · rw [if_neg hfu]; exact ih
theorem R_nextEmptied_ok (I : IF w) (HF : RF w (m.2 0)) (HP : RP w (m.2 0)) (U : IU w) (hN : isN N) (hn : 120 ≤ n) : R_nextEmptied n m N = some ((bst w N (64 / N)).1, m) := by
  unfold R_nextEmptied
  have h64N : 64 / N ≤ 64 ∧ 64 / N * N = 64 := by rcases hN with h | h | h <;> subst h <;> decide
  generalize hj : 64 / N = j at h64N
  have hN16 : N ≤ 16 ∧ 0 < N := by rcases hN with h | h | h <;> omega
  have key := runs0 (fun n k => R_nextEmptied_9 n m N (bst w N k).1 (if (bst w N k).1 = -1 then 1000000 else (bst w N k).2) ((k * N : Nat) : Int)) j 45 (r := ((bst w N j).1, m)) (fun n k hk hn => ?_) (fun n hn => ?_) (n := n) (by omega)
  · simp only [Nat.zero_mul] at key
    exact key
  · have hs1 : (k + 1) * N = k * N + N := Nat.succ_mul k N
    have hb : k * N + N ≤ 64 := by
      have : (k + 1) * N ≤ j * N := Nat.mul_le_mul_right N hk
      omega
    have hul := fUs_lt (a := k * N) I U N hb
    show R_nextEmptied_9 (n + 1) m N (bst w N k).1 (if (bst w N k).1 = -1 then 1000000 else (bst w N k).2) ((k * N : Nat) : Int) = R_nextEmptied_9 n m N (nxt w N k (bst w N k)).1 (if (nxt w N k (bst w N k)).1 = -1 then 1000000 else (nxt w N k (bst w N k)).2) (((k + 1) * N : Nat) : Int)
    rw [R_nextEmptied_9, if_neg (by omega), bb_s (R_usedIn_ok I HF HP hN hb hn), bb_s (R_usedIn_ok I HF HP hN hb hn), ay_wi (by omega) (by omega), show ((k * N : Nat) : Int) + (N : Int) = (((k + 1) * N : Nat) : Int) by omega]
    have hbl : ∀ k, (bst w N k).1 ≠ -1 → k * N ≤ 64 → (bst w N k).2 < 1000000 := by
      intro k
      induction k with
      | zero => intro h; exact absurd rfl h
      | succ k ih =>
        intro h hk
        rw [Nat.succ_mul] at hk
        show (nxt w N k (bst w N k)).2 < 1000000
        have h' : (nxt w N k (bst w N k)).1 ≠ -1 := h
        unfold nxt at h' ⊢
        split
        · exact (fUs_lt I U N (by omega)).2
        · rename_i hc
          rw [if_neg hc] at h'
          exact ih h' (by omega)
    have hbk := hbl k
    generalize bst w N k = r at hbk
    have far : ¬ (1000000 : Int) < if r.1 = -1 then 1000000 else r.2 := by
      by_cases h : r.1 = -1
      · rw [if_pos h]; omega
      · rw [if_neg h]; have := hbk h (by omega); omega
    cases hfd : fDr w (k * N) N
    · cases hfi : fIn w (k * N) N
      · have e1 : usd w N k = 1000000 := by unfold usd; rw [hfd, hfi]; rfl
        have e2 : nxt w N k r = r := if_neg (fun q => by rw [hfi] at q; cases q.1.1)
        rw [e1, e2, if_neg far]
      · have e1 : usd w N k = fUs w (k * N) N := by unfold usd; rw [hfd, hfi]; rfl
        rw [e1]
        by_cases h : r.1 = -1 ∨ fUs w (k * N) N < r.2
        · have e2 : nxt w N k r = (((k * N : Nat) : Int), fUs w (k * N) N) := if_pos ⟨⟨hfi, hfd⟩, h⟩
          have e3 : fUs w (k * N) N < if r.1 = -1 then 1000000 else r.2 := by
            by_cases h' : r.1 = -1
            · rw [if_pos h']; omega
            · rw [if_neg h']; rcases h with h | h
              · exact absurd h h'
              · exact h
          rw [e2, if_pos e3]
          show R_nextEmptied_9 n m N ((k * N : Nat) : Int) (fUs w (k * N) N) _ = R_nextEmptied_9 n m N ((k * N : Nat) : Int) (if ((k * N : Nat) : Int) = -1 then 1000000 else fUs w (k * N) N) _
          rw [if_neg (show ¬ ((k * N : Nat) : Int) = -1 by omega)]
        · have e2 : nxt w N k r = r := if_neg (fun q => h q.2)
          have e3 : ¬ fUs w (k * N) N < if r.1 = -1 then 1000000 else r.2 := by
            by_cases h' : r.1 = -1
            · exact absurd (Or.inl h') h
            · rw [if_neg h']; exact fun q => h (Or.inr q)
          rw [e2, if_neg e3]
    · have e1 : usd w N k = 1000000 := by unfold usd; rw [hfd]; rfl
      have e2 : nxt w N k r = r := if_neg (fun q => by rw [hfd] at q; cases q.1.2)
      rw [e1, e2, if_neg far]
  · show R_nextEmptied_9 (n + 1) m N (bst w N j).1 (if (bst w N j).1 = -1 then 1000000 else (bst w N j).2) ((j * N : Nat) : Int) = _
    rw [R_nextEmptied_9, if_pos (by omega)]
end
