/-! The class's tokens, all of them; the reference's next token. -/
/-- tokens N to N' in the reader s, from place i on -/
def TT (b : Nat → Int) (L i N N' : Nat) (s : bS) : Prop := SK b L i (s.2 2 N).toNat ∧ s.2 2 N' = (L : Int) ∧ s.2 1 N' = 0 ∧ ∀ t, N ≤ t → t < N' → ∃ st en : Nat, s.2 2 t = (st : Int) ∧ TKd b L st en (s.2 1 t) (s.2 3 t) ∧ SK b L en (s.2 2 (t + 1)).toNat
section
variable {q s m m' : bS} {b : Nat → Int} {L n st en i j d k X y N N' : Nat} {x kd am : Int}
theorem split7 (B : BY q L) : ∀ (d n i N : Nat) (s : bS), L - i ≤ d → i ≤ L → d + 500 < n → s.1 7 = (N : Int) → N ≤ i → ∃ (s' : bS) (N' : Nat), D_split_7 q n s (i : Int) = some (0, s') ∧ s'.1 7 = (N' : Int) ∧ N ≤ N' ∧ N' ≤ L ∧ (∀ k, k ≠ 7 → s'.1 k = s.1 k) ∧ (∀ k, k ≠ 1 → k ≠ 2 → k ≠ 3 → s'.2 k = s.2 k) ∧ (∀ k t, t < N → s'.2 k t = s.2 k t) ∧ TT (q.2 0) L i N N' s'
  | _, 0, _, _, _, _, _, h, _, _ => by omega
  | d, n + 1, i, N, s, h1, h2, h3, h4, h5 => by
    have hL := B.2.1
    by_cases c : i = L
    · refine ⟨bA (bA s 1 (N : Int) 0) 2 (N : Int) (L : Int), N, ?_, h4, by omega, by omega, fun k _ => rfl, fun k k1 k2 k3 => ?_, fun k t ht => ?_, ?_⟩
      · unfold D_split_7
        rw [B.1, if_pos (by omega), h4, if_pos (by omega), if_pos (by omega)]
      · show (bif Nat.beq k 2 then _ else (bif Nat.beq k 1 then _ else s.2 k)) = _
        rw [nbeq k2, nbeq k1]; rfl
      · show (bif Nat.beq k 2 then ay_u (s.2 2) (N : Int).toNat (L : Int) else (bif Nat.beq k 1 then ay_u (s.2 1) (N : Int).toNat 0 else s.2 k)) t = _
        rw [Int.toNat_natCast]
        cases e2 : Nat.beq k 2
        · cases e1 : Nat.beq k 1
          · rfl
          · rw [Nat.eq_of_beq_eq_true e1]; exact ay_ux (by omega)
        · rw [Nat.eq_of_beq_eq_true e2]; exact ay_ux (by omega)
      · have e2 : (bA (bA s 1 (N : Int) 0) 2 (N : Int) (L : Int)).2 2 N = (L : Int) := by
          show ay_u (s.2 2) (N : Int).toNat _ N = _
          rw [Int.toNat_natCast, ay_ue]
        have e1 : (bA (bA s 1 (N : Int) 0) 2 (N : Int) (L : Int)).2 1 N = 0 := by
          show ay_u (s.2 1) (N : Int).toNat _ N = _
          rw [Int.toNat_natCast, ay_ue]
        refine ⟨?_, e2, e1, fun t t1 t2 => by omega⟩
        rw [e2, Int.toNat_natCast]
        exact ⟨h2, Nat.le_refl L, fun k k1 k2 => by omega, fun h => by omega⟩
    · have hi : i < L := by omega
      have h300 : 0 ≤ (i : Int) ∧ (i : Int) < 300 := by omega
      match d, h1, h3 with
      | 0, h1, _ => omega
      | d + 1, h1, h3 =>
        by_cases hz : bz0 (q.2 0 i)
        · obtain ⟨s', N', r1, r2, r3, r4, r5, r6, r7, r8, r9⟩ := split7 B d n (i + 1) N s (by omega) (by omega) (by omega) h4 (by omega)
          refine ⟨s', N', ?_, r2, r3, r4, r5, r6, r7, ?_, r9⟩
          · unfold D_split_7
            rw [B.1, if_neg (by omega), if_neg (by omega), if_pos h300, Int.toNat_natCast, wad1 (by omega)]
            rcases hz with h | h
            · rw [if_pos h]; exact r1
            · rw [if_neg (by omega), if_pos h]; exact r1
          · refine ⟨by have := r8.1; omega, r8.2.1, fun k k1 k2 => ?_, r8.2.2.2⟩
            by_cases ck : k = i
            · subst ck; exact hz
            · exact r8.2.2.1 k (by omega) k2
        · obtain ⟨en, kd, am, T, go⟩ := tok_ok B hi hz
          have hen := T.1
          obtain ⟨s1, hs1⟩ : ∃ s1, s1 = bI (bA (bA (bA s 1 (N : Int) kd) 2 (N : Int) (i : Int)) 3 (N : Int) am) 7 ((N + 1 : Nat) : Int) := ⟨_, rfl⟩
          have s17 : s1.1 7 = ((N + 1 : Nat) : Int) := by rw [hs1]; exact bI_e
          obtain ⟨s', N', r1, r2, r3, r4, r5, r6, r7, r8⟩ := split7 B d n en (N + 1) s1 (by omega) (by omega) (by omega) s17 (by omega)
          have a1 : s1.2 1 N = kd := by
            rw [hs1]
            show ay_u (s.2 1) (N : Int).toNat kd N = kd
            rw [Int.toNat_natCast, ay_ue]
          have a2 : s1.2 2 N = (i : Int) := by
            rw [hs1]
            show ay_u (s.2 2) (N : Int).toNat (i : Int) N = (i : Int)
            rw [Int.toNat_natCast, ay_ue]
          have a3 : s1.2 3 N = am := by
            rw [hs1]
            show ay_u (s.2 3) (N : Int).toNat am N = am
            rw [Int.toNat_natCast, ay_ue]
          have ax : ∀ k t, t < N → s1.2 k t = s.2 k t := fun k t ht => by
            rw [hs1]
            show (bif Nat.beq k 3 then ay_u (s.2 3) (N : Int).toNat am else (bif Nat.beq k 2 then ay_u (s.2 2) (N : Int).toNat (i : Int) else (bif Nat.beq k 1 then ay_u (s.2 1) (N : Int).toNat kd else s.2 k))) t = _
            rw [Int.toNat_natCast]
            cases e3 : Nat.beq k 3
            · cases e2 : Nat.beq k 2
              · cases e1 : Nat.beq k 1
                · rfl
                · rw [Nat.eq_of_beq_eq_true e1]; exact ay_ux (by omega)
              · rw [Nat.eq_of_beq_eq_true e2]; exact ay_ux (by omega)
            · rw [Nat.eq_of_beq_eq_true e3]; exact ay_ux (by omega)
          refine ⟨s', N', ?_, r2, by omega, r4, fun k hk => ?_, fun k k1 k2 k3 => ?_, fun k t ht => (r7 k t (by omega)).trans (ax k t ht), ?_⟩
          · obtain ⟨g1, g2, _⟩ := go s n (by omega)
            obtain ⟨_, _, g3⟩ := go (bA (bA s 1 (N : Int) kd) 2 (N : Int) (i : Int)) n (by omega)
            have emx : (if ((i + 1 : Nat) : Int) < (en : Int) then (en : Int) else ((i + 1 : Nat) : Int)) = (en : Int) := by
              by_cases ce : ((i + 1 : Nat) : Int) < (en : Int)
              · rw [if_pos ce]
              · rw [if_neg ce]; omega
            unfold D_split_7
            rw [B.1, if_neg (by omega), if_neg (by omega), if_pos h300, Int.toNat_natCast, if_neg (fun h => hz (Or.inl h)), if_neg (fun h => hz (Or.inr h)), bb_s g1, wad1 (x := i) (by omega), emx, bb_s g2, h4, if_pos (by omega), if_pos (by omega), bb_s g3, if_pos (by omega)]
            have e7 : (bA (bA s 1 (N : Int) kd) 2 (N : Int) (i : Int)).1 7 = (N : Int) := h4
            rw [e7, wad1 (by omega), ← hs1]
            exact r1
          · rw [r5 k hk, hs1]; exact bI_1 hk
          · rw [r6 k k1 k2 k3, hs1]
            show (bif Nat.beq k 3 then _ else (bif Nat.beq k 2 then _ else (bif Nat.beq k 1 then _ else s.2 k))) = _
            rw [nbeq k3, nbeq k2, nbeq k1]; rfl
          · have b2 : s'.2 2 N = (i : Int) := (r7 2 N (by omega)).trans a2
            refine ⟨by rw [b2, Int.toNat_natCast]; exact ⟨Nat.le_refl i, h2, fun k k1 k2 => by omega, fun _ => hz⟩, r8.2.1, r8.2.2.1, fun t t1 t2 => ?_⟩
            by_cases ct : t = N
            · subst ct
              refine ⟨i, en, b2, ?_, r8.1⟩
              rw [r7 1 t (by omega), r7 3 t (by omega), a1, a3]; exact T
            · exact r8.2.2.2 t (by omega) t2
/-- the reference's side -/
theorem R_isFigure_y (h : bd x) : R_isFigure n x = some 1 := D_isDigit_y (n := n) h
theorem R_isFigure_n (h : ¬ bd x) : R_isFigure n x = some 0 := D_isDigit_n (n := n) h
theorem R_isLetter_y (h : bl x) : R_isLetterByte n x = some 1 := by
  have := D_isLetter_y (n := n) h
  unfold D_isLetter D_isLetter_12 at this
  unfold R_isLetterByte R_isLetterByte_12
  exact this
theorem R_isLetter_n (h : ¬ bl x) : R_isLetterByte n x = some 0 := by
  have := D_isLetter_n (n := n) h
  unfold D_isLetter D_isLetter_12 at this
  unfold R_isLetterByte R_isLetterByte_12
  exact this
theorem byteAt_ok (B : BY q L) (M : RM q m L) : R_byteAt n m (i : Int) = some (byt (q.2 0) L i, m) := by
  have hL := B.2.1
  unfold R_byteAt byt
  rw [M.1]
  by_cases c : i < L
  · rw [if_neg (by omega), if_pos ⟨by omega, by omega⟩, Int.toNat_natCast, M.2 i c, if_pos c]
  · rw [if_pos (by omega), if_neg c]
theorem RM_c (h4 : m'.1 4 = m.1 4) (h3 : m'.2 = m.2) (M : RM q m L) : RM q m' L := ⟨by rw [h4]; exact M.1, by rw [h3]; exact M.2⟩
theorem byt_nd (B : BY q L) (h : i < L → ¬ bd (q.2 0 i)) : ¬ bd (byt (q.2 0) L i) := by
  unfold byt
  by_cases c : i < L
  · rw [if_pos c]; exact h c
  · rw [if_neg c]; unfold bd; omega
theorem byt_nl (B : BY q L) (h : i < L → ¬ bl (q.2 0 i)) : ¬ bl (byt (q.2 0) L i) := by
  unfold byt
  by_cases c : i < L
  · rw [if_pos c]; exact h c
  · rw [if_neg c]; unfold bl; omega
theorem byt_lt (h : i < L) : byt b L i = b i := if_pos h
theorem nu_le : ∀ d, (∀ k, k < d → bd (b (st + k))) → 0 ≤ nu b st d ∧ nu b st d ≤ 1000000
  | 0, _ => by show (0 : Int) ≤ 0 ∧ (0 : Int) ≤ 1000000; omega
  | d + 1, h => by
    have ih := nu_le d (fun k hk => h k (by omega))
    have hd := h d (by omega)
    unfold bd at hd
    unfold nu
    split <;> omega
theorem nu_amt : ∀ d, (∀ k, k < d → bd (b (st + k))) → (amt b st d ≤ 9999 → nu b st d = amt b st d) ∧ (9999 < amt b st d → 9999 < nu b st d)
  | 0, _ => by show ((0 : Int) ≤ 9999 → (0 : Int) = 0) ∧ ((9999 : Int) < 0 → (9999 : Int) < 0); omega
  | d + 1, h => by
    have ih := nu_amt d (fun k hk => h k (by omega))
    have ha := amt_le (b := b) (st := st) d (fun k hk => h k (by omega))
    have hd := h d (by omega)
    unfold bd at hd
    unfold nu amt
    split <;> split <;> omega
theorem fig85 (B : BY q L) (hd : ∀ k, st ≤ k → k < en → bd (q.2 0 k)) (hend : en < L → ¬ bd (q.2 0 en)) (heL : en ≤ L) : ∀ (d n i : Nat) (m : bS), d + i = en → d < n → st ≤ i → RM q m L → m.1 7 = (i : Int) → m.1 10 = nu (q.2 0) st (i - st) → ∃ m', R_nextToken_85 n m = some (0, m') ∧ m'.1 7 = (en : Int) ∧ m'.1 10 = nu (q.2 0) st (en - st) ∧ (∀ k, k ≠ 7 → k ≠ 10 → m'.1 k = m.1 k) ∧ m'.2 = m.2
  | _, 0, _, _, _, h, _, _, _, _ => by omega
  | 0, n + 1, i, m, h1, _, h3, M, h5, h6 => by
    have e : i = en := by omega
    subst e
    refine ⟨m, ?_, h5, h6, fun _ _ _ => rfl, rfl⟩
    unfold R_nextToken_85
    rw [h5, bb_s (byteAt_ok B M), b1_s (R_isFigure_n (byt_nd B hend)), if_pos rfl]
  | d + 1, n + 1, i, m, h1, h2, h3, M, h5, h6 => by
    have hL := B.2.1
    have hb := hd i h3 (by omega)
    have hb' := hb
    unfold bd at hb'
    have hn := nu_le (b := q.2 0) (st := st) (i - st) (fun k hk => hd (st + k) (by omega) (by omega))
    have e2 : nu (q.2 0) st (i + 1 - st) = if nu (q.2 0) st (i - st) ≤ 99999 then 10 * nu (q.2 0) st (i - st) + q.2 0 i - 48 else nu (q.2 0) st (i - st) := by
      rw [show i + 1 - st = (i - st) + 1 by omega]
      show (if nu (q.2 0) st (i - st) ≤ 99999 then 10 * nu (q.2 0) st (i - st) + q.2 0 (st + (i - st)) - 48 else _) = _
      rw [show st + (i - st) = i by omega]
    obtain ⟨m1, hm1⟩ : ∃ m1, m1 = bI (bI m 10 (nu (q.2 0) st (i + 1 - st))) 7 ((i + 1 : Nat) : Int) := ⟨_, rfl⟩
    obtain ⟨m', r1, r2, r3, r4, r5⟩ := fig85 B hd hend heL d n (i + 1) m1 (by omega) (by omega) (by omega) (by rw [hm1]; exact RM_c rfl rfl M) (by rw [hm1]; exact bI_e) (by rw [hm1]; rfl)
    refine ⟨m', ?_, r2, r3, fun k k1 k2 => by rw [r4 k k1 k2, hm1, bI_1 k1, bI_1 k2], by rw [r5, hm1]; rfl⟩
    unfold R_nextToken_85
    rw [h5, bb_s (byteAt_ok B M), byt_lt (by omega), b1_s (R_isFigure_y hb), if_neg (by decide), h6]
    by_cases c : nu (q.2 0) st (i - st) ≤ 99999
    · rw [if_pos c, h5, bb_s (byteAt_ok B M), byt_lt (by omega), h5, wad1 (by omega), ay_wi (x := 10 * nu (q.2 0) st (i - st)) (by omega) (by omega), ay_wi (x := 10 * nu (q.2 0) st (i - st) + q.2 0 i) (by omega) (by omega), ay_wi (by omega) (by omega)]
      rw [if_pos c] at e2
      rw [← e2, ← hm1]; exact r1
    · rw [if_neg c, h5, wad1 (by omega)]
      rw [if_neg c] at e2
      rw [← e2, ← hm1]; exact r1
theorem cdl_le : ∀ d, (∀ k, k < d → bl (b (st + k))) → cdl b st d ≤ 1152921504606846976
  | 0, _ => Nat.zero_le _
  | d + 1, h => by
    have hd := h d (by omega)
    unfold bl at hd
    unfold cdl
    split <;> omega
theorem let168 (B : BY q L) (hd : ∀ k, st ≤ k → k < en → bl (q.2 0 k)) (hend : en < L → ¬ bl (q.2 0 en)) (heL : en ≤ L) : ∀ (d n i : Nat) (m : bS), d + i = en → d < n → st ≤ i → RM q m L → m.1 7 = (i : Int) → m.1 11 = ((cdl (q.2 0) st (i - st) : Nat) : Int) → ∃ m', R_nextToken_168 n m = some (0, m') ∧ m'.1 7 = (en : Int) ∧ m'.1 11 = ((cdl (q.2 0) st (en - st) : Nat) : Int) ∧ (∀ k, k ≠ 7 → k ≠ 11 → m'.1 k = m.1 k) ∧ m'.2 = m.2
  | _, 0, _, _, _, h, _, _, _, _ => by omega
  | 0, n + 1, i, m, h1, _, h3, M, h5, h6 => by
    have e : i = en := by omega
    subst e
    refine ⟨m, ?_, h5, h6, fun _ _ _ => rfl, rfl⟩
    unfold R_nextToken_168
    rw [h5, bb_s (byteAt_ok B M), b1_s (R_isLetter_n (byt_nl B hend)), if_pos rfl]
  | d + 1, n + 1, i, m, h1, h2, h3, M, h5, h6 => by
    have hL := B.2.1
    have hb := hd i h3 (by omega)
    have hb' := hb
    unfold bl at hb'
    have hby := B.2.2 i
    have hn := cdl_le (b := q.2 0) (st := st) (i - st) (fun k hk => hd (st + k) (by omega) (by omega))
    have e2 : cdl (q.2 0) st (i + 1 - st) = if cdl (q.2 0) st (i - st) < 281474976710656 then 256 * cdl (q.2 0) st (i - st) + (q.2 0 i).toNat else 1152921504606846976 := by
      rw [show i + 1 - st = (i - st) + 1 by omega]
      show (if cdl (q.2 0) st (i - st) < 281474976710656 then 256 * cdl (q.2 0) st (i - st) + (q.2 0 (st + (i - st))).toNat else _) = _
      rw [show st + (i - st) = i by omega]
    obtain ⟨m1, hm1⟩ : ∃ m1, m1 = bI (bI m 11 ((cdl (q.2 0) st (i + 1 - st) : Nat) : Int)) 7 ((i + 1 : Nat) : Int) := ⟨_, rfl⟩
    obtain ⟨m', r1, r2, r3, r4, r5⟩ := let168 B hd hend heL d n (i + 1) m1 (by omega) (by omega) (by omega) (by rw [hm1]; exact RM_c rfl rfl M) (by rw [hm1]; exact bI_e) (by rw [hm1]; rfl)
    refine ⟨m', ?_, r2, r3, fun k k1 k2 => by rw [r4 k k1 k2, hm1, bI_1 k1, bI_1 k2], by rw [r5, hm1]; rfl⟩
    unfold R_nextToken_168
    rw [h5, bb_s (byteAt_ok B M), byt_lt (by omega), b1_s (R_isLetter_y hb), if_neg (by decide), h6, lshr48 (by omega)]
    by_cases c : cdl (q.2 0) st (i - st) < 281474976710656
    · have e0 : cdl (q.2 0) st (i - st) / 281474976710656 = 0 := Nat.div_eq_of_lt c
      rw [e0, if_pos (by decide), h5, bb_s (byteAt_ok B M), byt_lt (by omega), h5, wad1 (by omega)]
      have e3 : ay_lor (ay_lshl ((cdl (q.2 0) st (i - st) : Nat) : Int) 8) (q.2 0 i) = ((256 * cdl (q.2 0) st (i - st) + (q.2 0 i).toNat : Nat) : Int) := by
        have := lorl (y := (q.2 0 i).toNat) c (by omega)
        rw [Int.toNat_of_nonneg hby.1] at this
        exact this
      rw [if_pos c] at e2
      rw [e3, ← e2, ← hm1]; exact r1
    · have e0 : 0 < cdl (q.2 0) st (i - st) / 281474976710656 := Nat.div_pos (by omega) (by omega)
      rw [if_neg (show ¬ ay_cmp ((cdl (q.2 0) st (i - st) / 281474976710656 : Nat) : Int) 0 = 0 by
        unfold ay_cmp
        rw [if_neg (by omega), if_neg (by omega)]; decide), h5, wad1 (by omega)]
      rw [if_neg c] at e2
      have e4 : (1152921504606846976 : Int) = ((cdl (q.2 0) st (i + 1 - st) : Nat) : Int) := by rw [e2]; rfl
      rw [e4, ← hm1]; exact r1
theorem skp0 (B : BY q L) : ∀ (d n i : Nat) (m : bS), i + d = st → st ≤ L → (∀ k, i ≤ k → k < st → bz0 (q.2 0 k)) → RM q m L → m.1 7 = (i : Int) → ∃ m', R_nextToken_0 (n + d) m = R_nextToken_0 n m' ∧ m'.1 7 = (st : Int) ∧ (∀ k, k ≠ 7 → m'.1 k = m.1 k) ∧ m'.2 = m.2
  | 0, n, i, m, h1, _, _, _, h5 => ⟨m, rfl, by rw [h5]; omega, fun _ _ => rfl, rfl⟩
  | d + 1, n, i, m, h1, h2, h3, M, h5 => by
    have hL := B.2.1
    obtain ⟨m', r1, r2, r3, r4⟩ := skp0 B d n (i + 1) (bI m 7 ((i + 1 : Nat) : Int)) (by omega) h2 (fun k k1 k2 => h3 k (by omega) k2) (RM_c rfl rfl M) bI_e
    refine ⟨m', ?_, r2, fun k hk => by rw [r3 k hk, bI_1 hk], r4⟩
    rw [← r1, show n + (d + 1) = (n + d) + 1 by omega]
    conv => lhs; unfold R_nextToken_0
    rw [h5, bb_s (byteAt_ok B M), byt_lt (by omega)]
    rcases h3 i (by omega) (by omega) with h | h
    · rw [if_pos h, h5, wad1 (by omega)]
    · rw [if_neg (by omega), h5, bb_s (byteAt_ok B M), byt_lt (by omega), if_pos h, h5, wad1 (by omega)]
end
