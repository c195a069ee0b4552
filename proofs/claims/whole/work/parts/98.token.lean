/-! The reference's next token is the class's. -/
section
variable {q s m m' : bS} {b : Nat → Int} {L n st en i j d k X y N N' : Nat} {x kd am : Int}
theorem cdl_nm : ∀ d, (∀ k, k < d → 1 ≤ (b (st + k)).toNat ∧ (b (st + k)).toNat < 256) → (cdl b st d = nm (fun k => (b (st + k)).toNat) d ∧ nm (fun k => (b (st + k)).toNat) d < 72057594037927936) ∨ (cdl b st d = 1152921504606846976 ∧ 281474976710656 ≤ nm (fun k => (b (st + k)).toNat) d)
  | 0, _ => Or.inl ⟨rfl, by show 0 < 72057594037927936; omega⟩
  | d + 1, h => by
    have ih := cdl_nm d (fun k hk => h k (by omega))
    have hd := h d (by omega)
    have e1 : nm (fun k => (b (st + k)).toNat) (d + 1) = 256 * nm (fun k => (b (st + k)).toNat) d + (b (st + d)).toNat := rfl
    rw [e1]
    unfold cdl
    by_cases c : cdl b st d < 281474976710656
    · rw [if_pos c]
      rcases ih with ⟨i1, i2⟩ | ⟨i1, i2⟩
      · left; constructor <;> omega
      · omega
    · rw [if_neg c]
      right
      rcases ih with ⟨i1, i2⟩ | ⟨i1, i2⟩
      · exact ⟨rfl, by omega⟩
      · exact ⟨rfl, by omega⟩
theorem tk_word (hb : ∀ k, st ≤ k → k < en → bl (b k)) (hse : st ≤ en) (hK : KW b st en kd) : (kd = 1 ∨ ∃ j : Nat, j < 28 ∧ kd = 200 + (j : Int)) ∧ ∀ j : Nat, j < 28 → (kd = 200 + (j : Int) ↔ ((cdl b st (en - st) : Nat) : Int) = ((wcd.getD j 0 : Nat) : Int)) := by
  have hb1 : ∀ k, st ≤ k → k < en → 1 ≤ b k ∧ b k < 256 := fun k k1 k2 => by
    have := hb k k1 k2
    unfold bl at this
    omega
  have hc := cdl_nm (b := b) (st := st) (en - st) (fun k hk => by
    have := hb1 (st + k) (by omega) (by omega)
    omega)
  refine ⟨hK.elim (fun ⟨j, j1, _, j3⟩ => Or.inr ⟨j, j1, j3⟩) (fun h => Or.inl h.1), fun j hj => ?_⟩
  have hw := wcd_lt j hj
  have hM : (((cdl b st (en - st) : Nat) : Int) = ((wcd.getD j 0 : Nat) : Int)) ↔ wM b st en j := by
    rw [wM_iff hj hb1 hse]
    rcases hc with ⟨i1, i2⟩ | ⟨i1, i2⟩
    · rw [i1]; omega
    · omega
  rw [hM]
  rcases hK with ⟨j', k2, k3, k4⟩ | ⟨k1, k2⟩
  · constructor
    · intro h
      have : j = j' := by omega
      rw [this]; exact k3
    · intro h
      have : j = j' := wcd_ne j hj j' k2 (((wM_iff hj hb1 hse).1 h).symm.trans ((wM_iff k2 hb1 hse).1 k3))
      rw [this]; exact k4
  · exact ⟨fun h => by omega, fun h => (k2 j hj h).elim⟩
theorem byt_ge : byt b L L = -1 := if_neg (Nat.lt_irrefl L)
theorem ext1 (h7 : m'.1 k = x) (h : ∀ j, j ≠ k → m'.1 j = m.1 j) (h2 : m'.2 = m.2) : m' = bI m k x := Prod.ext (funext fun j => by
  by_cases c : j = k
  · rw [c, h7]; exact bI_e.symm
  · rw [h j c]; exact (bI_1 c).symm) h2
theorem ext2 {y : Int} (h7 : m'.1 k = x) (h8 : m'.1 i = y) (hki : i ≠ k) (h : ∀ j, j ≠ k → j ≠ i → m'.1 j = m.1 j) (h2 : m'.2 = m.2) : m' = bI (bI m i y) k x := ext1 h7 (fun j hj => by
  by_cases c : j = i
  · rw [c, h8]; exact bI_e.symm
  · rw [h j hj c]; exact (bI_1 c).symm) h2
theorem next_ok (B : BY q L) (M : RM q m L) (hm : m.1 7 = (i : Int)) (S : SK (q.2 0) L i st) (h : (st = L ∧ en = L ∧ kd = 0) ∨ TKd (q.2 0) L st en kd am) : ∃ m', (∀ n, 700 ≤ n → R_nextToken n m = some (0, m')) ∧ m'.1 8 = (st : Int) ∧ m'.1 7 = (en : Int) ∧ RT kd am m' ∧ NX m m' := by
  obtain ⟨S1, S2, S3, S4⟩ := S
  have hL := B.2.1
  obtain ⟨m1, hm1⟩ : ∃ m1, m1 = bI m 7 (st : Int) := ⟨_, rfl⟩
  have r2 : m1.1 7 = (st : Int) := by rw [hm1]; exact bI_e
  have r3 : ∀ k, k ≠ 7 → m1.1 k = m.1 k := fun k hk => by rw [hm1]; exact bI_1 hk
  have r4 : m1.2 = m.2 := by rw [hm1]; rfl
  have h0 : ∀ n, 700 ≤ n → ∃ n0, 350 ≤ n0 ∧ R_nextToken n m = R_nextToken_0 (n0 + 1) m1 := fun n hn => by
    obtain ⟨n0, hn0⟩ : ∃ n0, n = (n0 + 1) + (st - i) := ⟨n - (st - i) - 1, by omega⟩
    obtain ⟨m2, a1, a2, a3, a4⟩ := skp0 (st := st) B (st - i) (n0 + 1) i m (by omega) S2 S3 M hm
    refine ⟨n0, by omega, ?_⟩
    rw [hn0]
    refine (show R_nextToken (n0 + 1 + (st - i)) m = R_nextToken_0 (n0 + 1) m2 from a1).trans ?_
    rw [ext1 a2 a3 a4, hm1]
  have M1 : RM q m1 L := RM_c (r3 4 (by decide)) r4 M
  have M2 : RM q (bI m1 8 (st : Int)) L := RM_c rfl rfl M1
  have nx : ∀ m', (∀ k, k < 7 ∨ 12 ≤ k → m'.1 k = m1.1 k) → m'.2 = m1.2 → NX m m' := fun m' h1 h2 => ⟨fun k hk => by rw [h1 k hk, r3 k (by omega)], h2.trans r4⟩
  have h8 : ∀ k, k < 7 ∨ 12 ≤ k → (bI m1 8 (st : Int)).1 k = m1.1 k := fun k hk => bI_1 (by omega)
  rcases h with ⟨e1, e2, e3⟩ | T
  · refine ⟨bI (bI m1 8 (st : Int)) 9 0, fun n hn => ?_, rfl, ?_, Or.inl ⟨e3, rfl⟩, nx _ (fun k hk => ?_) rfl⟩
    · obtain ⟨n0, _, hn1⟩ := h0 n hn
      rw [hn1]
      unfold R_nextToken_0
      have hbL : byt (q.2 0) L st = -1 := by rw [e1]; exact byt_ge
      rw [r2, bb_s (byteAt_ok B M1), hbL, if_neg (by decide), r2, bb_s (byteAt_ok B M1), hbL, if_neg (by decide), r2, bb_s (byteAt_ok B M2), hbL, if_neg (by decide)]
    · show m1.1 7 = _
      rw [r2, e1, e2]
    · rw [bI_1 (by omega)]; exact h8 k hk
  · obtain ⟨⟨t1, t2, t3⟩, T⟩ := T
    have hb : byt (q.2 0) L st = q.2 0 st := byt_lt (by omega)
    have h32 : ¬ q.2 0 st = 32 := fun h => t3 (Or.inl h)
    have h10 : ¬ q.2 0 st = 10 := fun h => t3 (Or.inr h)
    have hby := B.2.2 st
    have h1 : ∀ n, 700 ≤ n → ∃ n0, 350 ≤ n0 ∧ R_nextToken n m = b1 (R_isFigure n0 (q.2 0 st)) fun v4 => (if v4 = 0 then (b1 (R_isLetterByte n0 (q.2 0 st)) fun v5 => (if v5 = 0 then (b1 (R_isSign n0 (q.2 0 st)) fun v6 => (if v6 = 0 then R_nextToken_247 n0 (bI m1 8 (st : Int)) (q.2 0 st) 3 else R_nextToken_247 n0 (bI m1 8 (st : Int)) (q.2 0 st) (q.2 0 st))) else R_nextToken_168 n0 (bI (bI (bI m1 8 (st : Int)) 9 2) 11 0))) else R_nextToken_85 n0 (bI (bI (bI m1 8 (st : Int)) 9 1) 10 0)) := fun n hn => by
      obtain ⟨n0, hn2, hn1⟩ := h0 n hn
      refine ⟨n0, hn2, ?_⟩
      rw [hn1]
      conv => lhs; unfold R_nextToken_0
      rw [r2, bb_s (byteAt_ok B M1), hb, if_neg h32, r2, bb_s (byteAt_ok B M1), hb, if_neg h10, r2, bb_s (byteAt_ok B M2), hb, if_pos hby.1]
    have h77 : (bI m1 8 (st : Int)).1 7 = (st : Int) := r2
    have e9 : ∀ n0, R_isSign n0 (q.2 0 st) = some (if q.2 0 st ∈ sgs ∨ (q.2 0 st).toNat = 58 then 1 else 0) := fun n0 => by
      have := sg_ref (q.2 0 st).toNat (by omega)
      rw [Int.toNat_of_nonneg hby.1] at this
      exact this
    rcases T with ⟨a1, a2, a3, a4, a5⟩ | ⟨a1, a2, a3, a4⟩ | ⟨a1, a2, a3, a4, a5⟩ | ⟨a1, a2, a3, a4⟩ | ⟨a1, a2, a3, a4, a5, a6⟩
    · have hle := amt_le (b := q.2 0) (st := st) (en - st) (fun k hk => a2 (st + k) (by omega) (by omega))
      have hna := nu_amt (b := q.2 0) (st := st) (en - st) (fun k hk => a2 (st + k) (by omega) (by omega))
      refine ⟨bI (bI (bI (bI (bI m1 8 (st : Int)) 9 1) 10 0) 10 (nu (q.2 0) st (en - st))) 7 (en : Int), fun n hn => ?_, rfl, bI_e, Or.inr (Or.inl ⟨a4, rfl, ?_, ?_, by rw [a5]; exact hle.1, by rw [a5]; exact hle.2⟩), nx _ (fun k hk => ?_) rfl⟩
      · obtain ⟨n0, hn2, hn1⟩ := h1 n hn
        rw [hn1, b1_s (R_isFigure_y a1), if_neg (by decide)]
        obtain ⟨m', f1, f2, f3, f4, f5⟩ := fig85 (st := st) (en := en) B a2 a3 t2 (en - st) n0 st (bI (bI (bI m1 8 (st : Int)) 9 1) 10 0) (by omega) (by omega) (Nat.le_refl st) (RM_c rfl rfl M2) r2 (by rw [Nat.sub_self]; rfl)
        rw [f1, ext2 f2 f3 (by decide) f4 f5]
      · rw [a5]; exact hna.1
      · rw [a5]; exact hna.2
      · rw [bI_1 (by omega), bI_1 (by omega), bI_1 (by omega), bI_1 (by omega)]; exact h8 k hk
    · have hnd : ¬ bd (q.2 0 st) := by unfold bd; unfold bl at a1; omega
      obtain ⟨w1, w2⟩ := tk_word (b := q.2 0) a2 (by omega) a4
      refine ⟨bI (bI (bI (bI (bI m1 8 (st : Int)) 9 2) 11 0) 11 ((cdl (q.2 0) st (en - st) : Nat) : Int)) 7 (en : Int), fun n hn => ?_, rfl, bI_e, Or.inr (Or.inr (Or.inl ⟨rfl, w1, w2⟩)), nx _ (fun k hk => ?_) rfl⟩
      · obtain ⟨n0, hn2, hn1⟩ := h1 n hn
        rw [hn1, b1_s (R_isFigure_n hnd), if_pos rfl, b1_s (R_isLetter_y a1), if_neg (by decide)]
        obtain ⟨m', f1, f2, f3, f4, f5⟩ := let168 (st := st) (en := en) B a2 a3 t2 (en - st) n0 st (bI (bI (bI m1 8 (st : Int)) 9 2) 11 0) (by omega) (by omega) (Nat.le_refl st) (RM_c rfl rfl M2) r2 (by rw [Nat.sub_self]; rfl)
        rw [f1, ext2 f2 f3 (by decide) f4 f5]
      · rw [bI_1 (by omega), bI_1 (by omega), bI_1 (by omega), bI_1 (by omega)]; exact h8 k hk
    · have hnd : ¬ bd (q.2 0 st) := by unfold bd; omega
      have hnl : ¬ bl (q.2 0 st) := by unfold bl; omega
      have hs : q.2 0 st ∈ sgs := by rcases a1 with h | h <;> rw [h] <;> decide
      have M3 : ∀ t : Int, RM q (bI (bI (bI m1 8 (st : Int)) 9 t) 7 ((st + 1 : Nat) : Int)) L := fun t => RM_c rfl rfl M2
      refine ⟨bI (bI (bI (bI (bI m1 8 (st : Int)) 9 (q.2 0 st)) 7 ((st + 1 : Nat) : Int)) 9 (if q.2 0 st = 60 then 4 else 5)) 7 ((st + 2 : Nat) : Int), fun n hn => ?_, rfl, by rw [a4]; exact bI_e, ?_, nx _ (fun k hk => ?_) rfl⟩
      · obtain ⟨n0, hn2, hn1⟩ := h1 n hn
        rw [hn1, b1_s (R_isFigure_n hnd), if_pos rfl, b1_s (R_isLetter_n hnl), if_pos rfl, b1_s (e9 n0), if_pos (Or.inl hs), if_neg (by decide)]
        unfold R_nextToken_247 R_nextToken_272
        rw [h77, wad1 (by omega)]
        have hb1 : byt (q.2 0) L (st + 1) = 61 := by rw [byt_lt a2]; exact a3
        have h7 : (bI (bI (bI m1 8 (st : Int)) 9 (q.2 0 st)) 7 ((st + 1 : Nat) : Int)).1 7 = ((st + 1 : Nat) : Int) := bI_e
        rw [h7, bb_s (byteAt_ok B (M3 _)), hb1, if_pos rfl, h7, wad1 (by omega)]
        rcases a1 with h | h
        · rw [if_pos h, if_pos h, if_pos h]
        · rw [if_neg (by omega), if_pos h, if_neg (by omega), if_neg (by omega)]
      · rcases a1 with h | h
        · refine Or.inr (Or.inr (Or.inr (Or.inl ⟨by omega, ?_⟩)))
          show (if q.2 0 st = 60 then (4 : Int) else 5) = 4
          rw [if_pos h]
        · refine Or.inr (Or.inr (Or.inr (Or.inr (Or.inl ⟨by omega, ?_⟩))))
          show (if q.2 0 st = 60 then (4 : Int) else 5) = 5
          rw [if_neg (by omega)]
      · rw [bI_1 (by omega), bI_1 (by omega), bI_1 (by omega), bI_1 (by omega)]; exact h8 k hk
    · have hnd : ¬ bd (q.2 0 st) := by unfold bd; omega
      have hnl : ¬ bl (q.2 0 st) := by unfold bl; omega
      have hs : q.2 0 st ∈ sgs := by rcases a1 with h | h <;> rw [h] <;> decide
      have M3 : ∀ t : Int, RM q (bI (bI (bI m1 8 (st : Int)) 9 t) 7 ((st + 1 : Nat) : Int)) L := fun t => RM_c rfl rfl M2
      refine ⟨bI (bI (bI m1 8 (st : Int)) 9 (q.2 0 st)) 7 ((st + 1 : Nat) : Int), fun n hn => ?_, rfl, by rw [a3]; exact bI_e, Or.inr (Or.inr (Or.inr (Or.inr (Or.inr (Or.inl ⟨by rw [a4]; exact hs, a4.symm⟩))))), nx _ (fun k hk => ?_) rfl⟩
      · obtain ⟨n0, hn2, hn1⟩ := h1 n hn
        rw [hn1, b1_s (R_isFigure_n hnd), if_pos rfl, b1_s (R_isLetter_n hnl), if_pos rfl, b1_s (e9 n0), if_pos (Or.inl hs), if_neg (by decide)]
        unfold R_nextToken_247 R_nextToken_272
        rw [h77, wad1 (by omega)]
        have hb1 : ¬ byt (q.2 0) L (st + 1) = 61 := by
          by_cases c : st + 1 < L
          · rw [byt_lt c]; exact a2 c
          · unfold byt; rw [if_neg c]; omega
        have h7 : (bI (bI (bI m1 8 (st : Int)) 9 (q.2 0 st)) 7 ((st + 1 : Nat) : Int)).1 7 = ((st + 1 : Nat) : Int) := bI_e
        rw [h7, bb_s (byteAt_ok B (M3 _)), if_neg hb1]
        rcases a1 with h | h
        · rw [if_pos h]
        · rw [if_neg (by omega), if_pos h]
      · rw [bI_1 (by omega), bI_1 (by omega)]; exact h8 k hk
    · have go : ∀ n0 t, R_nextToken_247 n0 (bI m1 8 (st : Int)) (q.2 0 st) t = some (0, bI (bI (bI m1 8 (st : Int)) 9 t) 7 ((st + 1 : Nat) : Int)) := fun n0 t => by
        unfold R_nextToken_247
        rw [h77, wad1 (by omega), if_neg a3, if_neg a4]
      have nx2 : ∀ t, NX m (bI (bI (bI m1 8 (st : Int)) 9 t) 7 ((st + 1 : Nat) : Int)) := fun t => nx _ (fun k hk => by rw [bI_1 (by omega), bI_1 (by omega)]; exact h8 k hk) rfl
      have pre : ∀ n, 700 ≤ n → ∃ n0, R_nextToken n m = if (if q.2 0 st ∈ sgs ∨ (q.2 0 st).toNat = 58 then (1 : Int) else 0) = 0 then R_nextToken_247 n0 (bI m1 8 (st : Int)) (q.2 0 st) 3 else R_nextToken_247 n0 (bI m1 8 (st : Int)) (q.2 0 st) (q.2 0 st) := fun n hn => by
        obtain ⟨n0, hn2, hn1⟩ := h1 n hn
        refine ⟨n0, ?_⟩
        rw [hn1, b1_s (R_isFigure_n a1), if_pos rfl, b1_s (R_isLetter_n a2), if_pos rfl, b1_s (e9 n0)]
      rcases a6 with ⟨h1, h2⟩ | ⟨h1, h2⟩
      · refine ⟨_, fun n hn => ?_, rfl, by rw [a5]; exact bI_e, Or.inr (Or.inr (Or.inr (Or.inr (Or.inr (Or.inl ⟨by rw [h2]; exact h1, h2.symm⟩))))), nx2 _⟩
        obtain ⟨n0, hn1⟩ := pre n hn
        rw [hn1, if_pos (Or.inl h1), if_neg (by decide)]
        exact go n0 _
      · by_cases c : (q.2 0 st).toNat = 58
        · refine ⟨bI (bI (bI m1 8 (st : Int)) 9 (q.2 0 st)) 7 ((st + 1 : Nat) : Int), fun n hn => ?_, rfl, by rw [a5]; exact bI_e, Or.inr (Or.inr (Or.inr (Or.inr (Or.inr (Or.inr ⟨h2, Or.inr ?_⟩))))), nx2 _⟩
          · obtain ⟨n0, hn1⟩ := pre n hn
            rw [hn1, if_pos (Or.inr c), if_neg (by decide)]
            exact go n0 _
          · show q.2 0 st = 58
            omega
        · refine ⟨bI (bI (bI m1 8 (st : Int)) 9 3) 7 ((st + 1 : Nat) : Int), fun n hn => ?_, rfl, by rw [a5]; exact bI_e, Or.inr (Or.inr (Or.inr (Or.inr (Or.inr (Or.inr ⟨h2, Or.inl rfl⟩))))), nx2 _⟩
          obtain ⟨n0, hn1⟩ := pre n hn
          rw [hn1, if_neg (show ¬ (q.2 0 st ∈ sgs ∨ (q.2 0 st).toNat = 58) from fun h => h.elim h1 c), if_pos rfl]
          exact go n0 _
end
