/-! Tokens: the class's, one by one; the reference's next one. -/
def nu (b : Nat → Int) (st : Nat) : Nat → Int
  | 0 => 0
  | d + 1 => if nu b st d ≤ 99999 then 10 * nu b st d + b (st + d) - 48 else nu b st d
def cdl (b : Nat → Int) (st : Nat) : Nat → Nat
  | 0 => 0
  | d + 1 => if cdl b st d < 281474976710656 then 256 * cdl b st d + (b (st + d)).toNat else 1152921504606846976
/-- the reference's token against the class's -/
def RT (kd am : Int) (m : bS) : Prop := (kd = 0 ∧ m.1 9 = 0) ∨ (kd = 2 ∧ m.1 9 = 1 ∧ (am ≤ 9999 → m.1 10 = am) ∧ (9999 < am → 9999 < m.1 10) ∧ 0 ≤ am ∧ am ≤ 10000) ∨ (m.1 9 = 2 ∧ (kd = 1 ∨ ∃ j : Nat, j < 28 ∧ kd = 200 + (j : Int)) ∧ ∀ j : Nat, j < 28 → (kd = 200 + (j : Int) ↔ m.1 11 = ((wcd.getD j 0 : Nat) : Int))) ∨ (kd = 160 ∧ m.1 9 = 4) ∨ (kd = 162 ∧ m.1 9 = 5) ∨ (kd ∈ sgs ∧ m.1 9 = kd) ∨ (kd = 1 ∧ (m.1 9 = 3 ∨ m.1 9 = 58))
def NX (m m' : bS) : Prop := (∀ k, k < 7 ∨ 12 ≤ k → m'.1 k = m.1 k) ∧ m'.2 = m.2
def RM (q m : bS) (L : Nat) : Prop := m.1 4 = (L : Int) ∧ ∀ k, k < L → m.2 3 k = q.2 0 k
def byt (b : Nat → Int) (L i : Nat) : Int := if i < L then b i else -1
section
variable {q s m m' : bS} {b : Nat → Int} {L n st en i j d k X y : Nat} {x kd am : Int}
theorem bv64 {x : Nat} (h : x < 9223372036854775808) : (BitVec.ofInt 64 (x : Int)).toNat = x := by
  rw [BitVec.toNat_ofInt]
  omega
theorem toInt_64 {v : BitVec 64} {x : Nat} (h : v.toNat = x) (hx : x < 9223372036854775808) : v.toInt = (x : Int) := by
  rw [BitVec.toInt_eq_toNat_of_lt (by rw [h]; omega), h]
theorem ay_lorn {x y : Nat} (hx : x < 9223372036854775808) (hy : y < 9223372036854775808) : ay_lor (x : Int) (y : Int) = ((x ||| y : Nat) : Int) := by
  show BitVec.toInt (BitVec.ofInt 64 (x : Int) ||| BitVec.ofInt 64 (y : Int)) = _
  exact toInt_64 (by rw [BitVec.toNat_or, bv64 hx, bv64 hy]) (Nat.or_lt_two_pow (n := 63) hx hy)
theorem amt8 : (((Int32.ofInt 8).toInt64 &&& 63).toBitVec.smod 64#64).toNat = 8 := by decide +kernel
theorem amt48 : (((Int32.ofInt 48).toInt64 &&& 63).toBitVec.smod 64#64).toNat = 48 := by decide +kernel
theorem lshl8 (h : X < 281474976710656) : ay_lshl (X : Int) 8 = ((2 ^ 8 * X : Nat) : Int) := by
  show BitVec.toInt (BitVec.ofInt 64 (X : Int) <<< (((Int32.ofInt 8).toInt64 &&& 63).toBitVec.smod 64#64)) = _
  refine toInt_64 ?_ (by omega)
  rw [BitVec.shiftLeft_eq', amt8, BitVec.toNat_shiftLeft, bv64 (by omega), Nat.shiftLeft_eq, Nat.mod_eq_of_lt (by omega)]
  omega
theorem lorl (h : X < 281474976710656) (hy : y < 256) : ay_lor (ay_lshl (X : Int) 8) (y : Int) = ((256 * X + y : Nat) : Int) := by
  rw [lshl8 h, ay_lorn (by omega) (by omega), ← Nat.two_pow_add_eq_or_of_lt (by omega)]
theorem lshr48 (h : X < 4611686018427387904) : ay_lshr (X : Int) 48 = ((X / 281474976710656 : Nat) : Int) := by
  show BitVec.toInt ((BitVec.ofInt 64 (X : Int)).sshiftRight (((Int32.ofInt 48).toInt64 &&& 63).toBitVec.smod 64#64).toNat) = _
  rw [amt48, BitVec.toInt_sshiftRight, toInt_64 (bv64 (by omega)) (by omega), Int.shiftRight_eq_div_pow]
  omega
theorem sg_find : ∀ x, x < 256 → ((0 ≤ ay_find x (ax_str 1) 0) ↔ ((x : Nat) : Int) ∈ sgs) := by decide +kernel
theorem sg_ref : ∀ x, x < 256 → R_isSign 0 ((x : Nat) : Int) = some (if ((x : Nat) : Int) ∈ sgs ∨ x = 58 then 1 else 0) := by decide +kernel
/-- one token, as the class reads it -/
theorem tok_ok (B : BY q L) (hi : i < L) (hz : ¬ bz0 (q.2 0 i)) : ∃ en kd am, TKd (q.2 0) L i en kd am ∧ ∀ (s : bS) (n : Nat), 500 ≤ n → D_endOfRun q n s (i : Int) = some ((en : Int), s) ∧ D_kindOf q n s (i : Int) (en : Int) = some (kd, s) ∧ D_amountOf q n s (i : Int) (en : Int) = some (am, s) := by
  have hL := B.2.1
  have h300 : 0 ≤ (i : Int) ∧ (i : Int) < 300 := by omega
  have hby := B.2.2 i
  by_cases hd : bd (q.2 0 i)
  · have hd' := hd
    unfold bd at hd'
    obtain ⟨e, _, r2, r3, r4, r5⟩ := run77 (s := q) B (L - (i + 1)) 400 (i + 1) 1 (by omega) (by omega)
    have hrun : ∀ k, i ≤ k → k < e → bd (q.2 0 k) := fun k k1 k2 => by
      by_cases c : k = i
      · subst c; exact hd
      · have := r4 k (by omega) k2; rw [if_neg (by decide)] at this; exact this
    refine ⟨e, 2, amt (q.2 0) i (e - i), ⟨⟨by omega, r3, hz⟩, Or.inl ⟨hd, hrun, fun h => by have := r5 h; rw [if_neg (by decide)] at this; exact this, rfl, rfl⟩⟩, fun s n hn => ⟨?_, ?_, ?_⟩⟩
    · unfold D_endOfRun
      rw [if_pos h300, Int.toNat_natCast, if_neg (by omega), if_neg (by omega), b1_s (D_isDigit_y hd), if_neg (by decide), wad1 (by omega)]
      obtain ⟨e', t1, t2, t3, t4, t5⟩ := run77 (s := s) B (L - (i + 1)) n (i + 1) 1 (by omega) (by omega)
      have : e' = e := by
        rcases Nat.lt_trichotomy e' e with h | h | h
        · exact (t5 (by omega) (r4 e' t2 h)).elim
        · exact h
        · exact (r5 (by omega) (t4 e r2 h)).elim
      rw [t1, this]
    · unfold D_kindOf
      rw [if_pos h300, Int.toNat_natCast, b1_s (D_isDigit_y hd), if_neg (by decide)]
    · have := amt5 (s := s) (st := i) (en := e) B hrun r3 (e - i) n i (by omega) (by omega) (by omega)
      rw [Nat.sub_self] at this
      exact this
  · obtain ⟨av, hav⟩ : ∃ av : Nat → Int, ∀ (e : Nat), e ≤ L → i ≤ e → ∀ (s : bS) (n : Nat), 500 ≤ n → D_amountOf q n s (i : Int) (e : Int) = some (0, s) := ⟨fun _ => 0, fun e he hie s n hn => by
      obtain ⟨n', hn'⟩ : ∃ n', n = n' + 1 := ⟨n - 1, by omega⟩
      subst hn'
      unfold D_amountOf D_amountOf_5
      by_cases c : e = i
      · rw [if_pos (by omega)]
      · rw [if_neg (by omega), if_pos h300, Int.toNat_natCast, b1_s (D_isDigit_n hd), if_pos rfl]⟩
    by_cases hl : bl (q.2 0 i)
    · have hl' := hl
      unfold bl at hl'
      obtain ⟨e, _, r2, r3, r4, r5⟩ := run77 (s := q) B (L - (i + 1)) 400 (i + 1) 0 (by omega) (by omega)
      have hrun : ∀ k, i ≤ k → k < e → bl (q.2 0 k) := fun k k1 k2 => by
        by_cases c : k = i
        · subst c; exact hl
        · have := r4 k (by omega) k2; rw [if_pos rfl] at this; exact this
      obtain ⟨kd, w1, w2⟩ := wkind (s := q) (st := i) (en := e) B (by omega) r3 28 400 0 0 (by omega) rfl (by omega)
      have hKW : KW (q.2 0) i e kd := w2.imp (fun ⟨j, _, j2, j3⟩ => ⟨j, j2, j3⟩) (fun ⟨a, b⟩ => ⟨a, fun j hj => b j (Nat.zero_le j) hj⟩)
      refine ⟨e, kd, 0, ⟨⟨by omega, r3, hz⟩, Or.inr (Or.inl ⟨hl, hrun, fun h => by have := r5 h; rw [if_pos rfl] at this; exact this, hKW⟩)⟩, fun s n hn => ⟨?_, ?_, hav e r3 (by omega) s n hn⟩⟩
      · unfold D_endOfRun
        rw [if_pos h300, Int.toNat_natCast, if_neg (by omega), if_neg (by omega), b1_s (D_isDigit_n hd), if_pos rfl, b1_s (D_isLetter_y hl), if_neg (by decide), wad1 (by omega)]
        obtain ⟨e', t1, t2, t3, t4, t5⟩ := run77 (s := s) B (L - (i + 1)) n (i + 1) 0 (by omega) (by omega)
        have : e' = e := by
          rcases Nat.lt_trichotomy e' e with h | h | h
          · exact (t5 (by omega) (r4 e' t2 h)).elim
          · exact h
          · exact (r5 (by omega) (t4 e r2 h)).elim
        rw [t1, this]
      · unfold D_kindOf
        rw [if_pos h300, Int.toNat_natCast, b1_s (D_isDigit_n hd), if_pos rfl, b1_s (D_isLetter_y hl), if_neg (by decide)]
        obtain ⟨kd', w1', w2'⟩ := wkind (s := s) (st := i) (en := e) B (by omega) r3 28 n 0 0 (by omega) rfl (by omega)
        have w1'' : D_wordKind q n s (i : Int) (e : Int) = some (kd', s) := w1'
        have hb : ∀ k, i ≤ k → k < e → 1 ≤ q.2 0 k ∧ q.2 0 k < 256 := fun k k1 k2 => by
          have := hrun k k1 k2
          have := B.2.2 k
          unfold bl at *
          omega
        have un : ∀ j j', j < 28 → j' < 28 → wM (q.2 0) i e j → wM (q.2 0) i e j' → j = j' := fun j j' h1 h2 h3 h4 => wcd_ne j h1 j' h2 (((wM_iff h1 hb (by omega)).1 h3).symm.trans ((wM_iff h2 hb (by omega)).1 h4))
        have : kd' = kd := by
          rcases w2' with ⟨j, _, j2, j3, j4⟩ | ⟨j1, j2⟩
          · rcases hKW with ⟨j', k2, k3, k4⟩ | ⟨k1, k2⟩
            · rw [j4, k4, un j j' j2 k2 j3 k3]
            · exact (k2 j j2 j3).elim
          · rcases hKW with ⟨j', k2, k3, k4⟩ | ⟨k1, k2⟩
            · exact (j2 j' (Nat.zero_le j') k2 k3).elim
            · rw [j1, k1]
        rw [bb_s w1'', this]
    · by_cases hq : (q.2 0 i = 60 ∨ q.2 0 i = 62) ∧ i + 1 < L ∧ q.2 0 (i + 1) = 61
      · have hs : q.2 0 i ∈ sgs := by rcases hq.1 with h | h <;> rw [h] <;> decide
        refine ⟨i + 2, q.2 0 i + 100, 0, ⟨⟨by omega, by omega, hz⟩, Or.inr (Or.inr (Or.inl ⟨hq.1, hq.2.1, hq.2.2, rfl, rfl⟩))⟩, fun s n hn => ⟨?_, ?_, hav (i + 2) (by omega) (by omega) s n hn⟩⟩
        · have h26 : D_endOfRun_26 q n s ((i + 1 : Nat) : Int) = some (((i + 2 : Nat) : Int), s) := by
            unfold D_endOfRun_26
            rw [B.1, if_neg (by omega), if_pos ⟨by omega, by omega⟩, Int.toNat_natCast, if_pos hq.2.2, wad1 (by omega)]
          unfold D_endOfRun
          rw [if_pos h300, Int.toNat_natCast, wad1 (by omega), h26]
          rcases hq.1 with h | h
          · rw [if_pos h]
          · rw [if_neg (by omega), if_pos h]
        · unfold D_kindOf
          have h1 := (sg_find (q.2 0 i).toNat (by omega)).2 (by rw [Int.toNat_of_nonneg hby.1]; exact hs)
          rw [if_pos h300, Int.toNat_natCast, b1_s (D_isDigit_n hd), if_pos rfl, b1_s (D_isLetter_n hl), if_pos rfl, if_pos (by omega), if_pos (by omega), if_pos h1, sub_w (by omega) (by omega), if_pos (by omega), ay_wi (by omega) (by omega)]
      · have hK : ∀ (s : bS) (n : Nat), D_kindOf q n s (i : Int) ((i + 1 : Nat) : Int) = some ((if q.2 0 i ∈ sgs then q.2 0 i else 1), s) := fun s n => by
          unfold D_kindOf
          have h1 := sg_find (q.2 0 i).toNat (by omega)
          rw [Int.toNat_of_nonneg hby.1] at h1
          rw [if_pos h300, Int.toNat_natCast, b1_s (D_isDigit_n hd), if_pos rfl, b1_s (D_isLetter_n hl), if_pos rfl, if_pos (by omega), if_pos (by omega)]
          by_cases c : q.2 0 i ∈ sgs
          · rw [if_pos (h1.2 c), if_pos c, sub_w (by omega) (by omega), if_neg (by omega)]
          · rw [if_neg (fun h => c (h1.1 h)), if_neg c]
        have hE : ∀ (s : bS) (n : Nat), D_endOfRun q n s (i : Int) = some (((i + 1 : Nat) : Int), s) := fun s n => by
          have h26 : (q.2 0 i = 60 ∨ q.2 0 i = 62) → D_endOfRun_26 q n s ((i + 1 : Nat) : Int) = some (((i + 1 : Nat) : Int), s) := fun h => by
            unfold D_endOfRun_26
            rw [B.1]
            by_cases c : L ≤ i + 1
            · rw [if_pos (by omega)]
            · rw [if_neg (by omega), if_pos ⟨by omega, by omega⟩, Int.toNat_natCast, if_neg (fun h' => hq ⟨h, by omega, h'⟩)]
          unfold D_endOfRun
          rw [if_pos h300, Int.toNat_natCast, wad1 (by omega)]
          by_cases c1 : q.2 0 i = 60
          · rw [if_pos c1]; exact h26 (Or.inl c1)
          · rw [if_neg c1]
            by_cases c2 : q.2 0 i = 62
            · rw [if_pos c2]; exact h26 (Or.inr c2)
            · rw [if_neg c2, b1_s (D_isDigit_n hd), if_pos rfl, b1_s (D_isLetter_n hl), if_pos rfl]
        refine ⟨i + 1, (if q.2 0 i ∈ sgs then q.2 0 i else 1), 0, ⟨⟨by omega, by omega, hz⟩, ?_⟩, fun s n hn => ⟨hE s n, hK s n, hav (i + 1) (by omega) (by omega) s n hn⟩⟩
        by_cases c : q.2 0 i = 60 ∨ q.2 0 i = 62
        · have hs : q.2 0 i ∈ sgs := by rcases c with h | h <;> rw [h] <;> decide
          exact Or.inr (Or.inr (Or.inr (Or.inl ⟨c, fun h1 h2 => hq ⟨c, h1, h2⟩, rfl, if_pos hs⟩)))
        · refine Or.inr (Or.inr (Or.inr (Or.inr ⟨hd, hl, fun h => c (Or.inl h), fun h => c (Or.inr h), rfl, ?_⟩)))
          by_cases hs : q.2 0 i ∈ sgs
          · exact Or.inl ⟨hs, if_pos hs⟩
          · exact Or.inr ⟨hs, if_neg hs⟩
end
