/-! Tokens, as the class splits them. -/
def bd (x : Int) : Prop := 48 ≤ x ∧ x ≤ 57
def bl (x : Int) : Prop := (97 ≤ x ∧ x ≤ 122) ∨ (65 ≤ x ∧ x ≤ 90)
def bz0 (x : Int) : Prop := x = 32 ∨ x = 10
def sgs : List Int := [60, 62, 61, 35, 43, 45, 42, 47, 40, 41, 59]
/-- digits' amount, as the class counts it -/
def amt (b : Nat → Int) (st : Nat) : Nat → Int
  | 0 => 0
  | d + 1 => if 10000 < amt b st d * 10 + b (st + d) - 48 then 10000 else amt b st d * 10 + b (st + d) - 48
def KW (b : Nat → Int) (st en : Nat) (kd : Int) : Prop := (∃ j, j < 28 ∧ wM b st en j ∧ kd = 200 + (j : Int)) ∨ (kd = 1 ∧ ∀ j, j < 28 → ¬ wM b st en j)
/-- one token: what stands from st to en -/
def TKd (b : Nat → Int) (L st en : Nat) (kd am : Int) : Prop := (st < en ∧ en ≤ L ∧ ¬ bz0 (b st)) ∧ ((bd (b st) ∧ (∀ k, st ≤ k → k < en → bd (b k)) ∧ (en < L → ¬ bd (b en)) ∧ kd = 2 ∧ am = amt b st (en - st)) ∨ (bl (b st) ∧ (∀ k, st ≤ k → k < en → bl (b k)) ∧ (en < L → ¬ bl (b en)) ∧ KW b st en kd) ∨ ((b st = 60 ∨ b st = 62) ∧ st + 1 < L ∧ b (st + 1) = 61 ∧ en = st + 2 ∧ kd = b st + 100) ∨ ((b st = 60 ∨ b st = 62) ∧ (st + 1 < L → b (st + 1) ≠ 61) ∧ en = st + 1 ∧ kd = b st) ∨ (¬ bd (b st) ∧ ¬ bl (b st) ∧ b st ≠ 60 ∧ b st ≠ 62 ∧ en = st + 1 ∧ ((b st ∈ sgs ∧ kd = b st) ∨ (b st ∉ sgs ∧ kd = 1))))
/-- blanks alone from i to j -/
def SK (b : Nat → Int) (L i j : Nat) : Prop := i ≤ j ∧ j ≤ L ∧ (∀ k, i ≤ k → k < j → bz0 (b k)) ∧ (j < L → ¬ bz0 (b j))
/-- the tape's bytes -/
def BY (q : bS) (L : Nat) : Prop := q.1 1 = (L : Int) ∧ L ≤ 300 ∧ ∀ i, 0 ≤ q.2 0 i ∧ q.2 0 i < 256
section
variable {q s : bS} {b : Nat → Int} {L n st en i j d k : Nat} {x kd : Int}
theorem D_isDigit_y (h : bd x) : D_isDigit n x = some 1 := by
  unfold D_isDigit; unfold bd at h
  rw [if_neg (by omega), if_neg (by omega)]
theorem D_isDigit_n (h : ¬ bd x) : D_isDigit n x = some 0 := by
  unfold D_isDigit; unfold bd at h
  by_cases c : x < 48
  · rw [if_pos c]
  · rw [if_neg c, if_pos (by omega)]
theorem D_isLetter_y (h : bl x) : D_isLetter n x = some 1 := by
  unfold D_isLetter D_isLetter_12; unfold bl at h
  by_cases c : x < 97
  · rw [if_pos c, if_neg (by omega), if_neg (by omega)]
  · rw [if_neg c, if_pos (by omega)]
theorem D_isLetter_n (h : ¬ bl x) : D_isLetter n x = some 0 := by
  unfold D_isLetter D_isLetter_12; unfold bl at h
  by_cases c : x < 97
  · rw [if_pos c]
    by_cases c2 : x < 65
    · rw [if_pos c2]
    · rw [if_neg c2, if_pos (by omega)]
  · rw [if_neg c, if_neg (by omega), if_neg (by omega), if_pos (by omega)]
/-- the end of a run -/
theorem run77 (B : BY q L) : ∀ (d n i : Nat) (l4 : Int), d + i = L → d < n → ∃ e : Nat, D_endOfRun_77 q n s (i : Int) l4 = some ((e : Int), s) ∧ i ≤ e ∧ e ≤ L ∧ (∀ k, i ≤ k → k < e → if l4 = 0 then bl (q.2 0 k) else bd (q.2 0 k)) ∧ (e < L → ¬ (if l4 = 0 then bl (q.2 0 e) else bd (q.2 0 e)))
  | _, 0, _, _, _, h => by omega
  | 0, n + 1, i, l4, h1, _ => by
    have e : i = L := by omega
    refine ⟨i, ?_, by omega, by omega, fun k _ _ => by omega, fun _ => by omega⟩
    unfold D_endOfRun_77
    rw [B.1, if_pos (by omega)]
  | d + 1, n + 1, i, l4, h1, h2 => by
    have hL := B.2.1
    obtain ⟨e, i1, i2, i3, i4, i5⟩ := run77 B d n (i + 1) l4 (by omega) (by omega)
    have stop : ¬ (if l4 = 0 then bl (q.2 0 i) else bd (q.2 0 i)) → D_endOfRun_77 q (n + 1) s (i : Int) l4 = some ((i : Int), s) := fun h => by
      unfold D_endOfRun_77
      rw [B.1, if_neg (by omega), if_pos (show 0 ≤ (i : Int) ∧ (i : Int) < 300 by omega), if_pos (show 0 ≤ (i : Int) ∧ (i : Int) < 300 by omega), Int.toNat_natCast]
      by_cases c : l4 = 0
      · rw [if_pos c] at h ⊢
        rw [D_isLetter_n h]; rfl
      · rw [if_neg c] at h ⊢
        rw [D_isDigit_n h]; rfl
    have go : (if l4 = 0 then bl (q.2 0 i) else bd (q.2 0 i)) → D_endOfRun_77 q (n + 1) s (i : Int) l4 = D_endOfRun_77 q n s ((i + 1 : Nat) : Int) l4 := fun h => by
      conv => lhs; unfold D_endOfRun_77
      rw [B.1, if_neg (by omega), if_pos (show 0 ≤ (i : Int) ∧ (i : Int) < 300 by omega), if_pos (show 0 ≤ (i : Int) ∧ (i : Int) < 300 by omega), Int.toNat_natCast, wad1 (by omega)]
      by_cases c : l4 = 0
      · rw [if_pos c] at h ⊢
        rw [D_isLetter_y h]; rfl
      · rw [if_neg c] at h ⊢
        rw [D_isDigit_y h]; rfl
    by_cases h : (if l4 = 0 then bl (q.2 0 i) else bd (q.2 0 i))
    · refine ⟨e, (go h).trans i1, by omega, i3, fun k k1 k2 => ?_, i5⟩
      by_cases c : k = i
      · subst c; exact h
      · exact i4 k (by omega) k2
    · exact ⟨i, stop h, by omega, by omega, fun k _ _ => by omega, fun _ => h⟩
theorem spl3 (B : BY q L) {bg ed from' : Nat} (he : ed ≤ 140) (hf : from' + (ed - bg) ≤ 300) : ∀ (d n i : Nat), d + i = ed → d < n → bg ≤ i → (∃ v, D_spells_3 q n s (bg : Int) (ed : Int) (from' : Int) (i : Int) = some (v, s) ∧ ((v = 1 ∧ ∀ k, i ≤ k → k < ed → ((wst.getD k 0 : Nat) : Int) = q.2 0 (from' + (k - bg))) ∨ (v = 0 ∧ ¬ ∀ k, i ≤ k → k < ed → ((wst.getD k 0 : Nat) : Int) = q.2 0 (from' + (k - bg)))))
  | _, 0, _, _, h, _ => by omega
  | 0, n + 1, i, h1, _, _ => by
    refine ⟨1, ?_, Or.inl ⟨rfl, fun k _ _ => by omega⟩⟩
    unfold D_spells_3
    rw [if_pos (by omega)]
  | d + 1, n + 1, i, h1, h2, h3 => by
    obtain ⟨v, i1, i2⟩ := spl3 B he hf d n (i + 1) (by omega) (by omega) (by omega)
    have e1 : ay_w (ay_w ((from' : Int) + (i : Int)) - (bg : Int)) = ((from' + (i - bg) : Nat) : Int) := by
      rw [wadd (by omega), ay_wi (by omega) (by omega)]; omega
    by_cases c : ((wst.getD i 0 : Nat) : Int) = q.2 0 (from' + (i - bg))
    · refine ⟨v, ?_, i2.imp (fun ⟨a, h⟩ => ⟨a, fun k k1 k2 => ?_⟩) (fun ⟨a, h⟩ => ⟨a, fun h' => h (fun k k1 k2 => h' k (by omega) k2)⟩)⟩
      · unfold D_spells_3
        rw [if_neg (by omega), if_pos (show 0 ≤ (i : Int) ∧ (i : Int) < 140 by omega), e1, if_pos ⟨by omega, by omega⟩, Int.toNat_natCast, Int.toNat_natCast, wst_eq, if_pos c, wad1 (by omega)]
        exact i1
      · by_cases ck : k = i
        · subst ck; exact c
        · exact h k (by omega) k2
    · refine ⟨0, ?_, Or.inr ⟨rfl, fun h => c (h i (by omega) (by omega))⟩⟩
      unfold D_spells_3
      rw [if_neg (by omega), if_pos (show 0 ≤ (i : Int) ∧ (i : Int) < 140 by omega), e1, if_pos ⟨by omega, by omega⟩, Int.toNat_natCast, Int.toNat_natCast, wst_eq, if_neg c]
theorem wscan {bg ed : Nat} (he : ed ≤ 140) (hne : ∀ k, bg ≤ k → k < ed → wst.getD k 0 ≠ 32) : ∀ (d n i : Nat) (l1 l2 l3 : Int), d + i = ed → bg ≤ i → D_wordKind_8 q (n + d) s l1 l2 l3 (bg : Int) (i : Int) = D_wordKind_8 q n s l1 l2 l3 (bg : Int) (ed : Int)
  | 0, n, i, l1, l2, l3, h1, _ => by rw [show i = ed by omega, Nat.add_zero]
  | d + 1, n, i, l1, l2, l3, h1, h2 => by
    rw [← wscan he hne d n (i + 1) l1 l2 l3 (by omega) (by omega), show n + (d + 1) = (n + d) + 1 by omega]
    conv => lhs; unfold D_wordKind_8
    have := hne i (by omega) (by omega)
    rw [if_neg (by omega), if_neg (by omega), if_pos ⟨by omega, by omega⟩, Int.toNat_natCast, wst_eq, if_neg (by omega), wad1 (by omega)]
theorem sub_w {x y : Nat} (h : y ≤ x) (hx : x < 100000) : ay_w ((x : Int) - (y : Int)) = ((x - y : Nat) : Int) := by rw [ay_wi (by omega) (by omega)]; omega
theorem wkind (B : BY q L) (hse : st ≤ en) (heL : en ≤ L) : ∀ (c n j : Nat) (bg : Nat), c + j = 28 → bg = wbg.getD j 141 → 160 ≤ n + bg → ∃ kd, D_wordKind_8 q n s (st : Int) (en : Int) (j : Int) (bg : Int) (bg : Int) = some (kd, s) ∧ ((∃ i, j ≤ i ∧ i < 28 ∧ wM (q.2 0) st en i ∧ kd = 200 + (i : Int)) ∨ (kd = 1 ∧ ∀ i, j ≤ i → i < 28 → ¬ wM (q.2 0) st en i))
  | 0, n, j, bg, h1, h2, h3 => by
    have e : j = 28 := by omega
    subst e
    have e : bg = 141 := h2
    subst e
    refine ⟨1, ?_, Or.inr ⟨rfl, fun i _ _ => by omega⟩⟩
    obtain ⟨n', hn⟩ : ∃ n', n = n' + 1 := ⟨n - 1, by omega⟩
    subst hn
    unfold D_wordKind_8
    rw [if_pos (by omega)]
  | c + 1, n, j, bg, h1, h2, h3 => by
    have hL := B.2.1
    have hj : j < 28 := by omega
    obtain ⟨a1, a2, a3, a4, a5, a6⟩ := wd_at j hj
    have hb0 : wbg.getD j 141 = wbg.getD j 0 := (show ∀ j, j < 28 → wbg.getD j 141 = wbg.getD j 0 by decide) j hj
    rw [hb0] at h2
    obtain ⟨ed, hed⟩ : ∃ ed, ed = wed.getD j 0 := ⟨_, rfl⟩
    rw [← h2, ← hed] at a2 a3 a4
    rw [← hed] at a1 a5 a6
    have hne : ∀ k, bg ≤ k → k < ed → wst.getD k 0 ≠ 32 := fun k k1 k2 => by
      have := (wd_ch j hj (k - bg) (by omega) (by rw [← h2, ← hed]; omega)).2
      rw [← h2, show bg + (k - bg) = k by omega] at this
      exact this
    obtain ⟨n', hn⟩ : ∃ n', n = (n' + 1) + (ed - bg) := ⟨n - (ed - bg) - 1, by omega⟩
    subst hn
    rw [wscan a1 hne (ed - bg) (n' + 1) bg _ _ _ (by omega) (by omega)]
    clear a4
    have sp := fun (c1 : ed - bg = en - st) => spl3 (s := s) (bg := bg) (ed := ed) (from' := st) B a1 (by omega) (ed - bg) n' bg (by omega) (by omega) (by omega)
    -- at the word's end
    have h40 : D_wordKind_8 q (n' + 1) s (st : Int) (en : Int) (j : Int) (bg : Int) (ed : Int) = D_wordKind_40 q (fun s l1 l2 l3 l4 l5 => D_wordKind_8 q n' s l1 l2 l3 l4 l5) n' s (st : Int) (en : Int) (j : Int) (bg : Int) (ed : Int) := by
      conv => lhs; unfold D_wordKind_8
      rw [if_neg (by omega)]
      by_cases c1 : ed = 140
      · rw [if_pos (by omega)]
      · rw [if_neg (by omega), if_pos ⟨by omega, by omega⟩, Int.toNat_natCast, wst_eq, if_pos (by rw [a5.resolve_left c1]; rfl)]
    rw [h40]
    unfold D_wordKind_40
    have next : ∀ P : Prop, ¬ wM (q.2 0) st en j → (∃ kd, D_wordKind_8 q n' s (st : Int) (en : Int) ((j + 1 : Nat) : Int) ((ed + 1 : Nat) : Int) ((ed + 1 : Nat) : Int) = some (kd, s) ∧ ((∃ i, j ≤ i ∧ i < 28 ∧ wM (q.2 0) st en i ∧ kd = 200 + (i : Int)) ∨ (kd = 1 ∧ ∀ i, j ≤ i → i < 28 → ¬ wM (q.2 0) st en i))) := fun _ hm => by
      obtain ⟨kd, i1, i2⟩ := wkind B hse heL c n' (j + 1) (ed + 1) (by omega) a6.symm (by omega)
      refine ⟨kd, i1, i2.imp (fun ⟨i, x1, x2⟩ => ⟨i, Nat.le_of_succ_le x1, x2⟩) (fun ⟨x1, x2⟩ => ⟨x1, fun i y1 y2 => ?_⟩)⟩
      by_cases c2 : i = j
      · subst c2; exact hm
      · exact x2 i (Nat.lt_of_le_of_ne y1 (fun h => c2 h.symm)) y2
    rw [sub_w (x := ed) (y := bg) (by omega) (by omega), sub_w (x := en) (y := st) (by omega) (by omega), wad1 (x := j) (by omega), wad1 (x := ed) (by omega)]
    by_cases c1 : ed - bg = en - st
    · rw [if_pos (by omega)]
      obtain ⟨v, s1, s2⟩ := sp c1
      have s1' : D_spells q n' s (bg : Int) (ed : Int) (st : Int) = some (v, s) := s1
      rw [bb_s s1']
      rcases s2 with ⟨y1, y2⟩ | ⟨y1, y2⟩
      · rw [if_neg (by rw [y1]; decide), ay_wi (x := 200 + (j : Int)) (by omega) (by omega)]
        refine ⟨_, rfl, Or.inl ⟨j, by omega, hj, ⟨by rw [← hed, ← h2]; exact c1, fun k hk => ?_⟩, rfl⟩⟩
        have := y2 (bg + k) (by omega) (by omega)
        rw [Nat.add_sub_cancel_left] at this
        rw [← h2]; exact this
      · rw [if_pos y1]
        refine next True (fun hm => y2 (fun k k1 k2 => ?_))
        have := hm.2 (k - bg) (by omega)
        rw [← h2, show bg + (k - bg) = k by omega] at this
        exact this
    · rw [if_neg (by omega)]
      refine next True (fun hm => c1 ?_)
      have := hm.1
      rw [← hed, ← h2] at this
      exact this
/-- the amount of digits -/
theorem amt_le : ∀ d, (∀ k, k < d → bd (b (st + k))) → 0 ≤ amt b st d ∧ amt b st d ≤ 10000
  | 0, _ => by show (0 : Int) ≤ 0 ∧ (0 : Int) ≤ 10000; omega
  | d + 1, h => by
    have ih := amt_le d (fun k hk => h k (by omega))
    have hd := h d (by omega)
    unfold bd at hd
    unfold amt
    split <;> omega
theorem amt5 (B : BY q L) (hd : ∀ k, st ≤ k → k < en → bd (q.2 0 k)) (heL : en ≤ L) : ∀ (d n i : Nat), d + i = en → d < n → st ≤ i → D_amountOf_5 q n s (en : Int) (amt (q.2 0) st (i - st)) (i : Int) = some (amt (q.2 0) st (en - st), s)
  | _, 0, _, _, h, _ => by omega
  | 0, n + 1, i, h1, _, _ => by
    unfold D_amountOf_5
    rw [if_pos (by omega), show i = en by omega]
  | d + 1, n + 1, i, h1, h2, h3 => by
    have hL := B.2.1
    have ih := amt5 B hd heL d n (i + 1) (by omega) (by omega) (by omega)
    have hb := hd i h3 (by omega)
    have ha := amt_le (b := q.2 0) (st := st) (i - st) (fun k hk => hd (st + k) (by omega) (by omega))
    have hb' := hb
    unfold bd at hb'
    unfold D_amountOf_5
    rw [if_neg (by omega), if_pos (show 0 ≤ (i : Int) ∧ (i : Int) < 300 by omega), Int.toNat_natCast, b1_s (D_isDigit_y hb), if_neg (by decide), if_pos (show 0 ≤ (i : Int) ∧ (i : Int) < 300 by omega), wad1 (by omega)]
    have e1 : ay_w (ay_w (ay_w (amt (q.2 0) st (i - st) * 10) + q.2 0 i) - 48) = amt (q.2 0) st (i - st) * 10 + q.2 0 i - 48 := by
      rw [ay_wi (x := amt (q.2 0) st (i - st) * 10) (by omega) (by omega), ay_wi (x := amt (q.2 0) st (i - st) * 10 + q.2 0 i) (by omega) (by omega), ay_wi (by omega) (by omega)]
    have e2 : amt (q.2 0) st (i + 1 - st) = if 10000 < amt (q.2 0) st (i - st) * 10 + q.2 0 i - 48 then 10000 else amt (q.2 0) st (i - st) * 10 + q.2 0 i - 48 := by
      rw [show i + 1 - st = (i - st) + 1 by omega]
      show (if 10000 < amt (q.2 0) st (i - st) * 10 + q.2 0 (st + (i - st)) - 48 then _ else amt (q.2 0) st (i - st) * 10 + q.2 0 (st + (i - st)) - 48) = _
      rw [show st + (i - st) = i by omega]
    rw [e1, ← e2]
    exact ih
/-- other tokens have an amount too -/
theorem amt5' (B : BY q L) (heL : en ≤ L) : ∀ (d n i : Nat) (l3 : Int), d + i = en → d < n → ∃ v, D_amountOf_5 q n s (en : Int) l3 (i : Int) = some (v, s)
  | _, 0, _, _, _, h => by omega
  | 0, n + 1, i, l3, h1, _ => by
    refine ⟨l3, ?_⟩
    unfold D_amountOf_5
    rw [if_pos (by omega)]
  | d + 1, n + 1, i, l3, h1, h2 => by
    have hL := B.2.1
    obtain ⟨v, ih⟩ := amt5' B heL d n (i + 1) (if 10000 < ay_w (ay_w (ay_w (l3 * 10) + q.2 0 i) - 48) then 10000 else ay_w (ay_w (ay_w (l3 * 10) + q.2 0 i) - 48)) (by omega) (by omega)
    by_cases hb : bd (q.2 0 i)
    · refine ⟨v, ?_⟩
      unfold D_amountOf_5
      rw [if_neg (by omega), if_pos (show 0 ≤ (i : Int) ∧ (i : Int) < 300 by omega), Int.toNat_natCast, b1_s (D_isDigit_y hb), if_neg (by decide), if_pos (show 0 ≤ (i : Int) ∧ (i : Int) < 300 by omega), wad1 (by omega)]
      exact ih
    · refine ⟨l3, ?_⟩
      unfold D_amountOf_5
      rw [if_neg (by omega), if_pos (show 0 ≤ (i : Int) ∧ (i : Int) < 300 by omega), Int.toNat_natCast, D_isDigit_n hb]
      rfl
end
