/-! Worlds: the class's against the reference's row. -/
def spn (w : bS) (s : Nat) : Nat := (w.2 4 s).toNat
def hom (w : bS) (s : Nat) : Nat := (w.2 3 s).toNat
def thr (w : bS) (o p : Nat) : Bool := bt (w.2 6 o) p
def drt (w : bS) (o p : Nat) : Bool := bt (w.2 7 o) p
def fou (w : bS) (o p : Nat) : Bool := bt (w.2 8 o) p
def six (w : bS) (o p : Nat) : Bool := bt (w.2 9 o) p
def lvl (w : bS) (o p : Nat) : Nat := bif thr w o p then (bif six w o p then 16 else bif fou w o p then 4 else 1) else 0
/-- a frame lies in what begins at s -/
def inF (w : bS) (f s : Nat) : Prop := s ≤ f ∧ f < s + spn w s
/-- a page is kept in what begins at s -/
def inH (w : bS) (i s : Nat) : Prop := hom w s ≤ i ∧ i < hom w s + spn w s
/-- reservations: as they are numbered, aligned, apart -/
def IF (w : bS) : Prop := (∀ s, s < 64 → w.2 4 s = (spn w s : Int) ∧ w.2 3 s = (hom w s : Int) ∧ (spn w s = 0 ∨ spn w s = 1 ∨ spn w s = 4 ∨ spn w s = 16) ∧ hom w s < 128 ∧ (0 < spn w s → s % spn w s = 0 ∧ hom w s % spn w s = 0)) ∧ (∀ f s s', f < 64 → s < 64 → s' < 64 → inF w f s → inF w f s' → s = s') ∧ ∀ i s s', i < 128 → s < 64 → s' < 64 → inH w i s → inH w i s' → s = s'
def RF (w : bS) (a : Nat → Int) : Prop := (∀ f, f < 64 → (∃ s, s < 64 ∧ inF w f s ∧ a (914 + 5 * f) = (s : Int)) ∨ ((∀ s, s < 64 → ¬ inF w f s) ∧ a (914 + 5 * f) = -1)) ∧ (∀ s, s < 64 → 0 < spn w s → a (914 + 5 * s + 1) = ((hom w s / 32 : Nat) : Int) ∧ a (914 + 5 * s + 2) = ((hom w s % 32 : Nat) : Int) ∧ a (914 + 5 * s + 3) = (spn w s : Int) ∧ a (914 + 5 * s + 4) = w.2 5 s) ∧ ∀ i, i < 128 → (∃ s, s < 64 ∧ inH w i s ∧ a (18 + 7 * i) = ((s + (i - hom w s) : Nat) : Int)) ∨ ((∀ s, s < 64 → ¬ inH w i s) ∧ a (18 + 7 * i) = -1)
def RP (w : bS) (a : Nat → Int) : Prop := ∀ o p, o < 4 → p < 32 → a (18 + 7 * (32 * o + p) + 1) = (if thr w o p = true then 1 else 0) ∧ a (18 + 7 * (32 * o + p) + 2) = w.2 0 (32 * o + p) ∧ a (18 + 7 * (32 * o + p) + 3) = w.2 1 (32 * o + p) ∧ a (18 + 7 * (32 * o + p) + 4) = (if drt w o p = true then 1 else 0) ∧ a (18 + 7 * (32 * o + p) + 5) = (lvl w o p : Int) ∧ a (18 + 7 * (32 * o + p) + 6) = w.2 2 (32 * o + p)
section
variable {n : Nat} {m : bS} {o p f : Nat}
theorem R_isIn_ok (n : Nat) (v l t : Int) : R_isIn n v l t = some (if l ≤ v ∧ v ≤ t then 1 else 0) := by
  unfold R_isIn
  by_cases h1 : v < l
  · rw [if_pos h1, if_neg (by omega)]
  · rw [if_neg h1]
    by_cases h2 : t < v
    · rw [if_pos h2, if_neg (by omega)]
    · rw [if_neg h2, if_pos (by omega)]
theorem R_pageAt_ok (n : Nat) (m : bS) (ho : o < 4) (hp : p < 32) {k : Int} (h1 : 0 ≤ k) (h2 : k < 7) : R_pageAt n m o p k = some (m.2 0 (18 + 7 * (32 * o + p) + k.toNat), m) := by
  unfold R_pageAt
  simp (disch := omega) only [ay_wi]
  rw [if_pos ⟨by omega, by omega⟩, show (18 + 7 * (32 * (o : Int) + (p : Int)) + k).toNat = 18 + 7 * (32 * o + p) + k.toNat by omega]
theorem R_putPage_ok (n : Nat) (m : bS) (ho : o < 4) (hp : p < 32) {k : Int} (h1 : 0 ≤ k) (h2 : k < 7) (v : Int) : R_putPage n m o p k v = some (0, bC m 0 (ay_u (m.2 0) (18 + 7 * (32 * o + p) + k.toNat) v)) := by
  unfold R_putPage
  simp (disch := omega) only [ay_wi]
  rw [if_pos ⟨by omega, by omega⟩]
  show some (0, bC m 0 (ay_u (m.2 0) (18 + 7 * (32 * (o : Int) + (p : Int)) + k).toNat v)) = _
  rw [show (18 + 7 * (32 * (o : Int) + (p : Int)) + k).toNat = 18 + 7 * (32 * o + p) + k.toNat by omega]
theorem R_frameAt_ok (n : Nat) (m : bS) (hf : f < 64) {k : Int} (h1 : 0 ≤ k) (h2 : k < 5) : R_frameAt n m f k = some (m.2 0 (914 + 5 * f + k.toNat), m) := by
  unfold R_frameAt
  simp (disch := omega) only [ay_wi]
  rw [if_pos ⟨by omega, by omega⟩, show (914 + 5 * (f : Int) + k).toNat = 914 + 5 * f + k.toNat by omega]
theorem R_putFrame_ok (n : Nat) (m : bS) (hf : f < 64) {k : Int} (h1 : 0 ≤ k) (h2 : k < 5) (v : Int) : R_putFrame n m f k v = some (0, bC m 0 (ay_u (m.2 0) (914 + 5 * f + k.toNat) v)) := by
  unfold R_putFrame
  simp (disch := omega) only [ay_wi]
  rw [if_pos ⟨by omega, by omega⟩]
  show some (0, bC m 0 (ay_u (m.2 0) (914 + 5 * (f : Int) + k).toNat v)) = _
  rw [show (914 + 5 * (f : Int) + k).toNat = 914 + 5 * f + k.toNat by omega]
variable {w : bS}
theorem R_isThere_ok (n : Nat) (H : RP w (m.2 0)) (ho : o < 4) (hp : p < 32) : R_isThere n m o p = some (if thr w o p = true then 1 else 0, m) := by
  unfold R_isThere
  rw [bb_s (R_pageAt_ok n m ho hp (by omega) (by omega))]
  show (if m.2 0 (18 + 7 * (32 * o + p) + 1) = 1 then some ((1 : Int), m) else some (0, m)) = _
  rw [(H o p ho hp).1]
  cases thr w o p <;> rfl
theorem R_isDirty_ok (n : Nat) (H : RP w (m.2 0)) (ho : o < 4) (hp : p < 32) : R_isDirty n m o p = some (if drt w o p = true then 1 else 0, m) := by
  unfold R_isDirty
  rw [bb_s (R_pageAt_ok n m ho hp (by omega) (by omega))]
  show (if m.2 0 (18 + 7 * (32 * o + p) + 4) = 1 then some ((1 : Int), m) else some (0, m)) = _
  rw [(H o p ho hp).2.2.2.1]
  cases drt w o p <;> rfl
theorem R_levelOf_ok (n : Nat) (H : RP w (m.2 0)) (ho : o < 4) (hp : p < 32) : R_levelOf n m o p = some ((lvl w o p : Int), m) := by
  unfold R_levelOf
  rw [bb_s (R_pageAt_ok n m ho hp (by omega) (by omega))]
  show some (m.2 0 (18 + 7 * (32 * o + p) + 5), m) = _
  rw [(H o p ho hp).2.2.2.2.1]
theorem R_isFree_ok (n : Nat) (m : bS) (hf : f < 64) : R_isFree n m f = some (if m.2 0 (914 + 5 * f) = -1 then 1 else 0, m) := by
  unfold R_isFree
  rw [bb_s (R_frameAt_ok n m hf (by omega) (by omega))]
  show (if m.2 0 (914 + 5 * f) = -1 then some ((1 : Int), m) else some (0, m)) = _
  split <;> rfl
theorem R_pageIn_ok (n : Nat) (m : bS) (hf : f < 64) {s g : Nat} (hs : s < 64) (e : m.2 0 (914 + 5 * f) = (s : Int)) (e2 : m.2 0 (914 + 5 * s + 2) = (g : Int)) (hg : g < 128) (hsf : s ≤ f) : R_pageIn n m f = some (((g + (f - s) : Nat) : Int), m) := by
  unfold R_pageIn
  rw [bb_s (R_frameAt_ok n m hf (by omega) (by omega))]
  show (bb (R_frameAt n m (m.2 0 (914 + 5 * f)) 2) _) = _
  rw [e, bb_s (R_frameAt_ok n m hs (by omega) (by omega))]
  show some (ay_w (ay_w (m.2 0 (914 + 5 * s + 2) + (f : Int)) - m.2 0 (914 + 5 * f)), m) = _
  rw [e, e2]
  simp (disch := omega) only [ay_wi]
  congr 2; omega
theorem R_ownerOf_ok (n : Nat) (m : bS) (hf : f < 64) {s : Nat} (hs : s < 64) (e : m.2 0 (914 + 5 * f) = (s : Int)) : R_ownerOf n m f = some (m.2 0 (914 + 5 * s + 1), m) := by
  unfold R_ownerOf
  rw [bb_s (R_frameAt_ok n m hf (by omega) (by omega))]
  show (bb (R_frameAt n m (m.2 0 (914 + 5 * f)) 1) _) = _
  rw [e, bb_s (R_frameAt_ok n m hs (by omega) (by omega))]
  rfl
/-- what lies in a frame: the page's number among all -/
theorem IF.at (I : IF w) {s : Nat} (hs : s < 64) (h0 : 0 < spn w s) : hom w s + spn w s ≤ 128 ∧ s + spn w s ≤ 64 ∧ hom w s % 32 + spn w s ≤ 32 := by
  obtain ⟨_, _, h3, h4, h5⟩ := I.1 s hs
  obtain ⟨h6, h7⟩ := h5 h0
  rcases h3 with h | h | h | h <;> rw [h] at h6 h7 ⊢ <;> omega
theorem IF.in (I : IF w) {s : Nat} (hs : s < 64) (hin : inF w f s) : 0 < spn w s ∧ f < 64 := by
  have h0 : 0 < spn w s := by have := hin.1; have := hin.2; omega
  have := I.at hs h0
  exact ⟨h0, by have := hin.2; omega⟩
theorem inF_page (I : IF w) {s : Nat} (hs : s < 64) (hin : inF w f s) : hom w s + (f - s) < 128 ∧ (hom w s + (f - s)) / 32 = hom w s / 32 ∧ (hom w s + (f - s)) % 32 = hom w s % 32 + (f - s) ∧ hom w s / 32 < 4 := by
  obtain ⟨h1, h2, h3⟩ := I.at hs (I.in hs hin).1
  have := hin.1; have := hin.2
  omega
theorem R_isFull_in (n : Nat) (I : IF w) (HF : RF w (m.2 0)) (HP : RP w (m.2 0)) (hf : f < 64) {s : Nat} (hs : s < 64) (hin : inF w f s) : R_isFull n m f = some (if thr w (hom w s / 32) (hom w s % 32 + (f - s)) = true then 1 else 0, m) := by
  obtain ⟨h0, _⟩ := I.in hs hin
  obtain ⟨h1, h2, h3⟩ := I.at hs h0
  have := hin.1; have := hin.2
  have e : m.2 0 (914 + 5 * f) = (s : Int) := by
    rcases HF.1 f hf with ⟨s', hs', hin', e⟩ | ⟨hno, _⟩
    · rw [e, I.2.1 f s' s hf hs' hs hin' hin]
    · exact absurd hin (hno s hs)
  obtain ⟨a1, a2, a3, a4⟩ := HF.2.1 s hs h0
  unfold R_isFull
  rw [bb_s (R_isFree_ok n m hf), e, if_neg (show ¬ ((s : Int) = -1) by omega), if_pos rfl]
  rw [bb_s (R_ownerOf_ok n m hf hs e), bb_s (R_pageIn_ok n m hf hs e a2 (by omega) hin.1), a1, bb_s (R_isThere_ok n HP (by omega) (by omega))]
  cases thr w (hom w s / 32) (hom w s % 32 + (f - s)) <;> rfl
theorem R_isFull_out (n : Nat) (HF : RF w (m.2 0)) (hf : f < 64) (hno : ∀ s, s < 64 → ¬ inF w f s) : R_isFull n m f = some (0, m) := by
  have e : m.2 0 (914 + 5 * f) = -1 := by
    rcases HF.1 f hf with ⟨s', hs', hin', e⟩ | ⟨_, e⟩
    · exact absurd hin' (hno s' hs')
    · exact e
  unfold R_isFull
  rw [bb_s (R_isFree_ok n m hf), e, if_pos rfl]
  rfl
end
