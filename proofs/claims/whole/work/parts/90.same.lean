/-! Worlds that are the same where they are read; rows that are; copies of worlds. -/
/-- v is as w, where worlds are read -/
def Ew (w v : bS) : Prop := (∀ k, 12 ≤ k → k < 18 → v.1 k = w.1 k) ∧ (∀ k i, k < 3 → i < 128 → v.2 k i = w.2 k i) ∧ (∀ k i, 3 ≤ k → k < 6 → i < 64 → v.2 k i = w.2 k i) ∧ (∀ k i, 6 ≤ k → k < 10 → i < 4 → v.2 k i = w.2 k i) ∧ (∀ i, i < 25 → v.2 10 i = w.2 10 i) ∧ ∀ i, i < 2 → v.2 11 i = w.2 11 i
section
variable {w v u : bS} {a b : Nat → Int} {z z' : Nat → Nat} {T n i : Nat} {f g : Nat → Int}
theorem Ew.rf : Ew w w := ⟨fun _ _ _ => rfl, fun _ _ _ _ => rfl, fun _ _ _ _ _ => rfl, fun _ _ _ _ _ => rfl, fun _ _ => rfl, fun _ _ => rfl⟩
theorem Ew.sy (E : Ew w v) : Ew v w := ⟨fun k h1 h2 => (E.1 k h1 h2).symm, fun k i h1 h2 => (E.2.1 k i h1 h2).symm, fun k i h1 h2 h3 => (E.2.2.1 k i h1 h2 h3).symm, fun k i h1 h2 h3 => (E.2.2.2.1 k i h1 h2 h3).symm, fun i h => (E.2.2.2.2.1 i h).symm, fun i h => (E.2.2.2.2.2 i h).symm⟩
theorem Ew.tr (E : Ew w v) (F : Ew v u) : Ew w u := ⟨fun k h1 h2 => (F.1 k h1 h2).trans (E.1 k h1 h2), fun k i h1 h2 => (F.2.1 k i h1 h2).trans (E.2.1 k i h1 h2), fun k i h1 h2 h3 => (F.2.2.1 k i h1 h2 h3).trans (E.2.2.1 k i h1 h2 h3), fun k i h1 h2 h3 => (F.2.2.2.1 k i h1 h2 h3).trans (E.2.2.2.1 k i h1 h2 h3), fun i h => (F.2.2.2.2.1 i h).trans (E.2.2.2.2.1 i h), fun i h => (F.2.2.2.2.2 i h).trans (E.2.2.2.2.2 i h)⟩
theorem GX_e (E : Ew w v) (X : GX z w a T) : GX z v a T := by
  obtain ⟨e1, e3, e6, e10, eL, eG⟩ := E
  obtain ⟨⟨⟨F, P, B, S⟩, I, IT', J, hT, hT2⟩, U, V, Z, Q, ⟨x1, x2, x3⟩, x4⟩ := X
  have hsp : ∀ s, s < 64 → spn v s = spn w s := fun s h => by unfold spn; rw [e6 4 s (by omega) (by omega) h]
  have hho : ∀ s, s < 64 → hom v s = hom w s := fun s h => by unfold hom; rw [e6 3 s (by omega) (by omega) h]
  have ht : ∀ o p, o < 4 → thr v o p = thr w o p := fun o p h => by unfold thr; rw [e10 6 o (by omega) (by omega) h]
  have hd : ∀ o p, o < 4 → drt v o p = drt w o p := fun o p h => by unfold drt; rw [e10 7 o (by omega) (by omega) h]
  have hf : ∀ o p, o < 4 → fou v o p = fou w o p := fun o p h => by unfold fou; rw [e10 8 o (by omega) (by omega) h]
  have hx : ∀ o p, o < 4 → six v o p = six w o p := fun o p h => by unfold six; rw [e10 9 o (by omega) (by omega) h]
  have hl : ∀ o p, o < 4 → lvl v o p = lvl w o p := fun o p h => by unfold lvl; rw [ht o p h, hx o p h, hf o p h]
  have hF : ∀ f s, s < 64 → (inF v f s ↔ inF w f s) := fun f s h => by unfold inF; rw [hsp s h]
  have hH : ∀ i s, s < 64 → (inH v i s ↔ inH w i s) := fun i s h => by unfold inH; rw [hsp s h, hho s h]
  have hv : ∀ i, hvs v i = hvs w i := fun i => fs_congr (fun s hs => by rw [hsp s hs, hho s hs])
  refine ⟨⟨⟨?_, ?_, ?_, ?_⟩, ?_, ?_, ?_, ?_, hT2⟩, ?_, ?_, ?_, ?_, ⟨?_, ?_, ?_⟩, x4⟩
  · refine ⟨fun f hf' => (F.1 f hf').imp (fun ⟨s, h1, h2, h3⟩ => ⟨s, h1, (hF f s h1).2 h2, h3⟩) (fun ⟨h1, h2⟩ => ⟨fun s hs y => h1 s hs ((hF f s hs).1 y), h2⟩), fun s hs h0 => ?_, fun i hi => (F.2.2 i hi).imp (fun ⟨s, h1, h2, h3⟩ => ⟨s, h1, (hH i s h1).2 h2, by rw [hho s h1]; exact h3⟩) (fun ⟨h1, h2⟩ => ⟨fun s hs y => h1 s hs ((hH i s hs).1 y), h2⟩)⟩
    rw [hsp s hs] at h0 ⊢
    rw [hho s hs, e6 5 s (by omega) (by omega) hs]
    exact F.2.1 s hs h0
  · intro o p ho hp
    rw [ht o p ho, hd o p ho, hl o p ho, e3 0 _ (by omega) (by omega), e3 1 _ (by omega) (by omega), e3 2 _ (by omega) (by omega)]
    exact P o p ho hp
  · obtain ⟨L, l1, l2, l3, l4⟩ := B
    exact ⟨L, l1, by rw [e1 12 (by omega) (by omega)]; exact l2, l3, fun i hi => by rw [eL i (by omega)]; exact l4 i hi⟩
  · refine ⟨by rw [e1 14 (by omega) (by omega)]; exact S.1, ?_⟩
    have e13 := e1 13 (by omega) (by omega)
    rcases S.2 with ⟨h1, G, h2, h3, h4⟩ | h
    · exact Or.inl ⟨by rw [e13]; exact h1, G, h2, by rw [e13]; exact h3, fun i hi => by rw [eG i (by omega)]; exact h4 i hi⟩
    · exact Or.inr (by rw [e13]; exact h)
  · refine ⟨fun s hs => ?_, fun f s s' hf' hs hs' h1 h2 => I.2.1 f s s' hf' hs hs' ((hF f s hs).1 h1) ((hF f s' hs').1 h2), fun i s s' hi hs hs' h1 h2 => I.2.2 i s s' hi hs hs' ((hH i s hs).1 h1) ((hH i s' hs').1 h2)⟩
    rw [hsp s hs, hho s hs, e6 4 s (by omega) (by omega) hs, e6 3 s (by omega) (by omega) hs]
    exact I.1 s hs
  · intro o p ho hp h
    rw [ht o p ho] at h
    rw [hv]
    exact IT' o p ho hp h
  · intro o p ho hp
    obtain ⟨j1, j2, j3⟩ := J o p ho hp
    refine ⟨fun h => ?_, fun h => ?_, fun h => ?_⟩
    · rw [hd o p ho] at h; rw [ht o p ho]; exact j1 h
    · rw [hf o p ho] at h
      obtain ⟨y1, y2, y3, y4⟩ := j2 h
      have hs : slt w o p < 64 := IT' o p ho hp y1
      have es : slt v o p = slt w o p := hv _
      refine ⟨by rw [ht o p ho]; exact y1, by rw [hx o p ho]; exact y2, by rw [es, hsp _ hs]; exact y3, fun q hq e => ?_⟩
      rw [hf o q ho, hd o q ho, hd o p ho]; exact y4 q hq e
    · rw [hx o p ho] at h
      obtain ⟨y1, y3, y4⟩ := j3 h
      have hs : slt w o p < 64 := IT' o p ho hp y1
      have es : slt v o p = slt w o p := hv _
      refine ⟨by rw [ht o p ho]; exact y1, by rw [es, hsp _ hs]; exact y3, fun q hq e => ?_⟩
      rw [hx o q ho, hd o q ho, hd o p ho]; exact y4 q hq e
  · rw [e1 14 (by omega) (by omega)]; exact hT
  · intro i hi; rw [e3 2 i (by omega) hi]; exact U i hi
  · intro o p ho hp h
    rw [ht o p ho] at h
    rw [e3 0 _ (by omega) (by omega), e3 1 _ (by omega) (by omega)]; exact V o p ho hp h
  · refine ⟨fun o p ho hp h => ?_, fun s hs h0 => ?_⟩
    · rw [ht o p ho] at h; exact Z.1 o p ho hp h
    · rw [hsp s hs] at h0 ⊢; rw [hho s hs]; exact Z.2 s hs h0
  · intro s hs h0
    rw [hsp s hs] at h0
    rw [e6 5 s (by omega) (by omega) hs]; exact Q s hs h0
  · rw [e1 15 (by omega) (by omega)]; exact x1
  · rw [e1 16 (by omega) (by omega)]; exact x2
  · rw [e1 17 (by omega) (by omega)]; exact x3
theorem GX_a (e : ∀ i, 10 ≤ i → i < 1259 → b i = a i) (X : GX z w a T) : GX z w b T := by
  obtain ⟨⟨⟨F, P, B, S⟩, I⟩, U, V, Z, Q, ⟨x1, x2, x3⟩, x4, x5⟩ := X
  refine ⟨⟨⟨RF_c (fun i h1 h2 => e i (by omega) (by omega)) F, RP_c (fun i h1 h2 => e i (by omega) (by omega)) P, RB_c (e 14 (by omega) (by omega)) (fun i h1 h2 => e i (by omega) (by omega)) B, ?_⟩, I⟩, U, V, Z, Q, ⟨?_, ?_, ?_⟩, ?_, ?_⟩
  · exact ⟨by rw [e 10 (by omega) (by omega)]; exact S.1, S.2.imp (RG_c (fun i h1 h2 => e i (by omega) (by omega))) id⟩
  · rw [e 11 (by omega) (by omega)]; exact x1
  · rw [e 12 (by omega) (by omega)]; exact x2
  · rw [e 13 (by omega) (by omega)]; exact x3
  · rw [e 11 (by omega) (by omega)]; exact x4
  · rw [e 12 (by omega) (by omega)]; exact x5
/-- more room for objects -/
theorem GX_z (e : ∀ o, o < 4 → z o ≤ z' o) (X : GX z w a T) : GX z' w a T := by
  obtain ⟨G, U, V, Z, R⟩ := X
  refine ⟨G, U, V, ⟨fun o p ho hp h => Nat.lt_of_lt_of_le (Z.1 o p ho hp h) (e o ho), fun s hs h0 => Nat.le_trans (Z.2 s hs h0) (e _ ?_)⟩, R⟩
  have := (G.2.1.1 s hs).2.2.2.1
  omega
theorem cpy_in (h : i < n) : ay_cpy f g 0 0 n i = f i := by
  unfold ay_cpy
  rw [if_pos ⟨by omega, by omega⟩, Nat.zero_add, Nat.sub_zero]
theorem wCp_E (w v : bS) : Ew v (wCp w v) := by
  refine ⟨fun k h1 h2 => ?_, fun k i h1 h2 => ?_, fun k i h1 h2 h3 => ?_, fun k i h1 h2 h3 => ?_, fun i h => cpy_in h, fun i h => cpy_in h⟩
  · rcases (show k = 12 ∨ k = 13 ∨ k = 14 ∨ k = 15 ∨ k = 16 ∨ k = 17 by omega) with h | h | h | h | h | h <;> subst h <;> rfl
  · rcases (show k = 0 ∨ k = 1 ∨ k = 2 by omega) with h | h | h <;> subst h <;> exact cpy_in h2
  · rcases (show k = 3 ∨ k = 4 ∨ k = 5 by omega) with h | h | h <;> subst h <;> exact cpy_in h3
  · rcases (show k = 6 ∨ k = 7 ∨ k = 8 ∨ k = 9 by omega) with h | h | h | h <;> subst h <;> exact cpy_in h3
end
