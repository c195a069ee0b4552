/-! Searches and counts over frames, on both sides. -/
/-- the slot of a frame, of a page; 64: none -/
def cvs (w : bS) (f : Nat) : Nat := fs (fun s => decide (s ≤ f ∧ f < s + spn w s)) 64
def hvs (w : bS) (i : Nat) : Nat := fs (fun s => decide (hom w s ≤ i ∧ i < hom w s + spn w s)) 64
theorem fs_dec {P : Nat → Prop} [DecidablePred P] {n : Nat} : fs (fun s => decide (P s)) n ≤ n ∧ (∀ i, i < fs (fun s => decide (P s)) n → ¬ P i) ∧ (fs (fun s => decide (P s)) n < n → P (fs (fun s => decide (P s)) n)) := by
  obtain ⟨a, b⟩ := fs_spec (fun s => decide (P s)) n
  exact ⟨fs_le _ _, fun i hi => of_decide_eq_false (a i hi), fun h => of_decide_eq_true (b h)⟩
section
variable {n : Nat} {m w : bS} {o p f i s : Nat}
theorem cvs_in (h : cvs w f < 64) : inF w f (cvs w f) := (fs_dec (P := fun s => s ≤ f ∧ f < s + spn w s)).2.2 h
theorem cvs_no (h : ¬ cvs w f < 64) : ∀ s, s < 64 → ¬ inF w f s := fun s hs => (fs_dec (P := fun s => s ≤ f ∧ f < s + spn w s) (n := 64)).2.1 s (by unfold cvs at h; omega)
theorem cvs_eq (I : IF w) (hf : f < 64) (hs : s < 64) (h : inF w f s) : cvs w f = s := by
  by_cases hc : cvs w f < 64
  · exact I.2.1 f _ _ hf hc hs (cvs_in hc) h
  · exact absurd h (cvs_no hc s hs)
theorem cvs_le : cvs w f ≤ 64 := fs_le _ _
theorem hvs_in (h : hvs w i < 64) : inH w i (hvs w i) := (fs_dec (P := fun s => hom w s ≤ i ∧ i < hom w s + spn w s)).2.2 h
theorem hvs_no (h : ¬ hvs w i < 64) : ∀ s, s < 64 → ¬ inH w i s := fun s hs => (fs_dec (P := fun s => hom w s ≤ i ∧ i < hom w s + spn w s) (n := 64)).2.1 s (by unfold hvs at h; omega)
theorem hvs_eq (I : IF w) (hi : i < 128) (hs : s < 64) (h : inH w i s) : hvs w i = s := by
  by_cases hc : hvs w i < 64
  · exact I.2.2 i _ _ hi hc hs (hvs_in hc) h
  · exact absurd h (hvs_no hc s hs)
theorem hvs_le : hvs w i ≤ 64 := fs_le _ _
theorem RF.fst {a : Nat → Int} (I : IF w) (H : RF w a) (hf : f < 64) : a (914 + 5 * f) = if cvs w f < 64 then (cvs w f : Int) else -1 := by
  rcases H.1 f hf with ⟨s, hs, hin, e⟩ | ⟨hno, e⟩
  · rw [cvs_eq I hf hs hin, if_pos hs, e]
  · rw [if_neg (fun h => hno _ h (cvs_in h)), e]
theorem RF.pfr {a : Nat → Int} (I : IF w) (H : RF w a) (hi : i < 128) : a (18 + 7 * i) = if hvs w i < 64 then ((hvs w i + (i - hom w (hvs w i)) : Nat) : Int) else -1 := by
  rcases H.2.2 i hi with ⟨s, hs, hin, e⟩ | ⟨hno, e⟩
  · rw [hvs_eq I hi hs hin, if_pos hs, e]
  · rw [if_neg (fun h => hno _ h (hvs_in h)), e]
/-- the class's search for a page's slot -/
theorem W_slotOf_10_ok (I : IF w) (hi : i < 128) (hn : 66 ≤ n) : W_slotOf_10 n w i 0 = some (if hvs w i < 64 then (hvs w i : Int) else -1, w) := by
  obtain ⟨q1, q2, q3⟩ := fs_dec (P := fun s => hom w s ≤ i ∧ i < hom w s + spn w s) (n := 64)
  have hle : hvs w i ≤ 64 := hvs_le
  refine runs0 (fun n k => W_slotOf_10 n w i k) (hvs w i) 0 (fun n k hk _ => ?_) (fun n _ => ?_) (n := n) (by omega)
  · obtain ⟨a1, a2, a3, a4, a5⟩ := I.1 k (by omega)
    have hno := q2 k hk
    show W_slotOf_10 (n + 1) w i k = W_slotOf_10 n w i ((k + 1 : Nat) : Int)
    rw [W_slotOf_10, if_neg (by omega), if_pos (by omega), Int.toNat_natCast, a1, a2]
    simp (disch := omega) only [ay_wi]
    rw [show (k : Int) + 1 = ((k + 1 : Nat) : Int) by omega]
    by_cases h1 : (i : Int) < (hom w k : Int)
    · rw [if_pos h1]
    · rw [if_neg h1, if_pos (by omega), if_pos (by omega), if_pos (by omega)]
  · show W_slotOf_10 (n + 1) w i (hvs w i) = _
    rw [W_slotOf_10]
    by_cases hc : hvs w i < 64
    · obtain ⟨a1, a2, a3, a4, a5⟩ := I.1 _ hc
      have hin := hvs_in hc
      have b1 := hin.1; have b2 := hin.2
      rw [if_neg (by omega), if_pos (by omega), Int.toNat_natCast, a1, a2]
      simp (disch := omega) only [ay_wi]
      rw [if_neg (by omega), if_pos (by omega), if_pos (by omega), if_neg (by omega), if_pos hc]
    · rw [if_pos (by omega), if_neg hc]
theorem W_slotOf_ok (I : IF w) (ho : o < 4) (hp : p < 32) (hn : 66 ≤ n) : W_slotOf n w o p = some (if hvs w (32 * o + p) < 64 then (hvs w (32 * o + p) : Int) else -1, w) := by
  unfold W_slotOf
  simp (disch := omega) only [ay_wi]
  rw [show (o : Int) * 32 + (p : Int) = ((32 * o + p : Nat) : Int) by omega]
  exact W_slotOf_10_ok I (by omega) hn
theorem W_isThere_ok (n : Nat) (w : bS) (ho : o < 4) (hp : p < 32) : W_isThere n w o p = some (if thr w o p = true then 1 else 0, w) := by
  unfold W_isThere
  rw [if_pos (by omega), Int.toNat_natCast, bit_1 _ hp]
  show (if (if thr w o p = true then (1 : Int) else 0) = 1 then some ((1 : Int), w) else some (0, w)) = _
  cases thr w o p <;> rfl
theorem W_levelOf_ok (n : Nat) (w : bS) (ho : o < 4) (hp : p < 32) : W_levelOf n w o p = some ((lvl w o p : Int), w) := by
  unfold W_levelOf lvl
  rw [bb_s (W_isThere_ok n w ho hp)]
  cases hth : thr w o p
  · rfl
  · rw [if_neg (by decide), if_pos (by omega), Int.toNat_natCast, bit_1 _ hp, bit_1 _ hp]
    show (if (if six w o p = true then (1 : Int) else 0) = 1 then some ((16 : Int), w) else if 0 ≤ (o : Int) ∧ (o : Int) < 4 then (if (if fou w o p = true then (1 : Int) else 0) = 1 then some (4, w) else some (1, w)) else none) = _
    rw [if_pos (by omega : 0 ≤ (o : Int) ∧ (o : Int) < 4)]
    cases six w o p <;> cases fou w o p <;> rfl
/-- there is always a reservation behind a page -/
def IT (w : bS) : Prop := ∀ o p, o < 4 → p < 32 → thr w o p = true → hvs w (32 * o + p) < 64
theorem W_frameOf_ok (I : IF w) (hT : IT w) (ho : o < 4) (hp : p < 32) (hn : 66 ≤ n) : W_frameOf n w o p = some (if thr w o p = true then ((hvs w (32 * o + p) + (32 * o + p - hom w (hvs w (32 * o + p))) : Nat) : Int) else -1, w) := by
  unfold W_frameOf
  rw [bb_s (W_isThere_ok n w ho hp)]
  cases hth : thr w o p
  · rfl
  · have hc := hT o p ho hp hth
    have hin := hvs_in hc
    have b1 := hin.1; have b2 := hin.2
    obtain ⟨a1, a2, a3, a4, a5⟩ := I.1 _ hc
    rw [if_neg (by decide), bb_s (W_slotOf_ok I ho hp hn), if_pos hc]
    unfold W_frameOf_19
    rw [if_neg (by omega), if_pos (by omega), Int.toNat_natCast, a2]
    simp (disch := omega) only [ay_wi]
    rw [if_pos trivial]
    congr 2
    omega
end
