/-! Counts of frames and reservations, on both sides. -/
theorem cn_or {p q : Nat → Bool} : ∀ {n : Nat}, (∀ i, i < n → ¬ (p i = true ∧ q i = true)) → cn (fun i => p i || q i) n = cn p n + cn q n
  | 0, _ => rfl
  | n + 1, h => by
    have ih := cn_or (p := p) (q := q) (n := n) (fun i hi => h i (by omega))
    have hh := h n (by omega)
    show cn (fun i => p i || q i) n + (bif (p n || q n) then 1 else 0) = (cn p n + (bif p n then 1 else 0)) + (cn q n + (bif q n then 1 else 0))
    rw [ih]
    cases hp : p n <;> cases hq : q n
    · simp
    · simp; omega
    · simp; omega
    · exact absurd ⟨hp, hq⟩ hh
theorem cn_int (a k : Nat) : ∀ n, cn (fun f => decide (a ≤ f ∧ f < a + k)) n = min (n - a) k
  | 0 => by show 0 = _; omega
  | n + 1 => by
    rw [cn_s, cn_int a k n]
    by_cases h : a ≤ n ∧ n < a + k
    · rw [if_pos (decide_eq_true h)]; omega
    · rw [if_neg (by rw [decide_eq_true_iff]; exact h)]; omega
theorem cn_not (p : Nat → Bool) : ∀ n, cn (fun i => !p i) n = n - cn p n
  | 0 => rfl
  | n + 1 => by
    rw [cn_s, cn_s, cn_not p n]
    have := cn_le p n
    cases p n <;> simp <;> omega
def sm (f : Nat → Nat) : Nat → Nat
  | 0 => 0
  | n + 1 => sm f n + f n
section
variable {n : Nat} {m w : bS} {f s N k i : Nat}
def cvp (w : bS) (S f : Nat) : Bool := decide (fs (fun s => decide (s ≤ f ∧ f < s + spn w s)) S < S)
theorem cvp_iff {S : Nat} : cvp w S f = true ↔ ∃ s, s < S ∧ inF w f s := by
  unfold cvp
  rw [decide_eq_true_iff]
  obtain ⟨q1, q2, q3⟩ := fs_dec (P := fun s => s ≤ f ∧ f < s + spn w s) (n := S)
  refine ⟨fun h => ⟨_, h, q3 h⟩, fun ⟨s, hs, hin⟩ => ?_⟩
  by_cases h : fs (fun s => decide (s ≤ f ∧ f < s + spn w s)) S < S
  · exact h
  · exact absurd hin (q2 s (by omega))
theorem cov_cn (I : IF w) : ∀ S, S ≤ 64 → cn (cvp w S) 64 = sm (spn w) S
  | 0, _ => cn_0 (fun i _ => by
    cases h : cvp w 0 i
    · rfl
    · obtain ⟨s, hs, _⟩ := cvp_iff.mp h; omega)
  | S + 1, h => by
    have e : cn (cvp w (S + 1)) 64 = cn (fun f => cvp w S f || decide (S ≤ f ∧ f < S + spn w S)) 64 := cn_congr (fun f _ => by
      rw [Bool.eq_iff_iff, cvp_iff, Bool.or_eq_true, cvp_iff, decide_eq_true_iff]
      refine ⟨fun ⟨s, hs, hin⟩ => ?_, fun q => ?_⟩
      · by_cases e : s = S
        · subst e; exact Or.inr hin
        · exact Or.inl ⟨s, by omega, hin⟩
      · rcases q with ⟨s, hs, hin⟩ | hin
        · exact ⟨s, by omega, hin⟩
        · exact ⟨S, by omega, hin⟩)
    rw [e, cn_or (fun f hf ⟨h1, h2⟩ => by
      obtain ⟨s, hs, hin⟩ := cvp_iff.mp h1
      have := I.2.1 f s S hf (by omega) (by omega) hin (of_decide_eq_true h2 : S ≤ f ∧ f < S + spn w S)
      omega), cov_cn I S (by omega), cn_int]
    show _ = sm (spn w) S + spn w S
    by_cases h0 : 0 < spn w S
    · have := I.at (s := S) (by omega) h0
      omega
    · omega
theorem cov_all (I : IF w) : cn (fun f => decide (cvs w f < 64)) 64 = sm (spn w) 64 := cov_cn I 64 (Nat.le_refl _)
theorem sm_le (I : IF w) : sm (spn w) 64 ≤ 64 := by rw [← cov_all I]; exact cn_le _ _
theorem sm_mono (g : Nat → Nat) {a b : Nat} (h : a ≤ b) : sm g a ≤ sm g b := by
  induction b with
  | zero => rw [show a = 0 by omega]; exact Nat.le_refl _
  | succ b ih =>
    by_cases e : a = b + 1
    · rw [e]; exact Nat.le_refl _
    · have := ih (by omega)
      show _ ≤ sm g b + g b
      omega
def fr (w : bS) : Nat := 64 - sm (spn w) 64
theorem W_freeFrames_ok (I : IF w) (hn : 66 ≤ n) : W_freeFrames n w = some ((fr w : Int), w) := by
  unfold W_freeFrames
  have key := runs0 (fun n k => W_freeFrames_5 n w ((64 : Int) - (sm (spn w) k : Int)) k) 64 0 (r := ((fr w : Int), w)) (fun n k hk _ => ?_) (fun n _ => ?_) (n := n) (by omega)
  · exact key
  · obtain ⟨a1, _⟩ := I.1 k hk
    have h1 := sm_le I
    have h2 := sm_mono (spn w) (show k + 1 ≤ 64 by omega)
    have h3 : sm (spn w) (k + 1) = sm (spn w) k + spn w k := rfl
    show W_freeFrames_5 (n + 1) w ((64 : Int) - (sm (spn w) k : Int)) k = W_freeFrames_5 n w ((64 : Int) - (sm (spn w) (k + 1) : Int)) ((k + 1 : Nat) : Int)
    rw [W_freeFrames_5, if_neg (by omega), if_pos (by omega), Int.toNat_natCast, a1]
    simp (disch := omega) only [ay_wi]
    rw [show (k : Int) + 1 = ((k + 1 : Nat) : Int) by omega, show (64 : Int) - (sm (spn w) k : Int) - (spn w k : Int) = (64 : Int) - (sm (spn w) (k + 1) : Int) by omega]
  · have h1 := sm_le I
    show W_freeFrames_5 (n + 1) w ((64 : Int) - (sm (spn w) 64 : Int)) 64 = _
    rw [W_freeFrames_5, if_pos (by omega)]
    congr 2
    unfold fr; omega
theorem RF.free (I : IF w) (H : RF w (m.2 0)) (hf : f < 64) : (m.2 0 (914 + 5 * f) = -1) ↔ ¬ cvs w f < 64 := by
  rw [H.fst I hf]
  by_cases h : cvs w f < 64
  · rw [if_pos h]; exact ⟨fun q => (by omega), fun q => absurd h q⟩
  · rw [if_neg h]; exact ⟨fun _ => h, fun _ => rfl⟩
theorem R_isFree_cv (n : Nat) (I : IF w) (H : RF w (m.2 0)) (hf : f < 64) : R_isFree n m f = some (if cvs w f < 64 then 0 else 1, m) := by
  rw [R_isFree_ok n m hf]
  by_cases h : cvs w f < 64
  · rw [if_pos h, if_neg (by rw [RF.free I H hf]; exact fun q => q h)]
  · rw [if_neg h, if_pos ((RF.free I H hf).mpr h)]
theorem R_freeFrames_ok (I : IF w) (H : RF w (m.2 0)) (hn : 66 ≤ n) : R_freeFrames n m = some ((fr w : Int), m) := by
  have e : fr w = cn (fun f => !decide (cvs w f < 64)) 64 := by rw [cn_not, cov_all I]; rfl
  rw [e]
  unfold R_freeFrames
  refine runs0 (fun n k => R_freeFrames_4 n m (cn (fun f => !decide (cvs w f < 64)) k : Nat) k) 64 0 (fun n k hk _ => ?_) (fun n _ => ?_) (n := n) (by omega)
  · have hl := cn_le (fun f => !decide (cvs w f < 64)) k
    show R_freeFrames_4 (n + 1) m ((cn (fun f => !decide (cvs w f < 64)) k : Nat) : Int) k = R_freeFrames_4 n m ((cn (fun f => !decide (cvs w f < 64)) (k + 1) : Nat) : Int) ((k + 1 : Nat) : Int)
    rw [R_freeFrames_4, if_neg (by omega), bb_s (R_isFree_cv n I H hk), cn_s]
    simp (disch := omega) only [ay_wi]
    rw [show (k : Int) + 1 = ((k + 1 : Nat) : Int) by omega]
    by_cases h : cvs w k < 64
    · rw [if_pos h, if_pos rfl, decide_eq_true h]; simp
    · rw [if_neg h, if_neg (by decide), decide_eq_false h]; simp
  · show R_freeFrames_4 (n + 1) m ((cn (fun f => !decide (cvs w f < 64)) 64 : Nat) : Int) 64 = _
    rw [R_freeFrames_4, if_pos (by omega)]
/-- what begins at a slot -/
def beg (w : bS) (s : Nat) : Bool := decide (0 < spn w s)
theorem beg_t : beg w s = true ↔ 0 < spn w s := decide_eq_true_iff
theorem beg_iff (I : IF w) (H : RF w (m.2 0)) (hs : s < 64) : (m.2 0 (914 + 5 * s) = (s : Int)) ↔ beg w s = true := by
  unfold beg
  rw [decide_eq_true_iff, H.fst I hs]
  by_cases h : cvs w s < 64
  · rw [if_pos h]
    have hin := cvs_in h
    refine ⟨fun e => ?_, fun h0 => ?_⟩
    · have : cvs w s = s := by omega
      rw [this] at hin
      have := hin.2; omega
    · rw [cvs_eq I hs hs ⟨Nat.le_refl _, by omega⟩]
  · rw [if_neg h]
    refine ⟨fun e => (by omega), fun h0 => absurd (⟨Nat.le_refl _, by omega⟩ : inF w s s) (cvs_no h s hs)⟩
theorem W_reservations_ok (I : IF w) (hn : 66 ≤ n) : W_reservations n w = some (((cn (beg w) 64 : Nat) : Int), w) := by
  unfold W_reservations
  refine runs0 (fun n k => W_reservations_4 n w (cn (beg w) k : Nat) k) 64 0 (fun n k hk _ => ?_) (fun n _ => ?_) (n := n) (by omega)
  · have hl := cn_le (beg w) k
    obtain ⟨a1, _⟩ := I.1 k hk
    show W_reservations_4 (n + 1) w ((cn (beg w) k : Nat) : Int) k = W_reservations_4 n w ((cn (beg w) (k + 1) : Nat) : Int) ((k + 1 : Nat) : Int)
    rw [W_reservations_4, if_neg (by omega), if_pos (by omega), Int.toNat_natCast, a1, cn_s]
    simp (disch := omega) only [ay_wi]
    rw [show (k : Int) + 1 = ((k + 1 : Nat) : Int) by omega]
    unfold beg
    by_cases h : 0 < spn w k
    · rw [if_neg (by omega), decide_eq_true h]; simp
    · rw [if_pos (by omega), decide_eq_false h]; simp
  · show W_reservations_4 (n + 1) w ((cn (beg w) 64 : Nat) : Int) 64 = _
    rw [W_reservations_4, if_pos (by omega)]
theorem R_reservations_ok (I : IF w) (H : RF w (m.2 0)) (hn : 66 ≤ n) : R_reservations n m = some (((cn (beg w) 64 : Nat) : Int), m) := by
  unfold R_reservations
  refine runs0 (fun n k => R_reservations_4 n m (cn (beg w) k : Nat) k) 64 0 (fun n k hk _ => ?_) (fun n _ => ?_) (n := n) (by omega)
  · have hl := cn_le (beg w) k
    show R_reservations_4 (n + 1) m ((cn (beg w) k : Nat) : Int) k = R_reservations_4 n m ((cn (beg w) (k + 1) : Nat) : Int) ((k + 1 : Nat) : Int)
    rw [R_reservations_4, if_neg (by omega), bb_s (R_frameAt_ok n m hk (by omega) (by omega)), cn_s]
    simp (disch := omega) only [ay_wi]
    rw [show (k : Int) + 1 = ((k + 1 : Nat) : Int) by omega]
    show (if m.2 0 (914 + 5 * k) = (k : Int) then _ else _) = _
    by_cases h : beg w k = true
    · rw [if_pos ((beg_iff I H hk).mpr h), if_pos h]; simp
    · rw [if_neg (fun q => h ((beg_iff I H hk).mp q)), if_neg h]; simp
  · show R_reservations_4 (n + 1) m ((cn (beg w) 64 : Nat) : Int) 64 = _
    rw [R_reservations_4, if_pos (by omega)]
/-- the slot by number -/
def nth (w : bS) (i : Nat) : Nat := fs (fun s => beg w s && decide (cn (beg w) s = i)) 64
theorem nth_step (hk : k < nth w i) : ¬ (beg w k = true ∧ cn (beg w) k = i) := fun ⟨h1, h2⟩ => by
  have := (fs_spec (fun s => beg w s && decide (cn (beg w) s = i)) 64).1 k hk
  simp only [h1, h2, decide_true, Bool.and_self] at this
  cases this
theorem nth_cn (hk : k ≤ nth w i) : cn (beg w) k ≤ i := by
  induction k with
  | zero => exact Nat.zero_le _
  | succ k ih =>
    have h := ih (by omega)
    have hs := nth_step (w := w) (i := i) (k := k) (by omega)
    rw [cn_s]
    by_cases hb : beg w k = true
    · rw [if_pos hb]
      have : cn (beg w) k ≠ i := fun e => hs ⟨hb, e⟩
      omega
    · rw [if_neg hb]; omega
theorem nth_hit (h : nth w i < 64) : beg w (nth w i) = true ∧ cn (beg w) (nth w i) = i := by
  have := (fs_spec (fun s => beg w s && decide (cn (beg w) s = i)) 64).2 h
  rw [Bool.and_eq_true, decide_eq_true_iff] at this
  exact this
theorem W_slotNumbered_ok (I : IF w) (x : Int) (hx : -2147483648 ≤ x ∧ x < 2147483648) (hn : 66 ≤ n) : W_slotNumbered n w x = some (if 0 ≤ x ∧ nth w x.toNat < 64 then (nth w x.toNat : Int) else -1, w) := by
  unfold W_slotNumbered
  by_cases h0 : 0 ≤ x
  · obtain ⟨i, rfl⟩ := Int.eq_ofNat_of_zero_le h0
    rw [Int.toNat_natCast]
    have hle : nth w i ≤ 64 := fs_le _ _
    refine Eq.trans (runs0 (fun n k => W_slotNumbered_4 n w ((i - cn (beg w) k : Nat) : Int) k) (nth w i) 0 (fun n k hk _ => ?_) (fun n _ => ?_) (n := n) (by omega)) rfl
    · have h1 := nth_cn (w := w) (i := i) (k := k) (by omega)
      have h2 := nth_cn (w := w) (i := i) (k := k + 1) (by omega)
      have h3 := nth_step hk
      obtain ⟨a1, _⟩ := I.1 k (by omega)
      show W_slotNumbered_4 (n + 1) w ((i - cn (beg w) k : Nat) : Int) k = W_slotNumbered_4 n w ((i - cn (beg w) (k + 1) : Nat) : Int) ((k + 1 : Nat) : Int)
      rw [W_slotNumbered_4, if_neg (by omega), if_neg (by omega), if_pos (by omega), Int.toNat_natCast, a1]
      rw [cn_s] at h2 ⊢
      simp (disch := omega) only [ay_wi]
      rw [show (k : Int) + 1 = ((k + 1 : Nat) : Int) by omega]
      by_cases hb : beg w k = true
      · have h : 0 < spn w k := beg_t.mp hb
        rw [if_pos hb] at h2 ⊢
        have h4 : cn (beg w) k ≠ i := fun e => h3 ⟨hb, e⟩
        rw [if_neg (show ¬ (spn w k : Int) ≤ 0 by omega), if_neg (by omega)]
        congr 1
        omega
      · have h : ¬ 0 < spn w k := fun q => hb (beg_t.mpr q)
        rw [if_neg hb, if_pos (show (spn w k : Int) ≤ 0 by omega)]
        rfl
    · show W_slotNumbered_4 (n + 1) w ((i - cn (beg w) (nth w i) : Nat) : Int) (nth w i) = _
      rw [W_slotNumbered_4]
      by_cases h : nth w i < 64
      · obtain ⟨h1, h2⟩ := nth_hit h
        obtain ⟨a1, _⟩ := I.1 _ h
        have h5 : 0 < spn w (nth w i) := of_decide_eq_true h1
        rw [if_neg (by omega), if_neg (by omega), if_pos (by omega), Int.toNat_natCast, a1, if_neg (by omega), if_pos (by omega), if_pos ⟨by omega, h⟩]
      · rw [if_pos (by omega), if_neg (fun q => h q.2)]
  · obtain ⟨n, rfl⟩ : ∃ k, n = k + 1 := ⟨n - 1, by omega⟩
    rw [W_slotNumbered_4, if_neg (by omega), if_pos (by omega), if_neg (fun q => h0 q.1)]
theorem R_firstBy_ok (I : IF w) (H : RF w (m.2 0)) (x : Int) (hx : -2147483648 ≤ x ∧ x < 2147483648) (hn : 66 ≤ n) : R_firstBy n m x = some (if 0 ≤ x ∧ nth w x.toNat < 64 then (nth w x.toNat : Int) else -1, m) := by
  unfold R_firstBy
  by_cases h0 : 0 ≤ x
  · obtain ⟨i, rfl⟩ := Int.eq_ofNat_of_zero_le h0
    rw [Int.toNat_natCast]
    have hle : nth w i ≤ 64 := fs_le _ _
    refine Eq.trans (runs0 (fun n k => R_firstBy_4 n m i (cn (beg w) k : Nat) k) (nth w i) 0 (fun n k hk _ => ?_) (fun n _ => ?_) (n := n) (by omega)) rfl
    · have h3 := nth_step hk
      have hl := cn_le (beg w) k
      show R_firstBy_4 (n + 1) m i ((cn (beg w) k : Nat) : Int) k = R_firstBy_4 n m i ((cn (beg w) (k + 1) : Nat) : Int) ((k + 1 : Nat) : Int)
      rw [R_firstBy_4, if_neg (by omega), if_neg (by omega), bb_s (R_frameAt_ok n m (by omega) (by omega) (by omega)), cn_s]
      simp (disch := omega) only [ay_wi]
      rw [show (k : Int) + 1 = ((k + 1 : Nat) : Int) by omega]
      show (if m.2 0 (914 + 5 * k) = (k : Int) then _ else _) = _
      by_cases h : beg w k = true
      · have h4 : cn (beg w) k ≠ i := fun e => h3 ⟨h, e⟩
        rw [if_pos ((beg_iff I H (by omega)).mpr h), if_pos h, if_neg (by omega)]; rfl
      · rw [if_neg (fun q => h ((beg_iff I H (by omega)).mp q)), if_neg h]; rfl
    · show R_firstBy_4 (n + 1) m i ((cn (beg w) (nth w i) : Nat) : Int) (nth w i) = _
      rw [R_firstBy_4]
      by_cases h : nth w i < 64
      · obtain ⟨h1, h2⟩ := nth_hit h
        rw [if_neg (by omega), if_neg (by omega), bb_s (R_frameAt_ok n m h (by omega) (by omega))]
        have hb : m.2 0 (914 + 5 * nth w i + Int.toNat 0) = (nth w i : Int) := by rw [show Int.toNat 0 = 0 from rfl, Nat.add_zero]; exact (beg_iff I H h).mpr h1
        have hi : (0 : Int) ≤ (i : Int) ∧ nth w i < 64 := ⟨by omega, h⟩
        simp only [hb, h2, if_true, if_pos hi]
      · rw [if_pos (by omega), if_neg (fun q => h q.2)]
  · obtain ⟨n, rfl⟩ : ∃ k, n = k + 1 := ⟨n - 1, by omega⟩
    rw [R_firstBy_4, if_neg (by omega), if_pos (by omega), if_neg (fun q => h0 q.1)]
end
