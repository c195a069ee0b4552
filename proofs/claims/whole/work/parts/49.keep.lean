/-! Keeping and freeing: rows of the reference, slots of the class. -/
def rvl (f h : Nat) : Nat → (Nat → Int) → (Nat → Int)
  | 0, a => a
  | k + 1, a => ay_u (ay_u (rvl f h k a) (914 + 5 * (f + k)) (f : Int)) (18 + 7 * (h + k)) ((f + k : Nat) : Int)
def rsv (a : Nat → Int) (f h N : Nat) (t : Int) : Nat → Int := rvl f h N (ay_u (ay_u (ay_u (ay_u a (914 + 5 * f + 1) ((h / 32 : Nat) : Int)) (914 + 5 * f + 2) ((h % 32 : Nat) : Int)) (914 + 5 * f + 3) (N : Int)) (914 + 5 * f + 4) t)
theorem ay_ue {α : Type} {f : Nat → α} {i : Nat} {x : α} : ay_u f i x i = x := if_pos rfl
theorem ay_ux {α : Type} {f : Nat → α} {i j : Nat} {x : α} (h : j ≠ i) : ay_u f i x j = f j := if_neg h
section
variable {n : Nat} {m w : bS} {a : Nat → Int} {o p f s N k i h g j : Nat} {t : Int}
theorem rvl_f (hg : g < 64) (hj : j < 5) (hf : f + k ≤ 64) (hh : h + k ≤ 128) : rvl f h k a (914 + 5 * g + j) = if j = 0 ∧ f ≤ g ∧ g < f + k then (f : Int) else a (914 + 5 * g + j) := by
  induction k with
  | zero => rw [if_neg (by omega)]; rfl
  | succ k ih =>
    show ay_u (ay_u (rvl f h k a) (914 + 5 * (f + k)) (f : Int)) (18 + 7 * (h + k)) ((f + k : Nat) : Int) (914 + 5 * g + j) = _
    rw [ay_ux (by omega)]
    by_cases e : j = 0 ∧ g = f + k
    · obtain ⟨rfl, rfl⟩ := e
      rw [Nat.add_zero, ay_ue, if_pos (by omega)]
    · rw [ay_ux (by omega), ih (by omega) (by omega)]
      by_cases e2 : j = 0 ∧ f ≤ g ∧ g < f + k
      · rw [if_pos e2, if_pos (by omega)]
      · rw [if_neg e2, if_neg (by omega)]
theorem rvl_p (hi : i < 128) (hj : j < 7) (hf : f + k ≤ 64) (hh : h + k ≤ 128) : rvl f h k a (18 + 7 * i + j) = if j = 0 ∧ h ≤ i ∧ i < h + k then ((f + (i - h) : Nat) : Int) else a (18 + 7 * i + j) := by
  induction k with
  | zero => rw [if_neg (by omega)]; rfl
  | succ k ih =>
    show ay_u (ay_u (rvl f h k a) (914 + 5 * (f + k)) (f : Int)) (18 + 7 * (h + k)) ((f + k : Nat) : Int) (18 + 7 * i + j) = _
    by_cases e : j = 0 ∧ i = h + k
    · obtain ⟨rfl, rfl⟩ := e
      rw [Nat.add_zero, ay_ue, if_pos (by omega)]
      congr 2; omega
    · rw [ay_ux (by omega), ay_ux (by omega), ih (by omega) (by omega)]
      by_cases e2 : j = 0 ∧ h ≤ i ∧ i < h + k
      · rw [if_pos e2, if_pos (by omega)]
      · rw [if_neg e2, if_neg (by omega)]
theorem rvl_o (hi : i < 18 ∨ 1234 ≤ i) (hf : f + k ≤ 64) (hh : h + k ≤ 128) : rvl f h k a i = a i := by
  induction k with
  | zero => rfl
  | succ k ih =>
    show ay_u (ay_u (rvl f h k a) (914 + 5 * (f + k)) (f : Int)) (18 + 7 * (h + k)) ((f + k : Nat) : Int) i = _
    rw [ay_ux (by omega), ay_ux (by omega), ih (by omega) (by omega)]
theorem rsv_f (hg : g < 64) (hj : j < 5) (hN : 0 < N) (hf : f + N ≤ 64) (hh : h + N ≤ 128) : rsv a f h N t (914 + 5 * g + j) = if j = 0 then (if f ≤ g ∧ g < f + N then (f : Int) else a (914 + 5 * g)) else if g = f then (if j = 1 then ((h / 32 : Nat) : Int) else if j = 2 then ((h % 32 : Nat) : Int) else if j = 3 then (N : Int) else t) else a (914 + 5 * g + j) := by
  unfold rsv
  rw [rvl_f hg hj hf hh]
  by_cases j0 : j = 0
  · subst j0
    rw [if_pos rfl]
    by_cases e : f ≤ g ∧ g < f + N
    · rw [if_pos ⟨rfl, e⟩, if_pos e]
    · rw [if_neg (fun q => e q.2), if_neg e, ay_ux (by omega), ay_ux (by omega), ay_ux (by omega), ay_ux (by omega)]; rfl
  · rw [if_neg (fun q => j0 q.1), if_neg j0]
    by_cases e : g = f
    · subst e
      rw [if_pos rfl]
      by_cases j1 : j = 1
      · subst j1; rw [if_pos rfl, ay_ux (by omega), ay_ux (by omega), ay_ux (by omega), ay_ue]
      · rw [if_neg j1]
        by_cases j2 : j = 2
        · subst j2; rw [if_pos rfl, ay_ux (by omega), ay_ux (by omega), ay_ue]
        · rw [if_neg j2]
          by_cases j3 : j = 3
          · subst j3; rw [if_pos rfl, ay_ux (by omega), ay_ue]
          · rw [if_neg j3, show j = 4 by omega, ay_ue]
    · rw [if_neg e, ay_ux (by omega), ay_ux (by omega), ay_ux (by omega), ay_ux (by omega)]
theorem rsv_p (hi : i < 128) (hj : j < 7) (hf64 : f < 64) (hf : f + N ≤ 64) (hh : h + N ≤ 128) : rsv a f h N t (18 + 7 * i + j) = if j = 0 ∧ h ≤ i ∧ i < h + N then ((f + (i - h) : Nat) : Int) else a (18 + 7 * i + j) := by
  unfold rsv
  rw [rvl_p hi hj hf hh, ay_ux (by omega), ay_ux (by omega), ay_ux (by omega), ay_ux (by omega)]
theorem rsv_o (hi : i < 18 ∨ 1234 ≤ i) (hf64 : f < 64) (hf : f + N ≤ 64) (hh : h + N ≤ 128) : rsv a f h N t i = a i := by
  unfold rsv
  rw [rvl_o hi hf hh, ay_ux (by omega), ay_ux (by omega), ay_ux (by omega), ay_ux (by omega)]
theorem bC_C (m : bS) (a b : Nat → Int) : bC (bC m 0 a) 0 b = bC m 0 b := by
  refine Prod.ext rfl ?_
  funext k
  show (bif Nat.beq k 0 then b else (bif Nat.beq k 0 then a else m.2 k)) = (bif Nat.beq k 0 then b else m.2 k)
  cases Nat.beq k 0 <;> rfl
theorem R_reserve_ok (hN : isN N) (hf : f + N ≤ 64) (hh : h % 32 + N ≤ 32) (h128 : h < 128) (hn : 20 ≤ n) : R_reserve n m f ((h / 32 : Nat) : Int) ((h % 32 : Nat) : Int) N t = some (0, bC m 0 (rsv (m.2 0) f h N t)) := by
  have hN16 : N ≤ 16 ∧ 0 < N := by rcases hN with h | h | h <;> omega
  unfold R_reserve
  rw [bb_s (R_putFrame_ok n m (by omega) (by omega) (by omega) _), bb_s (R_putFrame_ok n _ (by omega) (by omega) (by omega) _), bb_s (R_putFrame_ok n _ (by omega) (by omega) (by omega) _), bb_s (R_putFrame_ok n _ (by omega) (by omega) (by omega) _), bC_C, bC_C, bC_C]
  unfold rsv
  generalize hb : ay_u (ay_u (ay_u (ay_u (m.2 0) (914 + 5 * f + 1) ((h / 32 : Nat) : Int)) (914 + 5 * f + 2) ((h % 32 : Nat) : Int)) (914 + 5 * f + 3) (N : Int)) (914 + 5 * f + 4) t = b
  suffices e0 : ∀ z, z = b → R_reserve_33 n (bC m 0 z) f ((h / 32 : Nat) : Int) ((h % 32 : Nat) : Int) N 0 = some (0, bC m 0 (rvl f h N b)) from e0 _ hb
  intro z hz
  rw [hz]
  refine Eq.trans (runs0 (fun n k => R_reserve_33 n (bC m 0 (rvl f h k b)) f ((h / 32 : Nat) : Int) ((h % 32 : Nat) : Int) N k) N 0 (r := (0, bC m 0 (rvl f h N b))) (fun n k hk _ => ?_) (fun n _ => ?_) (n := n) (by omega)) rfl
  · show R_reserve_33 (n + 1) (bC m 0 (rvl f h k b)) f ((h / 32 : Nat) : Int) ((h % 32 : Nat) : Int) N k = R_reserve_33 n (bC m 0 (rvl f h (k + 1) b)) f ((h / 32 : Nat) : Int) ((h % 32 : Nat) : Int) N ((k + 1 : Nat) : Int)
    rw [R_reserve_33, if_neg (by omega)]
    simp (disch := omega) only [ay_wi]
    rw [show (f : Int) + (k : Int) = ((f + k : Nat) : Int) by omega, show ((h % 32 : Nat) : Int) + (k : Int) = ((h % 32 + k : Nat) : Int) by omega, bb_s (R_putFrame_ok n _ (by omega) (by omega) (by omega) _), bb_s (R_putPage_ok n _ (by omega) (by omega) (by omega) (by omega) _), bC_C, bC_C, show (k : Int) + 1 = ((k + 1 : Nat) : Int) by omega]
    have e : 18 + 7 * (32 * (h / 32) + (h % 32 + k)) + Int.toNat 0 = 18 + 7 * (h + k) := by show 18 + 7 * (32 * (h / 32) + (h % 32 + k)) + 0 = _; omega
    rw [e]
    rfl
  · show R_reserve_33 (n + 1) (bC m 0 (rvl f h N b)) f ((h / 32 : Nat) : Int) ((h % 32 : Nat) : Int) N N = _
    rw [R_reserve_33, if_pos (by omega)]
/-- the class's side -/
def hd (w : bS) (s h N : Nat) (t : Int) : bS := bA (bA (bA w 3 (s : Int) (h : Int)) 4 (s : Int) (N : Int)) 5 (s : Int) t
theorem W_hold_ok (n : Nat) (w : bS) (hs : s < 64) : W_hold n w s h N t = some (0, hd w s h N t) := by
  unfold W_hold
  rw [if_pos (by omega), if_pos (by omega), if_pos (by omega)]
  rfl
theorem hd_spn : spn (hd w s h N t) g = if g = s then N else spn w g := by
  show (ay_u (w.2 4) ((s : Int)).toNat (N : Int) g).toNat = _
  rw [Int.toNat_natCast]
  unfold ay_u spn
  split <;> simp
theorem hd_hom : hom (hd w s h N t) g = if g = s then h else hom w g := by
  show (ay_u (w.2 3) ((s : Int)).toNat (h : Int) g).toNat = _
  rw [Int.toNat_natCast]
  unfold ay_u hom
  split <;> simp
theorem hd_inF : inF (hd w s h N t) f g ↔ (if g = s then s ≤ f ∧ f < s + N else inF w f g) := by
  unfold inF
  rw [hd_spn]
  by_cases e : g = s
  · rw [if_pos e, if_pos e, e]
  · rw [if_neg e, if_neg e]
theorem hd_inH : inH (hd w s h N t) i g ↔ (if g = s then h ≤ i ∧ i < h + N else inH w i g) := by
  unfold inH
  rw [hd_spn, hd_hom]
  by_cases e : g = s
  · rw [if_pos e, if_pos e, if_pos e]
  · rw [if_neg e, if_neg e, if_neg e]
theorem IF_hd (I : IF w) (hN : isN N) (hs : s < 64) (hh : h < 128) (hsN : s % N = 0) (hhN : h % N = 0) (hF : ∀ f, s ≤ f → f < s + N → ∀ g, g < 64 → ¬ inF w f g) (hH : ∀ i, h ≤ i → i < h + N → ∀ g, g < 64 → ¬ inH w i g) : IF (hd w s h N t) := by
  refine ⟨fun g hg => ?_, fun f g g' hf hg hg' h1 h2 => ?_, fun i g g' hi hg hg' h1 h2 => ?_⟩
  · obtain ⟨a1, a2, a3, a4, a5⟩ := I.1 g hg
    rw [hd_spn, hd_hom]
    show ay_u (w.2 4) ((s : Int)).toNat (N : Int) g = _ ∧ ay_u (w.2 3) ((s : Int)).toNat (h : Int) g = _ ∧ _
    rw [Int.toNat_natCast]
    by_cases e : g = s
    · subst e
      rw [ay_ue, ay_ue, if_pos rfl, if_pos rfl]
      exact ⟨rfl, rfl, by rcases hN with h | h | h <;> omega, hh, fun _ => ⟨hsN, hhN⟩⟩
    · rw [ay_ux e, ay_ux e, if_neg e, if_neg e]
      exact ⟨a1, a2, a3, a4, a5⟩
  · rw [hd_inF] at h1 h2
    by_cases e : g = s
    · by_cases e' : g' = s
      · omega
      · rw [if_pos e] at h1; rw [if_neg e'] at h2
        exact absurd h2 (hF f h1.1 h1.2 g' hg')
    · by_cases e' : g' = s
      · rw [if_neg e] at h1; rw [if_pos e'] at h2
        exact absurd h1 (hF f h2.1 h2.2 g hg)
      · rw [if_neg e] at h1; rw [if_neg e'] at h2
        exact I.2.1 f g g' hf hg hg' h1 h2
  · rw [hd_inH] at h1 h2
    by_cases e : g = s
    · by_cases e' : g' = s
      · omega
      · rw [if_pos e] at h1; rw [if_neg e'] at h2
        exact absurd h2 (hH i h1.1 h1.2 g' hg')
    · by_cases e' : g' = s
      · rw [if_neg e] at h1; rw [if_pos e'] at h2
        exact absurd h1 (hH i h2.1 h2.2 g hg)
      · rw [if_neg e] at h1; rw [if_neg e'] at h2
        exact I.2.2 i g g' hi hg hg' h1 h2
theorem RF_hd (I : IF w) (H : RF w a) (hN : isN N) (hs : s < 64) (hf : s + N ≤ 64) (hh : h + N ≤ 128) (hF : ∀ f, s ≤ f → f < s + N → ∀ g, g < 64 → ¬ inF w f g) (hH : ∀ i, h ≤ i → i < h + N → ∀ g, g < 64 → ¬ inH w i g) : RF (hd w s h N t) (rsv a s h N t) := by
  have hN16 : N ≤ 16 ∧ 0 < N := by rcases hN with h | h | h <;> omega
  have h0 : spn w s = 0 := by
    by_cases e : spn w s = 0
    · exact e
    · exact absurd (⟨Nat.le_refl _, by omega⟩ : inF w s s) (hF s (Nat.le_refl _) (by omega) s hs)
  refine ⟨fun f hf64 => ?_, fun g hg hg0 => ?_, fun i hi => ?_⟩
  · have e := rsv_f (a := a) (f := s) (h := h) (t := t) hf64 (show 0 < 5 by omega) hN16.2 hf hh
    rw [Nat.add_zero, if_pos rfl] at e
    by_cases c : s ≤ f ∧ f < s + N
    · rw [if_pos c] at e
      exact Or.inl ⟨s, hs, hd_inF.mpr (by rw [if_pos rfl]; exact c), e⟩
    · rw [if_neg c] at e
      rcases H.1 f hf64 with ⟨g, hg, hin, e2⟩ | ⟨hno, e2⟩
      · have hgs : g ≠ s := fun q => by subst q; have := hin.2; have := hin.1; omega
        exact Or.inl ⟨g, hg, hd_inF.mpr (by rw [if_neg hgs]; exact hin), by rw [e, e2]⟩
      · refine Or.inr ⟨fun g hg hin => ?_, by rw [e, e2]⟩
        rw [hd_inF] at hin
        by_cases hgs : g = s
        · rw [if_pos hgs] at hin; exact c hin
        · rw [if_neg hgs] at hin; exact hno g hg hin
  · have f1 := rsv_f (a := a) (f := s) (h := h) (t := t) hg (show 1 < 5 by omega) hN16.2 hf hh
    have f2 := rsv_f (a := a) (f := s) (h := h) (t := t) hg (show 2 < 5 by omega) hN16.2 hf hh
    have f3 := rsv_f (a := a) (f := s) (h := h) (t := t) hg (show 3 < 5 by omega) hN16.2 hf hh
    have f4 := rsv_f (a := a) (f := s) (h := h) (t := t) hg (show 4 < 5 by omega) hN16.2 hf hh
    rw [f1, f2, f3, f4, hd_spn, hd_hom]
    show _ ∧ _ ∧ _ ∧ _ = ay_u (w.2 5) ((s : Int)).toNat t g
    rw [Int.toNat_natCast]
    by_cases e : g = s
    · subst e
      simp only [if_true, ay_ue]
      exact ⟨rfl, rfl, rfl, rfl⟩
    · rw [hd_spn, if_neg e] at hg0
      simp only [if_neg e, ay_ux e]
      exact H.2.1 g hg hg0
  · have e := rsv_p (a := a) (f := s) (h := h) (t := t) hi (show 0 < 7 by omega) hs hf hh
    rw [Nat.add_zero] at e
    by_cases c : h ≤ i ∧ i < h + N
    · rw [if_pos ⟨rfl, c⟩] at e
      refine Or.inl ⟨s, hs, hd_inH.mpr (by rw [if_pos rfl]; exact c), ?_⟩
      rw [e, hd_hom, if_pos rfl]
    · rw [if_neg (fun q => c q.2)] at e
      rcases H.2.2 i hi with ⟨g, hg, hin, e2⟩ | ⟨hno, e2⟩
      · have hgs : g ≠ s := fun q => by subst q; have := hin.2; have := hin.1; omega
        refine Or.inl ⟨g, hg, hd_inH.mpr (by rw [if_neg hgs]; exact hin), ?_⟩
        rw [e, e2, hd_hom, if_neg hgs]
      · refine Or.inr ⟨fun g hg hin => ?_, by rw [e, e2]⟩
        rw [hd_inH] at hin
        by_cases hgs : g = s
        · rw [if_pos hgs] at hin; exact c hin
        · rw [if_neg hgs] at hin; exact hno g hg hin
end
