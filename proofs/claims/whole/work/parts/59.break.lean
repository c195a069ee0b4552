/-! Breaking a reservation up. -/
section
variable {n n' : Nat} {m w w' kk xx tt : bS} {a b' : Nat → Int} {o p f s N k i h g j T b c : Nat} {t v : Int}
theorem nbeq (h : j ≠ i) : Nat.beq j i = false := by
  cases e : Nat.beq j i
  · rfl
  · exact absurd (Nat.eq_of_beq_eq_true e) h
/-- the group of four around the k-th page is there, whole -/
def fgp (w : bS) (h N k : Nat) : Bool := decide (N = 16) && (thr w (h / 32) (h % 32 + (k - k % 4)) && thr w (h / 32) (h % 32 + (k - k % 4) + 1) && thr w (h / 32) (h % 32 + (k - k % 4) + 2) && thr w (h / 32) (h % 32 + (k - k % 4) + 3))
/-- the world behind k steps -/
def brk (w0 : bS) (s h N : Nat) (t : Int) : Nat → bS → bS
  | 0, w => w
  | k + 1, w => if fgp w0 h N k = true then (if k % 4 = 0 then hd (brk w0 s h N t k w) (s + k) (h + k) 4 t else brk w0 s h N t k w) else if thr w0 (h / 32) (h % 32 + k) = true then hd (brk w0 s h N t k w) (s + k) (h + k) 1 t else brk w0 s h N t k w
/-- the row behind k steps -/
def rbk (w0 : bS) (s h N : Nat) (t : Int) : Nat → (Nat → Int) → (Nat → Int)
  | 0, a => a
  | k + 1, a => if fgp w0 h N k = true then (if k % 4 = 0 then rsv (rbk w0 s h N t k a) (s + k) (h + k) 4 t else rbk w0 s h N t k a) else if thr w0 (h / 32) (h % 32 + k) = true then rsv (rbk w0 s h N t k a) (s + k) (h + k) 1 t else rbk w0 s h N t k a
theorem fgp_iff : fgp w h N k = true ↔ N = 16 ∧ ∀ c, k - k % 4 ≤ c → c < k - k % 4 + 4 → thr w (h / 32) (h % 32 + c) = true := by
  unfold fgp
  rw [Bool.and_eq_true, Bool.and_eq_true, Bool.and_eq_true, Bool.and_eq_true, decide_eq_true_iff]
  constructor
  · rintro ⟨h1, ⟨⟨h2, h3⟩, h4⟩, h5⟩
    refine ⟨h1, fun c a b => ?_⟩
    rcases (show c = k - k % 4 ∨ c = k - k % 4 + 1 ∨ c = k - k % 4 + 2 ∨ c = k - k % 4 + 3 by omega) with e | e | e | e <;> subst e
    · exact h2
    · exact h3
    · exact h4
    · exact h5
  · rintro ⟨h1, h2⟩
    exact ⟨h1, ⟨⟨h2 _ (by omega) (by omega), h2 (k - k % 4 + 1) (by omega) (by omega)⟩, h2 (k - k % 4 + 2) (by omega) (by omega)⟩, h2 (k - k % 4 + 3) (by omega) (by omega)⟩
theorem fgp_g (e : k / 4 = c / 4) : fgp w h N k = fgp w h N c := by
  unfold fgp; rw [show k - k % 4 = c - c % 4 by omega]
/-- what breaking keeps in step -/
def Bk (w0 w : bS) (a : Nat → Int) (s h N k : Nat) : Prop := IF w ∧ RF w a ∧ (∀ j, j ≠ 3 → j ≠ 4 → j ≠ 5 → w.2 j = w0.2 j) ∧ w.1 = w0.1 ∧ (∀ g, g < 64 → ¬ (s ≤ g ∧ g < s + N) → spn w g = spn w0 g ∧ hom w g = hom w0 g) ∧ (∀ c, k ≤ c → c < N → ¬ (fgp w0 h N c = true ∧ c - c % 4 < k) → ∀ g, g < 64 → ¬ inF w (s + c) g ∧ ¬ inH w (h + c) g) ∧ ∀ c, c < k ∨ (fgp w0 h N c = true ∧ c - c % 4 < k) → c < N → thr w0 (h / 32) (h % 32 + c) = true → ∃ g, g < 64 ∧ inH w (h + c) g ∧ (fgp w0 h N c = true → 4 ≤ spn w g)
theorem Bk_0 (I : IF w) (H : RF w a) (hs : s < 64) (h0 : 0 < spn w s) : Bk w (cl w s) (frs s (hom w s) (spn w s) a) s (hom w s) (spn w s) 0 := by
  have ha := I.at hs h0
  refine ⟨IF_cl I, RF_cl I H hs h0, fun j h3 h4 h5 => ?_, rfl, fun g hg hno => ?_, fun c _ hc _ g hg => ?_, fun c hc => by omega⟩
  · show (bif Nat.beq j 4 then _ else w.2 j) = w.2 j
    rw [nbeq h4]
    rfl
  · have e : g ≠ s := fun q => hno ⟨by omega, by omega⟩
    rw [cl_spn, if_neg e, cl_hom]; exact ⟨rfl, rfl⟩
  · rw [cl_inF, cl_inH]
    refine ⟨fun q => q.1 (I.2.1 (s + c) g s (by omega) hg hs q.2 ⟨by omega, by omega⟩), fun q => q.1 (I.2.2 (hom w s + c) g s (by omega) hg hs q.2 ⟨by omega, by omega⟩)⟩
theorem Bk_hd {w0 : bS} (B : Bk w0 w a s h N k) (hM : c = 1 ∨ c = 4) (hk : k + c ≤ N) (hs : s + N ≤ 64) (hh : h + N ≤ 128) (m1 : (s + k) % c = 0) (m2 : (h + k) % c = 0) (fr : ∀ q, k ≤ q → q < k + c → ¬ (fgp w0 h N q = true ∧ q - q % 4 < k)) (hc1 : c = 1 → fgp w0 h N k = false) (hc4 : c = 4 → k % 4 = 0 ∧ fgp w0 h N k = true) : Bk w0 (hd w (s + k) (h + k) c t) (rsv a (s + k) (h + k) c t) s h N (k + 1) := by
  obtain ⟨I, H, e1, e2, e3, e4, e5⟩ := B
  have hN : isN c := hM.elim (fun e => Or.inl e) (fun e => Or.inr (Or.inl e))
  have hF : ∀ f, s + k ≤ f → f < s + k + c → ∀ g, g < 64 → ¬ inF w f g := fun f h1 h2 g hg => by
    have := (e4 (f - s) (by omega) (by omega) (fr _ (by omega) (by omega)) g hg).1
    rw [show s + (f - s) = f by omega] at this; exact this
  have hH : ∀ i, h + k ≤ i → i < h + k + c → ∀ g, g < 64 → ¬ inH w i g := fun i h1 h2 g hg => by
    have := (e4 (i - h) (by omega) (by omega) (fr _ (by omega) (by omega)) g hg).2
    rw [show h + (i - h) = i by omega] at this; exact this
  have out : ∀ q, k + 1 ≤ q → q < N → ¬ (fgp w0 h N q = true ∧ q - q % 4 < k + 1) → k + c ≤ q := fun q h1 h2 h3 => by
    rcases hM with e | e
    · omega
    · by_cases z : k + c ≤ q
      · exact z
      · obtain ⟨z1, z2⟩ := hc4 e
        exact absurd ⟨(fgp_g (show q / 4 = k / 4 by omega)).trans z2, by omega⟩ h3
  refine ⟨IF_hd I hN (by omega) (by omega) m1 m2 hF hH, RF_hd I H hN (by omega) (by omega) (by omega) hF hH, fun j h3 h4 h5 => ?_, e2, fun g hg hno => ?_, fun q h1 h2 h3 g hg => ?_, fun q h1 h2 h3 => ?_⟩
  · rw [← e1 j h3 h4 h5]
    show (bif Nat.beq j 5 then _ else (bif Nat.beq j 4 then _ else (bif Nat.beq j 3 then _ else w.2 j))) = w.2 j
    rw [nbeq h5, nbeq h4, nbeq h3]; rfl
  · have e : g ≠ s + k := fun q => hno ⟨by omega, by omega⟩
    rw [hd_spn, hd_hom, if_neg e, if_neg e]; exact e3 g hg hno
  · have ho := out q h1 h2 h3
    have old := e4 q (by omega) h2 (fun z => h3 ⟨z.1, by omega⟩) g hg
    rw [hd_inF, hd_inH]
    by_cases e : g = s + k
    · rw [if_pos e, if_pos e]; exact ⟨fun z => by omega, fun z => by omega⟩
    · rw [if_neg e, if_neg e]; exact old
  · by_cases z : q < k ∨ (fgp w0 h N q = true ∧ q - q % 4 < k)
    · obtain ⟨g, g1, g2, g3⟩ := e5 q z h2 h3
      have e : g ≠ s + k := fun y => by
        subst y
        have := (e4 k (Nat.le_refl _) (by omega) (fr k (Nat.le_refl _) (by omega)) (s + k) g1).1
        exact this ⟨Nat.le_refl _, by have := g2.1; have := g2.2; omega⟩
      refine ⟨g, g1, hd_inH.mpr (by rw [if_neg e]; exact g2), fun y => ?_⟩
      rw [hd_spn, if_neg e]; exact g3 y
    · have hq : k ≤ q ∧ q < k + c := by
        rcases h1 with h1 | h1
        · exact ⟨by omega, by omega⟩
        · have h5 : q - q % 4 = k := by
            by_cases y : q - q % 4 < k
            · exact absurd (Or.inr ⟨h1.1, y⟩) z
            · omega
          rcases hM with e | e
          · have h6 := hc1 e
            rw [← fgp_g (show q / 4 = k / 4 by omega), h1.1] at h6
            cases h6
          · omega
      refine ⟨s + k, by omega, hd_inH.mpr (by rw [if_pos rfl]; omega), fun y => ?_⟩
      rw [hd_spn, if_pos rfl]
      rcases hM with e | e
      · rw [show q = k by omega, hc1 e] at y; cases y
      · omega
theorem Bk_s {w0 : bS} (hN : isN N) (hs : s + N ≤ 64) (hh : h + N ≤ 128) (m1 : s % N = 0) (m2 : h % N = 0) (hk : k < N) (B : Bk w0 (brk w0 s h N t k w) (rbk w0 s h N t k a) s h N k) : Bk w0 (brk w0 s h N t (k + 1) w) (rbk w0 s h N t (k + 1) a) s h N (k + 1) := by
  have mono : (k % 4 ≠ 0 ∨ fgp w0 h N k = false) → (fgp w0 h N k = true ∨ thr w0 (h / 32) (h % 32 + k) = false) → Bk w0 (brk w0 s h N t k w) (rbk w0 s h N t k a) s h N (k + 1) := fun c1 c2 => by
    obtain ⟨I, H, e1, e2, e3, e4, e5⟩ := B
    refine ⟨I, H, e1, e2, e3, fun q h1 h2 h3 => e4 q (by omega) h2 (fun z => h3 ⟨z.1, by omega⟩), fun q h1 h2 h3 => ?_⟩
    by_cases z : q < k ∨ (fgp w0 h N q = true ∧ q - q % 4 < k)
    · exact e5 q z h2 h3
    · rcases h1 with h1 | h1
      · have : q = k := by omega
        subst this
        rcases c2 with c2 | c2
        · have k4 : q % 4 ≠ 0 := by
            rcases c1 with c | c
            · exact c
            · rw [c] at c2; cases c2
          exact absurd (Or.inr ⟨c2, by omega⟩) z
        · rw [c2] at h3; cases h3
      · have h5 : q - q % 4 = k := by
          by_cases y : q - q % 4 < k
          · exact absurd (Or.inr ⟨h1.1, y⟩) z
          · omega
        rcases c1 with c | c
        · omega
        · rw [← fgp_g (show q / 4 = k / 4 by omega), h1.1] at c; cases c
  rw [brk, rbk]
  by_cases f : fgp w0 h N k = true
  · rw [if_pos f, if_pos f]
    by_cases k4 : k % 4 = 0
    · rw [if_pos k4, if_pos k4]
      have h16 := (fgp_iff.mp f).1
      subst h16
      exact Bk_hd B (Or.inr rfl) (by omega) hs hh (by omega) (by omega) (fun q h1 h2 z => by omega) (fun e => by omega) (fun _ => ⟨k4, f⟩)
    · rw [if_neg k4, if_neg k4]
      exact mono (Or.inl k4) (Or.inl f)
  · have f' : fgp w0 h N k = false := by
      cases e : fgp w0 h N k
      · rfl
      · exact absurd e f
    rw [if_neg f, if_neg f]
    by_cases th : thr w0 (h / 32) (h % 32 + k) = true
    · rw [if_pos th, if_pos th]
      exact Bk_hd B (Or.inl rfl) (by omega) hs hh (by omega) (by omega) (fun q h1 h2 z => f (by rw [show q = k by omega] at z; exact z.1)) (fun _ => f') (fun e => by omega)
    · rw [if_neg th, if_neg th]
      exact mono (Or.inr f') (Or.inr (by
        cases e : thr w0 (h / 32) (h % 32 + k)
        · rfl
        · exact absurd e th))
theorem Bk_k {w0 : bS} (hN : isN N) (hs : s + N ≤ 64) (hh : h + N ≤ 128) (m1 : s % N = 0) (m2 : h % N = 0) (B : Bk w0 w a s h N 0) : ∀ k, k ≤ N → Bk w0 (brk w0 s h N t k w) (rbk w0 s h N t k a) s h N k
  | 0, _ => B
  | k + 1, hk => Bk_s hN hs hh m1 m2 (by omega) (Bk_k hN hs hh m1 m2 B k (by omega))
end
