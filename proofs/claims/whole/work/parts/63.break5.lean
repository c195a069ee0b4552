/-! Breaking up, whole: what begins where, which frames are free. -/
section
variable {n n' : Nat} {m w w' w0 kk xx tt : bS} {a b' : Nat → Int} {o p f s N k i h g j T b c M : Nat} {t v x : Int}
theorem cn_full {q : Nat → Bool} : ∀ {n : Nat}, (∀ i, i < n → q i = true) → cn q n = n
  | 0, _ => rfl
  | n + 1, H => by rw [cn_s, cn_full (fun i hi => H i (by omega)), H n (by omega)]; rfl
theorem cn_lt {q : Nat → Bool} {n : Nat} (H : cn q n < n) : ∃ i, i < n ∧ q i = false := by
  refine Classical.byContradiction fun hc => ?_
  have : cn q n = n := cn_full (fun i hi => by
    cases e : q i
    · exact absurd ⟨i, hi, e⟩ hc
    · rfl)
  omega
theorem cvs_iff : cvs w f < 64 ↔ ∃ g, g < 64 ∧ inF w f g := by
  constructor
  · exact fun H => ⟨_, H, cvs_in H⟩
  · rintro ⟨g, h1, h2⟩
    refine Classical.byContradiction fun hc => ?_
    exact cvs_no hc g h1 h2
theorem hvs_iff : hvs w i < 64 ↔ ∃ g, g < 64 ∧ inH w i g := by
  constructor
  · exact fun H => ⟨_, H, hvs_in H⟩
  · rintro ⟨g, h1, h2⟩
    refine Classical.byContradiction fun hc => ?_
    exact hvs_no hc g h1 h2
theorem hd_snc : (hd w s h N t).2 5 g = if g = s then t else w.2 5 g := by
  show ay_u (w.2 5) ((s : Int)).toNat t g = _
  rw [Int.toNat_natCast]; rfl
/-- a slot behind the breaking: as it was, or one that was made -/
def Bt (w0 w w' : bS) (s h N : Nat) (t : Int) (g : Nat) : Prop := (spn w' g = spn w g ∧ hom w' g = hom w g ∧ w'.2 5 g = w.2 5 g) ∨ (s ≤ g ∧ hom w' g = h + (g - s) ∧ 0 < spn w' g ∧ g - s + spn w' g ≤ N ∧ w'.2 5 g = t ∧ ∀ c, g - s ≤ c → c < g - s + spn w' g → thr w0 (h / 32) (h % 32 + c) = true)
theorem brk_at (g : Nat) : ∀ k, k ≤ N → Bt w0 w (brk w0 s h N t k w) s h N t g
  | 0, _ => Or.inl ⟨rfl, rfl, rfl⟩
  | k + 1, hk => by
    have ih := brk_at g k (by omega)
    rw [brk]
    by_cases f : fgp w0 h N k = true
    · rw [if_pos f]
      by_cases k4 : k % 4 = 0
      · rw [if_pos k4]
        have h16 := (fgp_iff.mp f).1
        unfold Bt
        rw [hd_spn, hd_hom, hd_snc]
        by_cases e : g = s + k
        · rw [if_pos e, if_pos e, if_pos e]
          exact Or.inr ⟨by omega, by omega, by omega, by omega, rfl, fun c a b => (fgp_iff.mp f).2 c (by omega) (by omega)⟩
        · rw [if_neg e, if_neg e, if_neg e]; exact ih
      · rw [if_neg k4]; exact ih
    · rw [if_neg f]
      by_cases th : thr w0 (h / 32) (h % 32 + k) = true
      · rw [if_pos th]
        unfold Bt
        rw [hd_spn, hd_hom, hd_snc]
        by_cases e : g = s + k
        · rw [if_pos e, if_pos e, if_pos e]
          exact Or.inr ⟨by omega, by omega, by omega, by omega, rfl, fun c a b => by rw [show c = k by omega]; exact th⟩
        · rw [if_neg e, if_neg e, if_neg e]; exact ih
      · rw [if_neg th]; exact ih
/-- the world behind a breaking, ahead of the book -/
def bkn (w : bS) (s : Nat) : bS := brk w s (hom w s) (spn w s) (w.2 5 s) (spn w s) (cl w s)
theorem bkn_at (g : Nat) : Bt w (cl w s) (bkn w s) s (hom w s) (spn w s) (w.2 5 s) g := brk_at g _ (Nat.le_refl _)
theorem IF.oth (I : IF w) (hs : s < 64) (hg : g < 64) (hne : g ≠ s) (h0 : 0 < spn w g) : ¬ (s ≤ g ∧ g < s + spn w s) := fun q =>
  hne (I.2.1 g g s hg hg hs ⟨Nat.le_refl _, by omega⟩ q)
theorem Bk.fin (I : IF w) (H : RF w a) (hs : s < 64) (h0 : 0 < spn w s) : Bk w (bkn w s) (rbk w s (hom w s) (spn w s) (w.2 5 s) (spn w s) (frs s (hom w s) (spn w s) a)) s (hom w s) (spn w s) (spn w s) := by
  obtain ⟨_, _, _, hh, hal⟩ := I.1 s hs
  obtain ⟨a1, a2, a3⟩ := I.at hs h0
  exact Bk_k (isN_of I hs h0) a2 a1 (hal h0).1 (hal h0).2 (Bk_0 I H hs h0) _ (Nat.le_refl _)
/-- what is kept behind it was kept ahead of it -/
theorem bkn_H (hs : s < 64) (h0 : 0 < spn w s) (hno : ∀ g, g < 64 → ¬ inH w i g) : ∀ g, g < 64 → ¬ inH (bkn w s) i g := fun g hg q => by
  rcases bkn_at (w := w) (s := s) g with ⟨e1, e2, _⟩ | ⟨e1, e2, e3, e4, _⟩
  · have : inH (cl w s) i g := by unfold inH at q ⊢; rw [← e1, ← e2]; exact q
    exact hno g hg (cl_inH.mp this).2
  · refine hno s hs ?_
    unfold inH at q ⊢
    omega
theorem bkn_cv (I : IF w) (H : RF w a) (hs : s < 64) (h0 : 0 < spn w s) (hf : f < 64) : cvs (bkn w s) f < 64 ↔ (if s ≤ f ∧ f < s + spn w s then pgs w s (f - s) = true else cvs w f < 64) := by
  obtain ⟨a1, a2, a3⟩ := I.at hs h0
  have B := Bk.fin I H hs h0
  rw [cvs_iff]
  constructor
  · rintro ⟨g, hg, q⟩
    rcases bkn_at (w := w) (s := s) g with ⟨e1, e2, _⟩ | ⟨e1, e2, e3, e4, _, e6⟩
    · have z : inF (cl w s) f g := by unfold inF at q ⊢; rw [← e1]; exact q
      obtain ⟨z1, z2⟩ := cl_inF.mp z
      by_cases r : s ≤ f ∧ f < s + spn w s
      · exact absurd (I.2.1 f g s hf hg hs z2 r) z1
      · rw [if_neg r]; exact cvs_iff.mpr ⟨g, hg, z2⟩
    · have q1 := q.1
      have q2 := q.2
      rw [if_pos ⟨by omega, by omega⟩]
      exact e6 (f - s) (by omega) (by omega)
  · by_cases r : s ≤ f ∧ f < s + spn w s
    · rw [if_pos r]
      intro th
      obtain ⟨g, hg, q, _⟩ := B.2.2.2.2.2.2 (f - s) (Or.inl (by omega)) (by omega) th
      refine ⟨g, hg, ?_⟩
      rcases bkn_at (w := w) (s := s) g with ⟨e1, e2, _⟩ | ⟨e1, e2, e3, e4, _⟩
      · have z : inH (cl w s) (hom w s + (f - s)) g := by unfold inH at q ⊢; rw [← e1, ← e2]; exact q
        obtain ⟨z1, z2⟩ := cl_inH.mp z
        exact absurd (I.2.2 _ g s (by omega) hg hs z2 ⟨by omega, by omega⟩) z1
      · have q1 := q.1
        have q2 := q.2
        exact ⟨by omega, by omega⟩
    · rw [if_neg r]
      intro hc
      obtain ⟨g, hg, q⟩ := cvs_iff.mp hc
      have hne : g ≠ s := fun e => r (by rw [e] at q; exact q)
      have h1 := I.oth hs hg hne (I.in hg q).1
      refine ⟨g, hg, ?_⟩
      unfold inF
      rw [(B.2.2.2.2.1 g hg h1).1]; exact q
/-- where the lowest free block lies behind it, none having been free -/
theorem bkn_low (I : IF w) (H : RF w a) (hs : s < 64) (h0 : 0 < spn w s) (hM : isN M) (hMN : M ≤ spn w s) (hno : ∀ k, k < 64 / M → fre w M k = false) (he : fs (emp w s M) (spn w s / M) < spn w s / M) : fs (fre (bkn w s) M) (64 / M) = s / M + fs (emp w s M) (spn w s / M) := by
  obtain ⟨a1, a2, a3⟩ := I.at hs h0
  obtain ⟨_, _, _, _, hal⟩ := I.1 s hs
  obtain ⟨al, _⟩ := hal h0
  have hN := isN_of I hs h0
  obtain ⟨f1, f2⟩ := fs_spec (emp w s M) (spn w s / M)
  have f2 := f2 he
  generalize hE : fs (emp w s M) (spn w s / M) = E at *
  have hcv := fun f (hf : f < 64) => bkn_cv I H hs h0 hf
  have arith : s / M * M = s ∧ E * M + M ≤ spn w s ∧ s / M + E ≤ 64 / M := by
    rcases hM with e | e | e <;> rcases hN with z | z | z <;> rw [e] at hMN he ⊢ <;> rw [z] at hMN he al a2 ⊢ <;> omega
  obtain ⟨r1, r2, r3⟩ := arith
  refine fs_eq r3 (fun k hk => ?_) (fun _ => ?_)
  · cases e : fre (bkn w s) M k
    · rfl
    · exfalso
      have e := fre_iff.mp e
      by_cases c : k < s / M
      · have hb : k * M + M ≤ s := by
          have : (k + 1) * M ≤ s / M * M := Nat.mul_le_mul_right M (by omega)
          rw [Nat.add_mul, Nat.one_mul] at this
          omega
        have : fre w M k = true := fre_iff.mpr (fun t ht hc => e t ht (by
          rw [hcv _ (by omega), if_neg (by omega)]; exact hc))
        rw [hno k (by omega)] at this
        cases this
      · have z := f1 (k - s / M) (by omega)
        have : emp w s M (k - s / M) = true := emp_iff.mpr (fun t ht => by
          have hb : k * M = s + (k - s / M) * M := by
            rw [Nat.mul_sub_right_distrib, r1]
            have : s / M * M ≤ k * M := Nat.mul_le_mul_right M (by omega)
            omega
          have hb2 : (k - s / M) * M + M ≤ E * M := by
            have : (k - s / M + 1) * M ≤ E * M := Nat.mul_le_mul_right M (by omega)
            rw [Nat.add_mul, Nat.one_mul] at this
            omega
          have := e t ht
          rw [hcv _ (by omega), if_pos (by omega), hb, show s + (k - s / M) * M + t - s = (k - s / M) * M + t by omega] at this
          cases y : pgs w s ((k - s / M) * M + t)
          · rfl
          · exact absurd y this)
        rw [z] at this
        cases this
  · refine fre_iff.mpr (fun t ht => ?_)
    have hb : (s / M + E) * M = s + E * M := by rw [Nat.add_mul, r1]
    rw [hcv _ (by omega), if_pos (by omega), hb, show s + E * M + t - s = E * M + t by omega, emp_iff.mp f2 t ht]
    decide
end
