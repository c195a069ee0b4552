/-! A reservation is undone, on both sides. -/
section
variable {n n' : Nat} {m m' m1 w w' w1 w2 w0 kk k1 xx tt tx : bS} {z : Nat → Nat} {a b' : Nat → Int} {o p f s N k i h g j T b c M q : Nat} {t v x : Int}
theorem dwf_RF (I : IF w) (H : RF w a) (hs : s < 64) (h0 : 0 < spn w s) : RF (dwf w s b M) (und w s b M a (spn w s)) := by
  obtain ⟨a1, a2, a3⟩ := I.at hs h0
  have uf := fun g j (hg : g < 64) (hj : j < 5) => und_f (w := w) (s := s) (b := b) (M := M) (a := a) hg hj a2 a1 (spn w s) (Nat.le_refl _)
  have up := fun i j (hi : i < 128) (hj : j < 7) => und_p (w := w) (s := s) (b := b) (M := M) (a := a) hi a2 a1 (spn w s) (Nat.le_refl _) j hj
  refine ⟨fun f hf => ?_, fun g hg hg0 => ?_, fun i hi => ?_⟩
  · have e := uf f 0 hf (by omega)
    rw [Nat.add_zero] at e
    rw [e]
    by_cases r : s ≤ f ∧ f < s + spn w s
    · rw [if_pos r]
      by_cases k1 : kep w s b M (f - s) = true
      · rw [if_pos k1, if_pos rfl]
        exact Or.inl ⟨f, hf, (dwf_inF I hs h0 hf).mpr (Or.inl ⟨⟨r, k1⟩, rfl⟩), rfl⟩
      · rw [if_neg k1, if_pos rfl]
        refine Or.inr ⟨fun g hg q => ?_, rfl⟩
        rcases (dwf_inF I hs h0 hg).mp q with ⟨y1, y2⟩ | ⟨y1, y2⟩
        · rw [y2] at k1; exact k1 y1.2
        · have := I.2.1 f g s hf hg hs y2 r
          exact y1 (by omega)
    · rw [if_neg r]
      rcases H.1 f hf with ⟨g, hg, y1, y2⟩ | ⟨y1, y2⟩
      · have hne : g ≠ s := fun e => r (by rw [e] at y1; exact y1)
        exact Or.inl ⟨g, hg, (dwf_inF I hs h0 hg).mpr (Or.inr ⟨I.oth hs hg hne (I.in hg y1).1, y1⟩), y2⟩
      · refine Or.inr ⟨fun g hg q => ?_, y2⟩
        rcases (dwf_inF I hs h0 hg).mp q with ⟨x1, x2⟩ | ⟨x1, x2⟩
        · rw [x2] at r; exact r x1.1
        · exact y1 g hg x2
  · rw [uf g 1 hg (by omega), uf g 2 hg (by omega), uf g 3 hg (by omega), uf g 4 hg (by omega)]
    rw [dwf_spn] at hg0
    rw [dwf_spn, dwf_hom, dwf_snc]
    by_cases y : (s ≤ g ∧ g < s + spn w s) ∧ kep w s b M (g - s) = true
    · rw [if_pos y, if_pos y, if_pos y, if_pos y.1, if_pos y.1, if_pos y.1, if_pos y.1, if_pos y.2, if_pos y.2, if_pos y.2, if_pos y.2]
      exact ⟨rfl, rfl, rfl, rfl⟩
    · rw [if_neg y] at hg0
      by_cases e : g = s
      · rw [if_pos e] at hg0; omega
      · rw [if_neg e] at hg0
        have r := I.oth hs hg e hg0
        rw [if_neg y, if_neg y, if_neg y, if_neg e, if_neg r, if_neg r, if_neg r, if_neg r]
        exact H.2.1 g hg hg0
  · have e := up i 0 hi (by omega)
    rw [Nat.add_zero] at e
    rw [e]
    by_cases r : hom w s ≤ i ∧ i < hom w s + spn w s
    · rw [if_pos r, if_pos rfl]
      by_cases k1 : kep w s b M (i - hom w s) = true
      · rw [if_pos k1]
        have k2 : kep w s b M (s + (i - hom w s) - s) = true := by rw [show s + (i - hom w s) - s = i - hom w s by omega]; exact k1
        refine Or.inl ⟨s + (i - hom w s), by omega, (dwf_inH I hs h0 (by omega)).mpr (Or.inl ⟨⟨by omega, k2⟩, by omega⟩), ?_⟩
        rw [dwf_hom, if_pos ⟨by omega, k2⟩]
        congr 1; omega
      · rw [if_neg k1]
        refine Or.inr ⟨fun g hg q => ?_, rfl⟩
        rcases (dwf_inH I hs h0 hg).mp q with ⟨y1, y2⟩ | ⟨y1, y2⟩
        · rw [show i - hom w s = g - s by omega] at k1; exact k1 y1.2
        · have := I.2.2 i g s hi hg hs y2 r
          exact y1 (by omega)
    · rw [if_neg r]
      rcases H.2.2 i hi with ⟨g, hg, y1, y2⟩ | ⟨y1, y2⟩
      · have hne : g ≠ s := fun e => r (by rw [e] at y1; exact y1)
        have hg0 : 0 < spn w g := by have := y1.1; have := y1.2; omega
        have r2 := I.oth hs hg hne hg0
        refine Or.inl ⟨g, hg, (dwf_inH I hs h0 hg).mpr (Or.inr ⟨r2, y1⟩), ?_⟩
        rw [dwf_hom, if_neg (fun q => r2 q.1)]; exact y2
      · refine Or.inr ⟨fun g hg q => ?_, y2⟩
        rcases (dwf_inH I hs h0 hg).mp q with ⟨x1, x2⟩ | ⟨x1, x2⟩
        · have := x1.1; exact r (by omega)
        · exact y1 g hg x2
theorem dwf_RP (G : GW w a T) (hs : s < 64) (h0 : 0 < spn w s) : RP (dwf w s b M) (und w s b M a (spn w s)) := by
  obtain ⟨R, I, T', J, hT, hT2⟩ := id G
  obtain ⟨a1, a2, a3⟩ := I.at hs h0
  have up := fun i j (hi : i < 128) (hj : j < 7) => und_p (w := w) (s := s) (b := b) (M := M) (a := a) hi a2 a1 (spn w s) (Nat.le_refl _) j hj
  intro o q ho hq
  obtain ⟨h1, h2, h3, h4, h5, h6⟩ := R.2.1 o q ho hq
  obtain ⟨j1, j2, j3⟩ := J o q ho hq
  have hi : 32 * o + q < 128 := by omega
  have hlv : lvl (dwf w s b M) o q = bif thr (dwf w s b M) o q then (bif six (dwf w s b M) o q then 16 else bif fou (dwf w s b M) o q then 4 else 1) else 0 := rfl
  rw [hlv, dwf_thr I hs h0 hq, dwf_drt I hs h0 hq, dwf_fou I hs h0 hq, dwf_six I hs h0 hq, dwf_0 I hs h0 ho hq, dwf_2 (j := 1) (by omega) (by omega) (by omega) (by omega) (by omega) (by omega) (by omega) (by omega), dwf_2 (j := 2) (by omega) (by omega) (by omega) (by omega) (by omega) (by omega) (by omega) (by omega)]
  rw [up _ 1 hi (by omega), up _ 2 hi (by omega), up _ 3 hi (by omega), up _ 4 hi (by omega), up _ 5 hi (by omega), up _ 6 hi (by omega)]
  by_cases r : hom w s ≤ 32 * o + q ∧ 32 * o + q < hom w s + spn w s
  · have eo : o = hom w s / 32 := by omega
    have er : inR w s o q = true := decide_eq_true ⟨eo, by omega, by omega⟩
    have ec : 32 * o + q - hom w s = q - hom w s % 32 := by omega
    have ep : pgs w s (q - hom w s % 32) = thr w o q := by unfold pgs; rw [← eo, show hom w s % 32 + (q - hom w s % 32) = q by omega]
    rw [if_pos r, if_pos r, if_pos r, if_pos r, if_pos r, if_pos r, ec, er]
    unfold kep lev
    rw [ep]
    generalize hd : decide (b ≤ s + (q - hom w s % 32) ∧ s + (q - hom w s % 32) < b + M) = D
    cases th : thr w o q
    · rw [th] at h1 j1 j2 j3
      have nd : drt w o q = false := by
        cases e : drt w o q
        · rfl
        · cases j1 e
      have hl : lvl w o q = 0 := by unfold lvl; rw [th]; rfl
      rw [nd] at h4 ⊢
      rw [hl] at h5
      cases D <;> simp <;> exact ⟨h1, h2, h3, h4, h5, h6⟩
    · cases D
      · simp
        rw [th] at h1
        exact ⟨h1, h2, h3, h4, h6⟩
      · simp [h3, h6]
  · have er : inR w s o q = false := decide_eq_false (fun y => r (by omega))
    rw [if_neg r, if_neg r, if_neg r, if_neg r, if_neg r, if_neg r, er]
    simp only [Bool.false_and, Bool.not_false, Bool.and_true]
    rw [if_neg (show ¬ (false = true) by decide)]
    exact ⟨h1, h2, h3, h4, h5, h6⟩
theorem dwf_slot (I : IF w) (T' : IT w) (hs : s < 64) (h0 : 0 < spn w s) (ho : o < 4) (hq : q < 32) (th : thr (dwf w s b M) o q = true) : thr w o q = true ∧ ((inR w s o q = true ∧ slt (dwf w s b M) o q < 64 ∧ spn (dwf w s b M) (slt (dwf w s b M) o q) = 1) ∨ (inR w s o q = false ∧ slt (dwf w s b M) o q = slt w o q ∧ slt w o q < 64 ∧ spn (dwf w s b M) (slt w o q) = spn w (slt w o q))) := by
  obtain ⟨a1, a2, a3⟩ := I.at hs h0
  have I' := dwf_IF (b := b) (M := M) I hs h0
  rw [dwf_thr I hs h0 hq, Bool.and_eq_true] at th
  obtain ⟨t1, t2⟩ := th
  refine ⟨t1, ?_⟩
  have hc : slt w o q < 64 := T' o q ho hq t1
  have hin : inH w (32 * o + q) (slt w o q) := hvs_in hc
  cases er : inR w s o q
  · right
    have er' : ¬ (o = hom w s / 32 ∧ hom w s % 32 ≤ q ∧ q < hom w s % 32 + spn w s) := of_decide_eq_false er
    have hne : slt w o q ≠ s := fun e => by
      rw [e] at hin
      have := hin.1; have := hin.2
      exact er' (by omega)
    have hg0 : 0 < spn w (slt w o q) := by have := hin.1; have := hin.2; omega
    have r2 := I.oth hs hc hne hg0
    refine ⟨rfl, hvs_eq I' (by omega) hc ((dwf_inH I hs h0 hc).mpr (Or.inr ⟨r2, hin⟩)), hc, ?_⟩
    rw [dwf_spn, if_neg (fun y => r2 y.1), if_neg hne]
  · left
    have er' : o = hom w s / 32 ∧ hom w s % 32 ≤ q ∧ q < hom w s % 32 + spn w s := of_decide_eq_true er
    have ep : pgs w s (q - hom w s % 32) = true := by unfold pgs; rw [← er'.1, show hom w s % 32 + (q - hom w s % 32) = q by omega]; exact t1
    rw [er, Bool.true_and] at t2
    have kp : kep w s b M (q - hom w s % 32) = true := by
      unfold lev at t2
      unfold kep
      rw [ep] at t2 ⊢
      exact t2
    have k2 : kep w s b M (s + (q - hom w s % 32) - s) = true := by rw [show s + (q - hom w s % 32) - s = q - hom w s % 32 by omega]; exact kp
    have e : slt (dwf w s b M) o q = s + (q - hom w s % 32) := hvs_eq I' (by omega) (by omega) ((dwf_inH I hs h0 (by omega)).mpr (Or.inl ⟨⟨by omega, k2⟩, by omega⟩))
    refine ⟨rfl, by rw [e]; omega, ?_⟩
    rw [e, dwf_spn, if_pos ⟨by omega, k2⟩]
theorem dwf_IL (G : GW w a T) (hs : s < 64) (h0 : 0 < spn w s) : IL (dwf w s b M) := by
  obtain ⟨R, I, T', J, hT, hT2⟩ := id G
  obtain ⟨a1, a2, a3⟩ := I.at hs h0
  have inr_s : ∀ o r, o < 4 → r < 32 → inR w s o r = true → slt w o r = s := fun o r ho hr e => by
    have e' : o = hom w s / 32 ∧ hom w s % 32 ≤ r ∧ r < hom w s % 32 + spn w s := of_decide_eq_true e
    exact hvs_eq I (by omega) hs ⟨by omega, by omega⟩
  -- a page outside, its block of a level: all of it outside, all of it there
  have blk : ∀ (L : Nat), isN L → ∀ o q, o < 4 → q < 32 → inR w s o q = false → slt w o q < 64 → L ≤ spn w (slt w o q) → ∀ r, r < 32 → r / L = q / L → inR w s o r = false := fun L hL o q ho hq eq hc hsp r hr e => by
    have es := slt_blk I ho hq hr hL e hc hsp
    cases y : inR w s o r
    · rfl
    · have e1 := inr_s o r ho hr y
      rw [es] at e1
      have hin : inH w (32 * o + q) s := by
        have : inH w (32 * o + q) (slt w o q) := hvs_in hc
        rw [e1] at this; exact this
      have i1 := hin.1
      have i2 := hin.2
      have : ¬ (o = hom w s / 32 ∧ hom w s % 32 ≤ q ∧ q < hom w s % 32 + spn w s) := of_decide_eq_false eq
      exact absurd ⟨by omega, by omega, by omega⟩ this
  intro o q ho hq
  obtain ⟨j1, j2, j3⟩ := J o q ho hq
  refine ⟨fun h => ?_, fun h => ?_, fun h => ?_⟩
  · rw [dwf_drt I hs h0 hq, Bool.and_eq_true] at h
    rw [dwf_thr I hs h0 hq, Bool.and_eq_true]
    exact ⟨j1 h.1, h.2⟩
  · rw [dwf_fou I hs h0 hq, Bool.and_eq_true] at h
    obtain ⟨f1, f2⟩ := h
    have er : inR w s o q = false := by cases y : inR w s o q; rfl; rw [y] at f2; cases f2
    obtain ⟨c1, c2, c3, c4⟩ := j2 f1
    have th : thr (dwf w s b M) o q = true := by rw [dwf_thr I hs h0 hq, er, c1]; rfl
    refine ⟨th, by rw [dwf_six I hs h0 hq, c2]; rfl, ?_, fun r hr e => ?_⟩
    · rcases (dwf_slot I T' hs h0 ho hq th).2 with y | ⟨_, y1, y2, y3⟩
      · rw [er] at y; cases y.1
      · rw [y1, y3]; exact c3
    · have rr := blk 4 (Or.inr (Or.inl rfl)) o q ho hq er (T' o q ho hq c1) c3 r hr e
      rw [dwf_fou I hs h0 hr, dwf_drt I hs h0 hr, dwf_drt I hs h0 hq, rr, er, (c4 r hr e).1, (c4 r hr e).2]
      exact ⟨rfl, rfl⟩
  · rw [dwf_six I hs h0 hq, Bool.and_eq_true] at h
    obtain ⟨f1, f2⟩ := h
    have er : inR w s o q = false := by cases y : inR w s o q; rfl; rw [y] at f2; cases f2
    obtain ⟨c1, c3, c4⟩ := j3 f1
    have th : thr (dwf w s b M) o q = true := by rw [dwf_thr I hs h0 hq, er, c1]; rfl
    refine ⟨th, ?_, fun r hr e => ?_⟩
    · rcases (dwf_slot I T' hs h0 ho hq th).2 with y | ⟨_, y1, y2, y3⟩
      · rw [er] at y; cases y.1
      · rw [y1, y3]; exact c3
    · have rr := blk 16 (Or.inr (Or.inr rfl)) o q ho hq er (T' o q ho hq c1) c3 r hr e
      rw [dwf_six I hs h0 hr, dwf_drt I hs h0 hr, dwf_drt I hs h0 hq, rr, er, (c4 r hr e).1, (c4 r hr e).2]
      exact ⟨rfl, rfl⟩
theorem dwf_GX (X : GX z w a T) (hs : s < 64) (h0 : 0 < spn w s) : GX z (dwf w s b M) (und w s b M a (spn w s)) T := by
  obtain ⟨G, U, V, S, Q, ⟨x1, x2, x3⟩, x4, x5⟩ := X
  obtain ⟨R, I, T', J, hT, hT2⟩ := id G
  obtain ⟨a1, a2, a3⟩ := I.at hs h0
  have ro : ∀ g, (g < 18 ∨ 1234 ≤ g) → und w s b M a (spn w s) g = a g := fun g hg => und_o hg a2 a1 _ (Nat.le_refl _)
  have e1 : (dwf w s b M).1 = w.1 := dwf_1
  refine ⟨⟨⟨dwf_RF I R.1 hs h0, dwf_RP G hs h0, ?_, ?_⟩, dwf_IF I hs h0, ?_, dwf_IL G hs h0, ?_, hT2⟩, ?_, ?_, ⟨?_, ?_⟩, ?_, ⟨?_, ?_, ?_⟩, ?_, ?_⟩
  · exact RB_c (ro 14 (by omega)) (fun i h1 h2 => ro i (by omega)) (RB_w (by rw [e1]) (dwf_2 (by omega) (by omega) (by omega) (by omega) (by omega) (by omega) (by omega) (by omega)) R.2.2.1)
  · exact RS_c (fun i h1 h2 _ => ro i (by omega)) (RS_w (by rw [e1]) (by rw [e1]) (dwf_2 (by omega) (by omega) (by omega) (by omega) (by omega) (by omega) (by omega) (by omega)) R.2.2.2)
  · intro o q ho hq th
    rcases (dwf_slot I T' hs h0 ho hq th).2 with ⟨_, y, _⟩ | ⟨_, y1, y2, _⟩
    · exact y
    · have y1 : hvs (dwf w s b M) (32 * o + q) = slt w o q := y1
      rw [y1]; exact y2
  · rw [e1]; exact hT
  · unfold IU; rw [dwf_2 (by omega) (by omega) (by omega) (by omega) (by omega) (by omega) (by omega) (by omega)]; exact U
  · intro o q ho hq th
    rw [dwf_thr I hs h0 hq] at th
    rw [dwf_0 I hs h0 ho hq, dwf_2 (by omega) (by omega) (by omega) (by omega) (by omega) (by omega) (by omega) (by omega)]
    by_cases y : (inR w s o q && lev w s b M (q - hom w s % 32)) = true
    · rw [if_pos y]
    · rw [if_neg y]
      refine V o q ho hq ?_
      cases e : thr w o q
      · rfl
      · rw [e, Bool.true_and] at th
        cases f : (inR w s o q && lev w s b M (q - hom w s % 32))
        · rw [f] at th; cases th
        · exact absurd f y
  · intro o q ho hq th
    exact S.1 o q ho hq (dwf_slot I T' hs h0 ho hq th).1
  · intro g hg hg0
    rw [dwf_spn] at hg0 ⊢
    rw [dwf_hom]
    by_cases y : (s ≤ g ∧ g < s + spn w s) ∧ kep w s b M (g - s) = true
    · have := S.2 s hs h0
      rw [if_pos y, if_pos y, show (hom w s + (g - s)) / 32 = hom w s / 32 by omega]
      omega
    · rw [if_neg y] at hg0 ⊢
      rw [if_neg y]
      by_cases e : g = s
      · rw [if_pos e] at hg0; omega
      · rw [if_neg e] at hg0 ⊢; exact S.2 g hg hg0
  · intro g hg hg0
    rw [dwf_spn] at hg0
    rw [dwf_snc]
    by_cases y : (s ≤ g ∧ g < s + spn w s) ∧ kep w s b M (g - s) = true
    · rw [if_pos y]; exact Q s hs h0
    · rw [if_neg y] at hg0 ⊢
      by_cases e : g = s
      · rw [if_pos e] at hg0; omega
      · rw [if_neg e] at hg0; exact Q g hg hg0
  · rw [e1, ro 11 (by omega)]; exact x1
  · rw [e1, ro 12 (by omega)]; exact x2
  · rw [e1, ro 13 (by omega)]; exact x3
  · rw [ro 11 (by omega)]; exact x4
  · rw [ro 12 (by omega)]; exact x5
end
