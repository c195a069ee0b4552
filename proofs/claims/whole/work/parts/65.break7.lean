/-! Breaking up: all that holds, holds behind it. -/
section
variable {n n' : Nat} {m w w' w0 kk xx tt : bS} {z : Nat → Nat} {a b' : Nat → Int} {o p f s N k i h g j T b c M : Nat} {t v x : Int}
theorem IL_same (e3 : w'.2 3 = w.2 3) (e4 : w'.2 4 = w.2 4) (e6 : w'.2 6 = w.2 6) (e7 : w'.2 7 = w.2 7) (e8 : w'.2 8 = w.2 8) (e9 : w'.2 9 = w.2 9) (J : IL w) : IL w' := by
  unfold IL slt thr drt fou six spn at J ⊢
  rw [hvs_same e3 e4, e4, e6, e7, e8, e9]; exact J
theorem bkn_2 (I : IF w) (H : RF w a) (hs : s < 64) (h0 : 0 < spn w s) (h3 : j ≠ 3) (h4 : j ≠ 4) (h5 : j ≠ 5) : (bkn w s).2 j = w.2 j := (Bk.fin I H hs h0).2.2.1 j h3 h4 h5
theorem bkn_1 (I : IF w) (H : RF w a) (hs : s < 64) (h0 : 0 < spn w s) : (bkn w s).1 = w.1 := (Bk.fin I H hs h0).2.2.2.1
theorem bkn_thr (I : IF w) (H : RF w a) (hs : s < 64) (h0 : 0 < spn w s) : thr (bkn w s) = thr w := by
  funext o p; unfold thr; rw [bkn_2 I H hs h0 (by omega) (by omega) (by omega)]
theorem bkn_drt (I : IF w) (H : RF w a) (hs : s < 64) (h0 : 0 < spn w s) : drt (bkn w s) = drt w := by
  funext o p; unfold drt; rw [bkn_2 I H hs h0 (by omega) (by omega) (by omega)]
theorem bkn_fou (I : IF w) (H : RF w a) (hs : s < 64) (h0 : 0 < spn w s) : fou (bkn w s) = fou w := by
  funext o p; unfold fou; rw [bkn_2 I H hs h0 (by omega) (by omega) (by omega)]
theorem bkn_six (I : IF w) (H : RF w a) (hs : s < 64) (h0 : 0 < spn w s) : six (bkn w s) = six w := by
  funext o p; unfold six; rw [bkn_2 I H hs h0 (by omega) (by omega) (by omega)]
/-- the slot of a page that is there, behind it -/
theorem bkn_slot (I : IF w) (H : RF w a) (T' : IT w) (hs : s < 64) (h0 : 0 < spn w s) (ho : o < 4) (hp : p < 32) (th : thr w o p = true) : slt (bkn w s) o p < 64 ∧ ((slt w o p ≠ s ∧ slt (bkn w s) o p = slt w o p ∧ spn (bkn w s) (slt w o p) = spn w (slt w o p)) ∨ (slt w o p = s ∧ o = hom w s / 32 ∧ hom w s % 32 ≤ p ∧ p < hom w s % 32 + spn w s ∧ (fgp w (hom w s) (spn w s) (p - hom w s % 32) = true → 4 ≤ spn (bkn w s) (slt (bkn w s) o p)))) := by
  obtain ⟨a1, a2, a3⟩ := I.at hs h0
  have B := Bk.fin I H hs h0
  have hc : slt w o p < 64 := T' o p ho hp th
  have hin : inH w (32 * o + p) (slt w o p) := hvs_in hc
  by_cases e : slt w o p = s
  · rw [e] at hin
    have i1 := hin.1
    have i2 := hin.2
    have eo : o = hom w s / 32 := by omega
    have ep : hom w s % 32 + (p - hom w s % 32) = p := by omega
    have th' : thr w (hom w s / 32) (hom w s % 32 + (p - hom w s % 32)) = true := by rw [← eo, ep]; exact th
    obtain ⟨g, g1, g2, g3⟩ := B.2.2.2.2.2.2 (p - hom w s % 32) (Or.inl (by omega)) (by omega) th'
    have g2' : inH (bkn w s) (32 * o + p) g := by rw [show 32 * o + p = hom w s + (p - hom w s % 32) by omega]; exact g2
    have eg : slt (bkn w s) o p = g := hvs_eq B.1 (by omega) g1 g2'
    rw [eg]
    exact ⟨g1, Or.inr ⟨e, eo, by omega, by omega, g3⟩⟩
  · have h1 := I.oth hs hc e (by have := hin.1; have := hin.2; omega)
    obtain ⟨s1, s2⟩ := B.2.2.2.2.1 _ hc h1
    have eg : slt (bkn w s) o p = slt w o p := hvs_eq B.1 (by omega) hc (by unfold inH; rw [s1, s2]; exact hin)
    exact ⟨by rw [eg]; exact hc, Or.inl ⟨e, eg, s1⟩⟩
theorem bkn_IL (G : GW w a T) (hs : s < 64) (h0 : 0 < spn w s) (hh : hld w s < spn w s) : IL (bkn w s) := by
  obtain ⟨R, I, T', J, hT, hT2⟩ := G
  obtain ⟨a1, a2, a3⟩ := I.at hs h0
  obtain ⟨_, _, _, _, hal⟩ := I.1 s hs
  obtain ⟨_, al⟩ := hal h0
  have hN := isN_of I hs h0
  obtain ⟨c, c1, c2⟩ := hole_of hh
  unfold pgs at c2
  have H := R.1
  intro o p ho hp
  rw [bkn_thr I H hs h0, bkn_drt I H hs h0, bkn_fou I H hs h0, bkn_six I H hs h0]
  obtain ⟨j1, j2, j3⟩ := J o p ho hp
  refine ⟨j1, fun hf => ?_, fun hx => ?_⟩
  · obtain ⟨b1, b2, b3, b4⟩ := j2 hf
    refine ⟨b1, b2, ?_, b4⟩
    rcases bkn_slot I H T' hs h0 ho hp b1 with ⟨_, ⟨_, e2, e3⟩ | ⟨e1, e2, e3, e4, e5⟩⟩
    · rw [e2, e3]; exact b3
    · rw [e1] at b3
      have grp : ∀ q, q < 32 → q / 4 = p / 4 → thr w o q = true := fun q hq e => (J o q ho hq).2.1 (b4 q hq e).1 |>.1
      refine e5 (fgp_iff.mpr ⟨?_, fun d d1 d2 => ?_⟩)
      · rcases hN with e | e | e
        · omega
        · rw [e] at al c1 e4
          have := grp (hom w s % 32 + c) (by omega) (by omega)
          rw [e2, c2] at this; cases this
        · exact e
      · rw [← e2]
        have al4 : hom w s % 4 = 0 := by rcases hN with e | e | e <;> rw [e] at al b3 <;> omega
        have h4 : (p - hom w s % 32) % 4 = p % 4 := by omega
        exact grp (hom w s % 32 + d) (by omega) (by omega)
  · obtain ⟨b1, b3, b4⟩ := j3 hx
    refine ⟨b1, ?_, b4⟩
    rcases bkn_slot I H T' hs h0 ho hp b1 with ⟨_, ⟨_, e2, e3⟩ | ⟨e1, e2, e3, e4, e5⟩⟩
    · rw [e2, e3]; exact b3
    · exfalso
      rw [e1] at b3
      have grp : ∀ q, q < 32 → q / 16 = p / 16 → thr w o q = true := fun q hq e => (J o q ho hq).2.2 (b4 q hq e).1 |>.1
      rcases hN with e | e | e
      · omega
      · omega
      · rw [e] at al c1 e4
        have := grp (hom w s % 32 + c) (by omega) (by omega)
        rw [e2, c2] at this; cases this
theorem break_ok (X : GX z w (m.2 0) T) (hs : s < 64) (h0 : 0 < spn w s) (hh : hld w s < spn w s) (hn : 100 ≤ n) (hn' : 100 ≤ n') : ∃ w' a', K_breakUp tt n (kk, w, xx) s = some (0, (kk, w', xx)) ∧ R_breakNow n' m s = some (0, bC m 0 a') ∧ GX z w' a' T ∧ Kb w w' ∧ Ra (m.2 0) a' ∧ w'.2 3 = (bkn w s).2 3 ∧ w'.2 4 = (bkn w s).2 4 := by
  obtain ⟨G, U, V, S, Q, ⟨x1, x2, x3⟩, x4, x5⟩ := X
  obtain ⟨R, I, T', J, hT, hT2⟩ := id G
  obtain ⟨a1, a2, a3⟩ := I.at hs h0
  have hN := isN_of I hs h0
  have hL := G.l.2
  have hh32 : hom w s / 32 < 64 := by omega
  have hm32 : hom w s % 32 < 32 := by omega
  obtain ⟨V1, hV1⟩ : ∃ V : Int, V = ((T * 16384 + 1 * 2048 + hom w s / 32 * 32 + hom w s % 32 : Nat) : Int) := ⟨_, rfl⟩
  obtain ⟨V2, hV2⟩ : ∃ V : Int, V = ((T * 12288 + 1 * 2048 + hom w s / 32 * 32 + hom w s % 32 : Nat) : Int) := ⟨_, rfl⟩
  have e1 : K_breakUp tt n (kk, w, xx) s = some (0, (kk, nt (bkn w s) V1, xx)) := by rw [hV1]; exact K_breakUp_ok G hs h0 (by omega)
  have e2 : R_breakNow n' m s = some (0, bC m 0 (rbk w s (hom w s) (spn w s) (w.2 5 s) (spn w s) (frs s (hom w s) (spn w s) (wd (m.2 0) V2)))) := by rw [hV2]; exact R_breakNow_ok G hs h0 hn'
  have RBn : RB (nt w V1) (wd (m.2 0) V2) := by rw [hV1, hV2]; exact RB_nt R.2.2.1 hT2 (by omega) hh32 hm32
  clear hV1 hV2
  have H : RF w (wd (m.2 0) V2) := RF_c (fun i h1 h2 => wd_o (by omega) (by omega) hL V2) R.1
  have B := Bk.fin I H hs h0
  have bf : ∀ j, j ≠ 3 → j ≠ 4 → j ≠ 5 → (bkn w s).2 j = w.2 j := fun j h3 h4 h5 => bkn_2 I H hs h0 h3 h4 h5
  have b1 : (bkn w s).1 = w.1 := bkn_1 I H hs h0
  have rp : ∀ g j, g < 128 → 0 < j → j < 7 → rbk w s (hom w s) (spn w s) (w.2 5 s) (spn w s) (frs s (hom w s) (spn w s) (wd (m.2 0) V2)) (18 + 7 * g + j) = m.2 0 (18 + 7 * g + j) := fun g j hg hj hj7 => by
    rw [rbk_p hN a2 a1 hg hj hj7 _ (Nat.le_refl _), frs_p hg hj7 a2 a1, if_neg (by omega)]
    exact wd_o (by omega) (by omega) hL V2
  have ro : ∀ g, (g < 18 ∨ 1234 ≤ g) → rbk w s (hom w s) (spn w s) (w.2 5 s) (spn w s) (frs s (hom w s) (spn w s) (wd (m.2 0) V2)) g = wd (m.2 0) V2 g := fun g hg => by
    rw [rbk_o hN a2 a1 hg _ (Nat.le_refl _), frs_o hg a2 a1]
  generalize hA : rbk w s (hom w s) (spn w s) (w.2 5 s) (spn w s) (frs s (hom w s) (spn w s) (wd (m.2 0) V2)) = A at *
  have ra : Ra (m.2 0) A := fun i hi => by rw [ro i (by omega)]; exact wd_o (by omega) (by omega) hL V2
  have ht : thr (nt (bkn w s) V1) = thr w := by
    funext o p; unfold thr; rw [nt_2 (by omega), bf 6 (by omega) (by omega) (by omega)]
  have hG : GW (nt (bkn w s) V1) A T := by
    refine ⟨⟨?_, ?_, ?_, ?_⟩, ?_, ?_, ?_, ?_, hT2⟩
    · exact RF_eq (nt_2 (by omega)) (nt_2 (by omega)) (nt_2 (by omega)) B.2.1
    · refine RP_w ?_ ?_ ?_ ?_ ?_ ?_ ?_ (RP_p rp R.2.1)
      · rw [nt_2 (by omega), bf _ (by omega) (by omega) (by omega)]
      · rw [nt_2 (by omega), bf _ (by omega) (by omega) (by omega)]
      · rw [nt_2 (by omega), bf _ (by omega) (by omega) (by omega)]
      · rw [nt_2 (by omega), bf _ (by omega) (by omega) (by omega)]
      · rw [nt_2 (by omega), bf _ (by omega) (by omega) (by omega)]
      · rw [nt_2 (by omega), bf _ (by omega) (by omega) (by omega)]
      · rw [nt_2 (by omega), bf _ (by omega) (by omega) (by omega)]
    · refine RB_c (ro 14 (by omega)) (fun i h1 h2 => ro i (by omega)) (RB_w (w := nt w V1) ?_ ?_ RBn)
      · unfold nt; rw [b1, bf 10 (by omega) (by omega) (by omega)]; rfl
      · show (if (bkn w s).1 12 < 25 then ay_u ((bkn w s).2 10) ((bkn w s).1 12).toNat V1 else ay_u (ay_cpy ((bkn w s).2 10) ((bkn w s).2 10) 1 0 24) 24 V1) = _
        rw [b1, bf 10 (by omega) (by omega) (by omega)]; rfl
    · refine RS_c (fun i h1 h2 h3 => ?_) (RS_w ?_ ?_ ?_ R.2.2.2)
      · rw [ro i (by omega)]; exact wd_o h3 (by omega) hL V2
      · rw [nt_1 (by omega), b1]
      · rw [nt_1 (by omega), b1]
      · rw [nt_2 (by omega), bf _ (by omega) (by omega) (by omega)]
    · exact IF_eq (nt_2 (by omega)) (nt_2 (by omega)) B.1
    · intro o p ho hp th
      rw [ht] at th
      rw [hvs_same (w := bkn w s) (nt_2 (by omega)) (nt_2 (by omega))]
      exact (bkn_slot I H T' hs h0 ho hp th).1
    · exact IL_same (nt_2 (by omega)) (nt_2 (by omega)) (nt_2 (by omega)) (nt_2 (by omega)) (nt_2 (by omega)) (nt_2 (by omega)) (bkn_IL G hs h0 hh)
    · rw [nt_1 (by omega), b1]; exact hT
  refine ⟨_, _, e1, e2, ⟨hG, ?_, ?_, ⟨?_, ?_⟩, ?_, ⟨?_, ?_, ?_⟩, ?_, ?_⟩, ⟨?_, ?_⟩, ra, nt_2 (by omega), nt_2 (by omega)⟩
  · unfold IU; rw [nt_2 (by omega), bf 2 (by omega) (by omega) (by omega)]; exact U
  · unfold IV; rw [ht, nt_2 (by omega), nt_2 (by omega), bf 0 (by omega) (by omega) (by omega), bf 1 (by omega) (by omega) (by omega)]; exact V
  · rw [ht]; exact S.1
  · intro g hg hg0
    have sp : spn (nt (bkn w s) V1) g = spn (bkn w s) g := rfl
    have ho : hom (nt (bkn w s) V1) g = hom (bkn w s) g := rfl
    rw [sp] at hg0 ⊢
    rw [ho]
    rcases bkn_at (w := w) (s := s) g with ⟨y1, y2, _⟩ | ⟨y1, y2, y3, y4, _⟩
    · rw [y1, cl_spn] at hg0
      rw [y1, y2, cl_spn, cl_hom]
      by_cases e : g = s
      · rw [if_pos e] at hg0; omega
      · rw [if_neg e] at hg0 ⊢; exact S.2 g hg hg0
    · have := S.2 s hs h0
      rw [y2, show (hom w s + (g - s)) / 32 = hom w s / 32 by omega]
      omega
  · intro g hg hg0
    have sp : spn (nt (bkn w s) V1) g = spn (bkn w s) g := rfl
    rw [sp] at hg0
    rw [nt_2 (by omega)]
    rcases bkn_at (w := w) (s := s) g with ⟨y1, y2, y3⟩ | ⟨y1, y2, y3, y4, y5, _⟩
    · rw [y1, cl_spn] at hg0
      rw [y3]
      by_cases e : g = s
      · rw [if_pos e] at hg0; omega
      · rw [if_neg e] at hg0; exact Q g hg hg0
    · rw [y5]; exact Q s hs h0
  · rw [nt_1 (by omega), b1, ra 11 (by omega)]; exact x1
  · rw [nt_1 (by omega), b1, ra 12 (by omega)]; exact x2
  · rw [nt_1 (by omega), b1, ra 13 (by omega)]; exact x3
  · rw [ra 11 (by omega)]; exact x4
  · rw [ra 12 (by omega)]; exact x5
  · intro j h3 h4 h5 h10; rw [nt_2 h10, bf j h3 h4 h5]
  · intro j h12; rw [nt_1 h12, b1]
end
