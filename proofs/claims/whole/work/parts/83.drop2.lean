/-! Dropping, on both sides: the whole of it. -/
section
variable {n n' : Nat} {m m' m1 w w' w1 w2 w0 kk k1 xx tt tx : bS} {z : Nat → Nat} {a b' : Nat → Int} {o p f s N k i h g j T b c M q : Nat} {t v x : Int}
theorem R_dn_s (G : GW w (m.2 0) T) (hto : TO z tt (m.2 0)) (ho : o < 4) (hk : k < z o) (hn : 20 ≤ n) : R_dropNow_2 (n + 1) (bC m 0 (drr w o (m.2 0) k)) o k = R_dropNow_2 n (bC m 0 (drr w o (m.2 0) (k + 1))) o ((k + 1 : Nat) : Int) := by
  obtain ⟨R, I, T', J, hT, hT2⟩ := id G
  obtain ⟨_, hz, hz32⟩ := hto.1 o ho
  have hz' : (bC m 0 (drr w o (m.2 0) k)).2 0 (6 + o) = (z o : Int) := by
    show drr w o (m.2 0) k (6 + o) = _
    rw [drr_o I ho (by omega) k (by omega)]; exact hz
  have pf : R_pageAt n (bC m 0 (drr w o (m.2 0) k)) o k 0 = some (if hvs w (32 * o + k) < 64 then ((frm w (32 * o + k) : Nat) : Int) else -1, bC m 0 (drr w o (m.2 0) k)) := by
    rw [R_pageAt_ok n _ ho (by omega) (by omega) (by omega)]
    show some (drr w o (m.2 0) k (18 + 7 * (32 * o + k) + 0), _) = _
    rw [drr_p I R.1 ho (by omega) k (by omega) 0 (by omega), if_neg (by omega), Nat.add_zero, RF.pfr I R.1 (by omega)]
    rfl
  have lv : ∀ a1 : Nat → Int, R_dropNow_39 (fun s l1 l2 => R_dropNow_2 n s l1 l2) n (bC m 0 a1) o k = R_dropNow_2 n (bC m 0 (lv1 a1 (32 * o + k))) o ((k + 1 : Nat) : Int) := fun a1 => by
    unfold R_dropNow_39
    rw [bb_s (R_leave_ok n _ ho (by omega)), bC_C, wad1 (by omega)]
    rfl
  rw [R_dropNow_2, long_at ho, if_pos (by omega), Int.toNat_natCast, hz', if_neg (by omega), bb_s pf, drr]
  by_cases c : hvs w (32 * o + k) < 64
  · have fl : frm w (32 * o + k) < 64 := (I.in c (frm_in c)).2
    rw [if_pos c] at pf ⊢
    rw [if_neg (by omega), bb_s pf, if_pos c, bb_s (R_free_ok (f := frm w (32 * o + k)) (o := o) (p := k) fl ho (by omega) (by omega)), bC_C]
    exact lv _
  · rw [if_neg c, if_pos rfl, if_neg c]
    exact lv _
theorem R_dropNow_ok (G : GW w (m.2 0) T) (hto : TO z tt (m.2 0)) (ho : o < 4) (hn : 120 ≤ n) : R_dropNow n m o = some (0, bC m 0 (wd (drr w o (m.2 0) (z o)) ((T * 12288 + 5 * 2048 + o * 32 + 0 : Nat) : Int))) := by
  obtain ⟨R, I, T', J, hT, hT2⟩ := id G
  obtain ⟨_, hz, hz32⟩ := hto.1 o ho
  have hz' : (bC m 0 (drr w o (m.2 0) (z o))).2 0 (6 + o) = (z o : Int) := by
    show drr w o (m.2 0) (z o) (6 + o) = _
    rw [drr_o I ho (by omega) _ (by omega)]; exact hz
  have h14 : 0 ≤ (bC m 0 (drr w o (m.2 0) (z o))).2 0 14 ∧ (bC m 0 (drr w o (m.2 0) (z o))).2 0 14 ≤ 25 := by
    show 0 ≤ drr w o (m.2 0) (z o) 14 ∧ drr w o (m.2 0) (z o) 14 ≤ 25
    rw [drr_o I ho (by omega) _ (by omega)]; exact G.l.2
  have h10 : (bC m 0 (drr w o (m.2 0) (z o))).2 0 10 = (T : Int) := by
    show drr w o (m.2 0) (z o) 10 = _
    rw [drr_o I ho (by omega) _ (by omega)]; exact G.tm
  unfold R_dropNow
  have key := runs0 (fun n k => R_dropNow_2 n (bC m 0 (drr w o (m.2 0) k)) o k) (z o) 50 (r := (0, bC m 0 (wd (drr w o (m.2 0) (z o)) ((T * 12288 + 5 * 2048 + o * 32 + 0 : Nat) : Int)))) (fun n k hk hn => R_dn_s G hto ho hk (by omega)) (fun n hn => ?_) (n := n) (by omega)
  · have e : bC m 0 (drr w o (m.2 0) 0) = m := bC_id m
    rw [e] at key
    exact key
  · show R_dropNow_2 (n + 1) (bC m 0 (drr w o (m.2 0) (z o))) o (z o) = _
    rw [R_dropNow_2, long_at ho, if_pos (by omega), Int.toNat_natCast, hz', if_pos (Int.le_refl _)]
    refine (bb_s (R_writeDown_ok (k := 5) (y := 0) hT2 (by omega) (by omega) (by omega) h14 h10 (by omega))).trans ?_
    rw [bC_C]
    rfl
theorem drw_inF (hg : g < 64) : inF (drw w o) f g ↔ ¬ hom w g / 32 = o ∧ inF w f g := by
  unfold inF
  rw [drw_spn hg]
  by_cases c : hom w g / 32 = o
  · rw [if_pos c]; exact ⟨fun q => by omega, fun q => absurd c q.1⟩
  · rw [if_neg c]; exact ⟨fun q => ⟨c, q⟩, fun q => q.2⟩
theorem drw_inH (hg : g < 64) : inH (drw w o) i g ↔ ¬ hom w g / 32 = o ∧ inH w i g := by
  unfold inH
  rw [drw_spn hg, drw_hom]
  by_cases c : hom w g / 32 = o
  · rw [if_pos c]; exact ⟨fun q => by omega, fun q => absurd c q.1⟩
  · rw [if_neg c]; exact ⟨fun q => ⟨c, q⟩, fun q => q.2⟩
theorem drw_slot (I : IF w) (T' : IT w) (I' : IF (drw w o)) (hg : g < 4) (hq : q < 32) (hne : g ≠ o) (th : thr w g q = true) : slt (drw w o) g q = slt w g q ∧ slt w g q < 64 ∧ spn (drw w o) (slt w g q) = spn w (slt w g q) := by
  have hc : slt w g q < 64 := T' g q hg hq th
  have hin : inH w (32 * g + q) (slt w g q) := hvs_in hc
  have i1 := hin.1
  have i2 := hin.2
  obtain ⟨a1, a2, a3⟩ := I.at hc (by omega)
  have hno : ¬ hom w (slt w g q) / 32 = o := by omega
  refine ⟨hvs_eq I' (by omega) hc ((drw_inH hc).mpr ⟨hno, hin⟩), hc, ?_⟩
  rw [drw_spn hc, if_neg hno]
theorem drop_GX (X : GX z w a T) (hto : TO z tt a) (ho : o < 4) : GX z (drw w o) (drr w o a (z o)) T := by
  obtain ⟨G, U, V, S, Q, ⟨x1, x2, x3⟩, x4, x5⟩ := X
  obtain ⟨R, I, T', J, hT, hT2⟩ := id G
  obtain ⟨_, _, hz32⟩ := hto.1 o ho
  have uf := fun g j (hg : g < 64) (hj : j < 5) => drr_f (a := a) I ho hg hj (z o) hz32
  have up := fun i j (hi : i < 128) (hj : j < 7) => drr_p I R.1 ho hi (z o) hz32 j hj
  have ro : ∀ g, (g < 18 ∨ 1234 ≤ g) → drr w o a (z o) g = a g := fun g hg => drr_o I ho hg _ hz32
  have e1 : (drw w o).1 = w.1 := drw_1
  have I' : IF (drw w o) := by
    refine IF_eq (w := drs w o 64) ?_ ?_ (drs_IF I 64)
    · unfold drw lvw; rw [lvv_2 (by omega) (by omega) (by omega) (by omega) (by omega)]
    · unfold drw lvw; rw [lvv_2 (by omega) (by omega) (by omega) (by omega) (by omega)]
  -- a frame that is covered: dropped just when its object is
  have dz : ∀ f s, f < 64 → s < 64 → inF w f s → (dfr w o (z o) f ↔ hom w s / 32 = o) := fun f s hf hs hin => by
    have ec := cvs_eq I hf hs hin
    have h0 := (I.in hs hin).1
    have i1 := hin.1
    have i2 := hin.2
    unfold dfr
    rw [ec]
    constructor
    · exact fun q => q.2.1
    · intro q
      have := S.2 s hs h0
      rw [q] at this
      exact ⟨hs, q, by omega⟩
  have hRF : RF (drw w o) (drr w o a (z o)) := by
    refine ⟨fun f hf => ?_, fun g hg hg0 => ?_, fun i hi => ?_⟩
    · obtain ⟨u1, u2⟩ := uf f 0 hf (by omega)
      rw [Nat.add_zero] at u1 u2
      rcases R.1.1 f hf with ⟨s, hs, y1, y2⟩ | ⟨y1, y2⟩
      · by_cases c : hom w s / 32 = o
        · refine Or.inr ⟨fun g hg q => ?_, u1 ((dz f s hf hs y1).mpr c)⟩
          obtain ⟨q1, q2⟩ := (drw_inF hg).mp q
          rw [I.2.1 f g s hf hg hs q2 y1] at q1
          exact q1 c
        · exact Or.inl ⟨s, hs, (drw_inF hs).mpr ⟨c, y1⟩, (u2 (fun q => c ((dz f s hf hs y1).mp q))).trans y2⟩
      · refine Or.inr ⟨fun g hg q => y1 g hg ((drw_inF hg).mp q).2, (u2 (fun q => ?_)).trans y2⟩
        exact y1 _ q.1 (cvs_in q.1)
    · rw [drw_spn hg] at hg0 ⊢
      by_cases c : hom w g / 32 = o
      · rw [if_pos c] at hg0; omega
      · rw [if_neg c] at hg0 ⊢
        have nd : ¬ dfr w o (z o) g := fun q => c ((dz g g hg hg ⟨Nat.le_refl _, by omega⟩).mp q)
        rw [(uf g 1 hg (by omega)).2 nd, (uf g 2 hg (by omega)).2 nd, (uf g 3 hg (by omega)).2 nd, (uf g 4 hg (by omega)).2 nd, drw_hom, drw_2 (by omega) (by omega) (by omega) (by omega) (by omega) (by omega)]
        exact R.1.2.1 g hg hg0
    · have u := up i 0 hi (by omega)
      rw [Nat.add_zero] at u
      rw [u]
      by_cases r : 32 * o ≤ i ∧ i < 32 * o + z o
      · rw [if_pos r, if_pos rfl]
        refine Or.inr ⟨fun g hg q => ?_, rfl⟩
        obtain ⟨q1, q2⟩ := (drw_inH hg).mp q
        have i1 := q2.1
        have i2 := q2.2
        obtain ⟨b1, b2, b3⟩ := I.at hg (by omega)
        exact q1 (by omega)
      · rw [if_neg r]
        rcases R.1.2.2 i hi with ⟨g, hg, y1, y2⟩ | ⟨y1, y2⟩
        · have i1 := y1.1
          have i2 := y1.2
          obtain ⟨b1, b2, b3⟩ := I.at hg (by omega)
          have hno : ¬ hom w g / 32 = o := fun e => by
            have := S.2 g hg (by omega)
            rw [e] at this
            exact r (by omega)
          refine Or.inl ⟨g, hg, (drw_inH hg).mpr ⟨hno, y1⟩, ?_⟩
          rw [drw_hom]; exact y2
        · exact Or.inr ⟨fun g hg q => y1 g hg ((drw_inH hg).mp q).2, y2⟩
  have hRP : RP (drw w o) (drr w o a (z o)) := by
    intro g q hg hq
    obtain ⟨h1, h2, h3, h4, h5, h6⟩ := R.2.1 g q hg hq
    obtain ⟨j1, j2, j3⟩ := J g q hg hq
    have hi : 32 * g + q < 128 := by omega
    have hlv : lvl (drw w o) g q = bif thr (drw w o) g q then (bif six (drw w o) g q then 16 else bif fou (drw w o) g q then 4 else 1) else 0 := rfl
    rw [hlv, drw_thr ho hq, drw_drt ho hq, drw_fou ho hq, drw_six ho hq, drw_0 ho hq, drw_2 (j := 1) (by omega) (by omega) (by omega) (by omega) (by omega) (by omega), drw_2 (j := 2) (by omega) (by omega) (by omega) (by omega) (by omega) (by omega)]
    rw [up _ 1 hi (by omega), up _ 2 hi (by omega), up _ 3 hi (by omega), up _ 4 hi (by omega), up _ 5 hi (by omega), up _ 6 hi (by omega)]
    by_cases c : g = o
    · subst c
      by_cases r : q < z g
      · have r' : 32 * g ≤ 32 * g + q ∧ 32 * g + q < 32 * g + z g := by omega
        rw [if_pos r', if_pos r', if_pos r', if_pos r', if_pos r', if_pos r']
        simp [h3, h6]
      · have r' : ¬ (32 * g ≤ 32 * g + q ∧ 32 * g + q < 32 * g + z g) := by omega
        have th : thr w g q = false := by
          cases e : thr w g q
          · rfl
          · exact absurd (S.1 g q hg hq e) r
        have hl : lvl w g q = 0 := by unfold lvl; rw [th]; rfl
        have nd : drt w g q = false := by
          cases e : drt w g q
          · rfl
          · have := j1 e; rw [th] at this; cases this
        rw [if_neg r', if_neg r', if_neg r', if_neg r', if_neg r', if_neg r']
        rw [th] at h1
        rw [nd] at h4
        rw [hl] at h5
        rw [th, nd]
        simp
        exact ⟨h1, by rw [h2, V g q hg hq th], h3, h4, h5, h6⟩
    · have r' : ¬ (32 * o ≤ 32 * g + q ∧ 32 * g + q < 32 * o + z o) := by omega
      rw [if_neg r', if_neg r', if_neg r', if_neg r', if_neg r', if_neg r', if_neg c, decide_eq_false c]
      simp only [Bool.not_false, Bool.and_true]
      exact ⟨h1, h2, h3, h4, h5, h6⟩
  have up1 : ∀ g q, g < 4 → q < 32 → thr (drw w o) g q = true → g ≠ o ∧ thr w g q = true := fun g q hg hq th => by
    rw [drw_thr ho hq, Bool.and_eq_true] at th
    refine ⟨fun e => ?_, th.1⟩
    rw [decide_eq_true e] at th
    cases th.2
  refine ⟨⟨⟨hRF, hRP, ?_, ?_⟩, I', ?_, ?_, ?_, hT2⟩, ?_, ?_, ⟨?_, ?_⟩, ?_, ⟨?_, ?_, ?_⟩, ?_, ?_⟩
  · exact RB_c (ro 14 (by omega)) (fun i h1 h2 => ro i (by omega)) (RB_w (by rw [e1]) (drw_2 (by omega) (by omega) (by omega) (by omega) (by omega) (by omega)) R.2.2.1)
  · exact RS_c (fun i h1 h2 _ => ro i (by omega)) (RS_w (by rw [e1]) (by rw [e1]) (drw_2 (by omega) (by omega) (by omega) (by omega) (by omega) (by omega)) R.2.2.2)
  · intro g q hg hq th
    obtain ⟨t1, t2⟩ := up1 g q hg hq th
    obtain ⟨y1, y2, _⟩ := drw_slot I T' I' hg hq t1 t2
    have y1 : hvs (drw w o) (32 * g + q) = slt w g q := y1
    rw [y1]; exact y2
  · intro g q hg hq
    obtain ⟨j1, j2, j3⟩ := J g q hg hq
    by_cases c : g = o
    · rw [drw_drt ho hq, drw_fou ho hq, drw_six ho hq, decide_eq_true c]
      simp
    · have et : ∀ r, r < 32 → thr (drw w o) g r = thr w g r ∧ drt (drw w o) g r = drt w g r ∧ fou (drw w o) g r = fou w g r ∧ six (drw w o) g r = six w g r := fun r hr => by
        rw [drw_thr ho hr, drw_drt ho hr, drw_fou ho hr, drw_six ho hr, decide_eq_false c]
        simp
      obtain ⟨t1, t2, t3, t4⟩ := et q hq
      rw [t1, t2, t3, t4]
      refine ⟨j1, fun h => ?_, fun h => ?_⟩
      · obtain ⟨c1, c2, c3, c4⟩ := j2 h
        obtain ⟨y1, y2, y3⟩ := drw_slot I T' I' hg hq c c1
        refine ⟨c1, c2, by rw [y1, y3]; exact c3, fun r hr e => ?_⟩
        rw [(et r hr).2.2.1, (et r hr).2.1]; exact c4 r hr e
      · obtain ⟨c1, c3, c4⟩ := j3 h
        obtain ⟨y1, y2, y3⟩ := drw_slot I T' I' hg hq c c1
        refine ⟨c1, by rw [y1, y3]; exact c3, fun r hr e => ?_⟩
        rw [(et r hr).2.2.2, (et r hr).2.1]; exact c4 r hr e
  · rw [e1]; exact hT
  · unfold IU; rw [drw_2 (by omega) (by omega) (by omega) (by omega) (by omega) (by omega)]; exact U
  · intro g q hg hq th
    rw [drw_0 ho hq, drw_2 (by omega) (by omega) (by omega) (by omega) (by omega) (by omega)]
    by_cases c : g = o
    · rw [if_pos c]
    · rw [if_neg c]
      rw [drw_thr ho hq, decide_eq_false c, Bool.not_false, Bool.and_true] at th
      exact V g q hg hq th
  · intro g q hg hq th
    exact S.1 g q hg hq (up1 g q hg hq th).2
  · intro g hg hg0
    rw [drw_spn hg] at hg0 ⊢
    rw [drw_hom]
    by_cases c : hom w g / 32 = o
    · rw [if_pos c] at hg0; omega
    · rw [if_neg c] at hg0 ⊢; exact S.2 g hg hg0
  · intro g hg hg0
    rw [drw_spn hg] at hg0
    rw [drw_2 (by omega) (by omega) (by omega) (by omega) (by omega) (by omega)]
    by_cases c : hom w g / 32 = o
    · rw [if_pos c] at hg0; omega
    · rw [if_neg c] at hg0; exact Q g hg hg0
  · rw [e1, ro 11 (by omega)]; exact x1
  · rw [e1, ro 12 (by omega)]; exact x2
  · rw [e1, ro 13 (by omega)]; exact x3
  · rw [ro 11 (by omega)]; exact x4
  · rw [ro 12 (by omega)]; exact x5
theorem drop_ok (X : GX z w (m.2 0) T) (hto : TO z tt (m.2 0)) (ho : o < 4) (hn : 120 ≤ n) (hn' : 120 ≤ n') : ∃ w' a', K_dropAll tt n (kk, w, xx) o = some (0, (kk, w', xx)) ∧ R_dropNow n' m o = some (0, bC m 0 a') ∧ GX z w' a' T ∧ (∀ j, j ≠ 12 → w'.1 j = w.1 j) ∧ Ra (m.2 0) a' := by
  have G := X.1
  have Y := drop_GX X hto ho
  have hz32 := (hto.1 o ho).2.2
  refine ⟨_, _, K_dropAll_ok G.2.1 ho G.2.2.2.2.1 G.2.2.2.2.2 G.l.1 hn, R_dropNow_ok G hto ho hn', GX_nt (k := 5) (x := o) (y := 0) Y (by omega) (by omega) (by omega), fun j hj => ?_, ?_⟩
  · rw [nt_1 hj, drw_1]
  · exact Ra.tr (fun i hi => drr_o G.2.1 ho (by omega) _ hz32) (Ra_wd Y.1.l.2 _)
end
