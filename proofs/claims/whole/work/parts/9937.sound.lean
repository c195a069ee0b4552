/-! All is sound. -/
section
variable {n n' B Kt T k j i o p f s M b N : Nat} {z zp : Nat → Nat} {c : Nat → bS} {U : bH} {m w tt kk xx m' : bS} {a : Nat → Int} {v a1 a2 a3 a4 a5 x y : Int} {T0 : bH}
theorem fb_in (I : IF w) (hs : s < 64) (hf : f < 64) (h : bT (ay_lshl (ay_W (ay_lshl 1 (w.2 4 s) - 1)) (s : Int)) f = true) : inF w f s := by
  by_cases e : inF w f s
  · exact e
  · obtain ⟨a1, a2, a3, a4, a5⟩ := I.1 s hs
    obtain ⟨b0, b1, b4, b16⟩ := fb_bits s hs f hf
    rw [a1] at h
    unfold inF at e
    rcases a3 with h0 | h0 | h0 | h0
    · rw [h0] at h
      exact absurd (b0.symm.trans h) (by decide)
    · rw [h0] at h e
      have := b1.symm.trans h
      exact absurd (of_decide_eq_true this) (by omega)
    · rw [h0] at h e
      have := b4.symm.trans h
      exact absurd (of_decide_eq_true this) (by omega)
    · rw [h0] at h e
      have := b16.symm.trans h
      exact absurd (of_decide_eq_true this) (by omega)
theorem apart4 (I : IF w) (d : Nat) : ∀ (s n : Nat), s + d = 64 → d < n → W_framesAreApart_4 n w (bz w s) (s : Int) = some (1, w) := by
  induction d with
  | zero =>
    intro s n hs hn
    obtain ⟨n, rfl⟩ : ∃ N, n = N + 1 := ⟨n - 1, by omega⟩
    rw [W_framesAreApart_4, if_pos (by omega)]
  | succ d ih =>
    intro s n hs hn
    obtain ⟨n, rfl⟩ : ∃ N, n = N + 1 := ⟨n - 1, by omega⟩
    have e : W_frameBits n w (s : Int) = some (ay_lshl (ay_W (ay_lshl 1 (w.2 4 s) - 1)) (s : Int), w) := by
      unfold W_frameBits
      rw [if_pos ⟨by omega, by omega⟩, Int.toNat_natCast]
    have hz : ay_cmp (ay_land (bz w s) (ay_lshl (ay_W (ay_lshl 1 (w.2 4 s) - 1)) (s : Int))) 0 = 0 := by
      rw [cmp_z, land_z]
      intro p hp h
      have hin := fb_in I (by omega) hp h
      cases g : bT (bz w s) p with
      | false => rfl
      | true =>
        obtain ⟨k, k1, k2⟩ := (bz_bits I hp s (by omega)).1 g
        have := I.2.1 p k s hp (by omega) (by omega) k2 hin
        omega
    rw [W_framesAreApart_4, if_neg (by omega), bb_s e, if_pos hz, wad1 (by omega)]
    exact ih (s + 1) n (by omega) (by omega)
theorem cvs_frm (I : IF w) (hi : i < 128) (h : hvs w i < 64) : frm w i < 64 ∧ cvs w (frm w i) = hvs w i := by
  have hin := frm_in h
  have hh := hvs_in h
  have h0 : 0 < spn w (hvs w i) := by
    have := hh.1; have := hh.2; omega
  have := I.at h h0
  have h1 := hin.2
  have hf : frm w i < 64 := by omega
  exact ⟨hf, cvs_eq I hf h hin⟩
theorem idf_frm (I : IF w) (ho : o < 4) (hp : p < 32) (h : hvs w (32 * o + p) < 64) (t : thr w o p = true) : idf w (frm w (32 * o + p)) = ((32 * o + p : Nat) : Int) := by
  obtain ⟨h1, h2⟩ := cvs_frm I (i := 32 * o + p) (by omega) h
  have hh := hvs_in h
  have a1 := hh.1
  have a2 := hh.2
  have at' := I.at h (by omega)
  have eo : hom w (hvs w (32 * o + p)) / 32 = o := by omega
  unfold idf ful pgs
  rw [h2, if_pos h, decide_eq_true h, Bool.true_and, eo]
  unfold frm
  have ep : hom w (hvs w (32 * o + p)) % 32 + (hvs w (32 * o + p) + (32 * o + p - hom w (hvs w (32 * o + p))) - hvs w (32 * o + p)) = p := by omega
  rw [ep, if_pos t]
  have eq : hom w (hvs w (32 * o + p)) + (hvs w (32 * o + p) + (32 * o + p - hom w (hvs w (32 * o + p))) - hvs w (32 * o + p)) = 32 * o + p := by omega
  rw [eq]
theorem lvl_cases (hI : IL w) (ho : o < 4) (hp : p < 32) (t : thr w o p = true) : lvl w o p = 1 ∨ (lvl w o p = 4 ∧ fou w o p = true) ∨ (lvl w o p = 16 ∧ six w o p = true) := by
  unfold lvl
  rw [t]
  cases six w o p <;> cases fou w o p <;> simp
theorem lvl_f (hI : IL w) (ho : o < 4) (hp : p < 32) (h : fou w o p = true) : lvl w o p = 4 := by
  obtain ⟨h1, h2, _⟩ := (hI o p ho hp).2.1 h
  unfold lvl
  rw [h1, h2, h]; rfl
theorem lvl_s (hI : IL w) (ho : o < 4) (hp : p < 32) (h : six w o p = true) : lvl w o p = 16 := by
  obtain ⟨h1, _⟩ := (hI o p ho hp).2.2 h
  unfold lvl
  rw [h1, h]; rfl
theorem and_bk (hM : isN M) (hp : p < 32) (h : ∀ q, p - p % M ≤ q → q < p - p % M + M → q < 32 → bt x q = true) : ay_and x (bk p M) = bk p M := by
  refine bt_ext (ay_and_ok _ _) ?_ fun q hq => ?_
  · unfold bk
    exact ⟨Int32.le_toInt _, Int32.toInt_lt _⟩
  · rw [bt_and, bk_bt hM hp hq]
    by_cases e : p - p % M ≤ q ∧ q < p - p % M + M
    · rw [h q e.1 e.2 hq, Bool.true_and]
    · rw [decide_eq_false e, Bool.and_false]
theorem W_isSound_ok (X : GX z w (m.2 0) T) (ho : o < 4) (hp : p < 32) (hn : 70 ≤ n) : W_isSound n w (o : Int) (p : Int) = some (1, w) := by
  have hI := X.1.2.2.2.1
  have I := X.1.2.1
  unfold W_isSound
  rw [bb_s (W_levelOf_ok _ _ ho hp)]
  by_cases l0 : lvl w o p = 0
  · rw [l0, if_pos (by decide)]
  have t := lvl_t (show 0 < lvl w o p by omega)
  have hv := X.1.2.2.1 o p ho hp t
  obtain ⟨f1, f2⟩ := cvs_frm I (i := 32 * o + p) (by omega) hv
  rw [if_neg (by omega), bb_s (W_frameOf_frm I X.1.2.2.1 ho hp t (by omega)), if_neg (by omega), bb_s (W_inFrame_ok I f1 (by omega)), idf_frm I ho hp hv t, wix ho hp, if_pos rfl]
  rcases lvl_cases hI ho hp t with h | ⟨h, h'⟩ | ⟨h, h'⟩
  · rw [h, if_pos (by decide)]
  · obtain ⟨_, _, g1, g2⟩ := (hI o p ho hp).2.1 h'
    have hb := hvs_in hv
    have eb : P_blockBits n (p : Int) ((4 : Nat) : Int) = some (bk p 4) := P_blockBits_ok _ (Or.inr (Or.inl rfl)) hp
    rw [h, if_neg (by decide), bb_s (W_slotOf_ok I ho hp (by omega)), if_pos hv, b1_s eb, if_pos (show ((4 : Nat) : Int) = 4 from rfl), if_pos ⟨by omega, by omega⟩, Int.toNat_natCast]
    unfold W_isSound_86
    have eu : un (w.2 7 o) (p - p % 4) 4 = true := un_iff.2 fun q q1 q2 => by
      have d1 := (g2 q (by omega) (by omega)).2
      have d2 := (g2 (p - p % 4) (by omega) (by omega)).2
      exact d1.trans d2.symm
    have hs4 : w.2 4 (hvs w (32 * o + p)) = (spn w (hvs w (32 * o + p)) : Int) := (I.1 _ hv).1
    have g1' : 4 ≤ spn w (hvs w (32 * o + p)) := g1
    rw [if_pos ⟨by omega, by omega⟩, Int.toNat_natCast, hs4, if_neg (by omega), if_pos (and_bk (Or.inr (Or.inl rfl)) hp fun q q1 q2 q3 => (g2 q q3 (by omega)).1), if_pos ⟨by omega, by omega⟩, Int.toNat_natCast, b1_s (P_allOrNone_ok _ _ (Or.inr (Or.inl rfl)) hp), if_pos eu, if_neg (by decide)]
  · obtain ⟨_, g1, g2⟩ := (hI o p ho hp).2.2 h'
    have hb := hvs_in hv
    have eb : P_blockBits n (p : Int) ((16 : Nat) : Int) = some (bk p 16) := P_blockBits_ok _ (Or.inr (Or.inr rfl)) hp
    rw [h, if_neg (by decide), bb_s (W_slotOf_ok I ho hp (by omega)), if_pos hv, b1_s eb, if_neg (show ¬ ((16 : Nat) : Int) = 4 by decide), if_pos ⟨by omega, by omega⟩, Int.toNat_natCast]
    unfold W_isSound_86
    have eu : un (w.2 7 o) (p - p % 16) 16 = true := un_iff.2 fun q q1 q2 => by
      have d1 := (g2 q (by omega) (by omega)).2
      have d2 := (g2 (p - p % 16) (by omega) (by omega)).2
      exact d1.trans d2.symm
    have hs4 : w.2 4 (hvs w (32 * o + p)) = (spn w (hvs w (32 * o + p)) : Int) := (I.1 _ hv).1
    have g1' : 16 ≤ spn w (hvs w (32 * o + p)) := g1
    rw [if_pos ⟨by omega, by omega⟩, Int.toNat_natCast, hs4, if_neg (by omega), if_pos (and_bk (Or.inr (Or.inr rfl)) hp fun q q1 q2 q3 => (g2 q q3 (by omega)).1), if_pos ⟨by omega, by omega⟩, Int.toNat_natCast, b1_s (P_allOrNone_ok _ _ (Or.inr (Or.inr rfl)) hp), if_pos eu, if_neg (by decide)]
theorem fr0 (I : IF w) (F : RF w (m.2 0)) (hf : f < 64) (hc : cvs w f < 64) : m.2 0 (914 + 5 * f) = (cvs w f : Int) := by
  rcases F.1 f hf with ⟨s, s1, s2, s3⟩ | ⟨s1, _⟩
  · rw [s3, cvs_eq I hf s1 s2]
  · exact absurd (cvs_in hc) (s1 _ hc)
theorem fAt0 (hf : f < 64) (e : m.2 0 (914 + 5 * f) = v) : R_frameAt n m (f : Int) 0 = some (v, m) := by
  rw [R_frameAt_ok _ _ hf (by decide) (by decide)]
  exact congrArg (fun y => some (y, m)) e
theorem fAt3 (hf : f < 64) (e : m.2 0 (914 + 5 * f + 3) = v) : R_frameAt n m (f : Int) 3 = some (v, m) := by
  rw [R_frameAt_ok _ _ hf (by decide) (by decide)]
  exact congrArg (fun y => some (y, m)) e
theorem pAt0 (ho : o < 4) (hp : p < 32) (ei : 32 * o + p = i) (e : m.2 0 (18 + 7 * i) = v) : R_pageAt n m (o : Int) (p : Int) 0 = some (v, m) := by
  subst ei
  rw [R_pageAt_ok _ _ ho hp (by decide) (by decide)]
  exact congrArg (fun y => some (y, m)) e
theorem R_isFrameSound_ok (X : GX z w (m.2 0) T) (hf : f < 64) : R_isFrameSound n m (f : Int) = some (1, m) := by
  have I := X.1.2.1
  have F := X.1.1.1
  unfold R_isFrameSound
  rw [bb_s (R_isFree_cv _ I F hf)]
  by_cases hc : cvs w f < 64
  · have hin := cvs_in hc
    have b1 := hin.1; have b2 := hin.2
    have h0 : 0 < spn w (cvs w f) := by omega
    have at' := I.at hc h0
    obtain ⟨q1, q2, q3, q4⟩ := F.2.1 _ hc h0
    have e0 := fr0 I F hf hc
    have ecc : cvs w (cvs w f) = cvs w f := cvs_eq I hc hc ⟨Nat.le_refl _, by omega⟩
    have e1 := fr0 I F hc (by rw [ecc]; exact hc)
    rw [ecc] at e1
    have r0 : R_frameAt n m (f : Int) 0 = some ((cvs w f : Int), m) := fAt0 hf e0
    have r1 : R_frameAt n m (cvs w f : Int) 0 = some ((cvs w f : Int), m) := fAt0 hc e1
    have r3 : R_frameAt n m (cvs w f : Int) 3 = some ((spn w (cvs w f) : Int), m) := fAt3 hc q3
    have w1 : ay_w (((cvs w f + spn w (cvs w f) : Nat) : Int) - 1) = ((cvs w f + spn w (cvs w f) : Nat) : Int) - 1 := ay_wi (by omega) (by omega)
    have hh : hom w (cvs w f) < 128 := by omega
    have rp : R_pageAt n m ((hom w (cvs w f) / 32 : Nat) : Int) ((hom w (cvs w f) % 32 + (f - cvs w f) : Nat) : Int) 0 = some ((f : Int), m) := by
      clear w1
      have ei : 32 * (hom w (cvs w f) / 32) + (hom w (cvs w f) % 32 + (f - cvs w f)) = hom w (cvs w f) + (f - cvs w f) := by omega
      refine pAt0 (by omega) (by omega) ei ?_
      have hi : inH w (hom w (cvs w f) + (f - cvs w f)) (cvs w f) := ⟨by omega, by omega⟩
      rcases F.2.2 (hom w (cvs w f) + (f - cvs w f)) (by omega) with ⟨s, s1, s2, s3⟩ | ⟨s1, _⟩
      · have := I.2.2 _ s (cvs w f) (by omega) s1 hc s2 hi
        rw [s3, this]
        omega
      · exact absurd hi (s1 _ hc)
    rw [if_pos hc, if_pos rfl, bb_s r0, bb_s r1, if_pos rfl, bb_s r3, wadd (by clear w1; omega), w1, b1_s (R_isIn_ok _ _ _ _), if_pos (show (cvs w f : Int) ≤ (f : Int) ∧ (f : Int) ≤ ((cvs w f + spn w (cvs w f) : Nat) : Int) - 1 by clear w1; omega), if_neg (by decide), bb_s (R_ownerOf_ok _ _ hf hc e0), q1, bb_s (R_pageIn_ok _ _ hf hc e0 q2 (by clear w1; omega) b1), bb_s rp, if_pos rfl]
  · rw [if_neg hc, if_neg (by decide)]
theorem isKind4 : R_isKind n ((4 : Nat) : Int) = some 1 := by unfold R_isKind; rw [if_neg (by decide), if_pos (by decide)]
theorem isKind16 : R_isKind n ((16 : Nat) : Int) = some 1 := by unfold R_isKind; rw [if_neg (by decide), if_neg (by decide), if_pos (by decide)]
theorem R_isPageSound_ok (X : GX z w (m.2 0) T) (ho : o < 4) (hp : p < 32) (hn : 20 ≤ n) : R_isPageSound n m (o : Int) (p : Int) = some (1, m) := by
  have hI := X.1.2.2.2.1
  have I := X.1.2.1
  have F := X.1.1.1
  have P := X.1.1.2.1
  unfold R_isPageSound
  rw [bb_s (R_isThere_ok _ P ho hp)]
  by_cases t : thr w o p = true
  · have hv := X.1.2.2.1 o p ho hp t
    obtain ⟨f1, f2⟩ := cvs_frm I (i := 32 * o + p) (by omega) hv
    have hc : cvs w (frm w (32 * o + p)) < 64 := by rw [f2]; exact hv
    have hb := hvs_in hv
    have a1 := hb.1
    have a2 := hb.2
    have at' := I.at hv (by omega)
    obtain ⟨q1, q2, q3, q4⟩ := F.2.1 _ hv (by omega)
    have e0 := fr0 I F f1 hc
    rw [f2] at e0
    have hin := frm_in hv
    have eo : ((hom w (hvs w (32 * o + p)) / 32 : Nat) : Int) = (o : Int) := by omega
    have ep : ((hom w (hvs w (32 * o + p)) % 32 + (frm w (32 * o + p) - hvs w (32 * o + p)) : Nat) : Int) = (p : Int) := by
      unfold frm
      omega
    rw [if_pos t, if_neg (by decide), bb_s (R_pfr _ X.1 ho hp), if_pos hv, if_neg (by omega), bb_s (R_isFree_cv _ I F f1), if_pos hc, if_pos rfl, bb_s (R_ownerOf_ok _ _ f1 hv e0), q1, if_pos eo, bb_s (R_pageIn_ok _ _ f1 hv e0 q2 (by omega) hin.1), if_pos ep, bb_s (R_levelOf_ok _ P ho hp)]
    rcases lvl_cases hI ho hp t with h | ⟨h, h'⟩ | ⟨h, h'⟩
    · rw [h, if_pos (by decide)]
    · obtain ⟨_, _, g1, g2⟩ := (hI o p ho hp).2.1 h'
      have er : ay_rem (p : Int) ((4 : Nat) : Int) = ((p % 4 : Nat) : Int) := by rw [ay_rn' (by omega) (by omega) (by omega) (by omega)]; rfl
      have ew : ay_w ((p : Int) - ((p % 4 : Nat) : Int)) = ((p - p % 4 : Nat) : Int) := by
        clear er
        rw [ay_wi (by omega) (by omega)]; omega
      have gb := g2 (p - p % 4) (by clear er ew; omega) (by clear er ew; omega)
      obtain ⟨tb, _, sb, _⟩ := (hI o (p - p % 4) ho (by clear er ew; omega)).2.1 gb.1
      have ev : evn w o (p - p % 4) 4 4 = true := evn_iff.2 fun q q1 q2 => by
        clear er ew
        have gq := g2 q (by omega) (by omega)
        obtain ⟨tq, _⟩ := (hI o q ho (by omega)).2.1 gq.1
        exact ⟨tq, lvl_f hI ho (by omega) gq.1, gq.2.trans gb.2.symm⟩
      have hE := R_isEven_ok (n := n) (m := m) (b := p - p % 4) (N := 4) (L := 4) I F P ho (by clear er ew; omega) (by decide) hn (by decide)
      rw [if_pos ⟨⟨X.1.2.2.1 o _ ho (by clear er ew; omega) tb, sb⟩, ev⟩] at hE
      rw [h, if_neg (by decide), b1_s isKind4, if_neg (by decide), if_neg (by decide), er, ew, bb_s hE, if_neg (by decide)]
    · obtain ⟨_, g1, g2⟩ := (hI o p ho hp).2.2 h'
      have er : ay_rem (p : Int) ((16 : Nat) : Int) = ((p % 16 : Nat) : Int) := by rw [ay_rn' (by omega) (by omega) (by omega) (by omega)]; rfl
      have ew : ay_w ((p : Int) - ((p % 16 : Nat) : Int)) = ((p - p % 16 : Nat) : Int) := by
        clear er
        rw [ay_wi (by omega) (by omega)]; omega
      have gb := g2 (p - p % 16) (by clear er ew; omega) (by clear er ew; omega)
      obtain ⟨tb, sb, _⟩ := (hI o (p - p % 16) ho (by clear er ew; omega)).2.2 gb.1
      have ev : evn w o (p - p % 16) 16 16 = true := evn_iff.2 fun q q1 q2 => by
        clear er ew
        have gq := g2 q (by omega) (by omega)
        obtain ⟨tq, _⟩ := (hI o q ho (by omega)).2.2 gq.1
        exact ⟨tq, lvl_s hI ho (by omega) gq.1, gq.2.trans gb.2.symm⟩
      have hE := R_isEven_ok (n := n) (m := m) (b := p - p % 16) (N := 16) (L := 16) I F P ho (by clear er ew; omega) (by decide) hn (by decide)
      rw [if_pos ⟨⟨X.1.2.2.1 o _ ho (by clear er ew; omega) tb, sb⟩, ev⟩] at hE
      rw [h, if_neg (by decide), b1_s isKind16, if_neg (by decide), if_neg (by decide), er, ew, bb_s hE, if_neg (by decide)]
  · rw [if_neg t, if_pos rfl]
theorem psound27 (X : GX z (c 0) (m.2 0) T) (O : TO z (c 1) (m.2 0)) (ho : o < 4) {K : pS → Int → Option (Int × pS)} (d : Nat) : ∀ (k n : Nat), k + d = z o → 70 + d < n → P_sound_27 K n (c, T0) (o : Int) (k : Int) = K (c, T0) ((o + 1 : Nat) : Int) := by
  obtain ⟨O1, O2, O3⟩ := O.1 o ho
  induction d with
  | zero =>
    intro k n hk hn
    obtain ⟨n, rfl⟩ : ∃ N, n = N + 1 := ⟨n - 1, by omega⟩
    rw [P_sound_27, if_pos ⟨by omega, by omega⟩, Int.toNat_natCast, O1, if_pos (by omega), wad1 (by omega)]
  | succ d ih =>
    intro k n hk hn
    obtain ⟨n, rfl⟩ : ∃ N, n = N + 1 := ⟨n - 1, by omega⟩
    rw [P_sound_27, if_pos ⟨by omega, by omega⟩, Int.toNat_natCast, O1, if_neg (by omega), bb_s (W_isSound_ok X ho (by omega) (by omega)), if_neg (by decide), wad1 (by omega)]
    dsimp only
    rw [bU_id]
    exact ih (k + 1) n (by omega) (by omega)
theorem rsound38 (X : GX z w (m.2 0) T) (O : TO z tt (m.2 0)) (ho : o < 4) {K : bS → Int → Option (Int × bS)} (d : Nat) : ∀ (k n : Nat), k + d = z o → 70 + d < n → R_sound_38 K n m (o : Int) (k : Int) = K m ((o + 1 : Nat) : Int) := by
  obtain ⟨O1, O2, O3⟩ := O.1 o ho
  induction d with
  | zero =>
    intro k n hk hn
    obtain ⟨n, rfl⟩ : ∃ N, n = N + 1 := ⟨n - 1, by omega⟩
    rw [R_sound_38, w6o (by omega), if_pos ⟨by omega, by omega⟩, Int.toNat_natCast, O2, if_pos (by omega), wad1 (by omega)]
  | succ d ih =>
    intro k n hk hn
    obtain ⟨n, rfl⟩ : ∃ N, n = N + 1 := ⟨n - 1, by omega⟩
    rw [R_sound_38, w6o (by omega), if_pos ⟨by omega, by omega⟩, Int.toNat_natCast, O2, if_neg (by omega), bb_s (R_isPageSound_ok X ho (by omega) (by omega)), if_neg (by decide), wad1 (by omega)]
    exact ih (k + 1) n (by omega) (by omega)
theorem psound14 {q : Nat} (X : GX z (c 0) (m.2 0) T) (O : TO z (c 1) (m.2 0)) (q4 : q ≤ 4) (h1 : (c 1).1 4 = (q : Int)) (d : Nat) : ∀ (o n : Nat), o + d = q → 110 + d < n → P_sound_14 n (c, T0) (o : Int) = some (1, (c, T0)) := by
  induction d with
  | zero =>
    intro o n ho hn
    obtain ⟨n, rfl⟩ : ∃ N, n = N + 1 := ⟨n - 1, by omega⟩
    rw [P_sound_14]; dsimp only; rw [h1, if_pos (by omega)]
  | succ d ih =>
    intro o n ho hn
    obtain ⟨n, rfl⟩ : ∃ N, n = N + 1 := ⟨n - 1, by omega⟩
    have O3 := (O.1 o (by omega)).2.2
    rw [P_sound_14]; dsimp only; rw [h1, if_neg (by omega)]
    exact (psound27 (K := fun s l1 => P_sound_14 n s l1) X O (by omega) (z o) 0 n (by omega) (by omega)).trans (ih (o + 1) n (by omega) (by omega))
theorem rsound26 {q : Nat} (X : GX z w (m.2 0) T) (O : TO z tt (m.2 0)) (q4 : q ≤ 4) (h2 : m.2 0 0 = (q : Int)) (d : Nat) : ∀ (o n : Nat), o + d = q → 110 + d < n → R_sound_26 n m (o : Int) = some (1, m) := by
  induction d with
  | zero =>
    intro o n ho hn
    obtain ⟨n, rfl⟩ : ∃ N, n = N + 1 := ⟨n - 1, by omega⟩
    rw [R_sound_26, h2, if_pos (by omega)]
  | succ d ih =>
    intro o n ho hn
    obtain ⟨n, rfl⟩ : ∃ N, n = N + 1 := ⟨n - 1, by omega⟩
    have O3 := (O.1 o (by omega)).2.2
    rw [R_sound_26, h2, if_neg (by omega)]
    exact (rsound38 (K := fun s l1 => R_sound_26 n s l1) X O (by omega) (z o) 0 n (by omega) (by omega)).trans (ih (o + 1) n (by omega) (by omega))
theorem rsound2 {q : Nat} (X : GX z w (m.2 0) T) (O : TO z tt (m.2 0)) (q4 : q ≤ 4) (h2 : m.2 0 0 = (q : Int)) (d : Nat) : ∀ (f n : Nat), f + d = 64 → 200 + d < n → R_sound_2 n m (f : Int) = some (1, m) := by
  induction d with
  | zero =>
    intro f n hf hn
    obtain ⟨n, rfl⟩ : ∃ N, n = N + 1 := ⟨n - 1, by omega⟩
    rw [R_sound_2, if_pos (by omega)]
    exact rsound26 X O q4 h2 q 0 n (by omega) (by omega)
  | succ d ih =>
    intro f n hf hn
    obtain ⟨n, rfl⟩ : ∃ N, n = N + 1 := ⟨n - 1, by omega⟩
    rw [R_sound_2, if_neg (by omega), bb_s (R_isFrameSound_ok X (by omega)), if_neg (by decide), wad1 (by omega)]
    exact ih (f + 1) n (by omega) (by omega)
theorem L_sound (H : GI z zp B Kt c U m) : ∃ c' U' m', LStep 37 c U m a1 a2 a3 a4 a5 c' U' m' ∧ NX1 B Kt c' U' m' := by
  obtain ⟨T, X, hst, hT⟩ := H.1.1
  obtain ⟨O1, q, q1, q2, q3, q4, q5⟩ := H.1.2.1
  have eA : W_framesAreApart 300 (c 0) = some (1, c 0) := apart4 X.1.2.1 64 0 300 (by omega) (by omega)
  refine ⟨c, U, m, ⟨300, 300, 1, ?_, rsound2 X H.1.2.1 q1 q3 64 0 300 (by omega) (by omega)⟩, NX1_s H⟩
  unfold P_sound
  rw [bb_s eA, if_neg (by decide), bU_id]
  exact psound14 X H.1.2.1 q1 q2 q 0 300 (by omega) (by omega)
end
