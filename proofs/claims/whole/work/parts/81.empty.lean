/-! Emptying, on both sides. -/
/-- what begins at g has a frame of the block -/
def ovl (w : bS) (b M g : Nat) : Prop := 0 < spn w g ∧ g < b + M ∧ b < g + spn w g
section
variable {n n' : Nat} {m m' m1 w w' w1 w2 w0 kk k1 xx tt tx : bS} {z : Nat → Nat} {a b' : Nat → Int} {o p f s N k i h g j T b c M q : Nat} {t v x : Int}
theorem K_eo_skip (I : IF w) (hk : k < 64) (hb : b + M ≤ 64) (ho : ¬ ovl w b M k) (v : Int) : K_emptyOut_21 tt (n + 1) (kk, w, xx) M b v k = K_emptyOut_21 tt n (kk, w, xx) M b v ((k + 1 : Nat) : Int) := by
  obtain ⟨e4, _, hs4, _, _⟩ := I.1 k hk
  have hb64 : (0 : Int) ≤ (k : Int) ∧ (k : Int) < 64 := by omega
  unfold ovl at ho
  rw [K_emptyOut_21, if_neg (by omega), if_pos hb64, Int.toNat_natCast]
  dsimp only
  rw [e4, wad1 (by omega), wadd (x := b) (y := M) (by omega), wadd (x := k) (y := spn w k) (by omega)]
  by_cases h0 : 0 < spn w k
  · rw [if_neg (by omega)]
    by_cases h1 : k < b + M
    · rw [if_neg (by omega), if_pos hb64, if_pos (by omega)]
    · rw [if_pos (by omega)]
  · rw [if_pos (by omega)]
theorem K_eo_hit (I : IF w) (hk : k < 64) (hb : b + M ≤ 64) (ho : ovl w b M k) (hc : c ≤ 16 * k) (hn : 100 ≤ n) : K_emptyOut_21 tt (n + 1) (kk, w, xx) M b c k = K_emptyOut_21 tt n (kk, dwf w k b M, xx) M b ((c + cn (lev w k b M) (spn w k) : Nat) : Int) ((k + 1 : Nat) : Int) ∧ c + cn (lev w k b M) (spn w k) ≤ 16 * (k + 1) := by
  obtain ⟨e4, _, hs4, _, _⟩ := I.1 k hk
  obtain ⟨h0, h1, h2⟩ := ho
  have hcl := cn_le (lev w k b M) (spn w k)
  have hb64 : (0 : Int) ≤ (k : Int) ∧ (k : Int) < 64 := by omega
  refine ⟨?_, by omega⟩
  rw [K_emptyOut_21, if_neg (by omega), if_pos hb64, Int.toNat_natCast]
  dsimp only
  rw [e4, wad1 (by omega), wadd (x := b) (y := M) (by omega), wadd (x := k) (y := spn w k) (by omega), if_neg (by omega), if_neg (by omega), if_pos hb64, if_neg (by omega)]
  refine (bb_s (K_dissolve_ok I hk h0 hb hn)).trans ?_
  rw [wadd (by omega)]
theorem K_eo_skips (I : IF w) (hb : b + M ≤ 64) (v : Int) : ∀ (d k n e : Nat), k + d = e → e ≤ 64 → (∀ g, k ≤ g → g < e → ¬ ovl w b M g) → K_emptyOut_21 tt (n + d) (kk, w, xx) M b v k = K_emptyOut_21 tt n (kk, w, xx) M b v e
  | 0, k, n, e, h1, h2, h3 => by rw [show e = k by omega]; rfl
  | d + 1, k, n, e, h1, h2, h3 => by
    rw [show n + (d + 1) = n + d + 1 from rfl, K_eo_skip I (by omega) hb (h3 k (by omega) (by omega)) v]
    exact K_eo_skips I hb v d (k + 1) n e (by omega) h2 (fun g a b => h3 g (by omega) b)
theorem R_en_skip (I : IF w) (HF : RF w (m.2 0)) (hf : f < b + M) (hb : b + M ≤ 64) (ho : ¬ cvs w f < 64) (v : Int) : R_emptyNow_11 (n + 1) m M b v f = R_emptyNow_11 n m M b v ((f + 1 : Nat) : Int) := by
  rw [R_emptyNow_11, wadd (x := b) (y := M) (by omega), if_neg (by omega), bb_s (R_isFree_cv n I HF (by omega)), if_neg ho, if_neg (by decide), wad1 (by omega)]
theorem R_en_hit (I : IF w) (HF : RF w (m.2 0)) (HP : RP w (m.2 0)) (hf : f < b + M) (hM : 0 < M) (hb : b + M ≤ 64) (hs : s < 64) (hc : cvs w f = s) (hcc : c ≤ 1024) (hn : 100 ≤ n) : R_emptyNow_11 (n + 1) m M b c f = R_emptyNow_11 n (bC m 0 (und w s b M (m.2 0) (spn w s))) M b ((c + cn (lev w s b M) (spn w s) : Nat) : Int) ((f + 1 : Nat) : Int) := by
  have hin : inF w f s := by rw [← hc]; exact cvs_in (by rw [hc]; exact hs)
  have h0 := (I.in hs hin).1
  have h16 := (isN_r (isN_of I hs h0)).2
  have hcl := cn_le (lev w s b M) (spn w s)
  have fa : R_frameAt n m f 0 = some ((s : Int), m) := by
    rw [R_frameAt_ok n m (by omega) (by omega) (by omega), show (0 : Int).toNat = 0 from rfl, Nat.add_zero, RF.fst I HF (by omega), hc, if_pos hs]
  rw [R_emptyNow_11, wadd (x := b) (y := M) (by omega), if_neg (by omega), bb_s (R_isFree_cv n I HF (by omega)), hc, if_pos hs, if_pos rfl, bb_s fa, bb_s (R_undoFrames_ok I HF HP hs h0 hb hM hn), wadd (by omega), wad1 (by omega)]
theorem R_en_skips (I : IF w) (HF : RF w (m.2 0)) (hb : b + M ≤ 64) (v : Int) : ∀ (d f n : Nat), f + d = b + M → (∀ g, f ≤ g → g < b + M → ¬ cvs w g < 64) → R_emptyNow_11 (n + d) m M b v f = R_emptyNow_11 n m M b v ((b + M : Nat) : Int)
  | 0, f, n, h1, h2 => by rw [show f = b + M by omega]; rfl
  | d + 1, f, n, h1, h2 => by
    rw [show n + (d + 1) = n + d + 1 from rfl, R_en_skip I HF (by omega) hb (h2 f (by omega) (by omega)) v]
    exact R_en_skips I HF hb v d (f + 1) n (by omega) (fun g a b => h2 g (by omega) b)
/-- the ends of the two loops -/
theorem eo_end (X : GX z w (m.2 0) T) (hM : isN M) (hb : b + M ≤ 64) (v : Int) (hn' : 26 ≤ n') : ∃ w' a', K_emptyOut_21 tt (n + 1) (kk, w, xx) M b v ((64 : Nat) : Int) = some (v, (kk, w', xx)) ∧ R_emptyNow_11 (n' + 1) m M b v ((b + M : Nat) : Int) = some (v, bC m 0 a') ∧ GX z w' a' T ∧ Kp w w' ∧ Ra (m.2 0) a' := by
  obtain ⟨hM0, hM16⟩ := isN_r hM
  have G := X.1
  refine ⟨_, _, ?_, ?_, GX_nt (k := 4) (x := b) (y := M) X (by omega) (by omega) (by omega), Kp_nt, Ra_wd G.l.2 _⟩
  · rw [K_emptyOut_21, if_pos (by omega)]
    exact bb_s (W_note_ok (k := 4) n G.2.2.2.2.2 (by omega) (by omega) (by omega) G.l.1 G.2.2.2.2.1)
  · rw [R_emptyNow_11, wadd (x := b) (y := M) (by omega), if_pos (Int.le_refl _)]
    exact bb_s (R_writeDown_ok (k := 4) G.2.2.2.2.2 (by omega) (by omega) (by omega) G.l.2 G.tm hn')
/-- behind the undoing nothing of it has a frame of the block -/
theorem dwf_ovl (I : IF w) (hs : s < 64) (h0 : 0 < spn w s) (hg : g < 64) (ho : ovl (dwf w s b M) b M g) : g ≠ s ∧ ¬ (s ≤ g ∧ g < s + spn w s) ∧ ovl w b M g ∧ spn (dwf w s b M) g = spn w g := by
  obtain ⟨o1, o2, o3⟩ := ho
  rw [dwf_spn] at o1 o3
  by_cases y : (s ≤ g ∧ g < s + spn w s) ∧ kep w s b M (g - s) = true
  · exfalso
    rw [if_pos y] at o3
    have := y.2
    unfold kep at this
    rw [Bool.and_eq_true, show s + (g - s) = g by omega, decide_eq_true (show b ≤ g ∧ g < b + M by omega)] at this
    cases this.2
  · rw [if_neg y] at o1 o3
    by_cases e : g = s
    · rw [if_pos e] at o1; omega
    · rw [if_neg e] at o1 o3
      refine ⟨e, I.oth hs hg e o1, ⟨o1, o2, o3⟩, ?_⟩
      rw [dwf_spn, if_neg y, if_neg e]
theorem ovl_cv (hg : g < 64) (hf : b ≤ f ∧ f < b + M) (hin : inF w f g) : ovl w b M g := by
  have := hin.1
  have := hin.2
  exact ⟨by omega, by omega, by omega⟩
/-- step by step, where nothing has all of the block -/
theorem eo_lock (hM : isN M) (hb : b + M ≤ 64) (n n' : Nat) (hn : 100 ≤ n) (hn' : 100 ≤ n') : ∀ (d t : Nat) (w m : bS) (c : Nat), t + d = M → GX z w (m.2 0) T → c ≤ 16 * (b + t) → (∀ g, g < 64 → ovl w b M g → b + t ≤ g ∧ g + spn w g ≤ b + M) → ∃ w' a' c', K_emptyOut_21 tt (n + d) (kk, w, xx) M b c ((b + t : Nat) : Int) = K_emptyOut_21 tt n (kk, w', xx) M b ((c' : Nat) : Int) ((b + M : Nat) : Int) ∧ R_emptyNow_11 (n' + d) m M b c ((b + t : Nat) : Int) = R_emptyNow_11 n' (bC m 0 a') M b ((c' : Nat) : Int) ((b + M : Nat) : Int) ∧ GX z w' a' T ∧ w'.1 = w.1 ∧ (∀ i, (i < 18 ∨ 1234 ≤ i) → a' i = m.2 0 i)
  | 0, t, w, m, c, h1, X, h2, h3 => by
    rw [show t = M by omega]
    exact ⟨w, m.2 0, c, rfl, by rw [bC_id]; rfl, X, rfl, fun _ _ => rfl⟩
  | d + 1, t, w, m, c, h1, X, h2, h3 => by
    obtain ⟨R, I, T', J, hT, hT2⟩ := id X.1
    have hk : b + t < 64 := by omega
    have e1 : n + (d + 1) = n + d + 1 := rfl
    have e2 : n' + (d + 1) = n' + d + 1 := rfl
    rw [e1, e2]
    by_cases h0 : 0 < spn w (b + t)
    · have ho : ovl w b M (b + t) := ⟨h0, by omega, by omega⟩
      obtain ⟨_, h4⟩ := h3 (b + t) hk ho
      obtain ⟨k1, k2⟩ := K_eo_hit (tt := tt) (kk := kk) (xx := xx) (n := n + d) I hk hb ho h2 (by omega)
      have hcv : cvs w (b + t) = b + t := cvs_eq I hk hk ⟨Nat.le_refl _, by omega⟩
      have r1 := R_en_hit (n := n' + d) I R.1 R.2.1 (show b + t < b + M by omega) (isN_r hM).1 hb hk hcv (show c ≤ 1024 by omega) (by omega)
      obtain ⟨a1, a2, a3⟩ := I.at hk h0
      have Y : GX z (dwf w (b + t) b M) ((bC m 0 (und w (b + t) b M (m.2 0) (spn w (b + t)))).2 0) T := dwf_GX X hk h0
      have inv : ∀ g, g < 64 → ovl (dwf w (b + t) b M) b M g → b + (t + 1) ≤ g ∧ g + spn (dwf w (b + t) b M) g ≤ b + M := fun g hg og => by
        obtain ⟨q1, q2, q3, q4⟩ := dwf_ovl I hk h0 hg og
        obtain ⟨q5, q6⟩ := h3 g hg q3
        rw [q4]
        exact ⟨by omega, q6⟩
      obtain ⟨w', a', c', z1, z2, z3, z4, z5⟩ := eo_lock hM hb n n' hn hn' d (t + 1) _ _ (c + cn (lev w (b + t) b M) (spn w (b + t))) (by omega) Y (by rw [show b + (t + 1) = b + t + 1 from rfl]; exact k2) inv
      refine ⟨w', a', c', k1.trans z1, r1.trans (z2.trans (by rw [bC_C])), z3, z4.trans dwf_1, fun i hi => ?_⟩
      rw [z5 i hi]
      exact und_o hi a2 a1 _ (Nat.le_refl _)
    · have hno : ¬ ovl w b M (b + t) := fun q => h0 q.1
      have hcv : ¬ cvs w (b + t) < 64 := fun q => by
        have hin := cvs_in q
        obtain ⟨q1, q2⟩ := h3 _ q (ovl_cv q (by omega) hin)
        have q3 := hin.1
        have e : cvs w (b + t) = b + t := by omega
        rw [e] at hin
        have := hin.2
        omega
      rw [K_eo_skip I hk hb hno, R_en_skip I R.1 (by omega) hb hcv]
      refine eo_lock hM hb n n' hn hn' d (t + 1) w m c (by omega) X (by omega) (fun g hg og => ?_)
      obtain ⟨q1, q2⟩ := h3 g hg og
      refine ⟨?_, q2⟩
      by_cases e : g = b + t
      · rw [e] at og; exact absurd og.1 h0
      · omega
theorem eo_ok (X : GX z w (m.2 0) T) (hM : isN M) (hbM : b % M = 0) (hb : b + M ≤ 64) (hn : 400 ≤ n) (hn' : 400 ≤ n') : ∃ w' a' c, K_emptyOut_21 tt n (kk, w, xx) M b 0 0 = some (((c : Nat) : Int), (kk, w', xx)) ∧ R_emptyNow_11 n' m M b 0 b = some (((c : Nat) : Int), bC m 0 a') ∧ GX z w' a' T ∧ (∀ j, j ≠ 12 → w'.1 j = w.1 j) ∧ Ra (m.2 0) a' := by
  obtain ⟨R, I, T', J, hT, hT2⟩ := id X.1
  obtain ⟨hM0, hM16⟩ := isN_r hM
  by_cases cw : ∃ s, s < 64 ∧ s ≤ b ∧ b + M ≤ s + spn w s
  · obtain ⟨s, hs, s1, s2⟩ := cw
    have h0 : 0 < spn w s := by omega
    obtain ⟨a1, a2, a3⟩ := I.at hs h0
    have one : ∀ g, g < 64 → ovl w b M g → g = s := fun g hg og => by
      obtain ⟨o1, o2, o3⟩ := og
      by_cases y : g ≤ b
      · exact I.2.1 b g s (by omega) hg hs ⟨y, o3⟩ ⟨s1, by omega⟩
      · exact I.2.1 g g s hg hg hs ⟨Nat.le_refl _, by omega⟩ ⟨by omega, by omega⟩
    have none' : ∀ g, g < 64 → ¬ ovl (dwf w s b M) b M g := fun g hg og => by
      obtain ⟨q1, q2, q3, q4⟩ := dwf_ovl I hs h0 hg og
      exact q1 (one g hg q3)
    have Y : GX z (dwf w s b M) ((bC m 0 (und w s b M (m.2 0) (spn w s))).2 0) T := dwf_GX X hs h0
    have I' := Y.1.2.1
    obtain ⟨k1, _⟩ := K_eo_hit (tt := tt) (kk := kk) (xx := xx) (n := n - 1 - s) (c := 0) I hs hb ⟨h0, by omega, by omega⟩ (by omega) (by omega)
    have hcv : cvs w b = s := cvs_eq I (by omega) hs ⟨s1, by omega⟩
    have r1 := R_en_hit (n := n' - 1) (c := 0) I R.1 R.2.1 (show b < b + M by omega) hM0 hb hs hcv (by omega) (by omega)
    obtain ⟨w', a', z1, z2, z3, z4, z5⟩ := eo_end (tt := tt) (kk := kk) (xx := xx) (n := n - 65) (n' := n' - 1 - M) Y hM hb (((0 + cn (lev w s b M) (spn w s) : Nat) : Int)) (by omega)
    refine ⟨w', a', 0 + cn (lev w s b M) (spn w s), ?_, ?_, z3, fun j hj => (z4.2 j hj).trans (by rw [dwf_1]), Ra.tr (fun i hi => und_o (by omega) a2 a1 _ (Nat.le_refl _)) z5⟩
    · have q1 := K_eo_skips (tt := tt) (kk := kk) (xx := xx) I hb ((0 : Nat) : Int) s 0 (n - 1 - s + 1) s (by omega) (by omega) (fun g g1 g2 og => by have := one g (by omega) og; omega)
      have q2 := K_eo_skips (tt := tt) (kk := kk) (xx := xx) I' hb (((0 + cn (lev w s b M) (spn w s) : Nat) : Int)) (63 - s) (s + 1) (n - 65 + 1) 64 (by omega) (by omega) (fun g g1 g2 => none' g g2)
      rw [show n - 1 - s + 1 + s = n by omega] at q1
      rw [show n - 65 + 1 + (63 - s) = n - 1 - s by omega] at q2
      exact q1.trans (k1.trans (q2.trans z1))
    · have q2 := R_en_skips (m := bC m 0 (und w s b M (m.2 0) (spn w s))) I' Y.1.1.1 hb (((0 + cn (lev w s b M) (spn w s) : Nat) : Int)) (M - 1) (b + 1) (n' - 1 - M + 1) (by omega) (fun g g1 g2 q => none' _ q (ovl_cv q (by omega) (cvs_in q)))
      rw [show n' - 1 - M + 1 + (M - 1) = n' - 1 by omega] at q2
      rw [show n' = n' - 1 + 1 by omega]
      refine r1.trans (q2.trans (z2.trans ?_))
      rw [bC_C]
  · have ins : ∀ g, g < 64 → ovl w b M g → b + 0 ≤ g ∧ g + spn w g ≤ b + M := fun g hg og => by
      obtain ⟨o1, o2, o3⟩ := og
      obtain ⟨_, _, _, _, hal⟩ := I.1 g hg
      obtain ⟨al, _⟩ := hal o1
      have hN := isN_of I hg o1
      have nc : ¬ (g ≤ b ∧ b + M ≤ g + spn w g) := fun q => cw ⟨g, hg, q⟩
      rcases hM with e | e | e <;> rcases hN with y | y | y <;> rw [e] at hbM nc o2 ⊢ <;> rw [y] at al nc o3 ⊢ <;> omega
    obtain ⟨w1, a1, c1, z1, z2, z3, z4, z5⟩ := eo_lock (tt := tt) (kk := kk) (xx := xx) hM hb (n - b - M) (n' - M) (by omega) (by omega) M 0 w m 0 (by omega) X (by omega) ins
    have Y : GX z w1 ((bC m 0 a1).2 0) T := z3
    obtain ⟨w', a', y1, y2, y3, y4, y5⟩ := eo_end (tt := tt) (kk := kk) (xx := xx) (n := n - 65) (n' := n' - M - 1) Y hM hb ((c1 : Nat) : Int) (by omega)
    refine ⟨w', a', c1, ?_, ?_, y3, fun j hj => (y4.2 j hj).trans (by rw [z4]), Ra.tr (fun i hi => z5 i (by omega)) y5⟩
    · have q1 := K_eo_skips (tt := tt) (kk := kk) (xx := xx) I hb ((0 : Nat) : Int) b 0 (n - b) b (by omega) (by omega) (fun g g1 g2 og => by have := ins g (by omega) og; omega)
      have q2 := K_eo_skips (tt := tt) (kk := kk) (xx := xx) Y.1.2.1 hb ((c1 : Nat) : Int) (64 - (b + M)) (b + M) (n - 65 + 1) 64 (by omega) (by omega) (fun g g1 g2 og => by have := og.2.1; omega)
      rw [show n - b + b = n by omega] at q1
      rw [show n - 65 + 1 + (64 - (b + M)) = n - b - M by omega] at q2
      rw [show n - b - M + M = n - b by omega] at z1
      exact q1.trans (z1.trans (q2.trans y1))
    · rw [show n' - M + M = n' by omega] at z2
      rw [show n' - M - 1 + 1 = n' - M by omega] at y2
      refine z2.trans (y2.trans ?_)
      rw [bC_C]
theorem bst_in : ∀ k, (bst w M k).1 = -1 ∨ ∃ j, j < k ∧ (bst w M k).1 = ((j * M : Nat) : Int)
  | 0 => Or.inl rfl
  | k + 1 => by
    have e : bst w M (k + 1) = nxt w M k (bst w M k) := rfl
    rw [e]
    unfold nxt
    by_cases c : (fIn w (k * M) M = true ∧ fDr w (k * M) M = false) ∧ ((bst w M k).1 = -1 ∨ fUs w (k * M) M < (bst w M k).2)
    · rw [if_pos c]; exact Or.inr ⟨k, by omega, rfl⟩
    · rw [if_neg c]
      rcases bst_in k with h | ⟨j, h1, h2⟩
      · exact Or.inl h
      · exact Or.inr ⟨j, by omega, h2⟩
theorem empty_ok (X : GX z w (m.2 0) T) (hM : isN M) (hn : 400 ≤ n) (hn' : 400 ≤ n') : (K_emptyOut tt n (kk, w, xx) M = some (-1, (kk, w, xx)) ∧ R_nextEmptied n' m M = some (-1, m)) ∨ ∃ w' a' c v, K_emptyOut tt n (kk, w, xx) M = some (((c : Nat) : Int), (kk, w', xx)) ∧ R_nextEmptied n' m M = some (v, m) ∧ v ≠ -1 ∧ R_emptyNow n' m M = some (((c : Nat) : Int), bC m 0 a') ∧ GX z w' a' T ∧ (∀ j, j ≠ 12 → w'.1 j = w.1 j) ∧ Ra (m.2 0) a' := by
  obtain ⟨R, I, T', J, hT, hT2⟩ := id X.1
  have k1 := W_blockToEmpty_ok (n := n) I hM (by omega)
  have r1 := R_nextEmptied_ok (n := n') I R.1 R.2.1 X.2.1 hM (by omega)
  rcases bst_in (w := w) (M := M) (64 / M) with h | ⟨j, h1, h2⟩
  · left
    rw [h] at k1 r1
    refine ⟨?_, r1⟩
    unfold K_emptyOut
    dsimp only
    rw [bb_s k1, if_pos rfl]
  · right
    rw [h2] at k1 r1
    have hb : j * M + M ≤ 64 := by rcases hM with e | e | e <;> subst e <;> omega
    obtain ⟨w', a', c, z1, z2, z3⟩ := eo_ok (tt := tt) (kk := kk) (xx := xx) (b := j * M) X hM (Nat.mul_mod_left _ _) hb hn hn'
    refine ⟨w', a', c, ((j * M : Nat) : Int), ?_, r1, by omega, ?_, z3⟩
    · unfold K_emptyOut
      dsimp only
      rw [bb_s k1, if_neg (by omega)]; exact z1
    · unfold R_emptyNow
      rw [bb_s r1]; exact z2
end
