/-! A page comes, on both sides: the three roads. -/
section
variable {n n' : Nat} {m m' m1 w w' w1 w2 w0 kk k1 xx tt : bS} {z : Nat → Nat} {a b' : Nat → Int} {o p f s N k i h g j T b c M x y q : Nat} {t v : Int}
theorem Kb.th (K : Kb w w') : thr w' = thr w := by
  funext o p
  show bt (w'.2 6 o) p = bt (w.2 6 o) p
  rw [K.1 6 (by omega) (by omega) (by omega) (by omega)]
theorem Kc.kb (K : Kb w w1) (hf : ∀ o' q', o' < 4 → q' < 32 → thr w o' q' = true → frm w1 (32 * o' + q') = frm w (32 * o' + q')) (C : Kc w1 w2 o p) : Kc w w2 o p := by
  obtain ⟨c1, c2, c3, c4⟩ := C
  have ht := K.th
  refine ⟨fun j h3 h4 h5 h6 h8 h9 h10 => (c1 j h3 h4 h5 h6 h8 h9 h10).trans (K.1 j h3 h4 h5 h10), fun j h12 => (c2 j h12).trans (K.2 j h12), fun o' q' ho' hq' => ?_, fun o' q' ho' hq' th => ?_⟩
  · rw [c3 o' q' ho' hq', ht]
  · rw [c4 o' q' ho' hq' (by rw [ht]; exact th), hf o' q' ho' hq' th]
theorem frm_same (e3 : w'.2 3 = w.2 3) (e4 : w'.2 4 = w.2 4) : frm w' = frm w := by
  funext i
  unfold frm hom
  rw [hvs_same e3 e4, e3]
theorem fre_same (e4 : w'.2 4 = w.2 4) : fre w' = fre w := by
  funext M k
  unfold fre
  rw [cvs_same e4]
theorem bring_in (X : GX z w (m.2 0) T) (ho : o < 4) (hp : p < 32) (hth : thr w o p = false) (hs : s < 64) (hsl : slt w o p = s) (hz : p < z o) (k4 : kk.1 4 = 0) (k5 : kk.1 5 = (s : Int)) (k7 : kk.1 7 = -1) (hn : 100 ≤ n) (hn' : 100 ≤ n') : ∃ w' a', K_bringIn tt n (kk, w, xx) o p = some (0, (kk, w', xx)) ∧ R_comeNow n' m o p = some (0, bC m 0 a') ∧ GX z w' a' T ∧ Kc w w' o p ∧ Ra (m.2 0) a' := by
  obtain ⟨w', a', e1, e2, e3⟩ := come70_ok (tt := tt) (xx := xx) X ho hp hth hs hsl hz k5 hn hn'
  refine ⟨w', a', ?_, ?_, e3⟩
  · unfold K_bringIn K_bringIn_16
    dsimp only
    rw [if_pos k7, if_pos (by omega)]; exact e1
  · have : hvs w (32 * o + p) < 64 := by
      have : hvs w (32 * o + p) = s := hsl
      rw [this]; exact hs
    unfold R_comeNow
    rw [bb_s (R_pfr n' X.1 ho hp), if_pos this, if_neg (by omega)]; exact e2
theorem bring_free (X : GX z w (m.2 0) T) (ho : o < 4) (hp : p < 32) (hth : thr w o p = false) (hM : isN M) (hz : p - p % M + M ≤ z o) (hop : opn w o (p - p % M) M = true) (hl : lo w M < 64 / M) (k4 : kk.1 4 = (M : Int)) (k5 : kk.1 5 = ((lo w M * M : Nat) : Int)) (hn : 100 ≤ n) (hn' : 100 ≤ n') : ∃ w' a', K_bringIn_16 tt n (kk, w, xx) o p = some (0, (kk, w', xx)) ∧ R_comeNow_36 n' m o p M = some (0, bC m 0 a') ∧ GX z w' a' T ∧ Kc w w' o p ∧ Ra (m.2 0) a' := by
  have G := X.1
  have hl6 := lo_64 hM hl
  obtain ⟨r1, r2, r3, r4⟩ := blk_is hM hp
  have hfr : fre w M (lo w M) = true := (fs_spec (fre w M) (64 / M)).2 hl
  have hlf : R_lowestFree n' m M = some (((lo w M * M : Nat) : Int), m) := by
    rw [R_lowestFree_ok G.2.1 G.1.1 hM hn']
    show some ((if lo w M < 64 / M then ((lo w M * M : Nat) : Int) else -1), m) = _
    rw [if_pos hl]
  obtain ⟨w1, a1, q1, q2, q3, q4, q5, q6, q7⟩ := reserve_ok (tt := tt) (xx := xx) X hM hl6 (Nat.mul_mod_left _ _) (fre_iff.mp hfr) ho hp hz (opn_iff.mp hop) k4 k5 hn hn' hlf
  have X1 : GX z w1 ((bC m 0 a1).2 0) T := q3
  have th1 : thr w1 o p = false := by rw [q4.th]; exact hth
  obtain ⟨w2, a2, e1, e2, e3, e4, e5⟩ := come70_ok (tt := tt) (kk := kk) (xx := xx) (n := n) (n' := n') X1 ho hp th1 (show lo w M * M < 64 by have := (isN_r hM).1; omega) q6 (by omega) k5 hn hn'
  refine ⟨w2, a2, q1.trans e1, q2.trans (e2.trans ?_), e3, Kc.kb q4 q7 e4, Ra.tr q5 e5⟩
  rw [bC_C]
theorem bring_break (X : GX z w (m.2 0) T) (ho : o < 4) (hp : p < 32) (hth : thr w o p = false) (hM : isN M) (hz : p - p % M + M ≤ z o) (hop : opn w o (p - p % M) M = true) (hl : ¬ lo w M < 64 / M) (hs : s < 64) (h0 : 0 < spn w s) (hh : hld w s < spn w s) (hMN : M ≤ spn w s) (he : fs (emp w s M) (spn w s / M) < spn w s / M) (k4 : kk.1 4 = (M : Int)) (k5 : kk.1 5 = ((s + fs (emp w s M) (spn w s / M) * M : Nat) : Int)) (k7 : kk.1 7 = (s : Int)) (hn : 100 ≤ n) (hn' : 100 ≤ n') : ∃ w' a', K_bringIn tt n (kk, w, xx) o p = some (0, (kk, w', xx)) ∧ (bb (R_breakNow n' m s) fun _ s5 => R_comeNow_36 n' s5 o p M) = some (0, bC m 0 a') ∧ GX z w' a' T ∧ Kc w w' o p ∧ Ra (m.2 0) a' := by
  obtain ⟨R, I, T', J, hT, hT2⟩ := id X.1
  obtain ⟨w1, a1, b1, b2, b3, b4, b5, b6, b7⟩ := break_ok (tt := tt) (kk := kk) (xx := xx) (n := n) (n' := n') X hs h0 hh hn hn'
  have hno : ∀ k, k < 64 / M → fre w M k = false := fun k hk => (fs_spec (fre w M) (64 / M)).1 k (by have : lo w M = fs (fre w M) (64 / M) := rfl; omega)
  have low := bkn_low I R.1 hs h0 hM hMN hno he
  obtain ⟨_, _, _, _, hal⟩ := I.1 s hs
  obtain ⟨al, _⟩ := hal h0
  have hN := isN_of I hs h0
  have sM : s / M * M = s := by
    rcases hM with e | e | e <;> rcases hN with y | y | y <;> rw [e] at hMN ⊢ <;> rw [y] at hMN al <;> omega
  have lo1 : lo w1 M = s / M + fs (emp w s M) (spn w s / M) := by
    show fs (fre w1 M) (64 / M) = _
    rw [fre_same b7]; exact low
  have lof : lo w1 M * M = s + fs (emp w s M) (spn w s / M) * M := by rw [lo1, Nat.add_mul, sM]
  have lt : lo w1 M < 64 / M := by
    obtain ⟨a1, a2, a3⟩ := I.at hs h0
    have h1 : (fs (emp w s M) (spn w s / M) + 1) * M ≤ spn w s / M * M := Nat.mul_le_mul_right M (by omega)
    have h2 := Nat.div_mul_le_self (spn w s) M
    rw [Nat.add_mul, Nat.one_mul] at h1
    have : lo w1 M * M + M ≤ 64 := by rw [lof]; omega
    rcases hM with e | e | e <;> subst e <;> omega
  have X1 : GX z w1 ((bC m 0 a1).2 0) T := b3
  have th1 : thr w1 o p = false := by rw [b4.th]; exact hth
  have op1 : opn w1 o (p - p % M) M = true := opn_iff.mpr (fun t ht hc => by
    rw [hvs_same b6 b7] at hc
    obtain ⟨g, g1, g2⟩ := hvs_iff.mp hc
    exact bkn_H hs h0 (hvs_no (opn_iff.mp hop t ht)) g g1 g2)
  obtain ⟨w2, a2, e1, e2, e3, e4, e5⟩ := bring_free (tt := tt) (kk := kk) (xx := xx) (n := n) (n' := n') X1 ho hp th1 hM hz op1 lt k4 (by rw [lof]; exact k5) hn hn'
  have fr1 : ∀ o' q', o' < 4 → q' < 32 → thr w o' q' = true → frm w1 (32 * o' + q') = frm w (32 * o' + q') := fun o' q' ho' hq' th => by
    rw [frm_same b6 b7]; exact bkn_frm I R.1 T' hs h0 ho' hq' th
  refine ⟨w2, a2, ?_, (bb_s b2).trans (e2.trans (by rw [bC_C])), e3, Kc.kb b4 fr1 e4, Ra.tr b5 e5⟩
  unfold K_bringIn
  dsimp only
  rw [k7, if_neg (by omega)]
  exact (bb_s b1).trans e1
end
