/-! Writes, sweeps, draws: all that holds, holds behind them. -/
section
variable {n n' : Nat} {m m' m0 m1 w w' w1 w2 w0 kk k1 xx tt tx : bS} {z : Nat → Nat} {a b' : Nat → Int} {o p f s N k i h g j T b c M q B : Nat} {t v x : Int}
theorem settle_GX (X : GX z w (m.2 0) T) (ho : o < 4) (hp : p < 32) (hth : thr w o p = true) (hn : 100 ≤ n) (hn' : 100 ≤ n') {fr : Int} (ht : R_touchNow n' m0 o p = some (fr, m)) : ∃ w' a', K_settle tt n (kk, w, xx) o p v = some (0, (kk, w', xx)) ∧ R_writeNow n' m0 o p v = some (fr, bC m 0 a') ∧ GX z w' a' T ∧ Ks w w' (32 * o + p) ∧ Ra (m.2 0) a' := by
  obtain ⟨G, U, V, S, Q, ⟨x1, x2, x3⟩, x4, x5⟩ := X
  obtain ⟨w', a', e1, e2, e3, e4, e5⟩ := settle_ok (tt := tt) (kk := kk) (xx := xx) (v := v) G ho hp hth hn hn' ht
  have e : ∀ j, j ≠ 0 → j ≠ 7 → j ≠ 8 → j ≠ 9 → j ≠ 10 → w'.2 j = w.2 j := e4.1
  have h6 : thr w' = thr w := by funext o p; unfold thr; rw [e 6 (by omega) (by omega) (by omega) (by omega) (by omega)]
  have hsp : spn w' = spn w := by funext s; unfold spn; rw [e 4 (by omega) (by omega) (by omega) (by omega) (by omega)]
  have hho : hom w' = hom w := by funext s; unfold hom; rw [e 3 (by omega) (by omega) (by omega) (by omega) (by omega)]
  refine ⟨w', a', e1, e2, ⟨e3, ?_, ?_, ?_, ?_, ⟨?_, ?_, ?_⟩, ?_, ?_⟩, e4, e5⟩
  · unfold IU; rw [e 2 (by omega) (by omega) (by omega) (by omega) (by omega)]; exact U
  · intro o' q' ho' hq' th
    rw [h6] at th
    have hne : 32 * o' + q' ≠ 32 * o + p := fun y => by
      have : o' = o ∧ q' = p := by omega
      rw [this.1, this.2, hth] at th; cases th
    rw [e4.2.2 _ hne, e 1 (by omega) (by omega) (by omega) (by omega) (by omega)]
    exact V o' q' ho' hq' th
  · unfold SZ; rw [h6, hsp, hho]; exact S
  · unfold IS; rw [hsp, e 5 (by omega) (by omega) (by omega) (by omega) (by omega)]; exact Q
  · rw [e4.2.1 15 (by omega), e5 11 (by omega)]; exact x1
  · rw [e4.2.1 16 (by omega), e5 12 (by omega)]; exact x2
  · rw [e4.2.1 17 (by omega), e5 13 (by omega)]; exact x3
  · rw [e5 11 (by omega)]; exact x4
  · rw [e5 12 (by omega)]; exact x5
theorem swp_2 (h1 : j ≠ 1) (h7 : j ≠ 7) : (swp w o v).2 j = w.2 j := by
  show (bif Nat.beq j 7 then _ else (bif Nat.beq j 1 then _ else w.2 j)) = w.2 j
  rw [nbeq h7, nbeq h1]; rfl
theorem sweep_GX (X : GX z w (m.2 0) T) (hto : TO z tt (m.2 0)) (ho : o < 4) (hn : 400 ≤ n) (hn' : 400 ≤ n') : ∃ w' a' v, K_sweepOut tt n (kk, w, xx) o = some (v, (kk, w', xx)) ∧ R_sweepNow n' m o = some (v, bC m 0 a') ∧ GX z w' a' T ∧ (∀ j, j ≠ 12 → j ≠ 17 → w'.1 j = w.1 j) ∧ (∀ i, (i < 10 ∨ 1259 ≤ i) ∨ (11 ≤ i ∧ i ≤ 12) ∨ (15 ≤ i ∧ i ≤ 17) → a' i = m.2 0 i) ∧ 0 ≤ v := by
  obtain ⟨G, U, V, S, Q, ⟨x1, x2, x3⟩, x4, x5⟩ := X
  obtain ⟨_, hZ, hZ32⟩ := hto.1 o ho
  obtain ⟨w', a', v, e1, e2, e3, e4, e5, e6, e7⟩ := sweep_ok (tt := tt) (kk := kk) (xx := xx) G ho hZ hZ32 (fun q hq h => S.1 o q ho hq h) x3 hn hn'
  have J := G.2.2.2.1
  have e : ∀ j, j ≠ 1 → j ≠ 7 → j ≠ 8 → j ≠ 9 → j ≠ 10 → w'.2 j = w.2 j := fun j h1 h7 h8 h9 h10 => (e5.1 j h8 h9 h10).trans (swp_2 h1 h7)
  have h6 : thr w' = thr w := by funext o p; unfold thr; rw [e 6 (by omega) (by omega) (by omega) (by omega) (by omega)]
  have hsp : spn w' = spn w := by funext s; unfold spn; rw [e 4 (by omega) (by omega) (by omega) (by omega) (by omega)]
  have hho : hom w' = hom w := by funext s; unfold hom; rw [e 3 (by omega) (by omega) (by omega) (by omega) (by omega)]
  have n1 : ∀ j, j ≠ 12 → j ≠ 17 → w'.1 j = w.1 j := fun j h12 h17 => by
    rw [e5.2 j h12]
    show (bif Nat.beq j 17 then _ else w.1 j) = w.1 j
    rw [nbeq h17]; rfl
  refine ⟨w', a', v, e1, e2, ⟨e3, ?_, ?_, ?_, ?_, ⟨?_, ?_, e4⟩, ?_, ?_⟩, n1, e6, e7⟩
  · unfold IU; rw [e 2 (by omega) (by omega) (by omega) (by omega) (by omega)]; exact U
  · intro o' q' ho' hq' th
    rw [h6] at th
    rw [e 0 (by omega) (by omega) (by omega) (by omega) (by omega), e5.1 1 (by omega) (by omega) (by omega), V o' q' ho' hq' th]
    show w.2 1 (32 * o' + q') = (if (32 * o ≤ 32 * o' + q' ∧ 32 * o' + q' < 32 * o + 32) ∧ drt w o (32 * o' + q' - 32 * o) = true then w.2 0 (32 * o' + q') else w.2 1 (32 * o' + q'))
    by_cases c : (32 * o ≤ 32 * o' + q' ∧ 32 * o' + q' < 32 * o + 32) ∧ drt w o (32 * o' + q' - 32 * o) = true
    · exfalso
      have eo : o' = o := by omega
      subst eo
      have := c.2
      rw [show 32 * o' + q' - 32 * o' = q' by omega] at this
      rw [(J o' q' ho' hq').1 this] at th
      cases th
    · rw [if_neg c]
  · unfold SZ; rw [h6, hsp, hho]; exact S
  · unfold IS; rw [hsp, e 5 (by omega) (by omega) (by omega) (by omega) (by omega)]; exact Q
  · rw [n1 15 (by omega) (by omega), e6 11 (by omega)]; exact x1
  · rw [n1 16 (by omega) (by omega), e6 12 (by omega)]; exact x2
  · rw [e6 11 (by omega)]; exact x4
  · rw [e6 12 (by omega)]; exact x5
/-- numbers of a world that hold no relation but those named -/
theorem GX_15 (X : GX z w a T) (hv : 0 ≤ v ∧ v < 31121) : GX z (bI w 15 v) (ay_u a 11 v) T := by
  obtain ⟨G, U, V, S, Q, ⟨x1, x2, x3⟩, x4, x5⟩ := X
  obtain ⟨R, I, T', J, hT, hT2⟩ := id G
  refine ⟨⟨⟨?_, ?_, ?_, ?_⟩, ?_, ?_, ?_, ?_, hT2⟩, U, V, S, Q, ⟨?_, ?_, ?_⟩, ?_, ?_⟩
  · exact RF_c (fun i h1 h2 => ay_ux (by omega)) (RF_eq rfl rfl rfl R.1)
  · exact RP_c (fun i h1 h2 => ay_ux (by omega)) R.2.1
  · exact RB_c (ay_ux (by omega)) (fun i h1 h2 => ay_ux (by omega)) (RB_w (bI_1 (by omega)) rfl R.2.2.1)
  · refine ⟨by rw [bI_1 (by omega), ay_ux (by omega)]; exact R.2.2.2.1, R.2.2.2.2.imp (fun H => RG_w (bI_1 (by omega)) rfl (RG_c (fun i h1 h2 => ay_ux (by omega)) H)) (fun H => by rw [bI_1 (by omega)]; exact H)⟩
  · exact IF_eq rfl rfl I
  · unfold IT
    rw [hvs_same (w' := bI w 15 v) (w := w) rfl rfl]
    exact T'
  · exact IL_same rfl rfl rfl rfl rfl rfl J
  · rw [bI_1 (by omega)]; exact hT
  · rw [bI_e, ay_ue]; exact Or.inl rfl
  · rw [bI_1 (by omega), ay_ux (by omega)]; exact x2
  · rw [bI_1 (by omega), ay_ux (by omega)]; exact x3
  · rw [ay_ue]; exact hv
  · rw [ay_ux (by omega)]; exact x5
theorem nxx_r (x : Int) : 0 ≤ nxx x ∧ nxx x < 31121 := ⟨Int.emod_nonneg _ (by omega), Int.emod_lt_of_pos _ (by omega)⟩
theorem nxx_i (hx : 0 ≤ x ∧ x < 31121) : ay_rem (ay_w (ay_w (x * 761) + 619)) 31121 = nxx x := by
  rw [ay_wi (x := x * 761) (by omega) (by omega), ay_wi (by omega) (by omega), ay_rn' (by omega) (by omega) (by omega) (by omega)]; rfl
theorem ay_lrn {x y : Int} (h1 : 0 ≤ x) (h2 : x < 9223372036854775808) (h3 : 0 < y) (h4 : y < 9223372036854775808) : ay_lrem x y = x % y := by
  unfold ay_lrem
  have a : 0 ≤ x / y := Int.ediv_nonneg h1 (by omega)
  have b : x / y ≤ x := Int.ediv_le_self y h1
  have e := Int.mul_ediv_add_emod x y
  have c := Int.emod_nonneg x (show y ≠ 0 by omega)
  have d := Int.emod_lt_of_pos x h3
  rw [td_nn h1, ay_Wi (x := x / y) (by omega) (by omega)]
  have f : x / y * y = x - x % y := by rw [Int.mul_comm]; omega
  rw [f, ay_Wi (x := x - x % y) (by omega) (by omega), ay_Wi (by omega) (by omega)]
  omega
theorem nxx_l (hx : 0 ≤ x ∧ x < 31121) : ay_w (ay_lrem (ay_W (ay_W (x * 761) + 619)) 31121) = nxx x := by
  rw [ay_Wi (x := x * 761) (by omega) (by omega), ay_Wi (by omega) (by omega), ay_lrn (by omega) (by omega) (by omega) (by omega)]
  have := nxx_r x
  exact ay_wi (by unfold nxx at this; omega) (by unfold nxx at this; omega)
/-- a draw, on both sides -/
theorem draw_ok (X : GX z w (m.2 0) T) (hx : w.1 15 = m.2 0 11) (hB : 0 < B) (hB2 : B < 1000) : ∃ w' a' v, v < B ∧ K_draw tt n (kk, w, xx) B = some (((v : Nat) : Int), (kk, w', xx)) ∧ R_drawnBy n' m B = some (((v : Nat) : Int), bC m 0 a') ∧ GX z w' a' T ∧ w'.2 = w.2 ∧ (∀ j, j ≠ 15 → w'.1 j = w.1 j) ∧ (∀ i, i ≠ 11 → a' i = m.2 0 i) ∧ w'.1 15 = a' 11 ∧ a' 11 = nxx (m.2 0 11) := by
  have Y := GX_15 X (nxx_r (m.2 0 11))
  obtain ⟨G, U, V, S, Q, ⟨x1, x2, x3⟩, x4, x5⟩ := X
  have ev : ay_rem (m.2 0 11) (B : Int) = (((m.2 0 11 % (B : Int)).toNat : Nat) : Int) := by
    rw [ay_rn' (by omega) (by omega) (by omega) (by omega), Int.toNat_of_nonneg (Int.emod_nonneg _ (by omega))]
  refine ⟨bI w 15 (nxx (m.2 0 11)), ay_u (m.2 0) 11 (nxx (m.2 0 11)), (m.2 0 11 % (B : Int)).toNat, ?_, ?_, ?_, Y, rfl, fun j hj => bI_1 hj, fun i hi => ay_ux hi, by rw [bI_e, ay_ue], ay_ue⟩
  · have := Int.emod_lt_of_pos (m.2 0 11) (show (0 : Int) < (B : Int) by omega)
    omega
  · unfold K_draw
    dsimp only
    rw [if_neg (by omega), if_neg (by omega), hx, nxx_i x4, ev]
  · unfold R_drawnBy R_anew
    rw [if_neg (by omega)]
    refine (bb_s (v := 0) (s := bC m 0 (ay_u (m.2 0) 11 (nxx (m.2 0 11)))) ?_).trans ?_
    · rw [nxx_l x4]; rfl
    · rw [ev]
end
