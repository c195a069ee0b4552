/-! What a write does behind its touch, on both sides. -/
section
variable {n n' : Nat} {m m0 w w' w1 kk xx tt : bS} {a b' : Nat → Int} {o p f s N k i h g j x y T b L q S : Nat} {t v : Int}
theorem RF_p (hj : 0 < j) (hj7 : j < 7) (hi : i < 128) (H : RF w a) : RF w (ay_u a (18 + 7 * i + j) v) := by
  refine ⟨fun f hf => ?_, fun s hs h0 => ?_, fun g hg => ?_⟩
  · rw [ay_ux (by omega)]; exact H.1 f hf
  · rw [ay_ux (by omega), ay_ux (by omega), ay_ux (by omega), ay_ux (by omega)]; exact H.2.1 s hs h0
  · rw [ay_ux (by omega)]; exact H.2.2 g hg
theorem RB_p (hj7 : j < 7) (hi : i < 128) (H : RB w a) : RB w (ay_u a (18 + 7 * i + j) v) := RB_c (ay_ux (by omega)) (fun g h1 h2 => ay_ux (by omega)) H
theorem RS_p (hj7 : j < 7) (hi : i < 128) (H : RS w a) : RS w (ay_u a (18 + 7 * i + j) v) := RS_c (fun g h1 h2 h3 => ay_ux (by omega)) H
theorem Ra_p (hj7 : j < 7) (hi : i < 128) : Ra a (ay_u a (18 + 7 * i + j) v) := fun g hg => ay_ux (by omega)
theorem idx_ne {o' q' : Nat} (hp : p < 32) (hq : q' < 32) (h : ¬ (o' = o ∧ q' = p)) : 32 * o' + q' ≠ 32 * o + p := fun e => h (by omega)
/-- a page is dirty from now on -/
def dty (w : bS) (o p : Nat) : bS := bA w 7 (o : Int) (ay_or (w.2 7 o) (ay_shl 1 (p : Int)))
theorem dty_bt (ho : o < 4) (hp : p < 32) {o' q' : Nat} (hq : q' < 32) : drt (dty w o p) o' q' = if o' = o ∧ q' = p then true else drt w o' q' := by
  show bt ((bA w 7 (o : Int) (ay_or (w.2 7 o) (ay_shl 1 (p : Int)))).2 7 o') q' = _
  rw [bA_bt w 7 ho, bt_or, bt_shl1 p hp q' hq]
  by_cases c : o' = o
  · rw [if_pos c]
    by_cases d : q' = p
    · rw [decide_eq_true d, Bool.or_true, if_pos ⟨c, d⟩]
    · rw [decide_eq_false d, Bool.or_false, if_neg (fun z => d z.2), c]; rfl
  · rw [if_neg c, if_neg (fun z => c z.1)]; rfl
theorem GW_dty (G : GW w a T) (ho : o < 4) (hp : p < 32) (hth : thr w o p = true) (hl : lvl w o p ≤ 1) : GW (dty w o p) (ay_u a (18 + 7 * (32 * o + p) + 4) 1) T := by
  obtain ⟨R, I, IT', J, hT, hT2⟩ := G
  have hlv : ∀ o' q', lvl (dty w o p) o' q' = lvl w o' q' := fun _ _ => rfl
  have hnf : fou w o p = false ∧ six w o p = false := by
    have : lvl w o p ≠ 4 := by omega
    have : lvl w o p ≠ 16 := by omega
    unfold lvl at hl
    rw [hth] at hl
    revert hl
    cases six w o p <;> cases fou w o p <;> simp
  refine ⟨⟨RF_p (by omega) (by omega) (by omega) R.1, fun o' q' ho' hq' => ?_, RB_p (by omega) (by omega) R.2.2.1, RS_p (by omega) (by omega) R.2.2.2⟩, I, IT', fun o' q' ho' hq' => ?_, hT, hT2⟩
  · obtain ⟨h1, h2, h3, h4, h5, h6⟩ := R.2.1 o' q' ho' hq'
    rw [dty_bt ho hp hq']
    rw [ay_ux (by omega), ay_ux (by omega), ay_ux (by omega), ay_ux (j := 18 + 7 * (32 * o' + q') + 5) (by omega), ay_ux (j := 18 + 7 * (32 * o' + q') + 6) (by omega)]
    refine ⟨h1, h2, h3, ?_, h5, h6⟩
    by_cases c : o' = o ∧ q' = p
    · rw [if_pos c, c.1, c.2, ay_ue]; rfl
    · rw [if_neg c, ay_ux (fun e => c (by omega))]; exact h4
  · obtain ⟨j1, j2, j3⟩ := J o' q' ho' hq'
    refine ⟨fun hd => ?_, fun hf => ?_, fun hs => ?_⟩
    · rw [dty_bt ho hp hq'] at hd
      by_cases c : o' = o ∧ q' = p
      · rw [c.1, c.2]; exact hth
      · rw [if_neg c] at hd; exact j1 hd
    · obtain ⟨a1, a2, a3, a4⟩ := j2 hf
      refine ⟨a1, a2, a3, fun r hr e => ?_⟩
      have a4' := a4 r hr e
      have hne : ∀ z, z < 32 → z / 4 = q' / 4 → ¬ (o' = o ∧ z = p) := fun z hz e' c => by
        have := (a4 z hz e').1
        rw [c.1, c.2, hnf.1] at this; cases this
      rw [dty_bt ho hp hr, dty_bt ho hp hq', if_neg (hne r hr e), if_neg (hne q' hq' rfl)]
      exact a4'
    · obtain ⟨a1, a3, a4⟩ := j3 hs
      refine ⟨a1, a3, fun r hr e => ?_⟩
      have a4' := a4 r hr e
      have hne : ∀ z, z < 32 → z / 16 = q' / 16 → ¬ (o' = o ∧ z = p) := fun z hz e' c => by
        have := (a4 z hz e').1
        rw [c.1, c.2, hnf.2] at this; cases this
      rw [dty_bt ho hp hr, dty_bt ho hp hq', if_neg (hne r hr e), if_neg (hne q' hq' rfl)]
      exact a4'
theorem GW_val (G : GW w a T) (ho : o < 4) (hp : p < 32) : GW (bA w 0 ((32 * o + p : Nat) : Int) v) (ay_u a (18 + 7 * (32 * o + p) + 2) v) T := by
  obtain ⟨R, I, IT', J, hT, hT2⟩ := G
  refine ⟨⟨RF_p (by omega) (by omega) (by omega) R.1, fun o' q' ho' hq' => ?_, RB_p (by omega) (by omega) R.2.2.1, RS_p (by omega) (by omega) R.2.2.2⟩, I, IT', J, hT, hT2⟩
  obtain ⟨h1, h2, h3, h4, h5, h6⟩ := R.2.1 o' q' ho' hq'
  rw [ay_ux (j := 18 + 7 * (32 * o' + q') + 1) (by omega), ay_ux (j := 18 + 7 * (32 * o' + q') + 3) (by omega), ay_ux (j := 18 + 7 * (32 * o' + q') + 4) (by omega), ay_ux (j := 18 + 7 * (32 * o' + q') + 5) (by omega), ay_ux (j := 18 + 7 * (32 * o' + q') + 6) (by omega)]
  refine ⟨h1, ?_, h3, h4, h5, h6⟩
  show _ = ay_u (w.2 0) (((32 * o + p : Nat) : Int)).toNat v (32 * o' + q')
  rw [Int.toNat_natCast]
  by_cases c : 32 * o' + q' = 32 * o + p
  · rw [c, ay_ue, ay_ue]
  · rw [ay_ux c, ay_ux (by omega)]; exact h2
/-- what a write leaves as it was -/
def Ks (w w' : bS) (i : Nat) : Prop := (∀ j, j ≠ 0 → j ≠ 7 → j ≠ 8 → j ≠ 9 → j ≠ 10 → w'.2 j = w.2 j) ∧ (∀ j, j ≠ 12 → w'.1 j = w.1 j) ∧ ∀ g, g ≠ i → w'.2 0 g = w.2 0 g
theorem settle_ok (G : GW w (m.2 0) T) (ho : o < 4) (hp : p < 32) (hth : thr w o p = true) (hn : 100 ≤ n) (hn' : 100 ≤ n') {fr : Int} (ht : R_touchNow n' m0 o p = some (fr, m)) : ∃ w' a', K_settle tt n (kk, w, xx) o p v = some (0, (kk, w', xx)) ∧ R_writeNow n' m0 o p v = some (fr, bC m 0 a') ∧ GW w' a' T ∧ Ks w w' (32 * o + p) ∧ Ra (m.2 0) a' := by
  obtain ⟨R, I, IT', J, hT, hT2⟩ := id G
  have hc4 : (0 : Int) ≤ (o : Int) ∧ (o : Int) < 4 := by omega
  have hid : ay_w (ay_w ((o : Int) * 32) + (p : Int)) = ((32 * o + p : Nat) : Int) := by
    simp (disch := omega) only [ay_wi]; omega
  have hid2 : (0 : Int) ≤ ((32 * o + p : Nat) : Int) ∧ ((32 * o + p : Nat) : Int) < 128 := by omega
  have hbit : (ay_and (w.2 7 o) (ay_shl 1 (p : Int)) = 0) ↔ drt w o p = false := by
    rw [and_z]
    refine ⟨fun h => h p hp (by rw [bt_shl1 p hp p hp]; exact decide_eq_true rfl), fun h q hq hy => ?_⟩
    rw [bt_shl1 p hp q hq, decide_eq_true_iff] at hy
    rw [hy]; exact h
  unfold K_settle R_writeNow
  rw [bb_s ht, bb_s (R_isDirty_ok n' R.2.1 ho hp), i01, hid, if_pos hc4, if_pos hid2, if_pos hid2, Int.toNat_natCast, Int.toNat_natCast]
  have last : ∀ (w2 : bS) (a2 : Nat → Int), GW w2 a2 T → GW (bA w2 0 ((32 * o + p : Nat) : Int) v) (ay_u a2 (18 + 7 * (32 * o + p) + 2) v) T ∧ R_writeNow_48 n' (bC m 0 a2) o p v fr = some (fr, bC m 0 (ay_u a2 (18 + 7 * (32 * o + p) + 2) v)) := fun w2 a2 G2 => by
    refine ⟨GW_val G2 ho hp, ?_⟩
    unfold R_writeNow_48
    rw [bb_s (R_putPage_ok n' (bC m 0 a2) ho hp (by omega) (by omega) v), bC_C]
    rfl
  have kv : ∀ w2 : bS, Ks w2 (bA w2 0 ((32 * o + p : Nat) : Int) v) (32 * o + p) := fun w2 => by
    refine ⟨fun j h0 _ _ _ _ => ?_, fun j _ => rfl, fun g hg => ?_⟩
    · show (bif Nat.beq j 0 then _ else w2.2 j) = _
      cases e : Nat.beq j 0
      · rfl
      · exact absurd (Nat.eq_of_beq_eq_true e) h0
    · show ay_u (w2.2 0) (((32 * o + p : Nat) : Int)).toNat v g = _
      rw [Int.toNat_natCast, ay_ux hg]
  cases hd : drt w o p
  · rw [if_pos (hbit.mpr hd), if_neg (show ¬ (false = true) by decide), bb_s (R_pageAt_ok n' m ho hp (by omega) (by omega)), show (2 : Int).toNat = 2 from rfl, (R.2.1 o p ho hp).2.1]
    by_cases c : w.2 0 (32 * o + p) = v
    · rw [if_pos c, if_pos c]
      obtain ⟨l1, l2⟩ := last w (m.2 0) G
      rw [bC_id] at l2
      exact ⟨_, _, rfl, l2, l1, kv w, Ra_p (by omega) (by omega)⟩
    · rw [if_neg c, if_neg c]
      obtain ⟨w1, a1, d1, d2, d3, d4, d5, d6⟩ := demote_ok (tt := tt) (kk := kk) (xx := xx) G ho hp hn hn'
      have hth1 : thr w1 o p = true := by rw [kp_thr d4]; exact hth
      have G2 := GW_dty d3 ho hp hth1 d6
      have G2' : GW (dty w1 o p) ((bC m 0 (ay_u a1 (18 + 7 * (32 * o + p) + 4) 1)).2 0) T := G2
      obtain ⟨w3, a3, p1, p2, p3, p4, p5⟩ := promote_ok (tt := tt) (kk := kk) (xx := xx) G2' ho hp hn hn'
      obtain ⟨l1, l2⟩ := last w3 a3 p3
      refine ⟨_, _, ?_, ?_, l1, ?_, Ra.tr d5 (Ra.tr (Ra_p (by omega) (by omega)) (Ra.tr p5 (Ra_p (by omega) (by omega))))⟩
      · refine (bb_s d1).trans ?_
        rw [if_pos hc4, if_pos hc4]
        refine (bb_s p1).trans ?_
        rw [if_pos hid2]
      · refine (bb_s d2).trans ?_
        rw [bb_s (R_putPage_ok n' (bC m 0 a1) ho hp (by omega) (by omega) 1), bC_C]
        refine (bb_s p2).trans ?_
        rw [bC_C]
        exact l2
      · obtain ⟨k1, k2, k3⟩ := kv w3
        have e7 : ∀ j, j ≠ 7 → (dty w1 o p).2 j = w1.2 j := fun j hj => by
          show (bif Nat.beq j 7 then _ else w1.2 j) = _
          cases e : Nat.beq j 7
          · rfl
          · exact absurd (Nat.eq_of_beq_eq_true e) hj
        refine ⟨fun j h0 h7 h8 h9 h10 => ?_, fun j h12 => ?_, fun g hg => ?_⟩
        · rw [k1 j h0 h7 h8 h9 h10, p4.1 j h8 h9 h10, e7 j h7, d4.1 j h8 h9 h10]
        · rw [k2 j h12, p4.2 j h12]
          show w1.1 j = _
          exact d4.2 j h12
        · rw [k3 g hg, p4.1 0 (by omega) (by omega) (by omega), e7 0 (by omega), d4.1 0 (by omega) (by omega) (by omega)]
  · have hnb : ¬ ay_and (w.2 7 o) (ay_shl 1 (p : Int)) = 0 := fun z => by rw [hbit.mp z] at hd; cases hd
    rw [if_neg hnb, if_pos (show true = true from rfl)]
    obtain ⟨l1, l2⟩ := last w (m.2 0) G
    rw [bC_id] at l2
    exact ⟨_, _, rfl, l2, l1, kv w, Ra_p (by omega) (by omega)⟩
end
