/-! Sweeping, whole. -/
section
variable {n n' : Nat} {m m0 w w' w1 kk xx tt : bS} {a b' : Nat → Int} {o p f s N k i h g j x y T b L q S Z c : Nat} {t v : Int}
theorem R_isDirty_raw (n : Nat) (m : bS) (ho : o < 4) (hp : p < 32) : R_isDirty n m o p = some (if m.2 0 (18 + 7 * (32 * o + p) + 4) = 1 then 1 else 0, m) := by
  unfold R_isDirty
  rw [bb_s (R_pageAt_ok n m ho hp (by omega) (by omega))]
  show (if m.2 0 (18 + 7 * (32 * o + p) + 4) = 1 then some ((1 : Int), m) else some (0, m)) = _
  split <;> rfl
theorem long_at (ho : o < 4) : ay_w (6 + (o : Int)) = ((6 + o : Nat) : Int) := by rw [ay_wi (by omega) (by omega)]; omega
theorem R_sw4 (HP : RP w (m.2 0)) (ho : o < 4) (hZ : m.2 0 (6 + o) = (Z : Int)) (hZ32 : Z ≤ 32) (hn : 40 ≤ n) : R_sweepNow_4 n m o 0 0 = R_sweepNow_79 (n - (Z + 1)) (bC m 0 (sr (m.2 0) w o Z)) o ((cn (chg w o) Z : Nat) : Int) 0 := by
  have hc : (0 : Int) ≤ ((6 + o : Nat) : Int) ∧ ((6 + o : Nat) : Int) < 38745 := by omega
  have hz : ∀ k, k ≤ 32 → (bC m 0 (sr (m.2 0) w o k)).2 0 (6 + o) = (Z : Int) := fun k hk => (sr_o ho (by omega) hk).trans hZ
  have st : ∀ k n, k < Z → R_sweepNow_4 (n + 1) (bC m 0 (sr (m.2 0) w o k)) o ((cn (chg w o) k : Nat) : Int) k = R_sweepNow_4 n (bC m 0 (sr (m.2 0) w o (k + 1))) o ((cn (chg w o) (k + 1) : Nat) : Int) ((k + 1 : Nat) : Int) := fun k n hk => by
    have hl := cn_le (chg w o) k
    obtain ⟨h1, h2, h3, h4, h5, h6⟩ := HP o k ho (by omega)
    have rd : ∀ j, j < 7 → (bC m 0 (sr (m.2 0) w o k)).2 0 (18 + 7 * (32 * o + k) + j) = m.2 0 (18 + 7 * (32 * o + k) + j) := fun j hj => by
      show sr (m.2 0) w o k (18 + 7 * (32 * o + k) + j) = _
      rw [sr_p ho (by omega) hj (by omega), if_neg (by omega)]
    have hch : chg w o k = (drt w o k && decide (w.2 0 (32 * o + k) ≠ w.2 1 (32 * o + k))) := rfl
    rw [R_sweepNow_4, long_at ho, if_pos hc, Int.toNat_natCast, hz k (by omega), if_neg (by omega), bb_s (R_isDirty_raw n _ ho (by omega)), rd 4 (by omega), h4, ay_wi (x := (k : Int) + 1) (by omega) (by omega), show (k : Int) + 1 = ((k + 1 : Nat) : Int) by omega, cn_s, hch]
    show _ = R_sweepNow_4 n (bC m 0 (if drt w o k = true then ay_u (ay_u (sr (m.2 0) w o k) (18 + 7 * (32 * o + k) + 3) (w.2 0 (32 * o + k))) (18 + 7 * (32 * o + k) + 4) 0 else sr (m.2 0) w o k)) o _ _
    cases hd : drt w o k
    · rw [if_neg (show ¬ (false = true) by decide), if_neg (show ¬ (0 : Int) = 1 by decide), if_pos (show (0 : Int) = 0 from rfl)]
      simp
    · rw [if_pos (show true = true from rfl), if_pos (show (1 : Int) = 1 from rfl), if_neg (show ¬ (1 : Int) = 0 by decide), if_pos (show true = true from rfl), bb_s (R_pageAt_ok n _ ho (by omega) (by omega) (by omega)), bb_s (R_pageAt_ok n _ ho (by omega) (by omega) (by omega)), show (2 : Int).toNat = 2 from rfl, show (3 : Int).toNat = 3 from rfl, rd 2 (by omega), rd 3 (by omega), h2, h3]
      by_cases c : w.2 0 (32 * o + k) = w.2 1 (32 * o + k)
      · rw [if_pos c]
        unfold R_sweepNow_63
        rw [bb_s (R_putPage_ok n _ ho (by omega) (by omega) (by omega) 0), bC_C, show (4 : Int).toNat = 4 from rfl, ay_wi (x := (k : Int) + 1) (by omega) (by omega), show (k : Int) + 1 = ((k + 1 : Nat) : Int) by omega]
        have e : ay_u (sr (m.2 0) w o k) (18 + 7 * (32 * o + k) + 3) (w.2 0 (32 * o + k)) = sr (m.2 0) w o k := by
          have r3 : sr (m.2 0) w o k (18 + 7 * (32 * o + k) + 3) = w.2 0 (32 * o + k) := (rd 3 (by omega)).trans (h3.trans c.symm)
          rw [← r3]; exact ay_us
        rw [e]
        simp [c]
        rfl
      · rw [if_neg c]
        unfold R_sweepNow_63
        rw [bb_s (R_pageAt_ok n _ ho (by omega) (by omega) (by omega)), show (2 : Int).toNat = 2 from rfl, rd 2 (by omega), h2, bb_s (R_putPage_ok n _ ho (by omega) (by omega) (by omega) _), bb_s (R_putPage_ok n _ ho (by omega) (by omega) (by omega) 0), bC_C, bC_C, show (4 : Int).toNat = 4 from rfl, show (3 : Int).toNat = 3 from rfl, ay_wi (x := (k : Int) + 1) (by omega) (by omega), ay_wi (by omega) (by omega), show (k : Int) + 1 = ((k + 1 : Nat) : Int) by omega]
        have e3 : (if (true && decide (w.2 0 (32 * o + k) ≠ w.2 1 (32 * o + k))) = true then 1 else 0) = 1 := by
          rw [if_pos (by rw [Bool.true_and]; exact decide_eq_true c)]
        rw [e3]
        rfl
  have all : ∀ k n, k ≤ Z → k ≤ n → R_sweepNow_4 n (bC m 0 (sr (m.2 0) w o 0)) o ((cn (chg w o) 0 : Nat) : Int) ((0 : Nat) : Int) = R_sweepNow_4 (n - k) (bC m 0 (sr (m.2 0) w o k)) o ((cn (chg w o) k : Nat) : Int) k := fun k => by
    induction k with
    | zero => intro n _ _; rfl
    | succ k ih =>
      intro n h1 h2
      rw [ih n (by omega) (by omega), show n - k = (n - (k + 1)) + 1 by omega, st k _ (by omega)]
  have h := all Z n (Nat.le_refl _) (by omega)
  have s0 : bC m 0 (sr (m.2 0) w o 0) = m := bC_id m
  rw [s0] at h
  refine h.trans ?_
  rw [show n - Z = (n - (Z + 1)) + 1 by omega, R_sweepNow_4, long_at ho, if_pos hc, Int.toNat_natCast, hz Z hZ32, if_pos (by omega)]
/-- the swept world -/
def swp (w : bS) (o : Nat) (v : Int) : bS := bI (bA (sv w o 32) 7 (o : Int) 0) 17 v
theorem swp_drt (ho : o < 4) : drt (swp w o v) i p = if i = o then false else drt w i p := by
  show bt ((bA (sv w o 32) 7 (o : Int) 0).2 7 i) p = _
  rw [bA_bt (sv w o 32) 7 ho]
  by_cases c : i = o
  · rw [if_pos c, if_pos c, bt_z]
  · rw [if_neg c, if_neg c]; rfl
theorem GW_swp (G : GW w a T) (ho : o < 4) (hd : ∀ p, p < 32 → drt w o p = true → p < Z) (hZ : Z ≤ 32) : GW (swp w o v) (sr a w o Z) T := by
  obtain ⟨R, I, IT', J, hT, hT2⟩ := G
  refine ⟨⟨⟨fun f hf => ?_, fun s hs h0 => ?_, fun g hg => ?_⟩, fun o' q' ho' hq' => ?_, RB_c (sr_o ho (by omega) hZ) (fun g h1 h2 => sr_o ho (by omega) hZ) R.2.2.1, RS_c (fun g h1 h2 h3 => sr_o ho (by omega) hZ) R.2.2.2⟩, I, IT', fun o' q' ho' hq' => ?_, hT, hT2⟩
  · rw [sr_o ho (by omega) hZ]; exact R.1.1 f hf
  · rw [sr_o ho (by omega) hZ, sr_o ho (by omega) hZ, sr_o ho (by omega) hZ, sr_o ho (by omega) hZ]; exact R.1.2.1 s hs h0
  · have := sr_p (a := a) (w := w) (k := Z) ho hg (show 0 < 7 by omega) hZ
    rw [Nat.add_zero] at this
    rw [this]
    have e : (if (32 * o ≤ g ∧ g < 32 * o + Z) ∧ drt w o (g - 32 * o) = true then (if (0 : Nat) = 3 then w.2 0 g else if (0 : Nat) = 4 then 0 else a (18 + 7 * g)) else a (18 + 7 * g)) = a (18 + 7 * g) := by split <;> rfl
    rw [e]; exact R.1.2.2 g hg
  · obtain ⟨h1, h2, h3, h4, h5, h6⟩ := R.2.1 o' q' ho' hq'
    have hx : ∀ j, j < 7 → sr a w o Z (18 + 7 * (32 * o' + q') + j) = if o' = o ∧ drt w o q' = true then (if j = 3 then w.2 0 (32 * o' + q') else if j = 4 then 0 else a (18 + 7 * (32 * o' + q') + j)) else a (18 + 7 * (32 * o' + q') + j) := fun j hj => by
      rw [sr_p ho (by omega) hj hZ]
      by_cases c : o' = o ∧ drt w o q' = true
      · have := hd q' hq' c.2
        rw [if_pos c, if_pos ⟨by omega, by rw [show 32 * o' + q' - 32 * o = q' by omega]; exact c.2⟩]
      · rw [if_neg c, if_neg (fun z => c ⟨by omega, by
          have e : o' = o := by omega
          have := z.2
          rw [e, show 32 * o + q' - 32 * o = q' by omega] at this
          exact this⟩)]
    rw [hx 1 (by omega), hx 2 (by omega), hx 3 (by omega), hx 4 (by omega), hx 5 (by omega), hx 6 (by omega), swp_drt ho]
    have s1 : (swp w o v).2 1 (32 * o' + q') = if o' = o ∧ drt w o q' = true then w.2 0 (32 * o' + q') else w.2 1 (32 * o' + q') := by
      show (if (32 * o ≤ 32 * o' + q' ∧ 32 * o' + q' < 32 * o + 32) ∧ drt w o (32 * o' + q' - 32 * o) = true then w.2 0 (32 * o' + q') else w.2 1 (32 * o' + q')) = _
      by_cases c : o' = o
      · rw [c, show 32 * o + q' - 32 * o = q' by omega]
        by_cases d : drt w o q' = true
        · rw [if_pos ⟨by omega, d⟩, if_pos ⟨rfl, d⟩]
        · rw [if_neg (fun z => d z.2), if_neg (fun z => d z.2)]
      · rw [if_neg (by omega), if_neg (fun z => c z.1)]
    rw [s1]
    show _ ∧ _ = w.2 0 (32 * o' + q') ∧ _ ∧ _ ∧ _ = (lvl w o' q' : Int) ∧ _ = w.2 2 (32 * o' + q')
    by_cases c : o' = o ∧ drt w o q' = true
    · simp only [if_pos c]
      refine ⟨h1, h2, rfl, ?_, h5, h6⟩
      rw [if_pos c.1]; rfl
    · simp only [if_neg c]
      refine ⟨h1, h2, h3, ?_, h5, h6⟩
      rw [h4]
      by_cases e : o' = o
      · rw [if_pos e]
        have : drt w o' q' = false := by
          cases hq : drt w o' q'
          · rfl
          · rw [e] at hq; exact absurd ⟨e, hq⟩ c
        rw [this]
      · rw [if_neg e]
  · obtain ⟨j1, j2, j3⟩ := J o' q' ho' hq'
    have hdd : ∀ r, drt (swp w o v) o' r = if o' = o then false else drt w o' r := fun r => swp_drt ho
    refine ⟨fun h => ?_, fun h => ?_, fun h => ?_⟩
    · rw [hdd] at h
      by_cases e : o' = o
      · rw [if_pos e] at h; cases h
      · rw [if_neg e] at h; exact j1 h
    · obtain ⟨a1, a2, a3, a4⟩ := j2 h
      refine ⟨a1, a2, a3, fun r hr e => ⟨(a4 r hr e).1, ?_⟩⟩
      rw [hdd, hdd, (a4 r hr e).2]
    · obtain ⟨a1, a3, a4⟩ := j3 h
      refine ⟨a1, a3, fun r hr e => ⟨(a4 r hr e).1, ?_⟩⟩
      rw [hdd, hdd, (a4 r hr e).2]
/-- the second pass -/
theorem K_sw112_tail (ho : o < 4) (c : Int) : ∀ k n p, p + k = 32 → (∀ q, p ≤ q → q < 32 → thr w o q = false) → k + 1 ≤ n → K_sweepOut_112 tt n (kk, w, xx) o c p = some (c, (kk, w, xx))
  | 0, n, p, h, _, hn => by
    obtain ⟨n, rfl⟩ : ∃ z, n = z + 1 := ⟨n - 1, by omega⟩
    rw [K_sweepOut_112, if_pos (by omega)]
  | k + 1, n, p, h, hno, hn => by
    obtain ⟨n, rfl⟩ : ∃ z, n = z + 1 := ⟨n - 1, by omega⟩
    rw [K_sweepOut_112, if_neg (by omega)]
    have hth : W_isThere n w (o : Int) (p : Int) = some (if thr w o p = true then 1 else 0, w) := W_isThere_ok n w ho (by omega)
    refine (bb_s hth).trans ?_
    rw [i01, hno p (Nat.le_refl _) (by omega), if_neg (show ¬ (false = true) by decide), ay_wi (by omega) (by omega), show (p : Int) + 1 = ((p + 1 : Nat) : Int) by omega]
    exact K_sw112_tail ho c k n (p + 1) (by omega) (fun q h1 h2 => hno q (by omega) h2) (by omega)
theorem sw2_ok (ho : o < 4) (hZ32 : Z ≤ 32) (c : Int) : ∀ (k n n' p : Nat) (w m : bS), p + k = Z → GW w (m.2 0) T → m.2 0 (6 + o) = (Z : Int) → (∀ q, q < 32 → thr w o q = true → q < Z) → k + 140 ≤ n → k + 140 ≤ n' → ∃ w' a', K_sweepOut_112 tt n (kk, w, xx) o c p = some (c, (kk, w', xx)) ∧ R_sweepNow_79 n' m o c p = some (c, bC m 0 (ay_u a' 13 (ay_w (a' 13 + c)))) ∧ GW w' a' T ∧ Kp w w' ∧ Ra (m.2 0) a'
  | 0, n, n', p, w, m, hk, G, hz, hth, hn, hn' => by
    obtain ⟨n', rfl⟩ : ∃ z, n' = z + 1 := ⟨n' - 1, by omega⟩
    have hc : (0 : Int) ≤ ((6 + o : Nat) : Int) ∧ ((6 + o : Nat) : Int) < 38745 := by omega
    have hno : ∀ q, p ≤ q → q < 32 → thr w o q = false := fun q h1 h2 => by
      cases e : thr w o q
      · rfl
      · have := hth q h2 e; omega
    refine ⟨w, m.2 0, K_sw112_tail ho c (32 - p) n p (by omega) hno (by omega), ?_, G, Kp.rf, Ra.rf⟩
    rw [R_sweepNow_79, long_at ho, if_pos hc, Int.toNat_natCast, hz, if_pos (by omega), bA_C]
    rfl
  | k + 1, n, n', p, w, m, hk, G, hz, hth, hn, hn' => by
    obtain ⟨n, rfl⟩ : ∃ z, n = z + 1 := ⟨n - 1, by omega⟩
    obtain ⟨n', rfl⟩ : ∃ z, n' = z + 1 := ⟨n' - 1, by omega⟩
    have hc : (0 : Int) ≤ ((6 + o : Nat) : Int) ∧ ((6 + o : Nat) : Int) < 38745 := by omega
    have hw : W_isThere n w (o : Int) (p : Int) = some (if thr w o p = true then 1 else 0, w) := W_isThere_ok n w ho (by omega)
    have hr : R_isThere n' m (o : Int) (p : Int) = some (if thr w o p = true then 1 else 0, m) := R_isThere_ok n' G.1.2.1 ho (by omega)
    have e1 : K_sweepOut_112 tt (n + 1) (kk, w, xx) o c p = if thr w o p = true then (bb (K_promote tt n (kk, w, xx) o p) fun _ s2 => K_sweepOut_112 tt n s2 o c ((p + 1 : Nat) : Int)) else K_sweepOut_112 tt n (kk, w, xx) o c ((p + 1 : Nat) : Int) := by
      rw [K_sweepOut_112, if_neg (by omega)]
      refine (bb_s hw).trans ?_
      rw [i01, ay_wi (by omega) (by omega), show (p : Int) + 1 = ((p + 1 : Nat) : Int) by omega]
    have e2 : R_sweepNow_79 (n' + 1) m o c p = if thr w o p = true then (bb (R_promote n' m o p) fun _ s8 => R_sweepNow_79 n' s8 o c ((p + 1 : Nat) : Int)) else R_sweepNow_79 n' m o c ((p + 1 : Nat) : Int) := by
      rw [R_sweepNow_79, long_at ho, if_pos hc, Int.toNat_natCast, hz, if_neg (by omega), bb_s hr, i01, ay_wi (by omega) (by omega), show (p : Int) + 1 = ((p + 1 : Nat) : Int) by omega]
    rw [e1, e2]
    by_cases ht : thr w o p = true
    · rw [if_pos ht, if_pos ht]
      obtain ⟨w1, a1, p1, p2, p3, p4, p5⟩ := promote_ok (tt := tt) (kk := kk) (xx := xx) (n := n) (n' := n') G ho (show p < 32 by omega) (by omega) (by omega)
      have G1 : GW w1 ((bC m 0 a1).2 0) T := p3
      obtain ⟨w2, a2, q1, q2, q3, q4, q5⟩ := sw2_ok ho hZ32 c k n n' (p + 1) w1 (bC m 0 a1) (by omega) G1 ((p5 (6 + o) (by omega)).trans hz) (by rw [kp_thr p4]; exact hth) (by omega) (by omega)
      refine ⟨w2, a2, (bb_s p1).trans q1, (bb_s p2).trans ?_, q3, p4.tr q4, p5.tr q5⟩
      rw [q2, bC_C]
    · rw [if_neg ht, if_neg ht]
      exact sw2_ok ho hZ32 c k n n' (p + 1) w m (by omega) G hz hth (by omega) (by omega)
/-- what a sweep leaves as it was -/
theorem sweep_ok (G : GW w (m.2 0) T) (ho : o < 4) (hZ : m.2 0 (6 + o) = (Z : Int)) (hZ32 : Z ≤ 32) (hth : ∀ q, q < 32 → thr w o q = true → q < Z) (h13 : w.1 17 = m.2 0 13) (hn : 400 ≤ n) (hn' : 400 ≤ n') : ∃ w' a' v, K_sweepOut tt n (kk, w, xx) o = some (v, (kk, w', xx)) ∧ R_sweepNow n' m o = some (v, bC m 0 a') ∧ GW w' a' T ∧ w'.1 17 = a' 13 ∧ Kp (swp w o (w'.1 17)) w' ∧ (∀ i, (i < 10 ∨ 1259 ≤ i) ∨ (11 ≤ i ∧ i ≤ 12) ∨ (15 ≤ i ∧ i ≤ 17) → a' i = m.2 0 i) ∧ 0 ≤ v := by
  have hdZ : ∀ p, p < 32 → drt w o p = true → p < Z := fun p hp hd => hth p hp ((G.2.2.2.1 o p ho hp).1 hd)
  have hcn : cn (chg w o) 32 = cn (chg w o) Z := cn_ext hZ32 (fun i h1 h2 => by
    unfold chg
    cases hd : drt w o i
    · rfl
    · have := hdZ i h2 hd; omega)
  have G1 := GW_swp (v := ay_w (w.1 17 + ((cn (chg w o) 32 : Nat) : Int))) G ho hdZ hZ32
  have G1' : GW (swp w o (ay_w (w.1 17 + ((cn (chg w o) 32 : Nat) : Int)))) ((bC m 0 (sr (m.2 0) w o Z)).2 0) T := G1
  obtain ⟨w2, a2, q1, q2, q3, q4, q5⟩ := sw2_ok (tt := tt) (kk := kk) (xx := xx) ho hZ32 ((cn (chg w o) 32 : Nat) : Int) Z (n - 33) (n' - (Z + 1)) 0 _ (bC m 0 (sr (m.2 0) w o Z)) (by omega) G1' ((sr_o ho (by omega) hZ32).trans hZ) hth (by omega) (by omega)
  have a13 : a2 13 = m.2 0 13 := (q5 13 (by omega)).trans (sr_o ho (by omega) hZ32)
  have w17 : w2.1 17 = ay_w (w.1 17 + ((cn (chg w o) 32 : Nat) : Int)) := q4.2 17 (by omega)
  refine ⟨w2, ay_u a2 13 (ay_w (a2 13 + ((cn (chg w o) 32 : Nat) : Int))), ((cn (chg w o) 32 : Nat) : Int), ?_, ?_, ?_, ?_, ?_, ?_, by omega⟩
  · unfold K_sweepOut
    rw [K_sw4 ho (by omega)]
    exact q1
  · unfold R_sweepNow
    rw [R_sw4 G.1.2.1 ho hZ hZ32 (by omega), ← hcn]
    refine Eq.trans ?_ (q2.trans ?_)
    · rfl
    · rw [bC_C]
  · obtain ⟨R, I, IT', J, hT, hT2⟩ := q3
    exact ⟨⟨RF_c (fun i h1 h2 => ay_ux (by omega)) R.1, RP_c (fun i h1 h2 => ay_ux (by omega)) R.2.1, RB_c (ay_ux (by omega)) (fun i h1 h2 => ay_ux (by omega)) R.2.2.1, ⟨by rw [ay_ux (by omega)]; exact R.2.2.2.1, R.2.2.2.2.imp (RG_c (fun i h1 h2 => ay_ux (by omega))) id⟩⟩, I, IT', J, hT, hT2⟩
  · rw [ay_ue, w17, a13, h13]
  · rw [w17]; exact q4
  · intro i hi
    rw [ay_ux (by omega), q5 i (by omega)]
    exact sr_o ho (by omega) hZ32
end
