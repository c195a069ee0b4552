/-! Reading laws: asks, what is begun. -/
def relv (kd : Int) : Int := if kd = 35 then 17 else if kd = 60 then 12 else if kd = 61 then 16 else if kd = 62 then 14 else if kd = 160 then 13 else if kd = 162 then 15 else -1
section
variable {ow : Nat → Prop} {q s s' s2 s3 m m' m1 m2 m3 : bS} {f g K S A C R : Nat → Int} {L n i i' j d k t t' t2 N p u u' T o c c' pb pb' dep dep' dep2 W : Nat} {x y kd am v l op r r' rb rb' lv : Int} {ak ak' ak2 : Bool} {F : Option (Int × bS)} {F' G : bS → Option (Int × bS)} {Q Q' : Int → Prop} {rc : Nat → bS → Int → Option (Int × bS)}
theorem relc (h : s.1 9 = kd) : D_relation q n s = some (relv kd, s) := by
  unfold D_relation relv
  rw [h]
  by_cases c1 : kd = 35
  · rw [if_pos c1, if_pos c1]
  · rw [if_neg c1, if_neg c1]
    by_cases c2 : kd = 60
    · rw [if_pos c2, if_pos c2]
    · rw [if_neg c2, if_neg c2]
      by_cases c3 : kd = 61
      · rw [if_pos c3, if_pos c3]
      · rw [if_neg c3, if_neg c3]
        by_cases c4 : kd = 62
        · rw [if_pos c4, if_pos c4]
        · rw [if_neg c4, if_neg c4]
          by_cases c5 : kd = 160
          · rw [if_pos c5, if_pos c5]
          · rw [if_neg c5, if_neg c5]
            by_cases c6 : kd = 162
            · rw [if_pos c6, if_pos c6]
            · rw [if_neg c6, if_neg c6]
theorem rel_cmp : (relv kd = -1 ∧ cmpv kd = -1) ∨ ∃ v : Nat, 12 ≤ v ∧ v ≤ 17 ∧ relv kd = (v : Int) ∧ cmpv kd = (v : Int) - 2 ∧ kd ≠ 0 := by
  unfold relv cmpv
  by_cases c2 : kd = 60
  · subst c2; exact Or.inr ⟨12, by decide⟩
  · by_cases c5 : kd = 160
    · subst c5; exact Or.inr ⟨13, by decide⟩
    · by_cases c4 : kd = 62
      · subst c4; exact Or.inr ⟨14, by decide⟩
      · by_cases c6 : kd = 162
        · subst c6; exact Or.inr ⟨15, by decide⟩
        · by_cases c3 : kd = 61
          · subst c3; exact Or.inr ⟨16, by decide⟩
          · by_cases c1 : kd = 35
            · subst c1; exact Or.inr ⟨17, by decide⟩
            · left
              rw [if_neg c1, if_neg c2, if_neg c3, if_neg c4, if_neg c5, if_neg c6, if_neg c2, if_neg c5, if_neg c4, if_neg c6, if_neg c3, if_neg c1]
              exact ⟨rfl, rfl⟩
theorem rk_cmp {v : Nat} (h1 : 12 ≤ v) (h2 : v ≤ 17) : rk ((v : Int) - 2) = 4 := by
  have h : v = 12 ∨ v = 13 ∨ v = 14 ∨ v = 15 ∨ v = 16 ∨ v = 17 := by omega
  rcases h with h | h | h | h | h | h <;> subst h <;> decide
/-- something is begun -/
theorem open_1 (B : BY q L) (H : TB (q.2 0) L N K S A) (hs : STT ow q L K S A N s m t p o i u T) (h18 : m.1 18 = 0) (hp : p < 100) (ho : o < 8) (htN : t < N) (hb : ∀ n, 200 ≤ n → R_beginOne n m = R_opened n m op) : ∃ m2, GO N t (t + 1) m m2 ∧ FR m m2 ∧ STT ow q L K S A N (bI (bI s 8 ((t + 1 : Nat) : Int)) 9 (K (t + 1))) m2 (t + 1) (p + 1) (o + 1) i u T ∧ m2.1 18 = 0 ∧ m2.2 15 p = op ∧ (∀ k, k ≠ p → m2.2 15 k = m.2 15 k) ∧ m2.2 2 = m.2 2 := by
  obtain ⟨C, M, ⟨w1, w2, w3⟩, ⟨u1, u2⟩, ⟨p1, p2, p3⟩, ⟨T1, T2⟩, g1, g2⟩ := hs
  have Mp : MS q L K S A N (pso p o m op) t := MS_c M (fun k hk => by unfold pso; rw [bI_1 (by omega)]; show (bI m 17 ((o + 1 : Nat) : Int)).1 k = _; rw [bI_1 (by omega)]) (show (bA (bI m 17 ((o + 1 : Nat) : Int)) 15 (p : Int) op).2 3 = m.2 3 from bA_2 (by decide))
  obtain ⟨m2, x1, x2, x3⟩ := nxtt B H Mp htN
  have y : ∀ k, 12 ≤ k → m2.1 k = (pso p o m op).1 k := fun k hk => x3.1 k (by omega)
  refine ⟨m2, GO_1 (fun n hn => beg_opened h18 ((hb n (by omega)).trans (opened_ok p1 (by omega) p2 ho (x1 n (by omega))))), FR_pso.tr (FR_NX x3), ⟨(adv (q := q) (n := 0) C htN).2, x2, ⟨w1, w2, by omega⟩, ⟨(y 13 (by omega)).trans u1, by omega⟩, ⟨y 16 (by omega), y 17 (by omega), by omega⟩, ⟨(y 12 (by omega)).trans T1, T2⟩, ?_, ?_⟩, (y 18 (by omega)).trans h18, ?_, fun k hk => ?_, ?_⟩
  · show s.1 10 = _
    rw [y 14 (by omega)]; exact g1
  · rw [y 14 (by omega)]; exact g2
  · rw [x3.2]
    show (bA (bI m 17 ((o + 1 : Nat) : Int)) 15 (p : Int) op).2 15 p = op
    rw [bA_e (by omega), if_pos rfl]
  · rw [x3.2]
    show (bA (bI m 17 ((o + 1 : Nat) : Int)) 15 (p : Int) op).2 15 k = _
    rw [bA_e (by omega), if_neg hk]; rfl
  · rw [x3.2]
    show (bA (bI m 17 ((o + 1 : Nat) : Int)) 15 (p : Int) op).2 2 = m.2 2
    exact bA_2 (by decide)
theorem aA_y (h41 : opN f p = 41) (hr : p = 0 ∨ rk (f (p - 1)) ≤ 3) : aA f p = true ∧ 0 < p := by
  have hp0 : 0 < p := by
    rcases Nat.eq_zero_or_pos p with e | e
    · rw [e] at h41
      exact absurd h41 (by show ¬ (if (-1 : Int) < 0 then (-1 : Int) else _) = 41; rw [if_pos (by decide)]; decide)
    · exact e
  refine ⟨decide_eq_true ⟨h41, ?_⟩, hp0⟩
  have hb := rk_b (x := f (p - 1))
  by_cases c : rk (f (p - 1)) = 0
  · exact Or.inl (rk_0 c)
  · exact Or.inr (by omega)
theorem cmA_n (hp : 0 < p) (hr : p = 0 ∨ rk (f (p - 1)) ≤ 3) : cmA f p = false := by
  obtain ⟨p', hp'⟩ : ∃ p', p = p' + 1 := ⟨p - 1, by omega⟩
  subst hp'
  rw [Nat.add_sub_cancel] at hr
  show (if rk (f p') ≤ 4 then decide (rk (f p') = 4) else cmA f p') = false
  rw [if_pos (by omega), decide_eq_false (by omega)]
/-- a refusal on both sides, at the same place -/
theorem fa_here {fv : Int} (hs : STT ow q L K S A N s m t p o i u T) (hf : fv ≠ 0) (h : ∀ n, 999 + (N - t) ≤ n → R_summed_15 (n + 1) m = some (fv, m)) : FA K S A N (some (0, rf s fv (S t))) s m t i := by
  have h6 : s.1 11 = (i : Int) := hs.2.2.1.2.1
  have hN := hs.1.2.2
  have hi := hs.2.2.1.2.2
  exact ⟨_, rfl, rf_DD hs.1 hf (by omega) (by omega), rf_FS hf (by omega) (by omega), BD_1 h rfl hs.2.1.2.1⟩
/-- a refusal behind what was read -/
theorem fa_su {fv : Int} (hSU : SU ow q L K S A N r ak s m s' m' m1 t t' p o i i' u u' T dep c) (hf : fv ≠ 0) (h : ∀ n, 999 + (N - t') ≤ n → R_summed_15 (n + 1) m' = some (fv, m')) : FA K S A N (some (0, rf s' fv (S t'))) s m t i := by
  obtain ⟨a1, a2, a3, a4, a5, a6, a7, a8, a9, a10, a11, a12, a13, a14, a15⟩ := hSU
  have h6 : s'.1 11 = (i' : Int) := a2.2.2.1.2.1
  have hN := a2.1.2.2
  have hi := a2.2.2.1.2.2
  have hle := Sem_le a15
  have hw : (i : Int) ≤ s'.1 11 := by have := a13.2.2.2; omega
  exact ⟨_, rfl, rf_DD a2.1 hf (by omega) (by omega), a13.tr (rf_FS hf hw (by omega)), a4.bd a8 (BD_1 h rfl (STT_MS a2 a5).2.1) (by omega) (by omega)⟩
theorem rk_20 : rk 20 = 3 := by decide
/-- a not was read -/
theorem not_2 {t3 i3 u3 c3 : Nat} {m31 : bS} (hs : STT ow q L K S A N s m t p o i u T) (hg : GO N t (t + 1) m m2) (hf : FR m m2) (h2 : STT ow q L K S A N s2 m2 (t + 1) (p + 1) (o + 1) i u T) (hs2 : s2 = bI (bI s 8 ((t + 1 : Nat) : Int)) 9 (K (t + 1))) (hop : m2.2 15 p = 20) (hpl : ∀ k, k ≠ p → m2.2 15 k = m.2 15 k) (hS3 : SU ow q L K S A N 3 true s2 m2 s3 m3 m31 (t + 1) t3 (p + 1) (o + 1) i i3 u u3 T dep' c3) (hd : dep' ≤ dep) (hd2 : 2 ≤ dep) : (∀ n, D_emit q n s3 7 0 = some (0, ec i3 s3 7 0)) ∧ SU ow q L K S A N 3 true s m (ec i3 s3 7 0) m3 (ppd T u3 p m31) t t3 p o i (i3 + 2) u (u3 + 1) T dep (c3 + 1) := by
  obtain ⟨b1, b2, b3, b4, b5, b6, b7, b8, b9, b10, b11, b12, b13, b14, b15⟩ := hS3
  obtain ⟨C, M, ⟨w1, w2, w3⟩, ⟨u1, u2⟩, ⟨p1, p2, p3⟩, ⟨T1, T2⟩, g1, g2⟩ := b2
  have hCN := C.2.2
  have hi3 : i3 + 2 ≤ 600 := by have := hs.2.2.1.2.2; omega
  have pl : m31.2 15 p = 20 := by rw [b5.2 15 (by decide), b10 p (by omega), hop]
  have sq := SR_ppd (T := T) (u := u3) (p := p) (m := m31)
  have le2 := Sem_le b15
  have h6 : s.1 11 = (i : Int) := hs.2.2.1.2.1
  have hi := hs.2.2.1.2.2
  have fs1 : FS i s s2 := by rw [hs2]; exact FS_89 (by omega) (by omega)
  refine ⟨fun n => emitc w2 hi3, by omega, ⟨CS_ec C, MS_c M (fun k hk => sq.1 k (by omega) (by omega) (by omega)) (sq.2 3 (by decide)), ⟨w1, rfl, by omega⟩, ⟨ppd_13, by omega⟩, ⟨ppd_16, ?_, by omega⟩, ⟨(sq.1 12 (by decide) (by decide) (by decide)).trans T1, T2⟩, ?_, ?_⟩, (sq.1 18 (by decide) (by decide) (by decide)).trans b3, hg.tr b4 (by omega) (by omega) (by omega), b5.tr sq, fun n l l1 l2 => ?_, ⟨by rw [b7.1]; omega, by omega⟩, hf.tr b8, (hf.tr b9).tr (FR_ppd T1 u1 (by omega)), fun k hk => by rw [b10 k (by omega), hpl k (by omega)], ?_, ?_, (fs1.tr b13).tr (FS_ec w2 hi3 (by omega)), ⟨by omega, by omega⟩, fun h => (by cases h), fun _ => ?_⟩
  · exact ppd_17' (Or.inr pl) p2 (by omega)
  · rw [sq.1 14 (by decide) (by decide) (by decide)]; exact g1
  · rw [sq.1 14 (by decide) (by decide) (by decide)]; exact g2
  · rw [show n + (c3 + 1) = (n + 1) + c3 by omega, b6 (n + 1) l l1 (by omega)]
    exact stl1 T1 T2 u1 (by omega) p1 (by omega) (by rw [pl, rk_20]; exact l2)
  · rw [show p + (c3 + 1) = p + 1 + c3 by omega, b11, opA_s (by rw [hop]; decide)]
    exact opA_c (fun k hk => hpl k (by omega))
  · rw [show p + (c3 + 1) = p + 1 + c3 by omega, b12, if_pos rfl, if_pos rfl]
  · refine SA_not (d := dep') ((b15.2 rfl).c (fun k k1 k2 => ?_) (fun k k1 k2 => ?_) (Nat.le_refl _)) ?_ ?_ hd hd2
    · rw [ec_4 (by omega), if_neg (by omega), if_neg (by omega)]
    · rw [ppd_RC]
      show (if k = 2 * u3 + 1 then 0 else if k = 2 * u3 then m31.2 15 p else RC T m31 k) = _
      rw [if_neg (by omega), if_neg (by omega)]
    · rw [ec_4 (by omega), if_neg (by omega), if_pos rfl]
    · rw [ppd_RC]
      show (if 2 * u3 = 2 * u3 + 1 then 0 else if 2 * u3 = 2 * u3 then m31.2 15 p else RC T m31 (2 * u3)) = 20
      rw [if_neg (by omega), if_pos rfl, pl]
theorem T_ask (B : BY q L) (H : TB (q.2 0) L N K S A) (HP : ∀ n, 800 ≤ n → PG ow q L K S A N (fun s => D_readSum q rc n s (o : Int)) o (6 * o + 3) 4 5 false (44 - 5 * o) QS) (ho8 : o ≤ 8) (hr3 : o < 8 → PG ow q L K S A N (fun s => rc 3 s ((o + 1 : Nat) : Int)) (o + 1) (6 * (o + 1) + 2) 3 3 true (45 - 5 * (o + 1)) QS) (hn : 800 ≤ n) : PG ow q L K S A N (fun s => D_readAsk q rc n s (o : Int)) o (6 * o + 2) 3 3 true (45 - 5 * o) QS := fun s m t p i u T hs h18 hp hrk _ h41 => by
  have h41 := h41 rfl
  obtain ⟨haA, hp0⟩ := aA_y h41 hrk
  have hcm := cmA_n hp0 hrk
  have hRT := hs.2.1.2.2.1
  have hk : s.1 9 = K t := hs.1.1.2.2
  have hN := hs.1.2.2
  have h16 := hs.2.2.2.2.1.1
  have h17 := hs.2.2.2.2.1.2.1
  show FA K S A N (D_readAsk q rc n s (o : Int)) s m t i ∨ ∃ (s' m' m1 : bS) (t' i' u' c : Nat), D_readAsk q rc n s (o : Int) = some (0, s') ∧ QS (K t') ∧ SU ow q L K S A N 3 true s m s' m' m1 t t' p o i i' u u' T (45 - 5 * o) c
  unfold D_readAsk
  rw [hk]
  by_cases c19 : K t = 219
  · have hbeg : ∀ n, 200 ≤ n → R_beginOne n m = R_opened n m 20 := fun n hn => by
      rw [beg_rest hRT (by omega) (by omega) (by omega) (by omega) (by omega) (by omega) (by omega) h16 (by omega) hn, if_pos ⟨c19, haA⟩]
    rw [if_pos c19]
    by_cases co : o < 8
    · have htN : t < N := K_lt H hN.1 (by omega)
      obtain ⟨m2, e1, e2, e3, e4, e5, e6, e7⟩ := open_1 B H hs h18 (by omega) co htN hbeg
      rw [if_pos (by omega), bb_s (adv (q := q) (n := n) hs.1 htN).1, wad1 (by omega)]
      have hp3 := hr3 co _ m2 (t + 1) (p + 1) i u T e3 e4 (by omega) (Or.inr (by rw [Nat.add_sub_cancel, e5, rk_20]; decide)) (fun h => by cases h) (fun _ => by
        rw [opN_s (by rw [e5]; decide), ← h41]
        exact opN_c (fun k hk => e6 k (by omega)))
      have h6 : s.1 11 = (i : Int) := hs.2.2.1.2.1
      have hi := hs.2.2.1.2.2
      rcases hp3 with h | ⟨s3, m3, m31, t3, i3, u3, c3, x1, x2, x3⟩
      · refine Or.inl (FA_b (FA_up (W' := 0) h (FS_89 (by omega) (by omega)) e1 e2 (Nat.le_refl i) (by omega) (by omega)) (fun s3 h3 w3 => DO_b (dd_emit h3 w3) fun s4 h4 w4 => DO_r h4 w4))
      · obtain ⟨y1, y2⟩ := not_2 (dep := 45 - 5 * o) hs e1 e2 e3 rfl e5 e6 x3 (by omega) (by omega)
        refine Or.inr ⟨_, m3, _, t3, _, _, _, ?_, x2, y2⟩
        rw [bb_s x1, bb_s (y1 n)]
    · rw [if_neg (by omega), bb_s (refuse_ok hs.1 hs.2.2.1.1)]
      exact Or.inl (fa_here hs (by decide) (fun n hn => beg_n h18 ((hbeg n (by omega)).trans (opened_x (by omega))) (by decide)))
  · rw [if_neg c19]
    have hp1 := HP n hn s m t p i u T hs h18 (by omega) (hrk.imp id (fun h => by omega)) (fun _ h => absurd h c19) (fun h => by cases h)
    rcases hp1 with h | ⟨s', m', m1, t', i', u', c, x1, x2, x3⟩
    · refine Or.inl (FA_b h (fun s5 h5 w5 => ?_))
      obtain ⟨n4, hn4⟩ : ∃ n4, n = n4 + 1 := ⟨n - 1, by omega⟩
      subst hn4
      obtain ⟨v, hv⟩ := rel_ok (q := q) (n := n4 + 1) (s := s5)
      show DO K S A N i (bb (D_relation q (n4 + 1) s5) fun v6 s6 => _) s5
      rw [bb_s hv]
      by_cases d : v = -1
      · rw [if_pos d, bb_s (dd_ref h5.1)]; exact DO_r h5 w5
      · rw [if_neg d]
        exact DO_b (dd_adv h5 w5) fun s h hw => DO_b (dd_sum h hw) fun s h hw => DO_b (dd_emit h hw) fun s h hw => DO_r h hw
    · obtain ⟨k1, k2, k3, k4, k5, k6, k7, k8, k9⟩ := SU_kind x3
      have hRT' := k6.2.2.1
      have hopn := (SU_opN x3).trans h41
      have hcma : cmA (m'.2 15) (p + c) = false := (SU_cmA x3).trans ((if_neg (by decide)).trans hcm)
      have hbt : ∀ n, 200 ≤ n → R_betweenOf n m' = some (cmpv (K t'), m') := fun n hn => by
        rw [btw_q hRT' x2 k7 (by omega) hn, if_pos hopn, hcma, if_neg (by decide)]
      rw [bb_s x1, bb_s (relc k1)]
      rcases rel_cmp (kd := K t') with ⟨r1, r2⟩ | ⟨v, v1, v2, v3, v4, v5⟩
      · rw [if_pos r1, bb_s (refuse_ok x3.2.1.1 k2)]
        refine Or.inl (fa_su x3 (by decide) (fun n hn => ?_))
        rw [beh_n k9 (by rw [hbt n (by omega), r2]) k7 (by omega) (by omega) (by rw [part_ok hRT' k7 (by omega) (by omega), hopn, if_neg (by decide), if_pos rfl, hcma, if_neg (by intro h; cases h.2)]), hopn, if_neg (by decide)]
      · rw [v3, if_neg (by omega)]
        have hrk4 := rk_cmp v1 v2
        have htN : t' < N := K_lt H k3 v5
        have g := inf_ok (n := n) (cop := (v : Int)) (op := (v : Int) - 2) (lv := 5) (r2 := 3) (ak2 := true) (dep2 := 45 - 5 * o) B H (HP n hn) x3 htN (fun n hn => by rw [hbt n hn, v4]) (by omega) (by omega) (by rw [hrk4]; rfl) (by decide) (by decide) (hrk.imp id (fun h => by omega)) (by omega) (by omega) (fun _ => by omega) (fun h => by cases h) (by omega) (by omega) (by omega) (by decide) (Or.inr (Or.inl ⟨rfl, hrk4, rfl⟩)) (fun C R i j k u v y a b c1 c2 => ⟨fun h => (by cases h), fun _ => SA_cm (a.1 rfl) (b.1 rfl) v1 v2 c1 c2 (by omega) (by omega) (by omega)⟩) (fun s4 => some (0, s4)) (fun s4 h4 w4 => DO_r h4 w4)
        rcases g with g | ⟨s4, m3, m1', t3, i4, u4, c4, g1, g2, g3, g4⟩
        · exact Or.inl g
        · exact Or.inr ⟨s4, m3, m1', t3, i4, u4, c4, g1, g2, g4⟩
end
