/-! Reading laws: a choice; all that is read, by depth. -/
section
variable {ow : Nat → Prop} {q s s' s2 s3 s6 m m' m1 m2 m3 : bS} {f g K S A C R : Nat → Int} {L n i i' i6 j d k t t' t2 N p u u' T o c c' pb pb' dep dep' dep2 W : Nat} {x y kd am v l op r r' rb rb' lv : Int} {ak ak' ak2 : Bool} {F : Option (Int × bS)} {F' G : bS → Option (Int × bS)} {Q Q' : Int → Prop} {rc : Nat → bS → Int → Option (Int × bS)}
theorem adv4 {x y : Int} : (bI (bI s 8 x) 9 y).2 4 = s.2 4 := rfl
theorem T_choice (B : BY q L) (H : TB (q.2 0) L N K S A) (ho8 : o < 8) (HE : PG ow q L K S A N (fun s => D_readEither q rc (n + 1) s ((o + 1 : Nat) : Int)) (o + 1) (6 * (o + 1)) 0 1 true (47 - 5 * (o + 1)) QE) (HS : PG ow q L K S A N (fun s => D_readSum q rc (n + 1) s ((o + 1 : Nat) : Int)) (o + 1) (6 * (o + 1) + 3) 4 5 false (44 - 5 * (o + 1)) QS) : PC ow q L K S A N (fun s => D_readChoice q rc (n + 1) s ((o + 1 : Nat) : Int)) o := fun s m t p i u T hs h18 hp h41 => by
  have hN := hs.1.2.2
  have h11 : s.1 11 = (i : Int) := hs.2.2.1.2.1
  have on41 : opN (m.2 15) (p + 1) = 41 := by rw [opN_t (by rw [h41]; decide), h41]
  show FA K S A N (D_readChoice q rc (n + 1) s ((o + 1 : Nat) : Int)) s m t i ∨ ∃ (s' m' : bS) (t' i' u' : Nat), D_readChoice q rc (n + 1) s ((o + 1 : Nat) : Int) = some (0, s') ∧ S1 ow q L K S A N s m s' m' t t' p o i i' u u' T (42 - 5 * o)
  unfold D_readChoice
  rcases HE s m t (p + 1) i u T hs h18 (by omega) (Or.inr (by rw [Nat.add_sub_cancel, h41]; decide)) (fun h => by cases h) (fun _ => on41) with h | ⟨s1, ma, ma1, t1, i1, u1, c1, x1, x2, x3⟩
  · exact Or.inl (FA_b h (fun s h hw => dd_c2 h hw))
  rw [bb_s x1]
  obtain ⟨k1, k2, k3, k4, k5, k6, k7, k8, k9⟩ := SU_kind x3
  have hbt1 : ∀ n, 200 ≤ n → R_betweenOf n ma = some (-1, ma) := fun n hn => btw_m1 x3 x2.1 (fun _ => ⟨rfl, x2.2.1, x2.2.2⟩) hn
  have hcm1 : cmA (ma.2 15) (p + 1 + c1) = true := (SU_cmA x3).trans (if_pos rfl)
  have a2 := x3.2.1
  have a13 := x3.2.2.2.2.2.2.2.2.2.2.2.2.1
  have a14 := x3.2.2.2.2.2.2.2.2.2.2.2.2.2.1
  have a15 := x3.2.2.2.2.2.2.2.2.2.2.2.2.2.2
  have le1 := Sem_le a15
  have e11 : s1.1 11 = (i1 : Int) := a2.2.2.1.2.1
  have hi1 := a2.2.2.1.2.2
  by_cases c214 : K t1 = 214
  rotate_left
  · have hpt : ∀ n, 200 ≤ n → R_partOf n ma (opN (ma.2 15) (p + 1 + c1)) = some (-1, ma) := fun n hn => by rw [part_su x3 hn, on41, if_neg (by decide), if_pos rfl, if_neg (fun h => c214 h.1)]
    rw [exp_n a2.1 k2 c214]
    refine Or.inl (FA_b (no_part x3 hbt1 hpt (by omega)) (fun s' h' w' => ?_))
    have := dd_c2 (q := q) (n := n) (r := rc) (x := ((o + 1 : Nat) : Int)) h' w'
    rw [bb_s (dd_exp h'.1)] at this
    exact this
  have ht1 : t1 < N := K_lt H k3 (by omega)
  have hpt1 : ∀ n, 200 ≤ n → R_partOf n ma (opN (ma.2 15) (p + 1 + c1)) = some (42, ma) := fun n hn => by rw [part_su x3 hn, on41, if_neg (by decide), if_pos rfl, if_pos ⟨c214, hcm1⟩]
  rw [bb_s (exp_y a2.1 k2 c214 ht1)]
  obtain ⟨s2, hs2⟩ : ∃ s2, s2 = bI (bI s1 8 ((t1 + 1 : Nat) : Int)) 9 (K (t1 + 1)) := ⟨_, rfl⟩
  rw [← hs2]
  have C2 : CS K S A N s2 (t1 + 1) := by rw [hs2]; exact (adv (q := q) (n := 0) a2.1 ht1).2
  have e211 : s2.1 11 = (i1 : Int) := by rw [hs2]; exact e11
  have e213 : s2.1 13 = 0 := by rw [hs2]; exact k2
  have e24 : s2.2 4 = s1.2 4 := by rw [hs2]; rfl
  have f2 : FS i s s2 := by rw [hs2]; exact a13.tr (FS_89 (by omega) (by omega))
  rw [bb_s (emitc e211 (by omega))]
  obtain ⟨mc, g1, g2, g3, g4, g5, g6, g7⟩ := part_1 (s6 := ec i1 s2 3 0) (i6 := i1 + 2) (v3 := 42) B H x3 (by decide) ht1 hbt1 hpt1 (by decide) (by rw [h41]; decide) (CS_ec C2) e213 rfl (by omega) (by rw [ec_1 (by decide), hs2]; rfl)
  have f3 : FS i s (ec i1 s2 3 0) := f2.tr (FS_ec e211 (by omega) (by omega))
  have on42 : opN (mc.2 15) (p + 1) = 42 := by rw [opN_t (by rw [g5]; decide), g5]
  rcases HS (ec i1 s2 3 0) mc (t1 + 1) (p + 1) (i1 + 2) u1 T g3 g4 (by omega) (Or.inr (by rw [Nat.add_sub_cancel, g5]; decide)) (fun _ _ => by
    unfold aA
    rw [on42]
    exact decide_eq_false (by intro h; omega)) (fun h => by cases h) with h | ⟨s4, md, md1, t2, i2, u2, c2, y1, y2, y3⟩
  · refine Or.inl (FA_b (FA_up (W' := 0) h f3 g1 g2 (by omega) (by omega) (by omega)) (fun s h hw => ?_))
    rw [e211]
    exact dd_c4 h hw (by omega) (by omega)
  rw [bb_s y1]
  obtain ⟨k1', k2', k3', k4', k5', k6', k7', k8', k9'⟩ := SU_kind y3
  have hbt2 : ∀ n, 200 ≤ n → R_betweenOf n md = some (-1, md) := fun n hn => btw_m1 y3 y2 (fun h => by omega) hn
  have b2 := y3.2.1
  have b9 := y3.2.2.2.2.2.2.2.2.1
  have b10 := y3.2.2.2.2.2.2.2.2.2.1
  have b13 := y3.2.2.2.2.2.2.2.2.2.2.2.2.1
  have b14 := y3.2.2.2.2.2.2.2.2.2.2.2.2.2.1
  have b15 := y3.2.2.2.2.2.2.2.2.2.2.2.2.2.2
  have le2 := Sem_le b15
  have e411 : s4.1 11 = (i2 : Int) := b2.2.2.1.2.1
  have hi2 := b2.2.2.1.2.2
  have f4 : FS i s s4 := f3.tr (b13.le (by omega))
  by_cases c215 : K t2 = 215
  rotate_left
  · have hpt : ∀ n, 200 ≤ n → R_partOf n md (opN (md.2 15) (p + 1 + c2)) = some (-1, md) := fun n hn => by rw [part_su y3 hn, on42, if_neg (by decide), if_neg (by decide), if_pos rfl, if_neg c215]
    rw [exp_n b2.1 k2' c215]
    refine Or.inl (FA_b (FA_up (W' := 0) (no_part y3 hbt2 hpt (by omega)) f3 g1 g2 (by omega) (by omega) (by omega)) (fun s' h' w' => ?_))
    rw [e211]
    have := dd_c4 (q := q) (n := n) (r := rc) (x := ((o + 1 : Nat) : Int)) (z := (i1 : Int)) h' w' (by omega) (by omega)
    rw [bb_s (dd_exp h'.1)] at this
    exact this
  have ht2 : t2 < N := K_lt H k3' (by omega)
  have hpt2 : ∀ n, 200 ≤ n → R_partOf n md (opN (md.2 15) (p + 1 + c2)) = some (43, md) := fun n hn => by rw [part_su y3 hn, on42, if_neg (by decide), if_neg (by decide), if_pos rfl, if_pos c215]
  rw [bb_s (exp_y b2.1 k2' c215 ht2)]
  obtain ⟨s5, hs5⟩ : ∃ s5, s5 = bI (bI s4 8 ((t2 + 1 : Nat) : Int)) 9 (K (t2 + 1)) := ⟨_, rfl⟩
  rw [← hs5]
  have C5 : CS K S A N s5 (t2 + 1) := by rw [hs5]; exact (adv (q := q) (n := 0) b2.1 ht2).2
  have e511 : s5.1 11 = (i2 : Int) := by rw [hs5]; exact e411
  have e513 : s5.1 13 = 0 := by rw [hs5]; exact k2'
  have e54 : s5.2 4 = s4.2 4 := by rw [hs5]; rfl
  have f5 : FS i s s5 := by rw [hs5]; exact f4.tr (FS_89 (by have := f4.2.2.2; omega) (by omega))
  rw [bb_s (emitc e511 (by omega)), e211, bb_s (leadc (Nat.zero_le _) (by omega))]
  obtain ⟨s7, hs7⟩ : ∃ s7, s7 = bA (ec i2 s5 2 0) 4 ((i1 + 1 : Nat) : Int) ((ec i2 s5 2 0).1 11) := ⟨_, rfl⟩
  rw [← hs7]
  have C7 : CS K S A N s7 (t2 + 1) := by rw [hs7]; exact CS_c (CS_ec C5) rfl rfl rfl (bA_2 (by decide)) (bA_2 (by decide)) (bA_2 (by decide))
  have e711 : s7.1 11 = ((i2 + 2 : Nat) : Int) := by rw [hs7]; rfl
  have e713 : s7.1 13 = 0 := by rw [hs7]; exact e513
  have f6 : FS i s (ec i2 s5 2 0) := f5.tr (FS_ec e511 (by omega) (by omega))
  have f7 : FS i s s7 := by rw [hs7]; exact f6.tr (FS_lead (by show ((i2 + 2 : Nat) : Int) ≤ 600; omega) (by omega) (by show (i : Int) ≤ ((i2 + 2 : Nat) : Int); omega) (by omega))
  obtain ⟨me, j1, j2, j3, j4, j5, j6, j7⟩ := part_1 (s6 := s7) (i6 := i2 + 2) (v3 := 43) B H y3 (by decide) ht2 hbt2 hpt2 (by decide) (by rw [g5]; decide) C7 e713 e711 (by omega) (by rw [hs7]; show s5.1 10 = _; rw [hs5]; rfl)
  have gme : GO N t (t2 + 1) m me := g1.tr j1 (by omega) (by omega) (by omega)
  have fme : FR m me := g2.tr j2
  have on43 : opN (me.2 15) (p + 1) = 43 := by rw [opN_t (by rw [j5]; decide), j5]
  rcases HS s7 me (t2 + 1) (p + 1) (i2 + 2) u2 T j3 j4 (by omega) (Or.inr (by rw [Nat.add_sub_cancel, j5]; decide)) (fun _ _ => by
    unfold aA
    rw [on43]
    exact decide_eq_false (by intro h; omega)) (fun h => by cases h) with h | ⟨s8, mf, mf1, t3, i3, u3, c3, z1, z2, z3⟩
  · refine Or.inl (FA_b (FA_up (W' := 0) h f7 gme fme (by omega) (by omega) (by omega)) (fun s h hw => ?_))
    rw [e511]
    exact dd_c5 (z := 0) h hw (by omega) (by omega)
  rw [bb_s z1]
  obtain ⟨k1'', k2'', k3'', k4'', k5'', k6'', k7'', k8'', k9''⟩ := SU_kind z3
  have hbt3 : ∀ n, 200 ≤ n → R_betweenOf n mf = some (-1, mf) := fun n hn => btw_m1 z3 z2 (fun h => by omega) hn
  have d2 := z3.2.1
  have d9 := z3.2.2.2.2.2.2.2.2.1
  have d13 := z3.2.2.2.2.2.2.2.2.2.2.2.2.1
  have d14 := z3.2.2.2.2.2.2.2.2.2.2.2.2.2.1
  have d15 := z3.2.2.2.2.2.2.2.2.2.2.2.2.2.2
  have le3 := Sem_le d15
  have e811 : s8.1 11 = (i3 : Int) := d2.2.2.1.2.1
  have hi3 := d2.2.2.1.2.2
  have f8 : FS i s s8 := f7.tr (d13.le (by omega))
  by_cases c216 : K t3 = 216
  rotate_left
  · have hpt : ∀ n, 200 ≤ n → R_partOf n mf (opN (mf.2 15) (p + 1 + c3)) = some (-1, mf) := fun n hn => by rw [part_su z3 hn, on43, if_neg (by decide), if_neg (by decide), if_neg (by decide), if_pos rfl, if_neg c216]
    rw [exp_n d2.1 k2'' c216]
    refine Or.inl (FA_b (FA_up (W' := 0) (no_part z3 hbt3 hpt (by omega)) f7 gme fme (by omega) (by omega) (by omega)) (fun s' h' w' => ?_))
    rw [e511]
    have := dd_c5 (q := q) (n := n + 1) (z := 0) (y := (i2 : Int)) h' w' (by omega) (by omega)
    rw [bb_s (dd_exp h'.1)] at this
    exact this
  have ht3 : t3 < N := K_lt H k3'' (by omega)
  have hpt3 : ∀ n, 200 ≤ n → R_partOf n mf (opN (mf.2 15) (p + 1 + c3)) = some (0, mf) := fun n hn => by rw [part_su z3 hn, on43, if_neg (by decide), if_neg (by decide), if_neg (by decide), if_pos rfl, if_pos c216]
  rw [bb_s (exp_y d2.1 k2'' c216 ht3)]
  obtain ⟨s9, hs9⟩ : ∃ s9, s9 = bI (bI s8 8 ((t3 + 1 : Nat) : Int)) 9 (K (t3 + 1)) := ⟨_, rfl⟩
  rw [← hs9]
  have C9 : CS K S A N s9 (t3 + 1) := by rw [hs9]; exact (adv (q := q) (n := 0) d2.1 ht3).2
  have e911 : s9.1 11 = (i3 : Int) := by rw [hs9]; exact e811
  have e913 : s9.1 13 = 0 := by rw [hs9]; exact k2''
  have e94 : s9.2 4 = s8.2 4 := by rw [hs9]; rfl
  have f9 : FS i s s9 := by rw [hs9]; exact f8.tr (FS_89 (by have := f8.2.2.2; omega) (by omega))
  rw [e511, bb_s (leadc (Nat.zero_le _) (by omega)), e911]
  obtain ⟨sa, hsa⟩ : ∃ sa, sa = bA s9 4 ((i2 + 1 : Nat) : Int) (i3 : Int) := ⟨_, rfl⟩
  rw [← hsa]
  have Ca : CS K S A N sa (t3 + 1) := by rw [hsa]; exact CS_c C9 rfl rfl rfl (bA_2 (by decide)) (bA_2 (by decide)) (bA_2 (by decide))
  have fa : FS i s sa := by rw [hsa]; exact f9.tr (FS_lead (by omega) (by omega) (by have := f9.2.2.2; omega) (by omega))
  obtain ⟨m5, v1, _, v3, v4, v5⟩ := shut_1 (s6 := sa) B H z3 (by decide) ht3 hbt3 hpt3 (by rw [j5]; decide) Ca (by rw [hsa]; exact e913) (by rw [hsa]; exact e911) (by rw [hsa]; show s9.1 10 = _; rw [hs9]; rfl)
  obtain ⟨u5, w0, w1, w2, w3⟩ := v1 on43
  subst w0
  have qa : ∀ k, k ≠ i2 + 1 → sa.2 4 k = s8.2 4 k := fun k hk => by rw [hsa, bA_e (by omega), if_neg hk, e94]
  have q8 : ∀ k, k < i2 + 2 → s8.2 4 k = s7.2 4 k := fun k hk => d13.2.2.1 k hk
  have q7 : ∀ k, k ≠ i1 + 1 → s7.2 4 k = (ec i2 s5 2 0).2 4 k := fun k hk => by rw [hs7, bA_e (by omega), if_neg hk]
  have q6 : ∀ k, k < i2 → (ec i2 s5 2 0).2 4 k = s4.2 4 k := fun k hk => by rw [ec_4 (by omega), if_neg (by omega), if_neg (by omega), e54]
  have q4 : ∀ k, k < i1 + 2 → s4.2 4 k = (ec i1 s2 3 0).2 4 k := fun k hk => b13.2.2.1 k hk
  have q3 : ∀ k, k < i1 → (ec i1 s2 3 0).2 4 k = s1.2 4 k := fun k hk => by rw [ec_4 (by omega), if_neg (by omega), if_neg (by omega), e24]
  have uT := d2.2.2.2.2.2.1.1
  have rc5 : ∀ k, k < 2 * u3 → RC T (em T u3 m5 3 0) k = RC T mf1 k := fun k hk => by
    rw [em_RC]
    show (if k = 2 * u3 + 1 then 0 else if k = 2 * u3 then 3 else RC T m5 k) = _
    rw [if_neg (by omega), if_neg (by omega)]
    unfold RC
    rw [v5]
  have rcf : ∀ k, k < 2 * u2 → RC T mf1 k = RC T md1 k := fun k hk => by
    have := d9.2.2.1 (729 * T + 121 + k) (by rw [j3.2.2.2.2.2.1.1, j3.2.2.2.1.1]; omega)
    show mf1.2 2 (729 * T + 121 + k) = md1.2 2 (729 * T + 121 + k)
    rw [this, j7]
  have rcd : ∀ k, k < 2 * u1 → RC T md1 k = RC T ma1 k := fun k hk => by
    have := b9.2.2.1 (729 * T + 121 + k) (by rw [g3.2.2.2.2.2.1.1, g3.2.2.2.1.1]; omega)
    show md1.2 2 (729 * T + 121 + k) = ma1.2 2 (729 * T + 121 + k)
    rw [this, g7]
  refine Or.inr ⟨sa, em T u3 m5 3 0, t3 + 1, i3, u3 + 1, rfl, by omega, w3, v3, gme.tr1 w1 (by omega) (by omega) (by omega), fme.tr w2, fun k hk => ?_, fa, ⟨by omega, by omega⟩, ?_⟩
  · rw [em_j (by decide), v4 k hk, j6 k hk, g6 k hk]
  · have t1' : SA ow (sa.2 4) i i1 (RC T (em T u3 m5 3 0)) u u1 (47 - 5 * (o + 1)) := (a15.2 rfl).c (fun k k1 k2 => by rw [qa k (by omega), q8 k (by omega), q7 k (by omega), q6 k (by omega), q4 k (by omega), q3 k (by omega)]) (fun k k1 k2 => by rw [rc5 k (by omega), rcf k (by omega), rcd k (by omega)]) (Nat.le_refl _)
    have t2' : SN ow (sa.2 4) (i1 + 2) i2 (RC T (em T u3 m5 3 0)) u1 u2 (44 - 5 * (o + 1)) := (b15.1 rfl).c (fun k k1 k2 => by rw [qa k (by omega), q8 k (by omega), q7 k (by omega), q6 k (by omega)]) (fun k k1 k2 => by rw [rc5 k (by omega), rcf k (by omega)]) (Nat.le_refl _)
    have t3' : SN ow (sa.2 4) (i2 + 2) i3 (RC T (em T u3 m5 3 0)) u2 u3 (44 - 5 * (o + 1)) := (d15.1 rfl).c (fun k k1 k2 => by rw [qa k (by omega)]) (fun k k1 k2 => by rw [rc5 k (by omega)]) (Nat.le_refl _)
    refine SN_if t1' t2' t3' ?_ ?_ ?_ ?_ ?_ (by omega) (by omega) (by omega) (by omega)
    · rw [qa i1 (by omega), q8 i1 (by omega), q7 i1 (by omega), q6 i1 (by omega), q4 i1 (by omega), ec_4 (by omega), if_neg (by omega), if_pos rfl]
    · rw [qa (i1 + 1) (by omega), q8 (i1 + 1) (by omega), hs7, bA_e (by omega), if_pos rfl]; rfl
    · rw [qa i2 (by omega), q8 i2 (by omega), q7 i2 (by omega), ec_4 (by omega), if_neg (by omega), if_pos rfl]
    · rw [hsa, bA_e (by omega), if_pos rfl]
    · rw [em_RC]
      show (if 2 * u3 = 2 * u3 + 1 then 0 else if 2 * u3 = 2 * u3 then 3 else RC T m5 (2 * u3)) = 3
      rw [if_neg (by omega), if_pos rfl]
/-- by depth -/
theorem T_rec (B : BY q L) (H : TB (q.2 0) L N K S A) (hn : 2000 ≤ n) : ∀ (d o : Nat), o ≤ 8 → 9 ≤ d + o → P1 ow q L K S A N (fun s => D_rec q (n + 1) d 0 s (o : Int)) o (42 - 5 * o) ∧ PG ow q L K S A N (fun s => D_rec q (n + 1) d 1 s (o : Int)) o (6 * o + 3) 4 5 false (44 - 5 * o) QS ∧ (∀ o', o = o' + 1 → PC ow q L K S A N (fun s => D_rec q (n + 1) d 2 s (o : Int)) o') ∧ PG ow q L K S A N (fun s => D_rec q (n + 1) d 3 s (o : Int)) o (6 * o + 2) 3 3 true (45 - 5 * o) QS
  | 0, o, h1, h2 => by omega
  | d + 1, o, h1, h2 => by
    have ih := fun (h : o < 8) => T_rec B H hn d (o + 1) (by omega) (by omega)
    have hone : ∀ n', 1 ≤ n' → P1 ow q L K S A N (fun s => D_readOne q (D_rec q (n + 1) d) n' s (o : Int)) o (42 - 5 * o) := fun n' _ => T_one B H h1 (fun h => (ih h).1) (fun h => (ih h).2.1) (fun h => (ih h).2.2.1 o rfl)
    have hprod : ∀ n', 400 ≤ n' → PG ow q L K S A N (fun s => D_readProduct q (D_rec q (n + 1) d) n' s (o : Int)) o (6 * o + 4) 5 6 false (43 - 5 * o) QP := fun n' hn' => T_prod B H hone h1 hn'
    have hsum : ∀ n', 800 ≤ n' → PG ow q L K S A N (fun s => D_readSum q (D_rec q (n + 1) d) n' s (o : Int)) o (6 * o + 3) 4 5 false (44 - 5 * o) QS := fun n' hn' => T_sum B H hprod h1 hn'
    have hask : ∀ n', 800 ≤ n' → PG ow q L K S A N (fun s => D_readAsk q (D_rec q (n + 1) d) n' s (o : Int)) o (6 * o + 2) 3 3 true (45 - 5 * o) QS := fun n' hn' => T_ask B H hsum h1 (fun h => (ih h).2.2.2) hn'
    have hboth : ∀ n', 1200 ≤ n' → PG ow q L K S A N (fun s => D_readBoth q (D_rec q (n + 1) d) n' s (o : Int)) o (6 * o + 1) 1 2 true (46 - 5 * o) QB := fun n' hn' => T_both B H hask h1 hn'
    have heither : ∀ n', 1600 ≤ n' → PG ow q L K S A N (fun s => D_readEither q (D_rec q (n + 1) d) n' s (o : Int)) o (6 * o) 0 1 true (47 - 5 * o) QE := fun n' hn' => T_either B H hboth h1 hn'
    refine ⟨hone (n + 1) (by omega), hsum (n + 1) (by omega), fun o' ho' => ?_, hask (n + 1) (by omega)⟩
    subst ho'
    exact T_choice B H (by omega) (heither (n + 1) (by omega)) (hsum (n + 1) (by omega))
end
