/-! Reading laws: one, and a choice. -/
/-- a choice behind its first word -/
def PC (ow : Nat → Prop) (q : bS) (L : Nat) (K S A : Nat → Int) (N : Nat) (F : bS → Option (Int × bS)) (o : Nat) : Prop := ∀ (s m : bS) (t p i u T : Nat), STT ow q L K S A N s m t (p + 1) (o + 1) i u T → m.1 18 = 0 → p ≤ 6 * o + 5 → m.2 15 p = 41 → FA K S A N (F s) s m t i ∨ ∃ (s' m' : bS) (t' i' u' : Nat), F s = some (0, s') ∧ S1 ow q L K S A N s m s' m' t t' p o i i' u u' T (42 - 5 * o)
section
variable {ow : Nat → Prop} {q s s' s2 s3 s6 m m' m1 m2 m3 : bS} {f g K S A C R : Nat → Int} {L n i i' i6 j d k t t' t2 N p u u' T o c c' pb pb' dep dep' dep2 W : Nat} {x y kd am v l op r r' rb rb' lv : Int} {ak ak' ak2 : Bool} {F : Option (Int × bS)} {F' G : bS → Option (Int × bS)} {Q Q' : Int → Prop} {rc : Nat → bS → Int → Option (Int × bS)}
theorem GO1_1 (h : ∀ n, 999 + (N - t) ≤ n → R_summed_15 (n + 1) m = bb (R_settle_0 n m' 7) fun _ s => R_summed_15 n s) : GO1 N t (t + 1) m m' := fun n hn => by
  obtain ⟨n1, h1⟩ : ∃ n1, n = n1 + 1 := ⟨n - 1, by omega⟩
  subst h1
  exact ⟨n1, n1, h n1 (by omega), by omega, by omega, by omega⟩
theorem GO.tr1 (h1 : GO N t t' m m') (h2 : GO1 N t' t2 m' m1) (a : t ≤ t') (b : t' ≤ t2) (cc : t2 ≤ N) : GO1 N t t2 m m1 := fun n hn => by
  obtain ⟨n1, e1, e2, e3⟩ := h1 n hn
  obtain ⟨n2, n3, e4, e5, e6, e7⟩ := h2 n1 (by omega)
  exact ⟨n2, n3, e1.trans e4, by omega, by omega, by omega⟩
theorem S1.up (h : S1 ow q L K S A N s2 m2 s' m' t2 t' p o i i' u u' T dep) (hs : FS i s s2) (hg : GO N t t2 m m2) (hf : FR m m2) (hpl : ∀ k, k < p → m2.2 15 k = m.2 15 k) (ht : t ≤ t2) : S1 ow q L K S A N s m s' m' t t' p o i i' u u' T dep := by
  obtain ⟨x2, x3, x4, x5, x6, x7, x8, x9, x10⟩ := h
  have := x3.1.2.2
  exact ⟨by omega, x3, x4, hg.tr1 x5 ht (by omega) (by omega), hf.tr x6, fun k hk => by rw [x7 k hk, hpl k hk], hs.tr x8, ⟨by omega, by omega⟩, x10⟩
/-- a leaf -/
theorem leaf_ok (B : BY q L) (H : TB (q.2 0) L N K S A) (hs : STT ow q L K S A N s m t p o i u T) (h18 : m.1 18 = 0) (htN : t < N) (hb : ∀ n, 200 ≤ n → R_beginOne n m = R_beginOne_81 n m x v) (hsn : ∀ C R : Nat → Int, C i = x → C (i + 1) = v → R (2 * u) = x → R (2 * u + 1) = v → SN ow C i (i + 2) R u (u + 1) dep) : ∃ m', S1 ow q L K S A N s m (bI (bI (ec i s x v) 8 ((t + 1 : Nat) : Int)) 9 (K (t + 1))) m' t (t + 1) p o i (i + 2) u (u + 1) T dep := by
  obtain ⟨C, M, ⟨w1, w2, w3⟩, ⟨u1, u2⟩, ⟨p1, p2, p3⟩, ⟨T1, T2⟩, g1, g2⟩ := hs
  have hN := C.2.2
  have Mp : MS q L K S A N (em T u m x v) t := MS_c M (fun k hk => em_1 (by omega)) (em_j (by decide))
  obtain ⟨m2, x1, x2, x3⟩ := nxtt B H Mp htN
  have y : ∀ k, 12 ≤ k → k ≠ 18 → (bI m2 18 1).1 k = (em T u m x v).1 k := fun k hk h => by rw [bI_1 h]; exact x3.1 k (by omega)
  have y2 : (bI m2 18 1).2 = (em T u m x v).2 := x3.2
  have C2 := (adv (q := q) (n := 0) (CS_ec (i := i) (a := x) (b := v) C) htN).2
  have fs1 : FS i s (ec i s x v) := FS_ec w2 (by omega) (Nat.le_refl i)
  have hf : FR m (bI m2 18 1) := ((FR_em T1 u1 (by omega)).tr (FR_NX x3)).tr (FR_bI (by omega))
  have hrc : RC T (bI m2 18 1) = RC T (em T u m x v) := by unfold RC; rw [y2]
  have e11 : (ec i s x v).1 11 = ((i + 2 : Nat) : Int) := rfl
  refine ⟨bI m2 18 1, by omega, ⟨C2, MS_c x2 (fun k hk => bI_1 (by omega)) rfl, ⟨w1, rfl, by omega⟩, ⟨(y 13 (by omega) (by omega)), by omega⟩, ⟨(y 16 (by omega) (by omega)).trans p1, (y 17 (by omega) (by omega)).trans p2, p3⟩, ⟨(y 12 (by omega) (by omega)).trans T1, T2⟩, ?_, ?_⟩, bI_e, GO1_1 (fun n hn => beg_81 T1 T2 u1 (by omega) h18 (hb n (by omega)) (x1 n (by omega))), hf, fun k hk => by rw [y2, em_j (by decide)], fs1.tr (FS_89 (by omega) (by omega)), ⟨by omega, by omega⟩, hsn _ _ ?_ ?_ ?_ ?_⟩
  · rw [y 14 (by omega) (by omega)]; exact g1
  · rw [y 14 (by omega) (by omega)]; exact g2
  · show (ec i s x v).2 4 i = x
    rw [ec_4 (by omega), if_neg (by omega), if_pos rfl]
  · show (ec i s x v).2 4 (i + 1) = v
    rw [ec_4 (by omega), if_pos rfl]
  · rw [hrc, em_RC]
    show (if 2 * u = 2 * u + 1 then v else if 2 * u = 2 * u then x else RC T m (2 * u)) = x
    rw [if_neg (by omega), if_pos rfl]
  · rw [hrc, em_RC]
    show (if 2 * u + 1 = 2 * u + 1 then v else if 2 * u + 1 = 2 * u then x else RC T m (2 * u + 1)) = v
    rw [if_pos rfl]
/-- nothing stands behind: where both sides are -/
theorem btw_m1 (hSU : SU ow q L K S A N r ak s m s' m' m1 t t' p o i i' u u' T dep c) (hq : QS (K t')) (h : opN (m.2 15) p = 41 → ak = true ∧ K t' ≠ 218 ∧ K t' ≠ 217) (hn : 200 ≤ n) : R_betweenOf n m' = some (-1, m') := by
  obtain ⟨k1, k2, k3, k4, k5, k6, k7, k8, k9⟩ := SU_kind hSU
  rw [btw_q k6.2.2.1 hq k7 (by omega) hn, SU_opN hSU]
  by_cases c0 : opN (m.2 15) p = 41
  · obtain ⟨a, b, d⟩ := h c0
    rw [if_pos c0, if_pos ((SU_cmA hSU).trans (if_pos a)), if_neg b, if_neg d]
  · rw [if_neg c0]
theorem part_su (hSU : SU ow q L K S A N r ak s m s' m' m1 t t' p o i i' u u' T dep c) (hn : 200 ≤ n) : R_partOf n m' (opN (m'.2 15) (p + c)) = some (if opN (m.2 15) p = 40 then (if K t' = 41 then 0 else -1) else if opN (m.2 15) p = 41 then (if K t' = 214 ∧ cmA (m'.2 15) (p + c) = true then 42 else -1) else if opN (m.2 15) p = 42 then (if K t' = 215 then 43 else -1) else if opN (m.2 15) p = 43 then (if K t' = 216 then 0 else -1) else -1, m') := by
  obtain ⟨k1, k2, k3, k4, k5, k6, k7, k8, k9⟩ := SU_kind hSU
  rw [SU_opN hSU]
  exact part_ok k6.2.2.1 k7 (by omega) hn
/-- the reference refuses what stands there, within something begun -/
theorem no_part (hSU : SU ow q L K S A N r ak s m s' m' m1 t t' p o i i' u u' T dep c) (hb : ∀ n, 200 ≤ n → R_betweenOf n m' = some (-1, m')) (hp : ∀ n, 200 ≤ n → R_partOf n m' (opN (m'.2 15) (p + c)) = some (-1, m')) (ho : 0 ≤ opN (m.2 15) p) : FA K S A N (some (0, rf s' 1 (S t'))) s m t i := by
  obtain ⟨k1, k2, k3, k4, k5, k6, k7, k8, k9⟩ := SU_kind hSU
  refine fa_su hSU (by decide) (fun n hn => ?_)
  rw [beh_n k9 (hb n (by omega)) k7 (by omega) (by omega) (hp n (by omega)), SU_opN hSU, if_neg (by omega)]
/-- on to the next part of a choice -/
theorem part_1 {v3 : Int} (B : BY q L) (H : TB (q.2 0) L N K S A) (hSU : SU ow q L K S A N r ak s m s' m' m1 t t' (p + 1) (o + 1) i i' u u' T dep c) (hr : 1 ≤ r) (htN : t' < N) (hb : ∀ n, 200 ≤ n → R_betweenOf n m' = some (-1, m')) (hp : ∀ n, 200 ≤ n → R_partOf n m' (opN (m'.2 15) (p + 1 + c)) = some (v3, m')) (h3 : 0 < v3) (hm : 40 ≤ m.2 15 p) (h6 : CS K S A N s6 (t' + 1)) (h613 : s6.1 13 = 0) (h611 : s6.1 11 = (i6 : Int)) (hi6 : i6 ≤ 2 * (t' + 1)) (h610 : s6.1 10 = s'.1 10) : ∃ mc, GO N t (t' + 1) m mc ∧ FR m mc ∧ STT ow q L K S A N s6 mc (t' + 1) (p + 1) (o + 1) i6 u' T ∧ mc.1 18 = 0 ∧ mc.2 15 p = v3 ∧ (∀ k, k < p → mc.2 15 k = m.2 15 k) ∧ mc.2 2 = m1.2 2 := by
  obtain ⟨k1, k2, k3, k4, k5, k6, k7, k8, k9⟩ := SU_kind hSU
  obtain ⟨a1, a2, a3, a4, a5, a6, a7, a8, a9, a10, a11, a12, a13, a14, a15⟩ := hSU
  obtain ⟨C, M, ⟨w1, w2, w3⟩, ⟨u1, u2⟩, ⟨p1, p2, p3⟩, ⟨T1, T2⟩, g1, g2⟩ := a2
  obtain ⟨m2, x1, x2, x3⟩ := nxtt B H M htN
  have pm1 : ∀ k, k < p + 1 → m1.2 15 k = m.2 15 k := fun k hk => by rw [a5.2 15 (by decide), a10 k hk]
  have pk : m2.2 15 p = m.2 15 p := by rw [x3.2, pm1 p (by omega)]
  have e16 : m2.1 16 = ((p + 1 : Nat) : Int) := (x3.1 16 (by omega)).trans p1
  have rk0 : rk (m1.2 15 p) < 1 := by
    rw [pm1 p (by omega)]
    unfold rk
    rw [if_neg (by omega)]; decide
  have st : ∀ n, 200 ≤ n → R_settle n m' 1 = some (0, m1) := fun n hn => a6.st (Int.le_refl 1) hr p1 (by omega) (Or.inr (by rw [Nat.add_sub_cancel]; exact rk0)) (by omega)
  have y : ∀ k, 12 ≤ k → k ≠ 18 → (bI (bA m2 15 (p : Int) v3) 18 0).1 k = m1.1 k := fun k hk h => by rw [bI_1 h]; exact x3.1 k (by omega)
  refine ⟨bI (bA m2 15 (p : Int) v3) 18 0, a4.tr (GO_1 (fun n hn => beh_p (m1 := m1) (m' := m2) (k := p) k9 (hb n (by omega)) k7 (by omega) (by omega) (hp n (by omega)) h3 (st n (by omega)) (x1 n (by omega)) e16 (by omega) (by rw [pk]; exact hm))) (by omega) (by omega) (by omega), ((a9.tr (FR_NX x3)).tr FR_pile).tr (FR_bI (by omega)), ⟨h6, MS_c x2 (fun k hk => bI_1 (by omega)) (show (bA m2 15 (p : Int) v3).2 3 = m2.2 3 from bA_2 (by decide)), ⟨h613, h611, hi6⟩, ⟨(y 13 (by omega) (by omega)).trans u1, by omega⟩, ⟨(y 16 (by omega) (by omega)).trans p1, (y 17 (by omega) (by omega)).trans p2, p3⟩, ⟨(y 12 (by omega) (by omega)).trans T1, T2⟩, ?_, ?_⟩, rfl, ?_, fun k hk => ?_, ?_⟩
  · rw [y 14 (by omega) (by omega), h610]; exact g1
  · rw [y 14 (by omega) (by omega)]; exact g2
  · show (bA m2 15 (p : Int) v3).2 15 p = v3
    rw [bA_e (by omega), if_pos rfl]
  · show (bA m2 15 (p : Int) v3).2 15 k = _
    rw [bA_e (by omega), if_neg (by omega), x3.2, pm1 k (by omega)]
  · show (bA m2 15 (p : Int) v3).2 2 = m1.2 2
    rw [bA_2 (by decide), x3.2]
/-- what is begun is shut -/
theorem shut_1 (B : BY q L) (H : TB (q.2 0) L N K S A) (hSU : SU ow q L K S A N r ak s m s' m' m1 t t' (p + 1) (o + 1) i i' u u' T dep c) (hr : 1 ≤ r) (htN : t' < N) (hb : ∀ n, 200 ≤ n → R_betweenOf n m' = some (-1, m')) (hp : ∀ n, 200 ≤ n → R_partOf n m' (opN (m'.2 15) (p + 1 + c)) = some (0, m')) (hm : 40 ≤ m.2 15 p) (h6 : CS K S A N s6 (t' + 1)) (h613 : s6.1 13 = 0) (h611 : s6.1 11 = (i' : Int)) (h610 : s6.1 10 = s'.1 10) : ∃ m5 : bS, (opN (m.2 15) (p + 1) = 43 → ∃ u5, u5 = u' + 1 ∧ GO1 N t (t' + 1) m (em T u' m5 3 0) ∧ FR m (em T u' m5 3 0) ∧ STT ow q L K S A N s6 (em T u' m5 3 0) (t' + 1) p o i' u5 T) ∧ (opN (m.2 15) (p + 1) ≠ 43 → GO1 N t (t' + 1) m m5 ∧ FR m m5 ∧ STT ow q L K S A N s6 m5 (t' + 1) p o i' u' T) ∧ m5.1 18 = 1 ∧ (∀ k, k < p → m5.2 15 k = m.2 15 k) ∧ m5.2 2 = m1.2 2 := by
  obtain ⟨k1, k2, k3, k4, k5, k6, k7, k8, k9⟩ := SU_kind hSU
  have hon := SU_opN hSU
  obtain ⟨a1, a2, a3, a4, a5, a6, a7, a8, a9, a10, a11, a12, a13, a14, a15⟩ := hSU
  obtain ⟨C, M, ⟨w1, w2, w3⟩, ⟨u1, u2⟩, ⟨p1, p2, p3⟩, ⟨T1, T2⟩, g1, g2⟩ := a2
  obtain ⟨m2, x1, x2, x3⟩ := nxtt B H M htN
  have pm1 : ∀ k, k < p + 1 → m1.2 15 k = m.2 15 k := fun k hk => by rw [a5.2 15 (by decide), a10 k hk]
  have e16 : m2.1 16 = ((p + 1 : Nat) : Int) := (x3.1 16 (by omega)).trans p1
  have e17 : m2.1 17 = ((o + 1 : Nat) : Int) := (x3.1 17 (by omega)).trans p2
  have rk0 : rk (m1.2 15 p) < 1 := by
    rw [pm1 p (by omega)]
    unfold rk
    rw [if_neg (by omega)]; decide
  have st : ∀ n, 200 ≤ n → R_settle n m' 1 = some (0, m1) := fun n hn => a6.st (Int.le_refl 1) hr p1 (by omega) (Or.inr (by rw [Nat.add_sub_cancel]; exact rk0)) (by omega)
  have y : ∀ k, 12 ≤ k → k ≠ 16 → k ≠ 17 → (bI (bI m2 17 (o : Int)) 16 (p : Int)).1 k = m1.1 k := fun k hk h h' => by rw [bI_1 h, bI_1 h']; exact x3.1 k (by omega)
  have hf : FR m (bI (bI m2 17 (o : Int)) 16 (p : Int)) := ((a9.tr (FR_NX x3)).tr (FR_bI (by omega))).tr (FR_bI (by omega))
  have hM : MS q L K S A N (bI (bI m2 17 (o : Int)) 16 (p : Int)) (t' + 1) := MS_c x2 (fun k hk => by rw [bI_1 (by omega), bI_1 (by omega)]) rfl
  have hlt : t ≤ t' := by omega
  refine ⟨bI (bI m2 17 (o : Int)) 16 (p : Int), fun h43 => ⟨u' + 1, rfl, a4.tr1 (GO1_1 (fun n hn => beh_e (m1 := m1) (m' := m2) (k := p) k9 (hb n (by omega)) k7 (by omega) (by omega) (hp n (by omega)) (hon.trans h43) (st n (by omega)) (x1 n (by omega)) e16 (by omega) e17 (by omega) ((x3.1 12 (by omega)).trans T1) T2 ((x3.1 13 (by omega)).trans u1) (by omega))) hlt (by omega) (by omega), hf.tr (FR_em ((y 12 (by omega) (by omega) (by omega)).trans T1) ((y 13 (by omega) (by omega) (by omega)).trans u1) (by omega)), ⟨h6, MS_c hM (fun k hk => em_1 (by omega)) (em_j (by decide)), ⟨h613, h611, by omega⟩, ⟨rfl, by omega⟩, ⟨rfl, rfl, by omega⟩, ⟨(y 12 (by omega) (by omega) (by omega)).trans T1, T2⟩, ?_, ?_⟩⟩, fun h43 => ⟨a4.tr1 (GO1_1 (fun n hn => beh_c (m1 := m1) (m' := m2) (k := p) k9 (hb n (by omega)) k7 (by omega) (by omega) (hp n (by omega)) (by rw [hon]; exact h43) (st n (by omega)) (x1 n (by omega)) e16 (by omega) e17 (by omega))) hlt (by omega) (by omega), hf, ⟨h6, hM, ⟨h613, h611, by omega⟩, ⟨(y 13 (by omega) (by omega) (by omega)).trans u1, by omega⟩, ⟨rfl, rfl, by omega⟩, ⟨(y 12 (by omega) (by omega) (by omega)).trans T1, T2⟩, ?_, ?_⟩⟩, (y 18 (by omega) (by omega) (by omega)).trans a3, fun k hk => ?_, ?_⟩
  · rw [em_1 (by decide), y 14 (by omega) (by omega) (by omega), h610]; exact g1
  · rw [em_1 (by decide), y 14 (by omega) (by omega) (by omega)]; exact g2
  · rw [y 14 (by omega) (by omega) (by omega), h610]; exact g1
  · rw [y 14 (by omega) (by omega) (by omega)]; exact g2
  · show m2.2 15 k = _
    rw [x3.2, pm1 k (by omega)]
  · show m2.2 2 = _
    rw [x3.2]
end
