/-! Reading laws: what was read stands the same on both sides; signs between two. -/
def PEND (c : Nat) (m m1 : bS) (r : Int) : Prop := ∀ (n : Nat) (l : Int), 1 ≤ l → l ≤ r → R_settle_0 (n + c) m l = R_settle_0 n m1 l
def GO (N t t' : Nat) (m m' : bS) : Prop := ∀ n, 1000 + (N - t) ≤ n → ∃ n1, R_summed_15 n m = R_summed_15 n1 m' ∧ n ≤ n1 + (t' - t) ∧ n1 ≤ n
def GO1 (N t t' : Nat) (m m' : bS) : Prop := ∀ n, 1000 + (N - t) ≤ n → ∃ n1 n2, R_summed_15 n m = (bb (R_settle_0 n2 m' 7) fun _ s => R_summed_15 n1 s) ∧ n ≤ n1 + (t' - t) ∧ n1 ≤ n ∧ n ≤ n2 + 2 * (t' - t)
def BD (N t : Nat) (m s' : bS) : Prop := ∀ n, 1000 + (N - t) ≤ n → ∃ mf, R_summed_15 n m = some (s'.1 13, mf) ∧ mf.1 8 = s'.1 14 ∧ FR m mf
def STT (ow : Nat → Prop) (q : bS) (L : Nat) (K S A : Nat → Int) (N : Nat) (s m : bS) (t p o i u T : Nat) : Prop := CS K S A N s t ∧ MS q L K S A N m t ∧ (s.1 13 = 0 ∧ s.1 11 = (i : Int) ∧ i ≤ 2 * t) ∧ (m.1 13 = (u : Int) ∧ u + p ≤ t) ∧ (m.1 16 = (p : Int) ∧ m.1 17 = (o : Int) ∧ o ≤ 8) ∧ (m.1 12 = ((729 * T : Nat) : Int) ∧ T < 4) ∧ s.1 10 = 200 + m.1 14 ∧ ((m.1 14 = 0 ∧ ow = od 0) ∨ (m.1 14 = 1 ∧ ow = od 1))
def Sem (ow : Nat → Prop) (ak : Bool) (C : Nat → Int) (i j : Nat) (R : Nat → Int) (u v dep : Nat) : Prop := (ak = false → SN ow C i j R u v dep) ∧ (ak = true → SA ow C i j R u v dep)
/-- read, with what waits on the pile -/
def SU (ow : Nat → Prop) (q : bS) (L : Nat) (K S A : Nat → Int) (N : Nat) (r : Int) (ak : Bool) (s m s' m' m1 : bS) (t t' p o i i' u u' T dep c : Nat) : Prop := t < t' ∧ STT ow q L K S A N s' m1 t' p o i' u' T ∧ m1.1 18 = 1 ∧ GO N t t' m m' ∧ SR m' m1 ∧ PEND c m' m1 r ∧ (m'.1 16 = ((p + c : Nat) : Int) ∧ p + c ≤ 60) ∧ FR m m' ∧ FR m m1 ∧ (∀ k, k < p → m'.2 15 k = m.2 15 k) ∧ opA (m'.2 15) (p + c) = opA (m.2 15) p ∧ cmA (m'.2 15) (p + c) = (if ak = true then true else cmA (m.2 15) p) ∧ FS i s s' ∧ (i' + 2 * t ≤ i + 2 * t' ∧ u' + t ≤ u + t') ∧ Sem ow ak (s'.2 4) i i' (RC T m1) u u' dep
def FA (K S A : Nat → Int) (N : Nat) (F : Option (Int × bS)) (s m : bS) (t i : Nat) : Prop := ∃ s', F = some (0, s') ∧ DD K S A N s' ∧ FS i s s' ∧ BD N t m s'
/-- what can be read, in general -/
def PG (ow : Nat → Prop) (q : bS) (L : Nat) (K S A : Nat → Int) (N : Nat) (F : bS → Option (Int × bS)) (o pb : Nat) (rb r : Int) (ak : Bool) (dep : Nat) (Q : Int → Prop) : Prop := ∀ (s m : bS) (t p i u T : Nat), STT ow q L K S A N s m t p o i u T → m.1 18 = 0 → p ≤ pb → (p = 0 ∨ rk (m.2 15 (p - 1)) ≤ rb) → (ak = false → K t = 219 → aA (m.2 15) p = false) → (ak = true → opN (m.2 15) p = 41) → FA K S A N (F s) s m t i ∨ ∃ (s' m' m1 : bS) (t' i' u' c : Nat), F s = some (0, s') ∧ Q (K t') ∧ SU ow q L K S A N r ak s m s' m' m1 t t' p o i i' u u' T dep c
section
variable {ow : Nat → Prop} {q s s' s2 s3 m m' m1 m2 m3 : bS} {f g K S A C R : Nat → Int} {L n i i' j d k t t' t2 N p u u' T o c c' pb pb' dep dep' dep2 W : Nat} {x y kd am v l op r r' rb rb' lv : Int} {ak ak' ak2 : Bool} {F : Option (Int × bS)} {F' G : bS → Option (Int × bS)} {Q Q' : Int → Prop}
theorem GO.tr (h1 : GO N t t' m m') (h2 : GO N t' t2 m' m1) (a : t ≤ t') (b : t' ≤ t2) (cc : t2 ≤ N) : GO N t t2 m m1 := fun n hn => by
  obtain ⟨n1, e1, e2, e3⟩ := h1 n hn
  obtain ⟨n2, e4, e5, e6⟩ := h2 n1 (by omega)
  exact ⟨n2, e1.trans e4, by omega, by omega⟩
theorem GO.bd (h1 : GO N t t' m m') (hf : FR m m') (h2 : BD N t' m' s') (a : t ≤ t') (b : t' ≤ N) : BD N t m s' := fun n hn => by
  obtain ⟨n1, e1, e2, e3⟩ := h1 n hn
  obtain ⟨mf, e4, e5, e6⟩ := h2 n1 (by omega)
  exact ⟨mf, e1.trans e4, e5, hf.tr e6⟩
theorem GO_1 (h : ∀ n, 999 + (N - t) ≤ n → R_summed_15 (n + 1) m = R_summed_15 n m') : GO N t (t + 1) m m' := fun n hn => by
  obtain ⟨n1, h1⟩ : ∃ n1, n = n1 + 1 := ⟨n - 1, by omega⟩
  subst h1
  exact ⟨n1, h n1 (by omega), by omega, by omega⟩
theorem BD_1 {fv : Int} (h : ∀ n, 999 + (N - t) ≤ n → R_summed_15 (n + 1) m = some (fv, m)) (h1 : s'.1 13 = fv) (h2 : m.1 8 = s'.1 14) : BD N t m s' := fun n hn => by
  obtain ⟨n1, h3⟩ : ∃ n1, n = n1 + 1 := ⟨n - 1, by omega⟩
  subst h3
  exact ⟨m, by rw [h1]; exact h n1 (by omega), h2, FR.rfl'⟩
theorem BD_c (h : BD N t m s') (h1 : s2.1 13 = s'.1 13) (h2 : s2.1 14 = s'.1 14) : BD N t m s2 := fun n hn => by
  obtain ⟨mf, a, b, cc⟩ := h n hn
  exact ⟨mf, by rw [h1]; exact a, by rw [h2]; exact b, cc⟩
/-- behind a fault things go on to the end -/
theorem FA_b {G : Int → bS → Option (Int × bS)} (h : FA K S A N F s m t i) (g : ∀ s', DD K S A N s' → (i : Int) ≤ s'.1 11 → DO K S A N i (G 0 s') s') : FA K S A N (bb F G) s m t i := by
  obtain ⟨s', h1, h2, h3, h4⟩ := h
  obtain ⟨s2, g1, g2, g3, g4, g5⟩ := g s' h2 (by have := h3.2.2.2; omega)
  exact ⟨s2, by rw [bb_s h1]; exact g1, g2, h3.tr g3, BD_c h4 g4 g5⟩
theorem FA_up {W' : Nat} (h : FA K S A N F s2 m2 t2 i') (hs : FS i s s2) (hg : GO N t t2 m m2) (hf : FR m m2) (hi : i ≤ i') (a : t ≤ t2) (b : t2 ≤ N) : FA K S A N F s m t i := by
  obtain ⟨s', h1, h2, h3, h4⟩ := h
  exact ⟨s', h1, h2, hs.tr (h3.le hi), hg.bd hf h4 a b⟩
theorem PEND.z : PEND 0 m m r := fun _ _ _ _ => rfl
theorem PEND.le (h : PEND c m m1 r) (hr : r' ≤ r) : PEND c m m1 r' := fun n l h1 h2 => h n l h1 (by omega)
/-- what waits is written down -/
theorem PEND.st (h : PEND c m m1 r) (h1 : 1 ≤ l) (h2 : l ≤ r) (h16 : m1.1 16 = (p : Int)) (hp : p ≤ 160) (hs : p = 0 ∨ rk (m1.2 15 (p - 1)) < l) (hn : c < n) : R_settle n m l = some (0, m1) := by
  obtain ⟨n1, hn1⟩ : ∃ n1, n = (n1 + 1) + c := ⟨n - 1 - c, by omega⟩
  subst hn1
  show R_settle_0 (n1 + 1 + c) m l = _
  rw [h (n1 + 1) l h1 h2]
  exact stl0 h16 hp hs
theorem Sem_c {C' R' : Nat → Int} (H : Sem ow ak C i j R u u' d) (h : ∀ k, i ≤ k → k < j → C' k = C k) (h' : ∀ k, 2 * u ≤ k → k < 2 * u' → R' k = R k) (hd : d ≤ dep) : Sem ow ak C' i j R' u u' dep := ⟨fun e => (H.1 e).c h h' hd, fun e => (H.2 e).c h h' hd⟩
theorem Sem_le (H : Sem ow ak C i j R u u' d) : i ≤ j ∧ u ≤ u' := by
  cases ak
  · exact (H.1 rfl).1
  · exact (H.2 rfl).1
theorem STT_MS (H : STT ow q L K S A N s m1 t p o i u T) (h : SR m m1) : MS q L K S A N m t := MS_c H.2.1 (fun k hk => (h.1 k (by omega) (by omega) (by omega)).symm) (h.2 3 (by decide)).symm
/-- a sign between two: both sides go on to what stands behind it -/
theorem inf_1 (B : BY q L) (H : TB (q.2 0) L N K S A) (hs : STT ow q L K S A N s' m1 t' p o i' u' T) (h18 : m1.1 18 = 1) (hR : SR m' m1) (hP : PEND c m' m1 r) (hpc : p + c ≤ 60) (htN : t' < N) (hb : ∀ n, 200 ≤ n → R_betweenOf n m' = some (op, m')) (ho : 0 ≤ op) (hlv : lv = if rk op = 4 then 5 else rk op) (l1 : 1 ≤ lv) (l2 : lv ≤ r) (hst : p = 0 ∨ rk (m1.2 15 (p - 1)) < lv) : ∃ m2, GO N t' (t' + 1) m' m2 ∧ FR m1 m2 ∧ STT ow q L K S A N (bI (bI s' 8 ((t' + 1 : Nat) : Int)) 9 (K (t' + 1))) m2 (t' + 1) (p + 1) o i' u' T ∧ m2.1 18 = 0 ∧ m2.2 15 p = op ∧ (∀ k, k ≠ p → m2.2 15 k = m'.2 15 k) ∧ m2.2 2 = m1.2 2 := by
  obtain ⟨C, M, ⟨w1, w2, w3⟩, ⟨u1, u2⟩, ⟨p1, p2, p3⟩, ⟨T1, T2⟩, g1, g2⟩ := hs
  have Mp : MS q L K S A N (psh p m1 op) t' := MS_c M (fun k hk => by unfold psh; rw [bI_1 (by omega), bI_1 (by omega)]; rfl) (show (bA m1 15 (p : Int) op).2 3 = m1.2 3 from bA_2 (by decide))
  obtain ⟨m2, x1, x2, x3⟩ := nxtt B H Mp htN
  have y : ∀ k, 12 ≤ k → m2.1 k = (psh p m1 op).1 k := fun k hk => x3.1 k (by omega)
  have h18' : m'.1 18 = 1 := (hR.1 18 (by decide) (by decide) (by decide)).symm.trans h18
  refine ⟨m2, GO_1 (fun n hn => beh_op (m1 := m1) (lv := lv) h18' (hb n (by omega)) ho hlv (hP.st l1 l2 p1 (by omega) hst (by omega)) p1 (by omega) (x1 n (by omega))), FR_psh.tr (FR_NX x3), ⟨(adv (q := q) (n := 0) C htN).2, x2, ⟨w1, w2, by omega⟩, ⟨(y 13 (by omega)).trans u1, by omega⟩, ⟨y 16 (by omega), (y 17 (by omega)).trans p2, p3⟩, ⟨(y 12 (by omega)).trans T1, T2⟩, ?_, ?_⟩, y 18 (by omega), ?_, fun k hk => ?_, ?_⟩
  · show s'.1 10 = _
    rw [y 14 (by omega)]; exact g1
  · rw [y 14 (by omega)]; exact g2
  · rw [x3.2]
    show (bA m1 15 (p : Int) op).2 15 p = op
    rw [bA_e (by omega), if_pos rfl]
  · rw [x3.2]
    show (bA m1 15 (p : Int) op).2 15 k = _
    rw [bA_e (by omega), if_neg hk, hR.2 15 (by decide)]
  · rw [x3.2]
    show (bA m1 15 (p : Int) op).2 2 = m1.2 2
    exact bA_2 (by decide)
theorem opA_s (h : f p < 40) : opA f (p + 1) = opA f p := by
  show (if 40 ≤ f p then (p : Int) else opA f p) = _
  rw [if_neg (by omega)]
theorem opN_s (h : f p < 40) : opN f (p + 1) = opN f p := by
  unfold opN
  rw [opA_s h]
theorem opN_a (h : opA f p = opA g k) (hg : ∀ j, j < k → f j = g j) : opN f p = opN g k := by
  have := opA_lt (f := g) k
  unfold opN
  rw [h]
  by_cases c : opA g k < 0
  · rw [if_pos c, if_pos c]
  · rw [if_neg c, if_neg c, hg _ (by omega)]
/-- what stands behind it was read: the sign is written behind both -/
theorem inf_2 {t3 i3 u3 c3 : Nat} {cop r2 : Int} {m31 : bS} (hSU : SU ow q L K S A N r ak s m s' m' m1 t t' p o i i' u u' T dep c) (hg : GO N t' (t' + 1) m' m2) (hf : FR m1 m2) (h2 : STT ow q L K S A N s2 m2 (t' + 1) (p + 1) o i' u' T) (hs2 : s2 = bI (bI s' 8 ((t' + 1 : Nat) : Int)) 9 (K (t' + 1))) (hop : m2.2 15 p = op) (hpl : ∀ k, k ≠ p → m2.2 15 k = m'.2 15 k) (ht2 : m2.2 2 = m1.2 2) (hS3 : SU ow q L K S A N r' ak' s2 m2 s3 m3 m31 (t' + 1) t3 (p + 1) o i' i3 u' u3 T dep' c3) (ho40 : op < 40) (h7 : ¬ rk op = 7) (h20 : ¬ op = 20) (hr1 : r2 ≤ rk op) (hr2 : r2 ≤ r') (hcm : (ak' = true ∧ ak2 = true) ∨ (ak' = false ∧ rk op = 4 ∧ ak2 = true) ∨ (ak' = false ∧ 4 < rk op ∧ ak2 = false)) (hsem : ∀ (C R : Nat → Int) (i j k u v y : Nat), Sem ow ak C i j R u v dep → Sem ow ak' C j k R v y dep' → C k = cop → R (2 * y) = op → Sem ow ak2 C i (k + 2) R u (y + 1) dep2) : (∀ n, D_emit q n s3 cop 0 = some (0, ec i3 s3 cop 0)) ∧ SU ow q L K S A N r2 ak2 s m (ec i3 s3 cop 0) m3 (ppd T u3 p m31) t t3 p o i (i3 + 2) u (u3 + 1) T dep2 (c3 + 1) := by
  obtain ⟨a1, a2, a3, a4, a5, a6, a7, a8, a9, a10, a11, a12, a13, a14, a15⟩ := hSU
  obtain ⟨b1, b2, b3, b4, b5, b6, b7, b8, b9, b10, b11, b12, b13, b14, b15⟩ := hS3
  obtain ⟨C, M, ⟨w1, w2, w3⟩, ⟨u1, u2⟩, ⟨p1, p2, p3⟩, ⟨T1, T2⟩, g1, g2⟩ := b2
  have hCN := C.2.2
  have ha2 := a2
  obtain ⟨C', M', ⟨w1', w2', w3'⟩, ⟨u1', u2'⟩, ⟨p1', p2', p3'⟩, ⟨T1', T2'⟩, g1', g2'⟩ := ha2
  have hi3 : i3 + 2 ≤ 600 := by omega
  have pl : m31.2 15 p = op := by rw [b5.2 15 (by decide), b10 p (by omega), hop]
  have pl3 : m3.2 15 p = op := by rw [b10 p (by omega), hop]
  have sq := SR_ppd (T := T) (u := u3) (p := p) (m := m31)
  have fm2 : FR m m2 := a9.tr hf
  have e11 : s'.1 11 = (i' : Int) := w2'
  have le1 := Sem_le a15
  have le2 := Sem_le b15
  have fs1 : FS i s s2 := by rw [hs2]; exact a13.tr (FS_89 (by have := a13.2.2.2; omega) (by have := a13.2.2.2; omega))
  refine ⟨fun n => emitc w2 hi3, by omega, ⟨CS_ec C, MS_c M (fun k hk => sq.1 k (by omega) (by omega) (by omega)) (sq.2 3 (by decide)), ⟨w1, rfl, by omega⟩, ⟨ppd_13, by omega⟩, ⟨ppd_16, ?_, p3⟩, ⟨(sq.1 12 (by decide) (by decide) (by decide)).trans T1, T2⟩, ?_, ?_⟩, (sq.1 18 (by decide) (by decide) (by decide)).trans b3, (a4.tr hg (by omega) (by omega) (by omega)).tr b4 (by omega) (by omega) (by omega), b5.tr sq, fun n l l1 l2 => ?_, ⟨by rw [b7.1]; omega, by omega⟩, fm2.tr b8, (fm2.tr b9).tr (FR_ppd T1 u1 (by omega)), fun k hk => by rw [b10 k (by omega), hpl k (by omega), a10 k hk], ?_, ?_, (fs1.tr (b13.le le1.1)).tr (FS_ec w2 hi3 (by omega)), ⟨by omega, by omega⟩, ?_⟩
  · rw [ppd_17 (by rw [pl]; exact h7) (by rw [pl]; exact h20)]; exact p2
  · rw [sq.1 14 (by decide) (by decide) (by decide)]; exact g1
  · rw [sq.1 14 (by decide) (by decide) (by decide)]; exact g2
  · rw [show n + (c3 + 1) = (n + 1) + c3 by omega, b6 (n + 1) l l1 (by omega)]
    exact stl1 T1 T2 u1 (by omega) p1 (by omega) (by rw [pl]; omega)
  · rw [show p + (c3 + 1) = p + 1 + c3 by omega, b11, opA_s (by rw [hop]; exact ho40)]
    exact opA_c (fun k hk => by rw [hpl k (by omega), a10 k hk])
  · rw [show p + (c3 + 1) = p + 1 + c3 by omega, b12]
    rcases hcm with ⟨c1, c2⟩ | ⟨c1, c2, c4⟩ | ⟨c1, c2, c4⟩
    · rw [if_pos c1, if_pos c2]
    · rw [if_neg (by rw [c1]; decide), if_pos c4]
      show (if rk (m2.2 15 p) ≤ 4 then decide (rk (m2.2 15 p) = 4) else cmA (m2.2 15) p) = true
      rw [hop, if_pos (by omega), decide_eq_true c2]
    · rw [if_neg (by rw [c1]; decide), if_neg (by rw [c4]; decide)]
      show (if rk (m2.2 15 p) ≤ 4 then decide (rk (m2.2 15 p) = 4) else cmA (m2.2 15) p) = _
      rw [hop, if_neg (by omega)]
      exact cmA_c (fun k hk => by rw [hpl k (by omega), a10 k hk])
  · have rr1 : ∀ k, 2 * u ≤ k → k < 2 * u' → RC T (ppd T u3 p m31) k = RC T m1 k := fun k k1 k2 => by
      rw [ppd_RC]
      show (if k = 2 * u3 + 1 then 0 else if k = 2 * u3 then m31.2 15 p else RC T m31 k) = _
      rw [if_neg (by omega), if_neg (by omega)]
      have := b9.2.2.1 (729 * T + 121 + k) (by rw [h2.2.2.2.2.2.1.1, h2.2.2.2.1.1]; omega)
      show m31.2 2 (729 * T + 121 + k) = m1.2 2 (729 * T + 121 + k)
      rw [this, ht2]
    have s1 : Sem ow ak ((ec i3 s3 cop 0).2 4) i i' (RC T (ppd T u3 p m31)) u u' dep := Sem_c a15 (fun k k1 k2 => by
      rw [ec_4 (by omega), if_neg (by omega), if_neg (by omega), b13.2.2.1 k k2, hs2]; rfl) rr1 (Nat.le_refl _)
    have s2' : Sem ow ak' ((ec i3 s3 cop 0).2 4) i' i3 (RC T (ppd T u3 p m31)) u' u3 dep' := Sem_c b15 (fun k k1 k2 => by
      rw [ec_4 (by omega), if_neg (by omega), if_neg (by omega)]) (fun k k1 k2 => by
      rw [ppd_RC]
      show (if k = 2 * u3 + 1 then 0 else if k = 2 * u3 then m31.2 15 p else RC T m31 k) = _
      rw [if_neg (by omega), if_neg (by omega)]) (Nat.le_refl _)
    refine hsem _ _ i i' i3 u u' u3 s1 s2' (by rw [ec_4 (by omega), if_neg (by omega), if_pos rfl]) ?_
    rw [ppd_RC]
    show (if 2 * u3 = 2 * u3 + 1 then 0 else if 2 * u3 = 2 * u3 then m31.2 15 p else RC T m31 (2 * u3)) = op
    rw [if_neg (by omega), if_pos rfl, pl]
/-- a sign between two, and what stands behind it -/
theorem inf_ok {cop r2 : Int} (B : BY q L) (H : TB (q.2 0) L N K S A) (HP : PG ow q L K S A N F' o pb' rb' r' ak' dep' Q') (hSU : SU ow q L K S A N r ak s m s' m' m1 t t' p o i i' u u' T dep c) (htN : t' < N) (hb : ∀ n, 200 ≤ n → R_betweenOf n m' = some (op, m')) (ho : 0 ≤ op) (ho40 : op < 40) (hlv : lv = if rk op = 4 then 5 else rk op) (l1 : 1 ≤ lv) (l2 : lv ≤ r) (hst : p = 0 ∨ rk (m.2 15 (p - 1)) < lv) (hpb : p + 1 ≤ pb') (hrb : rk op ≤ rb') (hak : ak' = false → 4 ≤ rk op) (hak2 : ak' = true → opN (m.2 15) p = 41) (h7 : ¬ rk op = 7) (h20 : ¬ op = 20) (hr1 : r2 ≤ rk op) (hr2 : r2 ≤ r') (hcm : (ak' = true ∧ ak2 = true) ∨ (ak' = false ∧ rk op = 4 ∧ ak2 = true) ∨ (ak' = false ∧ 4 < rk op ∧ ak2 = false)) (hsem : ∀ (C R : Nat → Int) (i j k u v y : Nat), Sem ow ak C i j R u v dep → Sem ow ak' C j k R v y dep' → C k = cop → R (2 * y) = op → Sem ow ak2 C i (k + 2) R u (y + 1) dep2) (KK : bS → Option (Int × bS)) (hKK : ∀ s', DD K S A N s' → (i : Int) ≤ s'.1 11 → DO K S A N i (KK s') s') : FA K S A N (bb (D_advance q n s') fun _ s2 => bb (F' s2) fun _ s3 => bb (D_emit q n s3 cop 0) fun _ s4 => KK s4) s m t i ∨ ∃ (s4 m3 m1' : bS) (t3 i4 u4 c4 : Nat), (bb (D_advance q n s') fun _ s2 => bb (F' s2) fun _ s3 => bb (D_emit q n s3 cop 0) fun _ s4 => KK s4) = KK s4 ∧ Q' (K t3) ∧ t' < t3 ∧ SU ow q L K S A N r2 ak2 s m s4 m3 m1' t t3 p o i i4 u u4 T dep2 c4 := by
  have h0 := hSU
  obtain ⟨a1, a2, a3, a4, a5, a6, a7, a8, a9, a10, a11, a12, a13, a14, a15⟩ := h0
  have pt : ∀ k, k < p → m1.2 15 k = m.2 15 k := fun k hk => by rw [a5.2 15 (by decide), a10 k hk]
  obtain ⟨m2, e1, e2, e3, e4, e5, e6, e7⟩ := inf_1 B H a2 a3 a5 a6 a7.2 htN hb ho hlv l1 l2 (by
    rcases hst with h | h
    · exact Or.inl h
    · by_cases c0 : p = 0
      · exact Or.inl c0
      · exact Or.inr (by rw [pt (p - 1) (by omega)]; exact h))
  have hadv := (adv (q := q) (n := n) a2.1 htN).1
  have hp := HP _ m2 (t' + 1) (p + 1) i' u' T e3 e4 hpb (Or.inr (by rw [Nat.add_sub_cancel, e5]; exact hrb)) (fun ha _ => by
    have hk := hak ha
    unfold aA
    rw [Nat.add_sub_cancel, e5]
    exact decide_eq_false (by intro h; omega)) (fun ha => by
    rw [opN_s (by rw [e5]; exact ho40), ← hak2 ha]
    exact opN_c (fun k hk => by rw [e6 k (by omega), a10 k hk]))
  rw [bb_s hadv]
  have le1 := Sem_le a15
  have fs1 : FS i s (bI (bI s' 8 ((t' + 1 : Nat) : Int)) 9 (K (t' + 1))) := a13.tr (FS_89 (by have := a13.2.2.2; omega) (by have := a13.2.2.2; omega))
  have fm2 : FR m m2 := a9.tr e2
  have gm2 : GO N t (t' + 1) m m2 := a4.tr e1 (by omega) (by omega) (by omega)
  rcases hp with hp | ⟨s3, m3, m31, t3, i3, u3, c3, x1, x2, x3⟩
  · refine Or.inl (FA_b (FA_up (W' := 0) hp fs1 gm2 fm2 le1.1 (by omega) (by omega)) (fun s3 h3 hw3 => ?_))
    exact DO_b (dd_emit h3 hw3) (fun s4 h4 hw4 => hKK s4 h4 hw4)
  · obtain ⟨y1, y2⟩ := inf_2 hSU e1 e2 e3 rfl e5 e6 e7 x3 ho40 h7 h20 hr1 hr2 hcm hsem
    refine Or.inr ⟨_, m3, _, t3, _, _, _, ?_, x2, by have := x3.1; omega, y2⟩
    rw [bb_s x1, bb_s (y1 n)]
end
