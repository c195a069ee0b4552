/-! Reading laws: one, a choice, all of it. -/
section
variable {ow : Nat → Prop} {q s s' s2 s3 s6 m m' m1 m2 m3 : bS} {f g K S A C R : Nat → Int} {L n i i' i6 j d k t t' t2 N p u u' T o c c' pb pb' dep dep' dep2 W : Nat} {x y kd am v l op r r' rb rb' lv : Int} {ak ak' ak2 : Bool} {F : Option (Int × bS)} {F' G : bS → Option (Int × bS)} {Q Q' : Int → Prop} {rc : Nat → bS → Int → Option (Int × bS)}
theorem opN_t (h : 40 ≤ f p) : opN f (p + 1) = f p := by
  have e : opA f (p + 1) = (p : Int) := if_pos h
  unfold opN
  rw [e, if_neg (by omega), Int.toNat_natCast]
theorem rk_t (h : 40 ≤ x) : rk x = 0 := by
  unfold rk
  rw [if_neg (by omega)]
/-- a leaf that is refused -/
theorem leaf_x {fv : Int} (hs : STT ow q L K S A N s m t p o i u T) (hf : fv ≠ 0) (hF : F = F' (rf s fv (S t))) (hD : DO K S A N i (F' (rf s fv (S t))) (rf s fv (S t))) (h : ∀ n, 999 + (N - t) ≤ n → R_summed_15 (n + 1) m = some (fv, m)) : FA K S A N F s m t i := by
  obtain ⟨s1, h1, h2, h3, h4, h5⟩ := hD
  have h6 : s.1 11 = (i : Int) := hs.2.2.1.2.1
  have hN := hs.1.2.2
  have hi := hs.2.2.1.2.2
  refine ⟨s1, hF.trans h1, h2, (rf_FS hf (by omega) (by omega)).tr h3, BD_c (s' := rf s fv (S t)) (BD_1 h rfl hs.2.1.2.1) h4 h5⟩
theorem T_one (B : BY q L) (H : TB (q.2 0) L N K S A) (ho8 : o ≤ 8) (hr0 : o < 8 → P1 ow q L K S A N (fun s => rc 0 s ((o + 1 : Nat) : Int)) (o + 1) (42 - 5 * (o + 1))) (hr1 : o < 8 → PG ow q L K S A N (fun s => rc 1 s ((o + 1 : Nat) : Int)) (o + 1) (6 * (o + 1) + 3) 4 5 false (44 - 5 * (o + 1)) QS) (hr2 : o < 8 → PC ow q L K S A N (fun s => rc 2 s ((o + 1 : Nat) : Int)) o) : P1 ow q L K S A N (fun s => D_readOne q rc n s (o : Int)) o (42 - 5 * o) := fun s m t p i u T hs h18 hp h219 => by
  have hRT := hs.2.1.2.2.1
  have hk : s.1 9 = K t := hs.1.1.2.2
  have hN := hs.1.2.2
  have h16 := hs.2.2.2.2.1.1
  have h17 := hs.2.2.2.2.1.2.1
  have h13 := hs.2.2.1.1
  have h11 : s.1 11 = (i : Int) := hs.2.2.1.2.1
  have hi := hs.2.2.1.2.2
  have hs8 : s.1 8 = (t : Int) := hs.1.1.2.1
  have hs3 : s.2 3 = A := hs.1.2.1.2.2
  have hkd := tok_kd hRT
  have hsort0 := hs.2.2.2.2.2.2.2
  have hsort : m.1 14 = 0 ∨ m.1 14 = 1 := hsort0.imp And.left And.left
  have hlaw := hs.2.2.2.2.2.2.1
  have hDr : ∀ fv : Int, fv ≠ 0 → DD K S A N (rf s fv (S t)) := fun fv hf => rf_DD hs.1 hf (by omega) (by omega)
  have hWr : ∀ fv : Int, (i : Int) ≤ (rf s fv (S t)).1 11 := fun fv => by show (i : Int) ≤ s.1 11; omega
  show FA K S A N (D_readOne q rc n s (o : Int)) s m t i ∨ ∃ (s' m' : bS) (t' i' u' : Nat), D_readOne q rc n s (o : Int) = some (0, s') ∧ S1 ow q L K S A N s m s' m' t t' p o i i' u u' T (42 - 5 * o)
  unfold D_readOne
  rw [hk]
  by_cases c2 : K t = 2
  · have htN : t < N := K_lt H hN.1 (by omega)
    rw [if_pos c2]
    unfold D_readOne_18 D_readLeaf
    rw [hk, if_pos c2, hs8, if_pos ⟨by omega, by omega⟩, Int.toNat_natCast, hs3]
    by_cases ca : A t ≤ 9999
    · have ham := tok_am hRT c2
      rw [if_pos ca]
      unfold D_readLeaf_37
      rw [hs8, if_pos ⟨by omega, by omega⟩, Int.toNat_natCast, hs3, bb_s (emitc h11 (by omega))]
      unfold D_readLeaf_103
      rw [bb_s (adv (q := q) (n := n) (CS_ec hs.1) htN).1]
      obtain ⟨m', hS⟩ := leaf_ok (dep := 42 - 5 * o) B H hs h18 htN (fun n hn => beg_num hRT c2 ca) (fun C R a b c' d => (SN_num a c' (d.trans b.symm) (by rw [b]; omega)).c (fun _ _ _ => rfl) (fun _ _ _ => rfl) (by omega))
      exact Or.inr ⟨_, m', _, _, _, rfl, hS⟩
    · rw [if_neg ca, bb_s (refuse_ok hs.1 h13)]
      refine Or.inl (leaf_x (F' := fun s => bb (D_readLeaf_37 q n s) fun v9 s9 => some (0, s9)) hs (fv := 2) (by decide) rfl (DO_b (dd_37 (hDr 2 (by decide)) (hWr 2)) fun s h hw => DO_r h hw) (fun n hn => beg_n h18 (beg_numx hRT c2 (by omega)) (by decide)))
  · rw [if_neg c2]
    by_cases c220 : K t < 220
    · rw [if_pos c220]
      have beg0 : ∀ op : Int, ((K t = 40 ∧ op = 40) ∨ (K t = 45 ∧ op = 5) ∨ (K t = 211 ∧ op = 2) ∨ (K t = 212 ∧ op = 4) ∨ (K t = 213 ∧ op = 41)) → FA K S A N (D_readOne_69 q rc n s (o : Int) (K t)) s m t i ∨ ∃ (s' m' : bS) (t' i' u' : Nat), D_readOne_69 q rc n s (o : Int) (K t) = some (0, s') ∧ S1 ow q L K S A N s m s' m' t t' p o i i' u u' T (42 - 5 * o) := fun op hop => by
        have htN : t < N := K_lt H hN.1 (by omega)
        unfold D_readOne_69
        by_cases co : o < 8
        · obtain ⟨m2, e1, e2, e3, e4, e5, e6, e7⟩ := open_1 B H hs h18 (by omega) co htN (fun n hn => beg_op hRT hop)
          have fs1 : FS i s (bI (bI s 8 ((t + 1 : Nat) : Int)) 9 (K (t + 1))) := FS_89 (by omega) (by omega)
          rw [if_pos (by omega)]
          unfold D_readOne_80
          rw [if_pos h13, bb_s (adv (q := q) (n := n) hs.1 htN).1, wad1 (by omega)]
          by_cases c40 : K t = 40
          · have hop' : op = 40 := by omega
            have on40 : opN (m2.2 15) (p + 1) = 40 := by rw [opN_t (by rw [e5, hop']; decide), e5, hop']
            rw [if_pos c40]
            rcases hr1 co _ m2 (t + 1) (p + 1) i u T e3 e4 (by omega) (Or.inr (by rw [Nat.add_sub_cancel, e5, hop']; decide)) (fun _ _ => by
              unfold aA
              rw [on40]
              exact decide_eq_false (by intro h; omega)) (fun h => by cases h) with h | ⟨s3, m3, m31, t3, i3, u3, c3, x1, x2, x3⟩
            · exact Or.inl (FA_b (FA_up (W' := 0) h fs1 e1 e2 (Nat.le_refl i) (by omega) (by omega)) (fun s3 h3 w3 => DO_b (by rw [dd_exp h3.1]; exact DO_r h3 w3) fun s4 h4 w4 => DO_r h4 w4))
            · obtain ⟨k1, k2, k3, k4, k5, k6, k7, k8, k9⟩ := SU_kind x3
              have hbt : ∀ n, 200 ≤ n → R_betweenOf n m3 = some (-1, m3) := fun n hn => btw_m1 x3 x2 (fun h => by omega) hn
              rw [bb_s x1]
              by_cases c41 : K t3 = 41
              · have ht3 : t3 < N := K_lt H k3 (by omega)
                have hpt : ∀ n, 200 ≤ n → R_partOf n m3 (opN (m3.2 15) (p + 1 + c3)) = some (0, m3) := fun n hn => by rw [part_su x3 hn, if_pos on40, if_pos c41]
                obtain ⟨m5, z1, z2, z3, z4, z5⟩ := shut_1 B H x3 (by decide) ht3 hbt hpt (by rw [e5, hop']; decide) (adv (q := q) (n := n) x3.2.1.1 ht3).2 k2 x3.2.1.2.2.1.2.1 rfl
                obtain ⟨y1, y2, y3⟩ := z2 (by omega)
                have x14 := x3.2.2.2.2.2.2.2.2.2.2.2.2.2.1
                have x13 := x3.2.2.2.2.2.2.2.2.2.2.2.2.1
                have x15 := x3.2.2.2.2.2.2.2.2.2.2.2.2.2.2
                have hw := x13.2.2.2
                have hSm : S1 ow q L K S A N (bI (bI s 8 ((t + 1 : Nat) : Int)) 9 (K (t + 1))) m2 (bI (bI s3 8 ((t3 + 1 : Nat) : Int)) 9 (K (t3 + 1))) m5 (t + 1) (t3 + 1) p o i i3 u u3 T (42 - 5 * o) := ⟨by omega, y3, z3, y1, y2, fun k hk => z4 k hk, x13.tr (FS_89 (by omega) (by omega)), ⟨by omega, by omega⟩, (x15.1 rfl).c (fun _ _ _ => rfl) (fun k _ _ => by unfold RC; rw [z5]) (by omega)⟩
                refine Or.inr ⟨_, m5, _, _, _, ?_, hSm.up fs1 e1 e2 (fun k hk => e6 k (by omega)) (by omega)⟩
                rw [bb_s (exp_y x3.2.1.1 k2 c41 ht3)]
              · have hpt : ∀ n, 200 ≤ n → R_partOf n m3 (opN (m3.2 15) (p + 1 + c3)) = some (-1, m3) := fun n hn => by rw [part_su x3 hn, if_pos on40, if_neg c41]
                rw [bb_s (exp_n x3.2.1.1 k2 c41)]
                exact Or.inl (FA_up (W' := 0) (no_part x3 hbt hpt (by omega)) fs1 e1 e2 (Nat.le_refl i) (by omega) (by omega))
          · rw [if_neg c40]
            by_cases c213 : K t = 213
            · have hop' : op = 41 := by omega
              rw [if_pos c213]
              rcases hr2 co _ m2 (t + 1) p i u T e3 e4 hp (by rw [e5, hop']) with h | ⟨s3, m3, t3, i3, u3, x1, x2⟩
              · exact Or.inl (FA_b (FA_up (W' := 0) h fs1 e1 e2 (Nat.le_refl i) (by omega) (by omega)) (fun s3 h3 w3 => DO_r h3 w3))
              · refine Or.inr ⟨s3, m3, t3, i3, u3, ?_, x2.up fs1 e1 e2 (fun k hk => e6 k (by omega)) (by omega)⟩
                rw [bb_s x1]
            · rw [if_neg c213]
              have hr7 : rk op = 7 ∧ op < 40 := by
                rcases hop with ⟨h1, h2⟩ | ⟨h1, h2⟩ | ⟨h1, h2⟩ | ⟨h1, h2⟩ | ⟨h1, h2⟩
                · omega
                · subst h2; decide
                · subst h2; decide
                · subst h2; decide
                · omega
              obtain ⟨cop, hcop⟩ : ∃ cop : Int, cop = (if K t = 45 then 6 else if K t = 211 then 4 else 5) := ⟨_, rfl⟩
              have e162 : ∀ s6, (if K t = 45 then D_readOne_162 q rc n s6 6 else (if K t = 211 then D_readOne_162 q rc n s6 4 else D_readOne_162 q rc n s6 5)) = bb (D_emit q n s6 cop 0) fun v7 s7 => some (0, s7) := fun s6 => by
                rw [hcop]
                by_cases c45 : K t = 45
                · rw [if_pos c45, if_pos c45]; rfl
                · rw [if_neg c45, if_neg c45]
                  by_cases c211 : K t = 211
                  · rw [if_pos c211, if_pos c211]; rfl
                  · rw [if_neg c211, if_neg c211]; rfl
              rcases hr0 co _ m2 (t + 1) (p + 1) i u T e3 e4 (by omega) (fun _ => by
                unfold aA
                rw [Nat.add_sub_cancel, e5]
                exact decide_eq_false (by intro h; omega)) with h | ⟨s3, m3, t3, i3, u3, x1, x2⟩
              · refine Or.inl (FA_b (FA_up (W' := 0) h fs1 e1 e2 (Nat.le_refl i) (by omega) (by omega)) (fun s3 h3 w3 => ?_))
                rw [e162]
                exact DO_b (dd_emit h3 w3) fun s4 h4 w4 => DO_r h4 w4
              · obtain ⟨x2, x3, x4, x5, x6, x7, x8, x9, x10⟩ := x2
                obtain ⟨C, M, ⟨w1, w2, w3⟩, ⟨u1, u2⟩, ⟨p1, p2, p3⟩, ⟨T1, T2⟩, g1, g2⟩ := x3
                have hCN := C.2.2
                have pl : m3.2 15 p = op := by rw [x7 p (by omega), e5]
                have sq := SR_ppd (T := T) (u := u3) (p := p) (m := m3)
                have hle := x10.1
                have hi3 : i3 + 2 ≤ 600 := by omega
                have hgo : GO1 N (t + 1) t3 m2 m3 := x5
                have hSN : SN ow ((ec i3 s3 cop 0).2 4) i (i3 + 2) (RC T (ppd T u3 p m3)) u (u3 + 1) (42 - 5 * o) := by
                  have hb : SN ow ((ec i3 s3 cop 0).2 4) i i3 (RC T (ppd T u3 p m3)) u u3 (42 - 5 * (o + 1)) := x10.c (fun k k1 k2 => by rw [ec_4 (by omega), if_neg (by omega), if_neg (by omega)]) (fun k k1 k2 => by
                    rw [ppd_RC]
                    show (if k = 2 * u3 + 1 then 0 else if k = 2 * u3 then m3.2 15 p else RC T m3 k) = _
                    rw [if_neg (by omega), if_neg (by omega)]) (Nat.le_refl _)
                  have hC : (ec i3 s3 cop 0).2 4 i3 = cop := by rw [ec_4 (by omega), if_neg (by omega), if_pos rfl]
                  have hR : RC T (ppd T u3 p m3) (2 * u3) = op := by
                    rw [ppd_RC]
                    show (if 2 * u3 = 2 * u3 + 1 then 0 else if 2 * u3 = 2 * u3 then m3.2 15 p else RC T m3 (2 * u3)) = op
                    rw [if_neg (by omega), if_pos rfl, pl]
                  by_cases c45 : K t = 45
                  · exact SN_neg hb (by rw [hC, hcop, if_pos c45]) (by rw [hR]; omega) (by omega) (by omega)
                  · by_cases c211 : K t = 211
                    · exact SN_has hb (Or.inl ⟨by rw [hC, hcop, if_neg c45, if_pos c211], by rw [hR]; omega⟩) (by omega) (by omega)
                    · exact SN_has hb (Or.inr ⟨by rw [hC, hcop, if_neg c45, if_neg c211], by rw [hR]; omega⟩) (by omega) (by omega)
                refine Or.inr ⟨ec i3 s3 cop 0, ppd T u3 p m3, t3, i3 + 2, u3 + 1, ?_, by omega, ⟨CS_ec C, MS_c M (fun k hk => sq.1 k (by omega) (by omega) (by omega)) (sq.2 3 (by decide)), ⟨w1, rfl, by omega⟩, ⟨ppd_13, by omega⟩, ⟨ppd_16, ppd_17' (Or.inl (by rw [pl]; exact hr7.1)) p2 (by omega), ho8⟩, ⟨(sq.1 12 (by decide) (by decide) (by decide)).trans T1, T2⟩, ?_, ?_⟩, (sq.1 18 (by decide) (by decide) (by decide)).trans x4, fun n hn => ?_, (e2.tr x6).tr (FR_ppd T1 u1 (by omega)), fun k hk => ?_, (fs1.tr x8).tr (FS_ec w2 hi3 (by omega)), ⟨by omega, by omega⟩, hSN⟩
                · rw [bb_s x1, e162, bb_s (emitc w2 hi3)]
                · rw [sq.1 14 (by decide) (by decide) (by decide)]; exact g1
                · rw [sq.1 14 (by decide) (by decide) (by decide)]; exact g2
                · obtain ⟨n1, a1, a2, a3⟩ := e1 n hn
                  obtain ⟨n2, n3, b1, b2, b3, b4⟩ := hgo n1 (by omega)
                  obtain ⟨n4, hn4⟩ : ∃ n4, n3 = n4 + 1 := ⟨n3 - 1, by omega⟩
                  subst hn4
                  refine ⟨n2, n4, ?_, by omega, by omega, by omega⟩
                  rw [a1, b1, stl1 T1 T2 u1 (by omega) p1 (by omega) (by rw [pl, hr7.1]; exact Int.le_refl _)]
                · rw [sq.2 15 (by decide), x7 k (by omega), e6 k (by omega)]
        · rw [if_neg (by omega), bb_s (refuse_ok hs.1 h13)]
          unfold D_readOne_80
          rw [if_neg (show ¬ (rf s 3 (S t)).1 13 = 0 from fun h => by cases h)]
          exact Or.inl (fa_here hs (by decide) (fun n hn => beg_n h18 ((beg_op hRT hop).trans (opened_x (by omega))) (by decide)))
      by_cases c40 : K t = 40
      · rw [if_pos c40]; exact beg0 40 (Or.inl ⟨c40, rfl⟩)
      · rw [if_neg c40]
        by_cases c45 : K t = 45
        · rw [if_pos c45]; exact beg0 5 (Or.inr (Or.inl ⟨c45, rfl⟩))
        · rw [if_neg c45]
          by_cases c211 : K t = 211
          · rw [if_pos c211]; exact beg0 2 (Or.inr (Or.inr (Or.inl ⟨c211, rfl⟩)))
          · rw [if_neg c211]
            by_cases c212 : K t = 212
            · rw [if_pos c212]; exact beg0 4 (Or.inr (Or.inr (Or.inr (Or.inl ⟨c212, rfl⟩))))
            · rw [if_neg c212]
              by_cases c213 : K t = 213
              · rw [if_pos c213]; exact beg0 41 (Or.inr (Or.inr (Or.inr (Or.inr ⟨c213, rfl⟩))))
              · rw [if_neg c213, bb_s (refuse_ok hs.1 h13)]
                unfold D_readOne_80
                rw [if_neg (show ¬ (rf s 1 (S t)).1 13 = 0 from fun h => by cases h)]
                refine Or.inl (fa_here hs (by decide) (fun n hn => beg_n h18 ?_ (by decide)))
                rw [beg_rest hRT c2 c220 c40 c45 c211 c212 c213 h16 (by omega) (by omega)]
                exact if_neg (fun h => by rw [h219 h.1] at h; cases h.2)
    · have htN : t < N := K_lt H hN.1 (by omega)
      rw [if_neg c220]
      obtain ⟨nk, hnk⟩ : ∃ nk : Nat, K t - 220 = (nk : Int) := ⟨(K t - 220).toNat, by omega⟩
      have ew : ay_w (K t - 220) = (nk : Int) := by rw [ay_wi (by omega) (by omega)]; exact hnk
      unfold D_readOne_18 D_readLeaf
      rw [hk, if_neg c2, ew]
      have e87 : (if s.1 10 = 200 then (if (nk : Int) ≤ 4 then D_readLeaf_87 q n s (nk : Int) 0 else D_readLeaf_87 q n s (nk : Int) 1) else (if (nk : Int) = 4 then D_readLeaf_87 q n s (nk : Int) 1 else D_readLeaf_87 q n s (nk : Int) 0)) = D_readLeaf_87 q n s (nk : Int) (if (m.1 14 = 0 ∧ K t - 220 ≤ 4) ∨ (m.1 14 = 1 ∧ K t - 220 ≠ 4) then 0 else 1) := by
        by_cases a : s.1 10 = 200
        · rw [if_pos a]
          by_cases b : (nk : Int) ≤ 4
          · rw [if_pos b, if_pos (by omega)]
          · rw [if_neg b, if_neg (by omega)]
        · rw [if_neg a]
          by_cases b : (nk : Int) = 4
          · rw [if_pos b, if_neg (by omega)]
          · rw [if_neg b, if_pos (by omega)]
      rw [e87]
      unfold D_readLeaf_87
      by_cases cf : (m.1 14 = 0 ∧ K t - 220 ≤ 4) ∨ (m.1 14 = 1 ∧ K t - 220 ≠ 4)
      · have hown : ow nk := by
          rcases hsort0 with ⟨h1, h2⟩ | ⟨h1, h2⟩
          · rw [h2]; exact Or.inl ⟨rfl, by omega⟩
          · rw [h2]; exact Or.inr ⟨rfl, by omega⟩
        rw [if_pos cf, if_pos rfl]
        unfold D_readLeaf_97
        rw [bb_s (emitc h11 (by omega))]
        unfold D_readLeaf_103
        rw [bb_s (adv (q := q) (n := n) (CS_ec hs.1) htN).1]
        obtain ⟨m', hS⟩ := leaf_ok (dep := 42 - 5 * o) (x := 1) (v := (nk : Int)) B H hs h18 htN (fun n hn => by rw [beg_nam hRT (by omega) hsort cf, hnk]) (fun C R a b c' d => (SN_nam (k := nk) a c' d b (by omega) hown).c (fun _ _ _ => rfl) (fun _ _ _ => rfl) (by omega))
        exact Or.inr ⟨_, m', _, _, _, rfl, hS⟩
      · rw [if_neg cf, if_neg (by decide), bb_s (refuse_ok hs.1 h13)]
        refine Or.inl (leaf_x (F' := fun s => bb (D_readLeaf_97 q n s (nk : Int)) fun v9 s9 => some (0, s9)) hs (fv := 5) (by decide) rfl (DO_b (dd_97 (hDr 5 (by decide)) (hWr 5)) fun s h hw => DO_r h hw) (fun n hn => beg_n h18 (beg_namx hRT (by omega) hsort cf) (by decide)))
end
