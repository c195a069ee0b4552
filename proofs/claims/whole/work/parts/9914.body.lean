/-! Clauses: what stands behind their first word. -/
def CG (s m : bS) (T j st : Nat) : Prop := (2 ≤ st → s.2 5 (4 * j + 1) = m.2 2 (729 * T + 1 + 5 * j + 1) ∧ 0 ≤ s.2 5 (4 * j + 1) ∧ s.2 5 (4 * j + 1) ≤ 60) ∧ (st = 3 ∨ st = 4 → s.2 5 (4 * j + 2) = m.2 2 (729 * T + 1 + 5 * j + 2) ∧ 0 ≤ s.2 5 (4 * j + 2) ∧ s.2 5 (4 * j + 2) ≤ 3) ∧ (st = 4 → s.2 5 (4 * j + 3) = m.2 2 (729 * T + 1 + 5 * j + 3) ∧ 0 ≤ s.2 5 (4 * j + 3) ∧ s.2 5 (4 * j + 3) ≤ 99)
def BS (q : bS) (L : Nat) (K S A : Nat → Int) (N : Nat) (s m s' m' : bS) (st t t' k i i' u u' T : Nat) : Prop := t ≤ t' ∧ BX q L K S A N s' m' t' k i' u' T ∧ GS k s s' ∧ GM T k u m m' ∧ (∀ j, j < i → s'.2 4 j = s.2 4 j) ∧ (i ≤ i' ∧ u ≤ u') ∧ CG s' m' T k st ∧ (2 ≤ st → s'.2 6 = s.2 6 ∧ i' = i ∧ u' = u) ∧ (st < 2 → (s'.2 6 (2 * st) = (i : Int) ∧ s'.2 6 (2 * st + 1) = (i' : Int) ∧ ∀ j, j ≠ 2 * st → j ≠ 2 * st + 1 → s'.2 6 j = s.2 6 j) ∧ m'.2 2 (729 * T + 1 + 5 * k + 1) = (u : Int) ∧ m'.2 2 (729 * T + 1 + 5 * k + 2) = (u' : Int) ∧ SN (od st) (s'.2 4) i i' (RC T m') u u' 44)
section
variable {ow : Nat → Prop} {q s s' s2 m m' m1 m2 : bS} {K S A C R : Nat → Int} {L n n' i i' j k t t' N u u' T x ix st d b : Nat} {lo hi l1 f v : Int} {F : Option (Int × bS)} {RF : Nat → Option (Int × bS)}
/-- the whole sum of a law -/
theorem law_sum (B : BY q L) (H : TB (q.2 0) L N K S A) (hn : 2000 ≤ n) (hs : STT ow q L K S A N s m t 0 0 i u T) (h18 : m.1 18 = 0) : FA K S A N (D_rec q (n + 1) 30 1 s 0) s m t i ∨ ∃ (s' m1 : bS) (t' i' u' : Nat), D_rec q (n + 1) 30 1 s 0 = some (0, s') ∧ t < t' ∧ STT ow q L K S A N s' m1 t' 0 0 i' u' T ∧ (∀ n', 2000 ≤ n' → R_summed_15 n' m = some (0, m1)) ∧ FR m m1 ∧ FS i s s' ∧ SN ow (s'.2 4) i i' (RC T m1) u u' 44 := by
  have on : opN (m.2 15) 0 = -1 := by
    unfold opN
    exact if_pos (by show (-1 : Int) < 0; decide)
  rcases ((T_rec B H hn 30 0 (by omega) (by omega)).2.1) s m t 0 i u T hs h18 (by omega) (Or.inl rfl) (fun _ _ => by
    unfold aA
    rw [on]
    exact decide_eq_false (by intro h; omega)) (fun h => by cases h) with h | ⟨s', m', m1, t', i', u', c, x1, x2, x3⟩
  · exact Or.inl h
  · obtain ⟨k1, k2, k3, k4, k5, k6, k7, k8, k9⟩ := SU_kind x3
    have hbt : ∀ n, 200 ≤ n → R_betweenOf n m' = some (-1, m') := fun n hn => btw_m1 x3 x2 (fun h => by rw [on] at h; omega) hn
    have hpt : ∀ n, 200 ≤ n → R_partOf n m' (opN (m'.2 15) (0 + c)) = some (-1, m') := fun n hn => by
      rw [part_su x3 hn, on, if_neg (by decide), if_neg (by decide), if_neg (by decide), if_neg (by decide)]
    have hop : opN (m'.2 15) (0 + c) = -1 := (SU_opN x3).trans on
    obtain ⟨a1, a2, a3, a4, a5, a6, a7, a8, a9, a10, a11, a12, a13, a14, a15⟩ := x3
    refine Or.inr ⟨s', m1, t', i', u', x1, a1, a2, fun n' hn' => ?_, a9, a13, (a15.1 rfl)⟩
    obtain ⟨n1, g1, g2, g3⟩ := a4 n' (by omega)
    obtain ⟨n2, hn2⟩ : ∃ n2, n1 = n2 + 1 := ⟨n1 - 1, by omega⟩
    subst hn2
    rw [g1, beh_n k9 (hbt n2 (by omega)) k7 (by omega) (by omega) (hpt n2 (by omega)), hop, if_pos (by decide), bb_s (a6.st (Int.le_refl 1) (by decide) a2.2.2.2.2.1.1 (by omega) (Or.inl rfl) (by omega))]
theorem l2b (h : b < 2) : ay_w (2 * ay_w (200 + (b : Int) - 200)) = ((2 * b : Nat) : Int) := by
  rw [ay_wi (x := 200 + (b : Int) - 200) (by omega) (by omega), ay_wi (by omega) (by omega)]; omega
theorem B_law (B : BY q L) (H : TB (q.2 0) L N K S A) (hn : 2000 ≤ n) (hb : BX q L K S A N s m t k i u T) (hk : k < 24) (hb2 : b < 2) (h14 : m.1 14 = (b : Int)) : FO T (bb (D_readLaw q 30 (n + 1) s (200 + (b : Int))) fun v3 s3 => D_readClause_221 q 30 (n + 1) s3 (200 + (b : Int))) (fun n => R_lawClause n m ((729 * T + (1 + 5 * k) : Nat) : Int)) s m ∨ ∃ (s8 m8 : bS) (t' i' u' : Nat), (bb (D_readLaw q 30 (n + 1) s (200 + (b : Int))) fun v3 s3 => D_readClause_221 q 30 (n + 1) s3 (200 + (b : Int))) = D_readClause_243 q 30 (n + 1) s8 ∧ (∀ n, 3000 ≤ n → R_lawClause n m ((729 * T + (1 + 5 * k) : Nat) : Int) = some (0, m8)) ∧ BS q L K S A N s m s8 m8 b t t' k i i' u u' T := by
  obtain ⟨C, M, ⟨w1, w2, w3, w4⟩, ⟨u1, u2⟩, T1, T2⟩ := hb
  have hN := C.2.2
  obtain ⟨s0, hs0⟩ : ∃ s0, s0 = bA (bI s 10 (200 + (b : Int))) 6 ((2 * b : Nat) : Int) (i : Int) := ⟨_, rfl⟩
  obtain ⟨m0, hm0⟩ : ∃ m0, m0 = bI (bI (bI (bA m 2 ((729 * T + (1 + 5 * k + 1) : Nat) : Int) (u : Int)) 16 0) 17 0) 18 0 := ⟨_, rfl⟩
  have C0 : CS K S A N s0 t := by rw [hs0]; exact CS_c C rfl rfl rfl (bA_2 (by decide)) (bA_2 (by decide)) (bA_2 (by decide))
  have M0 : MS q L K S A N m0 t := by
    rw [hm0]
    exact MS_c M (fun k hk => by rw [bI_1 (by omega), bI_1 (by omega), bI_1 (by omega)]; rfl) (show (bA m 2 ((729 * T + (1 + 5 * k + 1) : Nat) : Int) (u : Int)).2 3 = m.2 3 from bA_2 (by decide))
  have h0 : STT (od b) q L K S A N s0 m0 t 0 0 i u T := ⟨C0, M0, by rw [hs0]; exact ⟨w1, w2, w3⟩, by rw [hm0]; exact ⟨u1, by omega⟩, by rw [hm0]; exact ⟨rfl, rfl, by omega⟩, by rw [hm0]; exact ⟨T1, T2⟩, by rw [hm0, hs0]; show (200 + (b : Int)) = 200 + m.1 14; rw [h14], by
    rw [hm0]
    show (m.1 14 = 0 ∧ od b = od 0) ∨ (m.1 14 = 1 ∧ od b = od 1)
    have hb3 : b = 0 ∨ b = 1 := by omega
    rcases hb3 with h | h <;> subst h
    · exact Or.inl ⟨h14, rfl⟩
    · exact Or.inr ⟨h14, rfl⟩⟩
  have eD : D_readLaw q 30 (n + 1) s (200 + (b : Int)) = bb (D_rec q (n + 1) 30 1 s0 0) fun v1 s1 => some (0, bA s1 6 ((2 * b + 1 : Nat) : Int) (s1.1 11)) := by
    unfold D_readLaw
    rw [l2b hb2, if_pos ⟨by omega, by omega⟩, w2, ← hs0, wad1 (x := 2 * b) (by omega)]
    have hc : (0 : Int) ≤ ((2 * b + 1 : Nat) : Int) ∧ ((2 * b + 1 : Nat) : Int) < 4 := ⟨by omega, by omega⟩
    simp only [if_pos hc]
  have hm : FM T m m0 := by
    rw [hm0]
    exact (FM_a (by omega)).tr ⟨fun k hk => by rw [bI_1 (by omega), bI_1 (by omega), bI_1 (by omega)], fun _ _ _ => rfl, fun _ _ => rfl⟩
  have eR : ∀ n, R_lawClause n m ((729 * T + (1 + 5 * k) : Nat) : Int) = bb (R_summed_15 n m0) fun v1 s1 => some (v1, bA s1 2 ((729 * T + (1 + 5 * k) + 2 : Nat) : Int) (s1.1 13)) := fun n => by
    unfold R_lawClause R_summed
    rw [wad1 (x := 729 * T + (1 + 5 * k)) (by omega), wad2 (x := 729 * T + (1 + 5 * k)) (by omega), if_pos ⟨by omega, by omega⟩, u1, Nat.add_assoc (729 * T) (1 + 5 * k) 1, ← hm0]
    have hc : (0 : Int) ≤ ((729 * T + (1 + 5 * k) + 2 : Nat) : Int) ∧ ((729 * T + (1 + 5 * k) + 2 : Nat) : Int) < 2916 := ⟨by omega, by omega⟩
    simp only [if_pos hc]
  have s015 : s0.1 15 = s.1 15 := by rw [hs0]; rfl
  rw [eD]
  rcases law_sum B H hn h0 (by rw [hm0]; rfl) with ⟨s1, a1, a2, a3, a4⟩ | ⟨s1, m1, t', i', u', a1, a2, a3, a4, a5, a6, a7⟩
  · refine Or.inl ⟨bI (bA s1 6 ((2 * b + 1 : Nat) : Int) (s1.1 11)) 12 (ay_w (s1.1 12 + 1)), ?_, a2.1, ?_, fun n hn => ?_⟩
    · rw [bb_s (show (bb (D_rec q (n + 1) 30 1 s0 0) fun v1 s1 => some ((0 : Int), bA s1 6 ((2 * b + 1 : Nat) : Int) (s1.1 11))) = some (0, bA s1 6 ((2 * b + 1 : Nat) : Int) (s1.1 11)) from bb_s a1)]
      exact d221 a2.1
    · show s1.1 15 = s.1 15
      rw [a3.1 15 (by decide) (by decide) (by decide) (by decide) (by decide), s015]
    · obtain ⟨mf, b1, b2, b3⟩ := a4 n (by omega)
      refine ⟨bA mf 2 ((729 * T + (1 + 5 * k) + 2 : Nat) : Int) (mf.1 13), by show R_lawClause n m _ = _; rw [eR, bb_s b1]; rfl, b2, (hm.tr (FM_FR b3 (by rw [hm0]; exact T1) (by rw [hm0]; exact u1))).tr ?_⟩
      rw [Nat.add_assoc]
      exact FM_a (by omega)
  · obtain ⟨C1, M1, ⟨y1, y2, y3⟩, ⟨z1, z2⟩, _, ⟨T3, T4⟩, _⟩ := a3
    have hN1 := C1.2.2
    have fm1 : FM T m m1 := hm.tr (FM_FR a5 (by rw [hm0]; exact T1) (by rw [hm0]; exact u1))
    have r2 : ∀ j : Nat, (j : Int) < 121 + 2 * (u : Int) → m1.2 2 (729 * T + j) = m0.2 2 (729 * T + j) := fun j hj => a5.2.2.1 (729 * T + j) (by rw [show m0.1 12 = ((729 * T : Nat) : Int) by rw [hm0]; exact T1, show m0.1 13 = (u : Int) by rw [hm0]; exact u1]; omega)
    have m02 : ∀ j, m0.2 2 j = if j = 729 * T + (1 + 5 * k + 1) then (u : Int) else m.2 2 j := fun j => by rw [hm0]; exact b2_e
    have u19 : m0.1 19 = m.1 19 := by rw [hm0]; rfl
    obtain ⟨m8, hm8⟩ : ∃ m8, m8 = bA m1 2 ((729 * T + (1 + 5 * k) + 2 : Nat) : Int) (u' : Int) := ⟨_, rfl⟩
    have m82 : ∀ j, m8.2 2 j = if j = 729 * T + (1 + 5 * k) + 2 then (u' : Int) else m1.2 2 j := fun j => by rw [hm8]; exact b2_e
    have g19 : m1.1 19 = m0.1 19 := a5.1 19 (by omega)
    have hle := a7.1
    have s14 : ∀ j, j < i → s1.2 4 j = s.2 4 j := fun j hj => by rw [a6.2.2.1 j hj, hs0, bA_2 (by decide)]; rfl
    refine Or.inr ⟨bA s1 6 ((2 * b + 1 : Nat) : Int) (i' : Int), m8, t', i', u', ?_, fun n hn => ?_, by omega, ⟨CS_c C1 rfl rfl rfl (bA_2 (by decide)) (bA_2 (by decide)) (bA_2 (by decide)), by rw [hm8]; exact MS_c M1 (fun _ _ => rfl) (bA_2 (by decide)), ⟨y1, y2, y3, ?_⟩, by rw [hm8]; exact ⟨z1, by omega⟩, by rw [hm8]; exact T3, T4⟩, ⟨fun j hj => ?_, ?_, ?_⟩, ⟨?_, fun j hj => ?_, ?_⟩, fun j hj => by rw [bA_2 (by decide)]; exact s14 j hj, hle, ⟨fun h => by omega, fun h => by omega, fun h => by omega⟩, fun h => by omega, fun _ => ⟨⟨?_, ?_, fun j j1 j2 => ?_⟩, ?_, ?_, ?_⟩⟩
    · rw [bb_s (show (bb (D_rec q (n + 1) 30 1 s0 0) fun v1 s1 => some ((0 : Int), bA s1 6 ((2 * b + 1 : Nat) : Int) (s1.1 11))) = some (0, bA s1 6 ((2 * b + 1 : Nat) : Int) (i' : Int)) by rw [bb_s a1, y2])]
      unfold D_readClause_221
      rw [if_neg (by omega)]
    · rw [eR, bb_s (a4 n (by omega)), z1, hm8]
    · show s1.1 12 = _
      rw [a6.1 12 (by decide) (by decide) (by decide) (by decide) (by decide), hs0]; exact w4
    · rw [bA_2 (by decide), a6.2.1 5 (by decide), hs0, bA_2 (by decide)]; rfl
    · show s1.1 15 = _
      rw [a6.1 15 (by decide) (by decide) (by decide) (by decide) (by decide), s015]
    · show s1.1 14 = _
      rw [(a6.2.2.2.2.2.2 y1).2, hs0]; rfl
    · rw [hm8]
      refine fm1.tr ?_
      rw [Nat.add_assoc]
      exact FM_a (by omega)
    · rw [m82, if_neg (by omega), r2 j (by omega), m02, if_neg (by omega)]
    · rw [hm8]
      show m1.1 19 = _
      rw [g19, u19]
    · rw [bA_e (by omega), if_neg (by omega), a6.2.1 6 (by decide), hs0, bA_e (by omega), if_pos rfl]
    · rw [bA_e (by omega), if_pos rfl]
    · rw [bA_e (by omega), if_neg (by omega), a6.2.1 6 (by decide), hs0, bA_e (by omega), if_neg (by omega)]; rfl
    · rw [m82, if_neg (by omega), show 729 * T + 1 + 5 * k + 1 = 729 * T + (1 + 5 * k + 1) by omega, r2 _ (by omega), m02, if_pos rfl]
    · rw [m82, if_pos (by omega)]
    · refine a7.c (fun j _ _ => by rw [bA_2 (by decide)]) (fun j j1 j2 => ?_) (Nat.le_refl _)
      show m8.2 2 (729 * T + 121 + j) = m1.2 2 (729 * T + 121 + j)
      rw [m82, if_neg (by omega)]
/-- one figure -/
theorem B_fig (B : BY q L) (H : TB (q.2 0) L N K S A) (hb : BX q L K S A N s m t k i u T) (hk : k < 24) (hlo : 0 ≤ lo) (hhi : hi ≤ 60) (hl : ¬ l1 = 204) (hst : 2 ≤ st ∧ st ≠ 3 ∧ st ≠ 4) : FO T (bb (D_expectNumber q n s 1 lo hi) fun v5 s5 => D_readClause_221 q d n s5 l1) (fun n => R_figure n m ((729 * T + (1 + 5 * k + 1) : Nat) : Int) lo hi) s m ∨ ∃ (s8 m8 : bS) (t' : Nat), (bb (D_expectNumber q n s 1 lo hi) fun v5 s5 => D_readClause_221 q d n s5 l1) = D_readClause_243 q d n s8 ∧ (∀ n, 3000 ≤ n → R_figure n m ((729 * T + (1 + 5 * k + 1) : Nat) : Int) lo hi = some (0, m8)) ∧ BS q L K S A N s m s8 m8 st t t' k i i u u T := by
  rcases fig_ok (n := n) (ix := 1) (lo := lo) (hi := hi) B H hb hk (by decide) (by decide) hlo (by omega) with ⟨f, a1, a2, a3⟩ | ⟨m', a1, a2, a3, a4, a5⟩
  · exact Or.inl (FO_1 hb a1 ⟨ay_w ((rf s f (S t)).1 12 + 1), Or.inl (by rw [bb_s (show D_expectNumber q n s 1 lo hi = some (0, rf s f (S t)) from a2)]; exact d221 a1)⟩ (fun n _ => a3 n))
  · have e5 : (bI (bI (bA s 5 ((4 * k + 1 : Nat) : Int) (A t)) 8 ((t + 1 : Nat) : Int)) 9 (K (t + 1))).2 5 (4 * k + 1) = A t := by
      show (bA s 5 ((4 * k + 1 : Nat) : Int) (A t)).2 5 (4 * k + 1) = _
      rw [bA_e (by omega), if_pos rfl]
    refine Or.inr ⟨_, m', t + 1, ?_, fun n hn => a3 n (by omega), by omega, a4, (GS_5 (by omega) (by omega)).tr GS_89, (GM_a (by omega) (by omega)).tr (GM_NX a5), fun j hj => by show (bA s 5 ((4 * k + 1 : Nat) : Int) (A t)).2 4 j = _; rw [bA_2 (by decide)], ⟨Nat.le_refl i, Nat.le_refl u⟩, ⟨fun _ => ⟨?_, ?_, ?_⟩, fun h => by omega, fun h => by omega⟩, fun _ => ⟨by show (bA s 5 ((4 * k + 1 : Nat) : Int) (A t)).2 6 = _; rw [bA_2 (by decide)], rfl, rfl⟩, fun h => by omega⟩
    · rw [bb_s (show D_expectNumber q n s 1 lo hi = some (0, bI (bI (bA s 5 ((4 * k + 1 : Nat) : Int) (A t)) 8 ((t + 1 : Nat) : Int)) 9 (K (t + 1))) from a2)]
      unfold D_readClause_221
      rw [if_neg hl]
    · rw [e5, a5.2, b2_e, if_pos (by omega)]
    · rw [e5]; omega
    · rw [e5]; omega
end
