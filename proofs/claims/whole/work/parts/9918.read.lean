/-! Texts: all clauses, from the tape on. -/
section
variable {q s s' s2 m m' m1 m2 : bS} {K S A C R : Nat → Int} {L n n' i i' j k t t' N u u' T x ix st d b : Nat} {lo hi l1 f v : Int} {F : Option (Int × bS)} {RF : Nat → Option (Int × bS)}
theorem rd_loop (B : BY q L) (H : TB (q.2 0) L N K S A) : ∀ (c n2 : Nat) (s m : bS) (t k i u : Nat), N - t < c → c + 2002 < n2 → CLS q L K S A N s m t k i u T → (∃ s', D_read_54 q 30 n2 s (k : Int) = some (0, s') ∧ s'.1 13 ≠ 0 ∧ s'.1 15 = s.1 15 ∧ ∀ n, 3001 + c ≤ n → ∃ mf, R_readText_43 n m = some (s'.1 13, mf) ∧ mf.1 8 = s'.1 14 ∧ FM T m mf) ∨ ∃ (s' m' : bS) (k' i' u' : Nat), D_read_54 q 30 n2 s (k : Int) = some (1, s') ∧ (∀ n, 3001 + c ≤ n → R_readText_43 n m = some (0, m')) ∧ FM T m m' ∧ (s'.1 15 = s.1 15 ∧ s'.1 14 = s.1 14) ∧ CLS q L K S A N s' m' N k' i' u' T
  | 0, _, _, _, _, _, _, _, h, _, _ => by omega
  | c + 1, 0, _, _, _, _, _, _, _, h, _ => by omega
  | c + 1, n2 + 1, s, m, t, k, i, u, h1, h2, hc => by
    have hc0 := hc
    obtain ⟨hb, hk24, _⟩ := hc
    obtain ⟨C, M, ⟨w1, w2, w3, w4⟩, ⟨u1, u2⟩, T1, T2⟩ := hb
    have hRT := M.2.2.1
    have hN := C.2.2
    have hk9 : s.1 9 = K t := C.1.2.2
    have ih := fun (s m : bS) (t k i u : Nat) => rd_loop B H c n2 s m t k i u
    unfold D_read_54
    rw [if_neg (by omega), if_pos w1, hk9]
    by_cases cK : K t = 0
    · have etN : t = N := by
        rcases Nat.lt_or_ge t N with h | h
        · exact absurd cK (K_nz H h)
        · omega
      rw [if_pos cK]
      right
      subst etN
      refine ⟨s, m, k, i, u, ?_, fun n hn => ?_, FM.rf', ⟨rfl, rfl⟩, hc0⟩
      · unfold D_read_84 D_made
        have e4 : ay_w ((k : Int) * 4) = ((4 * k : Nat) : Int) := by rw [ay_wi (by omega) (by omega)]; omega
        rw [if_pos w1, w4, w2, e4, if_pos ⟨⟨by clear e4; omega, by clear e4; omega⟩, by clear e4; omega, by clear e4; omega⟩]
      · obtain ⟨n3, hn3⟩ : ∃ n3, n = n3 + 1 := ⟨n - 1, by omega⟩
        subst hn3
        unfold R_readText_43
        rw [if_pos ((tok_0 hRT).2 cK)]
    · rw [if_neg cK]
      have htN : t < N := K_lt H hN.1 cK
      obtain ⟨n4, hn4⟩ : ∃ n4, n2 = n4 + 1 := ⟨n2 - 1, by omega⟩
      have eR : ∀ n, R_readText_43 (n + 1) m = bb (R_clause n m) fun v2 s2 => (if v2 = 0 then R_readText_43 n s2 else some (v2, s2)) := fun n => by
        conv => lhs; unfold R_readText_43
        rw [if_neg (fun h => cK ((tok_0 hRT).1 h))]
      have hcl := clause_ok (n := n4) B H (by omega) hc0 cK
      rw [← hn4] at hcl
      rcases hcl with ⟨sx, f1, f2, f3, f4⟩ | ⟨s9, m9, t9, i9, u9, a1, a2, a3, a4, a5, a6⟩
      · left
        rw [bb_s f1, wad1 (by omega)]
        refine ⟨sx, ?_, f2, f3, fun n hn => ?_⟩
        · rw [hn4]
          unfold D_read_54 D_read_84
          rw [if_neg f2]
          by_cases c24 : (24 : Int) < ((k + 1 : Nat) : Int)
          · rw [if_pos c24]
          · rw [if_neg c24, if_neg f2]
        · obtain ⟨n3, hn3⟩ : ∃ n3, n = n3 + 1 := ⟨n - 1, by omega⟩
          subst hn3
          obtain ⟨mf, g1, g2, g3⟩ := f4 n3 (by omega)
          refine ⟨mf, ?_, g2, g3⟩
          rw [eR, bb_s (show R_clause n3 m = some (sx.1 13, mf) from g1), if_neg f2]
      · rw [bb_s a1, wad1 (by omega)]
        rcases ih s9 m9 t9 (k + 1) i9 u9 (by omega) (by omega) a6 with ⟨sx, f1, f2, f3, f4⟩ | ⟨sy, my, ky, iy, uy, b1, b2, b3, b4, b5⟩
        · left
          refine ⟨sx, f1, f2, f3.trans a5.1, fun n hn => ?_⟩
          obtain ⟨n3, hn3⟩ : ∃ n3, n = n3 + 1 := ⟨n - 1, by omega⟩
          subst hn3
          obtain ⟨mf, g1, g2, g3⟩ := f4 n3 (by omega)
          refine ⟨mf, ?_, g2, a4.tr g3⟩
          rw [eR, bb_s (a2 n3 (by omega)), if_pos rfl]; exact g1
        · right
          refine ⟨sy, my, ky, iy, uy, b1, fun n hn => ?_, a4.tr b3, ⟨b4.1.trans a5.1, b4.2.trans a5.2⟩, b5⟩
          obtain ⟨n3, hn3⟩ : ∃ n3, n = n3 + 1 := ⟨n - 1, by omega⟩
          subst hn3
          rw [eR, bb_s (a2 n3 (by omega)), if_pos rfl]; exact b2 n3 (by omega)
theorem fill_ok : D_fill q (n + 5) s v = some (0, bA (bA (bA (bA s 6 0 v) 6 1 v) 6 2 v) 6 3 v) := by
  show D_fill_5 q (n + 5) s v 0 4 = _
  have e : ∀ (s : bS) (n : Nat) (y : Int), (0 ≤ y ∧ y < 4) → D_fill_5 q (n + 1) s v y 4 = D_fill_5 q n (bA s 6 y v) v (ay_w (y + 1)) 4 := fun s n y hy => by
    conv => lhs; unfold D_fill_5
    rw [if_neg (by omega), if_pos hy]
  rw [e s (n + 4) 0 (by decide), show ay_w (0 + 1) = 1 from by decide, e _ (n + 3) 1 (by decide), show ay_w (1 + 1) = 2 from by decide, e _ (n + 2) 2 (by decide), show ay_w (2 + 1) = 3 from by decide, e _ (n + 1) 3 (by decide), show ay_w (3 + 1) = 4 from by decide]
  unfold D_fill_5
  rw [if_pos (by decide)]
theorem TT_TB {b' : Nat → Int} (h : TT b' L 0 0 N s) (hN : N ≤ L) : TB b' L N (s.2 1) (s.2 2) (s.2 3) := ⟨⟨hN, h.2.1, h.2.2.1⟩, fun t ht => h.2.2.2 t (Nat.zero_le t) ht⟩
/-- the first token -/
theorem nxt0 (B : BY q L) (H : TB (q.2 0) L N K S A) (M : RM q m L) (hm : m.1 7 = ((0 : Nat) : Int)) (hS : SK (q.2 0) L 0 (S 0).toNat) : ∃ m', (∀ n, 700 ≤ n → R_nextToken n m = some (0, m')) ∧ MS q L K S A N m' 0 ∧ NX m m' := by
  by_cases c : 0 < N
  · obtain ⟨st', en', h1, h2, h3⟩ := H.2 0 c
    rw [h1, Int.toNat_natCast] at hS
    obtain ⟨m', r1, r2, r3, r4, r5⟩ := next_ok B M hm hS (Or.inr h2)
    exact ⟨m', r1, ⟨RM_c (r5.1 4 (by omega)) r5.2 M, by rw [r2, h1], r4, en', r3, fun _ => ⟨st', h1, h2, h3⟩⟩, r5⟩
  · have e : N = 0 := by omega
    subst e
    rw [H.1.2.1, Int.toNat_natCast] at hS
    obtain ⟨m', r1, r2, r3, r4, r5⟩ := next_ok (kd := 0) (am := A 0) (en := L) B M hm hS (Or.inl ⟨rfl, rfl, rfl⟩)
    exact ⟨m', r1, ⟨RM_c (r5.1 4 (by omega)) r5.2 M, by rw [r2, H.1.2.1], by rw [H.1.2.2]; exact r4, L, r3, fun h => by omega⟩, r5⟩
/-- a text is read alike on both sides -/
theorem read_ok (B : BY q L) (M : RM q m L) (hT : m.2 0 1 = (T : Int)) (h4 : T < 4) (hn : 3000 ≤ n) (s : bS) : ∃ (v : Int) (r : bS), D_read q 30 n s = some (v, r) ∧ r.1 15 = 1 ∧ ((v = 0 ∧ r.1 13 ≠ 0 ∧ ∀ n', 5000 ≤ n' → ∃ mf, R_readText n' m = some (r.1 13, mf) ∧ mf.1 8 = r.1 14 ∧ FM T m mf) ∨ (v = 1 ∧ r.1 13 = 0 ∧ r.1 14 = -1 ∧ ∃ (m' : bS) (K S A : Nat → Int) (N k i u : Nat), (∀ n', 5000 ≤ n' → R_readText n' m = some (0, m')) ∧ FM T m m' ∧ CLS q L K S A N r m' N k i u T)) := by
  have hL := B.2.1
  obtain ⟨s0, hs0⟩ : ∃ s0, s0 = bI (bI (bI (bI (bI s 15 1) 13 0) 14 (-1)) 11 0) 12 0 := ⟨_, rfl⟩
  obtain ⟨s1, hs1⟩ : ∃ s1, s1 = bA (bA (bA (bA s0 6 0 (-1)) 6 1 (-1)) 6 2 (-1)) 6 3 (-1) := ⟨_, rfl⟩
  obtain ⟨n5, hn5⟩ : ∃ n5, n = n5 + 5 := ⟨n - 5, by omega⟩
  have efill : D_fill q n s0 (-1) = some (0, s1) := by rw [hn5, hs1]; exact fill_ok
  obtain ⟨s2, N, a1, a2, a3, a4, a5, a6, a7, a8⟩ := split7 B L n 0 0 (bI s1 7 0) (by omega) (by omega) (by omega) bI_e (Nat.le_refl 0)
  have esplit : D_split q n s1 = some (0, s2) := a1
  have H := TT_TB a8 (by omega)
  obtain ⟨s3, hs3⟩ : ∃ s3, s3 = bI (bI s2 8 0) 9 (s2.2 1 0) := ⟨_, rfl⟩
  have eD : D_read q 30 n s = D_read_54 q 30 n s3 ((0 : Nat) : Int) := by
    unfold D_read
    rw [← hs0, bb_s efill, bb_s esplit, ← hs3]; rfl
  have e1 : ∀ y, y ≠ 7 → y ≠ 8 → y ≠ 9 → s3.1 y = s0.1 y := fun y h7 h8 h9 => by
    rw [hs3, bI_1 h9, bI_1 h8, a5 y h7, bI_1 h7, hs1]; rfl
  have e6 : ∀ y, y < 4 → s3.2 6 y = -1 := fun y hy => by
    rw [hs3]
    show s2.2 6 y = -1
    rw [a6 6 (by decide) (by decide) (by decide)]
    show s1.2 6 y = -1
    have hy : y = 0 ∨ y = 1 ∨ y = 2 ∨ y = 3 := by omega
    rw [hs1]
    rcases hy with h | h | h | h <;> subst h <;> rfl
  have C3 : CS (s2.2 1) (s2.2 2) (s2.2 3) N s3 0 := by
    rw [hs3]
    exact ⟨⟨a2, rfl, rfl⟩, ⟨rfl, rfl, rfl⟩, Nat.zero_le N, by omega⟩
  -- the reference
  obtain ⟨m0, hm0⟩ : ∃ m0, m0 = bI (bI (bI (bA (bI m 12 ((729 * T : Nat) : Int)) 2 ((729 * T : Nat) : Int) 0) 13 0) 19 0) 7 0 := ⟨_, rfl⟩
  have M0 : RM q m0 L := by rw [hm0]; exact ⟨M.1, fun k hk => by show (bA (bI m 12 ((729 * T : Nat) : Int)) 2 ((729 * T : Nat) : Int) 0).2 3 k = _; rw [bA_2 (by decide)]; exact M.2 k hk⟩
  obtain ⟨m1, x1, x2, x3⟩ := nxt0 B H M0 (by rw [hm0]; rfl) a8.1
  have m02 : ∀ y, m0.2 2 y = if y = 729 * T then 0 else m.2 2 y := fun y => by
    rw [hm0]
    show (bA (bI m 12 ((729 * T : Nat) : Int)) 2 ((729 * T : Nat) : Int) 0).2 2 y = _
    rw [b2_e]; rfl
  have m0j : ∀ y, y ≠ 2 → m0.2 y = m.2 y := fun y hy => by
    rw [hm0]
    show (bA (bI m 12 ((729 * T : Nat) : Int)) 2 ((729 * T : Nat) : Int) 0).2 y = _
    rw [bA_2 hy]; rfl
  have m01 : ∀ y, y < 7 ∨ 20 ≤ y → m0.1 y = m.1 y := fun y hy => by
    rw [hm0, bI_1 (by omega), bI_1 (by omega), bI_1 (by omega)]
    show (bI m 12 _).1 y = _
    rw [bI_1 (by omega)]
  have eR : ∀ n', 5000 ≤ n' → R_readText n' m = R_readText_43 n' m1 := fun n' hn' => by
    have ew : ay_w (729 * (T : Int)) = ((729 * T : Nat) : Int) := by rw [ay_wi (by omega) (by omega)]; omega
    unfold R_readText
    rw [hT, ew, if_pos ⟨by clear ew; omega, by clear ew; omega⟩, ← hm0, bb_s (x1 n' (by clear ew; omega))]
  have fm : FM T m m1 := by
    refine FM.tr (m' := m0) ⟨m01, fun y h1 _ => m0j y h1, fun y hy => by rw [m02, if_neg (by omega)]⟩ (FM_NX x3)
  have hl : ∀ b, b < 2 → LR s3 m1 T 0 0 0 b := fun b hb => Or.inl ⟨e6 _ (by omega), fun j hj => by omega⟩
  have hc : CLS q L (s2.2 1) (s2.2 2) (s2.2 3) N s3 m1 0 0 0 0 T := by
    refine ⟨⟨C3, x2, ⟨?_, ?_, by omega, ?_⟩, ⟨?_, by omega⟩, ?_, h4⟩, by omega, ?_, ?_, fun j hj => by omega, hl 0 (by decide), hl 1 (by decide)⟩
    · rw [e1 13 (by decide) (by decide) (by decide), hs0]; rfl
    · rw [e1 11 (by decide) (by decide) (by decide), hs0]; rfl
    · rw [e1 12 (by decide) (by decide) (by decide), hs0]; rfl
    · rw [x3.1 13 (by omega), hm0]; rfl
    · rw [x3.1 12 (by omega), hm0]; rfl
    · rw [x3.2, m02, if_pos rfl]; rfl
    · rw [x3.1 19 (by omega), hm0]
      unfold onc
      rw [e6 0 (by omega), e6 2 (by omega)]; rfl
  have e15 : s3.1 15 = 1 := by rw [e1 15 (by decide) (by decide) (by decide), hs0]; rfl
  have e14 : s3.1 14 = -1 := by rw [e1 14 (by decide) (by decide) (by decide), hs0]; rfl
  rw [eD]
  rcases rd_loop B H (N + 1) n s3 m1 0 0 0 0 (by omega) (by omega) hc with ⟨r, b1, b2, b3, b4⟩ | ⟨r, m', k, i, u, b1, b2, b3, b4, b5⟩
  · refine ⟨0, r, b1, b3.trans e15, Or.inl ⟨rfl, b2, fun n' hn' => ?_⟩⟩
    obtain ⟨mf, g1, g2, g3⟩ := b4 n' (by omega)
    exact ⟨mf, by rw [eR n' hn']; exact g1, g2, fm.tr g3⟩
  · exact ⟨1, r, b1, b4.1.trans e15, Or.inr ⟨rfl, b5.1.2.2.1.1, b4.2.trans e14, m', _, _, _, N, k, i, u, fun n' hn' => by rw [eR n' hn']; exact b2 n' (by omega), fm.tr b3, b5⟩⟩
end
