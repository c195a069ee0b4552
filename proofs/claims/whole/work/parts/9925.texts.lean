/-! Calls: sayings, texts, ideals. -/
section
variable {n n' B Kt T k j i o p L : Nat} {z zp z' : Nat → Nat} {c c' c1 : Nat → bS} {U U' U1 : bH} {m m' m1 w w' x tt tt' q : bS} {a a' t2 t2' : Nat → Int} {v a1 a2 a3 a4 a5 : Int}
theorem w2s (h : i < 1000) : ay_w (1259 + ay_w (2 * (i : Int))) = ((1259 + 2 * i : Nat) : Int) := by
  rw [ay_wi (x := 2 * (i : Int)) (by omega) (by omega), ay_wi (by omega) (by omega)]; omega
theorem TO_a (H : TO z tt a) (e : ∀ i, i < 10 → i ≠ 1 → i ≠ 2 → i ≠ 3 → i ≠ 4 → i ≠ 5 → a' i = a i) : TO z tt a' := by
  obtain ⟨O1, q, q1, q2, q3, q4, q5⟩ := H
  exact ⟨fun o ho => by rw [e (6 + o) (by omega) (by omega) (by omega) (by omega) (by omega) (by omega)]; exact O1 o ho, q, q1, q2, by rw [e 0 (by omega) (by omega) (by omega) (by omega) (by omega) (by omega)]; exact q3, q4, q5⟩
theorem L_said (H : GI z zp B Kt c U m) (ha : -2147483648 ≤ a1 ∧ a1 < 2147483648) : ∃ c' U' m', LStep 40 c U m a1 a2 a3 a4 a5 c' U' m' ∧ NX1 B Kt c' U' m' := by
  have H0 := H
  obtain ⟨⟨_, A2, _, N, S, g1, g2, g3, g4, g5, g6, g7⟩, _⟩ := H
  by_cases h1 : a1 = -1
  · refine ⟨bU c 1 (bI (c 1) 7 0), U, bC m 0 (ay_u (m.2 0) 4 0), ⟨0, 0, 0, ?_, ?_⟩, NX1_s (GI_told H0 (TO_a A2 (fun i _ _ _ _ h _ => ay_ux h)) ?_ (fun i hi => ay_ux (by omega)))⟩
    · unfold P_said
      rw [if_pos h1]
    · unfold R_said
      rw [if_pos h1]; rfl
    · exact ⟨N, 0, ⟨g1.1, by omega⟩, ⟨g2.1, by rw [ay_ux (by omega)]; exact g2.2⟩, by rw [ay_ux (by omega)]; exact g3, ⟨rfl, ay_ue⟩, g5, fun i hi => by omega, g7⟩
  · rcases page_ok (a1 := 0) (a2 := a1) A2 (by omega) ha with ⟨p1, p2⟩ | ⟨o, p, e1, e2, ho, hp, hz, p1, p2⟩
    · refine ⟨c, U, m, ⟨0, 0, -2, ?_, ?_⟩, NX1_s H0⟩
      · unfold P_said
        rw [if_neg h1, bb_s (p1 _ _), if_pos rfl]
      · unfold R_said
        rw [if_neg h1, bb_s (p2 _), if_pos rfl]
    · by_cases h2 : (1 ≤ a2 ∧ a2 ≤ 16) ∧ S < 8
      · obtain ⟨v, hv⟩ : ∃ v : Nat, a2 = (v : Int) := ⟨a2.toNat, by omega⟩
        obtain ⟨a', ha'⟩ : ∃ a', a' = ay_u (ay_u (ay_u (m.2 0) (1259 + 2 * S) a1) (1259 + 2 * S + 1) a2) 4 ((S + 1 : Nat) : Int) := ⟨_, rfl⟩
        have an : ∀ i, i ≠ 4 → i ≠ 1259 + 2 * S → i ≠ 1259 + 2 * S + 1 → a' i = m.2 0 i := fun i i1 i2 i3 => by rw [ha', ay_ux i1, ay_ux i3, ay_ux i2]
        refine ⟨bU c 1 (bI (bA (bA (c 1) 2 (S : Int) a1) 3 (S : Int) a2) 7 ((S + 1 : Nat) : Int)), U, bC m 0 a', ⟨0, 0, ((S + 1 : Nat) : Int), ?_, ?_⟩, NX1_s (GI_told H0 ?_ ?_ (fun i hi => an i (by omega) (by omega) (by omega)))⟩
        · unfold P_said
          rw [if_neg h1, bb_s (p1 _ _), if_neg (by decide), if_neg (by omega), if_neg (by omega)]
          dsimp only
          rw [g4.1, if_pos (by omega), if_pos ⟨by omega, by omega⟩, if_pos ⟨by omega, by omega⟩, wad1 (by omega)]
        · unfold R_said
          have f1 : (bA m 0 ((1259 + 2 * S : Nat) : Int) a1).2 0 4 = (S : Int) := by
            show ay_u (m.2 0) ((1259 + 2 * S : Nat) : Int).toNat a1 4 = _
            rw [Int.toNat_natCast, ay_ux (by omega)]; exact g4.2
          have f2 : (bA (bA m 0 ((1259 + 2 * S : Nat) : Int) a1) 0 ((1259 + 2 * S + 1 : Nat) : Int) a2).2 0 4 = (S : Int) := by
            show ay_u ((bA m 0 ((1259 + 2 * S : Nat) : Int) a1).2 0) ((1259 + 2 * S + 1 : Nat) : Int).toNat a2 4 = _
            rw [Int.toNat_natCast, ay_ux (by omega)]; exact f1
          rw [if_neg h1, bb_s (p2 _), if_neg (by decide), b1_s (R_isIn_ok _ _ _ _), if_pos h2.1, if_neg (by decide), g4.2, if_neg (by omega), w2s (by omega), if_pos ⟨by omega, by omega⟩, f1, w2s (by omega), wad1 (x := 1259 + 2 * S) (by omega), if_pos ⟨by omega, by omega⟩, f2, wad1 (x := S) (by omega), bA_C, bA_C, bA_C, bC_C, bC_C, Int.toNat_natCast, Int.toNat_natCast, ha']
          rfl
        · exact TO_a A2 (fun i hi _ _ _ h _ => an i h (by omega) (by omega))
        · refine ⟨N, S + 1, ⟨g1.1, by omega⟩, ⟨g2.1, by rw [an 1 (by omega) (by omega) (by omega)]; exact g2.2⟩, by rw [an 2 (by omega) (by omega) (by omega)]; exact g3, ⟨rfl, by rw [ha']; exact ay_ue⟩, fun j hj => ?_, fun i hi => ?_, fun j hj => ?_⟩
          · show ∃ jx x, (bA (bA (c 1) 2 (S : Int) a1) 3 (S : Int) a2).2 1 j = _ ∧ _
            rw [bA_2 (by decide), bA_2 (by decide)]; exact g5 j hj
          · by_cases e : i = S
            · subst e
              refine ⟨p, v, hp, by omega, ?_, ?_, ?_, ?_⟩
              · show (bA (bA (c 1) 2 (i : Int) a1) 3 (i : Int) a2).2 2 i = _
                rw [bA_2 (by decide), bA_e (by omega), if_pos rfl]; exact e2
              · show (bA (bA (c 1) 2 (i : Int) a1) 3 (i : Int) a2).2 3 i = _
                rw [bA_e (by omega), if_pos rfl]; exact hv
              · rw [ha', ay_ux (by omega), ay_ux (by omega), ay_ue]; exact e2
              · rw [ha', ay_ux (by omega), show 1260 + 2 * i = 1259 + 2 * i + 1 by omega, ay_ue]; exact hv
            · obtain ⟨p', v', d1, d2, d3, d4, d5, d6⟩ := g6 i (by omega)
              refine ⟨p', v', d1, d2, ?_, ?_, by rw [an _ (by omega) (by omega) (by omega)]; exact d5, by rw [an _ (by omega) (by omega) (by omega)]; exact d6⟩
              · show (bA (bA (c 1) 2 (S : Int) a1) 3 (S : Int) a2).2 2 i = _
                rw [bA_2 (by decide), bA_e (by omega), if_neg e]; exact d3
              · show (bA (bA (c 1) 2 (S : Int) a1) 3 (S : Int) a2).2 3 i = _
                rw [bA_e (by omega), if_neg e, bA_2 (by decide)]; exact d4
          · show (bA (bA (c 1) 2 (S : Int) a1) 3 (S : Int) a2).2 1 j = _ ∨ _
            rw [bA_2 (by decide), bA_2 (by decide)]; exact g7 j hj
      · refine ⟨c, U, m, ⟨0, 0, -2, ?_, ?_⟩, NX1_s H0⟩
        · unfold P_said
          rw [if_neg h1, bb_s (p1 _ _), if_neg (by decide)]
          dsimp only
          by_cases d1 : a2 < 1
          · rw [if_pos d1]
          · rw [if_neg d1]
            by_cases d2 : 16 < a2
            · rw [if_pos d2]
            · rw [if_neg d2, g4.1, if_neg (by omega)]
        · unfold R_said
          rw [if_neg h1, bb_s (p2 _), if_neg (by decide), b1_s (R_isIn_ok _ _ _ _)]
          by_cases d1 : 1 ≤ a2 ∧ a2 ≤ 16
          · rw [if_pos d1, if_neg (by decide), g4.2, if_pos (by omega)]
          · rw [if_neg d1, if_pos rfl]
theorem L_ideal (H : GI z zp B Kt c U m) (ha : -2147483648 ≤ a1 ∧ a1 < 2147483648) : ∃ c' U' m', LStep 27 c U m a1 a2 a3 a4 a5 c' U' m' ∧ NX1 B Kt c' U' m' := by
  have H0 := H
  obtain ⟨⟨_, A2, _⟩, _⟩ := H
  rcases obj_ok (a1 := a1) A2 ha with ⟨p1, p2⟩ | ⟨o, e1, ho, hz, hz32, p1, p2⟩
  · refine ⟨c, U, m, ⟨0, 0, -1, ?_, ?_⟩, NX1_s H0⟩
    · unfold P_ideal
      rw [bb_s (p1 _ _), if_pos rfl]
    · unfold R_ideal
      rw [bb_s (p2 _), if_pos rfl]
  · have O1 := A2.1 o ho
    refine ⟨c, U, m, ⟨0, 0, ay_w (ay_w (ay_w (Int.tdiv ((z o : Nat) : Int) 16) + ay_w (Int.tdiv (ay_rem ((z o : Nat) : Int) 16) 4)) + ay_rem ((z o : Nat) : Int) 4), ?_, ?_⟩, NX1_s H0⟩
    · unfold P_ideal
      rw [bb_s (p1 _ _), if_neg (by decide)]
      subst e1
      rw [if_pos ⟨by omega, by omega⟩, Int.toNat_natCast]
      dsimp only
      rw [O1.1]
    · unfold R_ideal
      rw [bb_s (p2 _), if_neg (by decide)]
      subst e1
      rw [w6o (by omega), if_pos ⟨by omega, by omega⟩, if_pos ⟨by omega, by omega⟩, if_pos ⟨by omega, by omega⟩, Int.toNat_natCast, O1.2.1]
theorem uX_new (h : k = U.length) : uX (U ++ txC (k + 81) x) k x := by
  subst h
  refine ⟨?_, ?_, ?_⟩
  · rw [at_app, if_neg (by omega), Nat.sub_self]; rfl
  · rw [at_app, if_neg (by omega), show U.length + 1 - U.length = 1 by omega]; rfl
  · rw [at_app, if_neg (by omega), show U.length + 2 - U.length = 2 by omega]; rfl
theorem app_old {V : bH} (h : k < U.length) : ax_at (U ++ V) k = ax_at U k := by rw [at_app, if_pos h]
theorem HS_text (H : HS c U Kt) (hx : (x.1 6).toNat ≤ 96 ∧ (x.1 7).toNat ≤ 600) : HS c (U ++ txC (U.length + 81) x) (Kt + 1) := by
  obtain ⟨h1, h2, h3, h4⟩ := H
  refine ⟨fun q hq => ?_, h2, ?_, ?_⟩
  · rcases h1 q hq with h | ⟨j, w, g1, g2⟩
    · exact Or.inl h
    · exact Or.inr ⟨j, w, g1, uW_k g2 (fun k k1 k2 => app_old (by have := uW_in g2; omega))⟩
  · rw [List.length_append]
    show U.length + 3 ≤ _
    omega
  · rw [uz_app]
    show uz U + (6 + ((x.1 6).toNat + ((x.1 7).toNat + 0))) ≤ _
    omega
theorem L_text (H : GI z zp B Kt c U m) : ∃ c' U' m', LStep 3 c U m a1 a2 a3 a4 a5 c' U' m' ∧ NX1 B Kt c' U' m' := by
  have H0 := H
  obtain ⟨⟨A1, A2, A3, A4⟩, ⟨B1, B2, B3, B4⟩, h1, h2, ⟨L, h3, h4⟩, h5, h6, h7⟩ := H
  have A4' := A4
  obtain ⟨N, S, g1, g2, g3, g4, g5, g6, g7⟩ := A4
  by_cases hN : N = 4
  · refine ⟨c, U, m, ⟨0, 0, -1, ?_, ?_⟩, NX1_s H0⟩
    · unfold P_text
      dsimp only
      rw [g2.1, if_neg (by omega)]
    · unfold R_text
      rw [g2.2, if_pos (by omega)]
  · have hN4 : N < 4 := by omega
    obtain ⟨v, r, x1, x2, x3⟩ := read_ok (n := 3000) (T := N) h3 h4 g2.2 hN4 (Nat.le_refl _) (c 12)
    have tdm : ∀ {tt : bS} {a : Nat → Int} {mf : bS}, FM N m mf → TD tt U a (m.2 2) → a 1 ≤ (N : Int) → TD tt U a (mf.2 2) := fun {tt a mf} fm td le => TD_t td (fun j y hj hy => fm.2.2 _ (by omega))
    have hap : m.2 1 1 ≤ (N : Int) := by rw [← g2.2]; exact h1
    rcases x3 with ⟨e0, r13, rf⟩ | ⟨e1, r13, r14, m', K, S', A, N', k, i, u, f1, fm, cl⟩
    · obtain ⟨mf, f1, f2, fm⟩ := rf 5000 (Nat.le_refl _)
      refine ⟨bU (bU c 12 r) 7 (bI (c 7) 1 0), U, bI (bI (bI mf 5 (r.1 13)) 6 (mf.1 8)) 4 0, ⟨3000, 5000, -1, ?_, ?_⟩, z, zp, GI_m (by omega) (by omega) (B := B) (Kt := Kt) ?_⟩
      · unfold P_text
        dsimp only
        rw [g2.1, if_pos (by omega), bb_s x1, if_pos e0]
      · unfold R_text R_text_36
        rw [g2.2, if_neg (by omega), bb_s f1, if_neg r13]
        show (if r.1 13 = 0 then _ else _) = _
        rw [if_neg r13]
      · unfold GI
        rw [bU_n (show 0 ≠ 7 by decide), bU_n (show 0 ≠ 12 by decide), bU_n (show 1 ≠ 7 by decide), bU_n (show 1 ≠ 12 by decide), bU_n (show 3 ≠ 7 by decide), bU_n (show 3 ≠ 12 by decide), bU_n (show 4 ≠ 7 by decide), bU_n (show 4 ≠ 12 by decide), bU_n (show 8 ≠ 7 by decide), bU_n (show 8 ≠ 12 by decide), bU_n (show 10 ≠ 7 by decide), bU_n (show 10 ≠ 12 by decide), bU_n (show 12 ≠ 7 by decide), bU_e, bU_e]
        have q0 : mf.2 0 = m.2 0 := fm.2.1 0 (by decide) (by decide)
        have q1 : mf.2 1 = m.2 1 := fm.2.1 1 (by decide) (by decide)
        show ((GB z (c 0) (mf.2 0) B ∧ TO z (c 1) (mf.2 0) ∧ ST 2 _ U z (mf.2 0) B ∧ TD (c 1) U (mf.2 0) (mf.2 2)) ∧ (GB zp (c 3) (mf.2 1) B ∧ TO zp (c 4) (mf.2 1) ∧ ST 5 _ U zp (mf.2 1) B ∧ TD (c 4) U (mf.2 1) (mf.2 2)) ∧ mf.2 1 1 ≤ mf.2 0 1 ∧ _)
        rw [q0, q1]
        refine ⟨⟨A1, A2, ST_c (by rw [bU_n (by decide), bU_n (by decide)]) A3, tdm fm A4' (by rw [g2.2]; omega)⟩, ⟨B1, B2, ST_c (by rw [bU_n (by decide), bU_n (by decide)]) B3, tdm fm B4 hap⟩, h1, HS_2 h2 (by rw [bU_n (by decide), bU_n (by decide)]) (by rw [bU_n (by decide), bU_n (by decide)]), ⟨0, ⟨rfl, by omega, h3.2.2⟩, rfl, fun k hk => by omega⟩, ⟨h5.1, h5.2.1, (fm.1 23 (by omega)).trans h5.2.2⟩, ?_, Or.inr ⟨by rw [x2]; decide, rfl, f2.symm⟩⟩
        show 0 ≤ mf.1 24 ∧ mf.1 24 ≤ _
        rw [fm.1 24 (by omega)]; exact h6
    · obtain ⟨a', ha'⟩ : ∃ a', a' = ay_u (m.2 0) 1 ((N + 1 : Nat) : Int) := ⟨_, rfl⟩
      have an : ∀ y, y ≠ 1 → a' y = m.2 0 y := fun y hy => by rw [ha', ay_ux hy]
      have q0 : m'.2 0 = m.2 0 := fm.2.1 0 (by decide) (by decide)
      have q1 : m'.2 1 = m.2 1 := fm.2.1 1 (by decide) (by decide)
      have tx := TXR_read cl
      have hsz : ((txO r).1 6).toNat ≤ 96 ∧ ((txO r).1 7).toNat ≤ 600 := by
        obtain ⟨k', y1, _, y3, y4, _⟩ := tx
        exact ⟨by omega, y4⟩
      have oldX : ∀ j x, uX U j x → uX (U ++ txC (U.length + 81) (txO r)) j x := fun j x h => uX_k h (fun k hk => app_old hk)
      refine ⟨bU (bU (bU c 12 r) 7 (bI (c 7) 1 0)) 1 (bI (bA (c 1) 1 (N : Int) ((U.length + 83 : Nat) : Int)) 5 ((N + 1 : Nat) : Int)), U ++ txC (U.length + 81) (txO r), bC (bI (bI (bI m' 5 0) 6 (-1)) 4 0) 0 a', ⟨3000, 5000, (N : Int), ?_, ?_⟩, z, zp, GI_m (by omega) (Nat.le_refl _) (B := B) (Kt := Kt + 1) ?_⟩
      · unfold P_text
        dsimp only
        rw [g2.1, if_pos (by omega), bb_s x1, if_neg (by omega), if_pos ⟨by omega, by omega⟩, wad1 (by omega), wm1' (by omega), app_len, List.append_assoc]
      · unfold R_text R_text_36
        rw [g2.2, if_neg (by omega), bb_s (f1 5000 (Nat.le_refl _)), if_pos rfl]
        show (if (0 : Int) = 0 then some (ay_w (ay_w (m'.2 0 1 + 1) - 1), bA (bI (bI (bI m' 5 0) 6 (-1)) 4 0) 0 1 (ay_w (m'.2 0 1 + 1))) else _) = _
        rw [if_pos rfl, q0, g2.2, wad1 (by omega), wm1' (by omega), ha', bA_C, ← q0]; rfl
      · unfold GI
        rw [bU_n (show 0 ≠ 1 by decide), bU_n (show 0 ≠ 7 by decide), bU_n (show 0 ≠ 12 by decide), bU_e, bU_n (show 3 ≠ 1 by decide), bU_n (show 3 ≠ 7 by decide), bU_n (show 3 ≠ 12 by decide), bU_n (show 4 ≠ 1 by decide), bU_n (show 4 ≠ 7 by decide), bU_n (show 4 ≠ 12 by decide), bU_n (show 8 ≠ 1 by decide), bU_n (show 8 ≠ 7 by decide), bU_n (show 8 ≠ 12 by decide), bU_n (show 10 ≠ 1 by decide), bU_n (show 10 ≠ 7 by decide), bU_n (show 10 ≠ 12 by decide), bU_n (show 12 ≠ 1 by decide), bU_n (show 12 ≠ 7 by decide), bU_e, bU_n (show 7 ≠ 1 by decide), bU_e]
        show ((GB z (c 0) a' B ∧ TO z _ a' ∧ ST 2 _ _ z a' B ∧ TD _ _ a' (m'.2 2)) ∧ (GB zp (c 3) (m'.2 1) B ∧ TO zp (c 4) (m'.2 1) ∧ ST 5 _ _ zp (m'.2 1) B ∧ TD (c 4) _ (m'.2 1) (m'.2 2)) ∧ m'.2 1 1 ≤ a' 1 ∧ _)
        rw [q1]
        refine ⟨⟨GB_a (fun y y1 y2 => an y (by omega)) A1, ?_, ST_a (an 3 (by omega)) (an 5 (by omega)) (fun y hy => an y (by omega)) (ST_c (by rw [bU_n (by decide), bU_n (by decide), bU_n (by decide)]) (ST_U (fun k hk => app_old hk) A3)), ?_⟩, ⟨B1, B2, ST_c (by rw [bU_n (by decide), bU_n (by decide), bU_n (by decide)]) (ST_U (fun k hk => app_old hk) B3), TD_c (tdm fm B4 hap) rfl rfl rfl rfl rfl rfl (fun _ _ => rfl) oldX⟩, ?_, HS_2 (HS_text h2 hsz) (by rw [bU_n (by decide), bU_n (by decide), bU_n (by decide)]) (by rw [bU_n (by decide), bU_n (by decide), bU_n (by decide)]), ⟨0, ⟨rfl, by omega, h3.2.2⟩, rfl, fun k hk => by omega⟩, ⟨h5.1, h5.2.1, (fm.1 23 (by omega)).trans h5.2.2⟩, ?_, Or.inr ⟨by rw [x2]; decide, r13, r14⟩⟩
        · obtain ⟨O1, qo, o1, o2, o3, o4, o5⟩ := A2
          exact ⟨fun o ho => by rw [an (6 + o) (by omega), bIA (by decide)]; exact O1 o ho, qo, o1, o2, by rw [an 0 (by omega)]; exact o3, o4, o5⟩
        · refine ⟨N + 1, S, ⟨by omega, g1.2⟩, ⟨rfl, by rw [ha']; exact ay_ue⟩, ⟨by rw [an 2 (by omega)]; exact g3.1, by rw [an 2 (by omega)]; exact g3.2.1, by rw [an 2 (by omega)]; have := g3.2.2; omega⟩, ⟨g4.1, by rw [an 4 (by omega)]; exact g4.2⟩, fun j hj => ?_, fun i hi => ?_, fun j hj => ?_⟩
          · show ∃ jx x, (bA (c 1) 1 (N : Int) ((U.length + 83 : Nat) : Int)).2 1 j = _ ∧ _
            rw [bA_e (by omega)]
            by_cases e : j = N
            · rw [if_pos e, e]
              exact ⟨U.length, txO r, rfl, uX_new rfl, tx⟩
            · rw [if_neg e]
              obtain ⟨jx, x, y1, y2, y3⟩ := g5 j (by omega)
              exact ⟨jx, x, y1, oldX _ _ y2, TXR_c y3 (fun _ _ _ => rfl) rfl rfl rfl rfl (fun y hy => fm.2.2 _ (by omega))⟩
          · obtain ⟨p', v', d1, d2, d3, d4, d5, d6⟩ := g6 i hi
            refine ⟨p', v', d1, d2, ?_, ?_, by rw [an _ (by omega)]; exact d5, by rw [an _ (by omega)]; exact d6⟩
            · rw [bIA (by decide)]; exact d3
            · rw [bIA (by decide)]; exact d4
          · show (bA (c 1) 1 (N : Int) ((U.length + 83 : Nat) : Int)).2 1 j = 0 ∨ ∃ jx x, (bA (c 1) 1 (N : Int) ((U.length + 83 : Nat) : Int)).2 1 j = _ ∧ _
            rw [bA_e (by omega)]
            by_cases e : j = N
            · rw [if_pos e]
              exact Or.inr ⟨U.length, txO r, rfl, uX_new rfl⟩
            · rw [if_neg e]
              rcases g7 j hj with h | ⟨jx, x, y1, y2⟩
              · exact Or.inl h
              · exact Or.inr ⟨jx, x, y1, oldX _ _ y2⟩
        · rw [ha', ay_ue]; omega
        · show 0 ≤ m'.1 24 ∧ m'.1 24 ≤ _
          rw [fm.1 24 (by omega)]; exact h6
end
