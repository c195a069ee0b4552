/-! What is foretold. -/
section
variable {n n' B B' Kt T k j i o p L M : Nat} {z zp z' : Nat → Nat} {c c' c1 : Nat → bS} {U U' U1 : bH} {m m' m0 m1 w w' x tt tt' q kk xx kk' xx' : bS} {a a' ak t2 t2' : Nat → Int} {v a1 a2 a3 a4 a5 : Int} {ox : Option (Nat × bS)} {T0 : bH}
def f3 (c : Nat → bS) (w kk xx : bS) : Nat → bS := bU (bU (bU c 6 w) 10 kk) 11 xx
theorem f3_f3 : bU (bU (bU (f3 c w kk xx) 6 w') 10 kk') 11 xx' = f3 c w' kk' xx' := funext fun j => by
  unfold f3
  by_cases h9 : j = 11
  · rw [h9, bU_e, bU_e]
  · rw [bU_n h9, bU_n h9]
    by_cases h8 : j = 10
    · rw [h8, bU_e, bU_e]
    · rw [bU_n h8, bU_n h8]
      by_cases h0 : j = 6
      · rw [h0, bU_e, bU_e]
      · rw [bU_n h0, bU_n h0, bU_n h9, bU_n h8, bU_n h0]
theorem f3_0 : f3 c w kk xx 6 = w := by unfold f3; rw [bU_n (by decide), bU_n (by decide), bU_e]
theorem f3_8 : f3 c w kk xx 10 = kk := by unfold f3; rw [bU_n (by decide), bU_e]
theorem f3_9 : f3 c w kk xx 11 = xx := by unfold f3; rw [bU_e]
theorem f3_n (h0 : j ≠ 6) (h8 : j ≠ 10) (h9 : j ≠ 11) : f3 c w kk xx j = c j := by unfold f3; rw [bU_n h9, bU_n h8, bU_n h0]
theorem f3_w : bU c 6 w = f3 c w (c 10) (c 11) := by
  funext j
  unfold f3
  by_cases h9 : j = 11
  · rw [h9, bU_e, bU_n (by decide)]
  · rw [bU_n (w := c 11) h9]
    by_cases h8 : j = 10
    · rw [h8, bU_e, bU_n (by decide)]
    · rw [bU_n (w := c 10) h8]
theorem f3_id : bU (f3 c w kk xx) 6 w = f3 c w kk xx := by
  have := bU_id (c := f3 c w kk xx) (k := 6)
  rw [f3_0] at this
  exact this
/-- the end of a telling, on the reference's side -/
def FE (n : Nat) (s : bS) (l2 : Int) : Option (Int × bS) := (if l2 = 0 then (bb (R_freeFrames n s ) fun v3 s3 => R_foretold_112 n s3 v3 0) else (if l2 = 1 then (bb (R_reservations n s ) fun v4 s4 => R_foretold_112 n s4 v4 0) else (bb (R_allEntries n s ) fun v5 s5 => R_foretold_112 n s5 v5 0)))
theorem fore_ok (H : GI z zp B Kt c U m) (hB : B ≤ 60200) (d : Nat) : ∀ (k : Nat) {n n' : Nat} {w kk xx mm : bS} {l : Int}, YR z B m (m.2 0) w kk mm l → l + d ≤ 70000 → k + d ≤ 60 → 3000 + d + 1 ≤ n → 3000 + d + 1 ≤ n' → ∃ (w' kk' xx' mm' : bS) (nn nn' : Nat), P_foretold_35 n (f3 c w kk xx, mC m0 ++ U) ((k + d : Nat) : Int) a2 (k : Int) = P_foretold_67 nn (f3 c w' kk' xx', mC m0 ++ U) a2 ∧ R_foretold_53 n' mm ((k + d : Nat) : Int) a2 (k : Int) = FE nn' mm' a2 ∧ YR z B m (m.2 0) w' kk' mm' (l + d) ∧ mm'.2 25 = mm.2 25 ∧ 3000 ≤ nn ∧ 3000 ≤ nn' := by
  induction d with
  | zero =>
    intro k n n' w kk xx mm l Y hl hkd hn hn'
    obtain ⟨n, rfl⟩ : ∃ N, n = N + 1 := ⟨n - 1, by omega⟩
    obtain ⟨n', rfl⟩ : ∃ N, n' = N + 1 := ⟨n' - 1, by omega⟩
    refine ⟨w, kk, xx, mm, n, n', ?_, ?_, ?_, rfl, by omega, by omega⟩
    · rw [P_foretold_35, if_pos (by omega)]
    · rw [R_foretold_53, if_pos (by omega)]
      rfl
    · obtain ⟨y1, y2, y3, y4, y5, y6, y7⟩ := Y
      exact ⟨y1, y2, y3, y4, y5, y6, by omega⟩
  | succ d ih =>
    intro k n n' w kk xx mm l Y hl hkd hn hn'
    obtain ⟨n, rfl⟩ : ∃ N, n = N + 1 := ⟨n - 1, by omega⟩
    obtain ⟨n', rfl⟩ : ∃ N, n' = N + 1 := ⟨n' - 1, by omega⟩
    have Y0 := Y
    obtain ⟨⟨T, X, hst, hT⟩, y2, y3, y4, y5, y6, y7⟩ := Y
    have h12 : mm.2 0 12 ≤ 9999 := X.2.2.2.2.2.2.2.2
    have ek : k + 1 + d = k + (d + 1) := by omega
    by_cases h9 : 9999 ≤ mm.2 0 12
    · have hR : ∀ (d k : Nat) (N : Nat), 3000 + d + 1 ≤ N → k + d ≤ 60 → ∃ nn', R_foretold_53 N mm ((k + d : Nat) : Int) a2 (k : Int) = FE nn' mm a2 ∧ 3000 ≤ nn' := by
        intro d
        induction d with
        | zero =>
          intro k N hN _
          obtain ⟨N, rfl⟩ : ∃ N', N = N' + 1 := ⟨N - 1, by omega⟩
          exact ⟨N, by rw [R_foretold_53, if_pos (by omega)]; rfl, by omega⟩
        | succ d ih2 =>
          intro k N hN hk'
          obtain ⟨N, rfl⟩ : ∃ N', N = N' + 1 := ⟨N - 1, by omega⟩
          obtain ⟨nn', e, e'⟩ := ih2 (k + 1) N (by omega) (by omega)
          rw [show k + 1 + d = k + (d + 1) by omega] at e
          exact ⟨nn', by rw [R_foretold_53, if_neg (by omega), if_pos h9, wad1 (by omega)]; exact e, e'⟩
      obtain ⟨nn', e, e'⟩ := hR (d + 1) k (n' + 1) (by omega) (by omega)
      refine ⟨w, kk, xx, mm, n, nn', ?_, e, ?_, rfl, by omega, e'⟩
      · rw [P_foretold_35, if_neg (by omega)]
        rw [if_pos (show 9999 ≤ (f3 c w kk xx 6).1 16 by rw [f3_0, hst.2.1]; exact h9)]
      · exact ⟨⟨T, X, hst, hT⟩, y2, y3, y4, y5, y6, by omega⟩
    · have hD : TD ((f3 c w kk xx) 1) U (mm.2 0) (mm.2 2) := by
        rw [f3_n (by decide) (by decide) (by decide), y4 2 (by omega)]
        exact TD_c H.1.2.2.2 rfl rfl rfl rfl rfl rfl (fun i hi => y2 i (by omega)) (fun _ _ h => h)
      obtain ⟨ox, p1, p2⟩ := PT_ok (m := m0) hD
      have O : TO z (c 1) (mm.2 0) := TO_a H.1.2.1 (fun i i1 _ _ i3 _ i5 => y2 i (by omega))
      have h5 := H.2.2.2.2.2.1
      obtain ⟨r, w2, a2', T', k2', xx2, m2', v1, v3, v4, v5, vT, v2, v6, v6', v7, v8, v9, v10, v11⟩ := passx_ok (n := n) (n' := n') (m := mm) (kk := kk) (xx := xx) p2 X hst.1 hst.2.1 (by omega) (by omega) (by omega) O y3 (by rw [y5 23 (by omega)]; exact h5.2.2) (by omega) (by omega)
      have e0 : m2'.2 0 = a2' := v4.2 0 (by decide) (by decide) (by decide)
      have e24 : m2'.1 24 = mm.1 24 + r := by rw [v4.1, bI_e]
      have e25 : m2'.2 25 = mm.2 25 := by
        rw [v4.2 25 (by decide) (by decide) (by decide)]
        show (bC mm 0 a2').2 25 = _
        exact bC_n (by decide)
      have Y2 : YR z B m (m.2 0) w2 k2' m2' (l + 1) := by
        unfold YR
        rw [e0, e24]
        refine ⟨⟨T', v5, ⟨v6, v6', ?_⟩, ?_⟩, fun i hi => (v8 i hi).trans (y2 i hi), (v2 3 (by decide) (by decide) (by decide) (by decide)).trans y3, ?_, ?_, ?_, ?_⟩
        · rw [v10, v11, hst.2.2]
        · rw [v7]; omega
        · intro j hj
          rw [v4.2 j (by omega) (by omega) (by omega)]
          show (bC mm 0 a2').2 j = _
          rw [bC_n (by omega), y4 j hj]
        · intro k' hk'
          rw [v4.1, bI_1 (by omega)]
          exact y5 k' hk'
        · omega
        · omega
      obtain ⟨w', kk', xx', mm', nn, nn', g1, g2, g3, g4, g5, g6⟩ := ih (k + 1) (n := n) (n' := n') (xx := xx2) Y2 (by omega) (by omega) (by omega) (by omega)
      rw [ek] at g1 g2
      refine ⟨w', kk', xx', mm', nn, nn', ?_, ?_, ?_, g4.trans e25, g5, g6⟩
      · rw [P_foretold_35, if_neg (by omega)]
        rw [if_neg (show ¬ 9999 ≤ (f3 c w kk xx 6).1 16 by rw [f3_0, hst.2.1]; exact h9), b1_s p1]
        dsimp only
        rw [f3_n (j := 1) (by decide) (by decide) (by decide), f3_0, f3_8, f3_9, bb_s v1, f3_f3, wad1 (by omega)]
        exact g1
      · rw [R_foretold_53, if_neg (by omega), if_neg h9, bb_s v3, wad1 (by omega)]
        exact g2
      · obtain ⟨u1, u2, u3, u4, u5, u6, u7⟩ := g3
        exact ⟨u1, u2, u3, u4, u5, u6, by omega⟩
theorem w10 (h : i < 2000) : ay_w (10 + (i : Int)) = ((10 + i : Nat) : Int) := wadd (x := 10) (by omega)
theorem bA_Ck {k : Nat} (m : bS) (i v : Int) : bA m k i v = bC m k (ay_u (m.2 k) i.toNat v) := rfl
theorem bC_Ck {k : Nat} (m : bS) (a b : Nat → Int) : bC (bC m k a) k b = bC m k b := by
  refine Prod.ext rfl (funext fun j => ?_)
  show (bif Nat.beq j k then b else (bif Nat.beq j k then a else m.2 j)) = bif Nat.beq j k then b else m.2 j
  cases Nat.beq j k <;> rfl
theorem bC_ek {k : Nat} {f : Nat → Int} : (bC w k f).2 k = f := by
  show (bif Nat.beq k k then f else w.2 k) = f
  rw [Nat.beq_refl]; rfl
theorem save_ok (d : Nat) : ∀ (i n : Nat) (s : bS), d + i = 1249 → d < n → R_foretold_23 n s a1 a2 (i : Int) = R_foretold_53 (n - d - 1) (bC s 25 (fun j => if i ≤ j ∧ j < 1249 then s.2 0 (10 + j) else s.2 25 j)) a1 a2 0 := by
  induction d with
  | zero =>
    intro i n s hi hn
    obtain ⟨n, rfl⟩ : ∃ N, n = N + 1 := ⟨n - 1, by omega⟩
    have e : bC s 25 (fun j => if i ≤ j ∧ j < 1249 then s.2 0 (10 + j) else s.2 25 j) = s := by
      refine Prod.ext rfl (funext fun j => ?_)
      by_cases h : j = 25
      · rw [h, bC_ek]
        funext y
        exact if_neg (by omega)
      · exact bC_n h
    rw [R_foretold_23, if_pos (by omega), e]
    rfl
  | succ d ih =>
    intro i n s hi hn
    obtain ⟨n, rfl⟩ : ∃ N, n = N + 1 := ⟨n - 1, by omega⟩
    rw [R_foretold_23, if_neg (by omega), w10 (by omega), if_pos ⟨by omega, by omega⟩, if_pos ⟨by omega, by omega⟩, Int.toNat_natCast, wad1 (by omega), ih (i + 1) n _ (by omega) (by omega), bA_Ck, bC_Ck, show n + 1 - (d + 1) - 1 = n - d - 1 by omega]
    congr 2
    funext j
    rw [Int.toNat_natCast, bC_ek, bC_n (by decide)]
    by_cases h : j = i
    · rw [h, if_neg (by omega), ay_ue, if_pos (by omega)]
    · rw [ay_ux h]
      by_cases g : i + 1 ≤ j ∧ j < 1249
      · rw [if_pos g, if_pos (by omega)]
      · rw [if_neg g, if_neg (by omega)]
theorem rest_ok (d : Nat) : ∀ (i n : Nat) (s : bS), d + i = 1249 → d < n → R_foretold_112 n s v (i : Int) = some (v, bC s 0 (fun j => if 10 + i ≤ j ∧ j < 1259 then s.2 25 (j - 10) else s.2 0 j)) := by
  induction d with
  | zero =>
    intro i n s hi hn
    obtain ⟨n, rfl⟩ : ∃ N, n = N + 1 := ⟨n - 1, by omega⟩
    have e : bC s 0 (fun j => if 10 + i ≤ j ∧ j < 1259 then s.2 25 (j - 10) else s.2 0 j) = s := by
      refine Prod.ext rfl (funext fun j => ?_)
      by_cases h : j = 0
      · rw [h, bC_ek]
        funext y
        exact if_neg (by omega)
      · exact bC_n h
    rw [R_foretold_112, if_pos (by omega), e]
  | succ d ih =>
    intro i n s hi hn
    obtain ⟨n, rfl⟩ : ∃ N, n = N + 1 := ⟨n - 1, by omega⟩
    rw [R_foretold_112, if_neg (by omega), if_pos ⟨by omega, by omega⟩, w10 (by omega), if_pos ⟨by omega, by omega⟩, Int.toNat_natCast, wad1 (by omega), ih (i + 1) n _ (by omega) (by omega), bA_Ck, bC_Ck]
    refine congrArg (fun y => some (v, bC s 0 y)) (funext fun j => ?_)
    rw [Int.toNat_natCast, bC_ek, bC_n (by decide)]
    by_cases h : j = 10 + i
    · rw [h, if_neg (by omega), ay_ue, if_pos (by omega), show 10 + i - 10 = i by omega]
    · rw [ay_ux h]
      by_cases g : 10 + (i + 1) ≤ j ∧ j < 1259
      · rw [if_pos g, if_pos (by omega)]
      · rw [if_neg g, if_neg (by omega)]
theorem all_ok {q' : Nat} (X : GX z w (m.2 0) T) (O : TO z (c 1) (m.2 0)) (q4 : q' ≤ 4) (h1 : (c 1).1 4 = (q' : Int)) (h2 : m.2 0 0 = (q' : Int)) (h6 : c 6 = w) (d : Nat) : ∀ (o n n' A : Nat), o + d = q' → A ≤ 32 * o → 50 + d < n → 50 + d < n' → ∃ V : Int, P_foretold_97 n (c, T0) (A : Int) (o : Int) = some (V, (c, T0)) ∧ R_allEntries_4 n' m (A : Int) (o : Int) = some (V, m) := by
  induction d with
  | zero =>
    intro o n n' A ho hA hn hn'
    obtain ⟨n, rfl⟩ : ∃ N, n = N + 1 := ⟨n - 1, by omega⟩
    obtain ⟨n', rfl⟩ : ∃ N, n' = N + 1 := ⟨n' - 1, by omega⟩
    refine ⟨A, ?_, ?_⟩
    · rw [P_foretold_97]; dsimp only; rw [h1, if_pos (by omega)]
    · rw [R_allEntries_4, h2, if_pos (by omega)]
  | succ d ih =>
    intro o n n' A ho hA hn hn'
    obtain ⟨n, rfl⟩ : ∃ N, n = N + 1 := ⟨n - 1, by omega⟩
    obtain ⟨n', rfl⟩ : ∃ N, n' = N + 1 := ⟨n' - 1, by omega⟩
    have ho4 : o < 4 := by omega
    obtain ⟨O1, O2, O3⟩ := O.1 o ho4
    have hl := cn_le (ents w o) 32
    obtain ⟨V, v1, v2⟩ := ih (o + 1) n n' (A + cn (ents w o) 32) (by omega) (by omega) (by omega) (by omega)
    refine ⟨V, ?_, ?_⟩
    · rw [P_foretold_97]
      dsimp only
      rw [h1, if_neg (by omega), h6, bb_s (W_entriesOf_ok _ X.1.2.2.2.1 ho4), wadd (by omega), wad1 (by omega), ← h6, bU_id, h6]
      exact v1
    · rw [R_allEntries_4, h2, if_neg (by omega), bb_s (R_entriesOf_ok ho4 O2 O3 X.1.1.2.1 X.2.2.2.1 (by omega)), wadd (by omega), wad1 (by omega)]
      exact v2
theorem L_foretold (H : GI z zp B Kt c U m) (hB : B ≤ 60000) : ∃ c' U' m', LStep 22 c U m a1 a2 a3 a4 a5 c' U' m' ∧ NX1 B Kt c' U' m' := by
  by_cases h1 : 1 ≤ a1 ∧ a1 ≤ 60
  rotate_left
  · refine ⟨c, U, m, ⟨0, 0, -1, ?_, ?_⟩, NX1_s H⟩
    · unfold P_foretold
      by_cases d1 : a1 < 1
      · rw [if_pos d1]
      · rw [if_neg d1, if_pos (by omega)]
    · unfold R_foretold
      rw [b1_s (R_isIn_ok _ _ _ _), if_neg h1, if_pos rfl]
  by_cases h2 : 0 ≤ a2 ∧ a2 ≤ 2
  rotate_left
  · refine ⟨c, U, m, ⟨0, 0, -1, ?_, ?_⟩, NX1_s H⟩
    · unfold P_foretold
      rw [if_neg (by omega), if_neg (by omega)]
      by_cases d1 : a2 < 0
      · rw [if_pos d1]
      · rw [if_neg d1, if_neg (by omega)]
    · unfold R_foretold
      rw [b1_s (R_isIn_ok _ _ _ _), if_pos h1, if_neg (by decide), b1_s (R_isIn_ok _ _ _ _), if_neg h2, if_pos rfl]
  obtain ⟨T, X, hst, hT⟩ := H.1.1
  have h5 := H.2.2.2.2.2.1
  have h24 := H.2.2.2.2.2.2.1
  have E := wCp_E (c 6) (c 0)
  obtain ⟨d, hd⟩ : ∃ d : Nat, a1 = (d : Int) := ⟨a1.toNat, by omega⟩
  obtain ⟨ar, har⟩ : ∃ ar : Nat → Int, ar = fun j => if 0 ≤ j ∧ j < 1249 then m.2 0 (10 + j) else m.2 25 j := ⟨_, rfl⟩
  have Y : YR z B m (m.2 0) (wCp (c 6) (c 0)) (c 10) (bC m 25 ar) (B : Int) := by
    refine ⟨⟨T, ?_, ⟨?_, ?_, ?_⟩, ?_⟩, fun i hi => rfl, h5.2.1, fun j hj => bC_n (by omega), fun _ _ => rfl, h24.1, h24.2⟩
    · exact GX_e E X
    · exact (E.1 15 (by decide) (by decide)).trans hst.1
    · exact (E.1 16 (by decide) (by decide)).trans hst.2.1
    · exact (E.1 13 (by decide) (by decide)).trans hst.2.2
    · exact hT
  obtain ⟨w', kk', xx', mm', nn, nn', g1, g2, g3, g4, g5, g6⟩ := fore_ok (m0 := m) (a2 := a2) (xx := c 11) H (by omega) d 0 (n := 3100) (n' := 3100) Y (by omega) (by omega) (by omega) (by omega)
  rw [Nat.zero_add, ← hd] at g1 g2
  obtain ⟨⟨T', X', hst', hT'⟩, u2, u3, u4, u5, u6, u7⟩ := g3
  have O' : TO z (c 1) (mm'.2 0) := TO_a H.1.2.1 (fun i i1 _ _ i3 _ i5 => u2 i (by omega))
  have eP : ∀ V, P_foretold_67 nn (f3 c w' kk' xx', mC m ++ U) a2 = V → P_foretold 3100 (c, mC m ++ U) a1 a2 = V := fun V hV => by
    unfold P_foretold
    rw [if_neg (by omega), if_neg (by omega), if_neg (by omega), if_pos (by omega), bb_s W_c60]
    dsimp only
    rw [f3_w]
    exact g1.trans hV
  have eR : ∀ V, FE nn' mm' a2 = V → R_foretold 4350 m a1 a2 = V := fun V hV => by
    unfold R_foretold
    rw [b1_s (R_isIn_ok _ _ _ _), if_pos h1, if_neg (by decide), b1_s (R_isIn_ok _ _ _ _), if_pos h2, if_neg (by decide)]
    have s := save_ok (a1 := a1) (a2 := a2) 1249 0 4350 m (by omega) (by omega)
    rw [← har] at s
    exact s.trans (g2.trans hV)
  have e25 : mm'.2 25 = ar := g4.trans bC_ek
  have e0 : ∀ {V : Int} {N : Nat}, 1249 < N → R_foretold_112 N mm' V 0 = some (V, bC mm' 0 (m.2 0)) := fun {V N} hN => by
    have s := rest_ok (v := V) 1249 0 N mm' (by omega) hN
    refine Eq.trans s ?_
    refine congrArg (fun y => some (V, bC mm' 0 y)) (funext fun j => ?_)
    rw [e25, har]
    by_cases g : 10 + 0 ≤ j ∧ j < 1259
    · rw [if_pos g]
      show (if 0 ≤ j - 10 ∧ j - 10 < 1249 then m.2 0 (10 + (j - 10)) else _) = _
      rw [if_pos (by omega), show 10 + (j - 10) = j by omega]
    · rw [if_neg g]
      exact u2 j (by omega)
  have hG : NX1 B Kt (f3 c w' kk' xx') U (bC mm' 0 (m.2 0)) := by
    have G2 : GI z zp (B + 60) Kt (f3 c w' kk' xx') U (bI m 24 (mm'.1 24)) := by
      refine GI_c (GI_24 (GI_m (B' := B + 60) (by omega) (Nat.le_refl _) H) (v := mm'.1 24) ?_) (f3_n (by decide) (by decide) (by decide)) (f3_n (by decide) (by decide) (by decide)) (f3_n (by decide) (by decide) (by decide)) (f3_n (by decide) (by decide) (by decide)) (f3_n (by decide) (by decide) (by decide)) (f3_n (by decide) (by decide) (by decide)) (f3_n (by decide) (by decide) (by decide)) ?_ ?_ (f3_n (by decide) (by decide) (by decide)) rfl rfl rfl rfl (fun _ _ => rfl)
      · have : d ≤ 60 := by omega
        omega
      · rw [f3_n (by decide) (by decide) (by decide)]
      · rw [f3_8, u3]; exact h5.2.1.symm
    refine ⟨z, zp, GI_m (B := B + 60) (by omega) (by omega) (GI_c G2 rfl rfl rfl rfl rfl rfl rfl rfl rfl rfl rfl ?_ ?_ ?_ ?_)⟩
    · rw [bC_n (by decide)]; exact u4 1 (by omega)
    · rw [bC_n (by decide)]; exact u4 2 (by omega)
    · rw [bC_n (by decide)]; exact u4 3 (by omega)
    · intro k hk
      show mm'.1 k = (bI m 24 (mm'.1 24)).1 k
      by_cases h : k = 24
      · rw [h, bI_e]
      · rw [bI_1 h]; exact u5 k (by omega)
  by_cases c0 : a2 = 0
  · refine ⟨_, U, _, ⟨3100, 4350, (fr w' : Int), eP _ ?_, eR _ ?_⟩, hG⟩
    · unfold P_foretold_67
      dsimp only
      rw [if_pos c0, f3_0, bb_s (W_freeFrames_ok X'.1.2.1 (by omega)), f3_id]
    · unfold FE
      rw [if_pos c0, bb_s (R_freeFrames_ok X'.1.2.1 X'.1.1.1 (by omega)), e0 (by omega)]
  by_cases c1 : a2 = 1
  · refine ⟨_, U, _, ⟨3100, 4350, ((cn (beg w') 64 : Nat) : Int), eP _ ?_, eR _ ?_⟩, hG⟩
    · unfold P_foretold_67
      dsimp only
      rw [if_neg c0, if_pos c1, f3_0, bb_s (W_reservations_ok X'.1.2.1 (by omega)), f3_id]
    · unfold FE
      rw [if_neg c0, if_pos c1, bb_s (R_reservations_ok X'.1.2.1 X'.1.1.1 (by omega)), e0 (by omega)]
  · obtain ⟨O1, q', q1, q2, q3, q4, q5⟩ := O'
    obtain ⟨V, v1, v2⟩ := all_ok (c := f3 c w' kk' xx') (T0 := mC m ++ U) X' (by rw [f3_n (by decide) (by decide) (by decide)]; exact ⟨O1, q', q1, q2, q3, q4, q5⟩) q1 (by rw [f3_n (by decide) (by decide) (by decide)]; exact q2) q3 f3_0 q' 0 nn nn' 0 (by omega) (by omega) (by omega) (by omega)
    refine ⟨_, U, _, ⟨3100, 4350, V, eP _ ?_, eR _ ?_⟩, hG⟩
    · unfold P_foretold_67
      rw [if_neg c0, if_neg c1]
      exact v1
    · unfold FE R_allEntries
      have v2' : R_allEntries_4 nn' mm' 0 0 = some (V, mm') := v2
      rw [if_neg c0, if_neg c1, bb_s v2', e0 (by omega)]
end
