/-! Calls: the tape, texts, faults, who rules, sayings. -/
section
variable {n n' B Kt T k j i o p L : Nat} {z zp z' : Nat → Nat} {c c' c1 : Nat → bS} {U U' U1 : bH} {m m' m1 w w' x tt tt' q : bS} {a a' t2 t2' : Nat → Int} {v a1 a2 a3 a4 a5 : Int}
theorem sh_amt : ∀ p, p < 32 → (((Int32.ofInt ((p : Nat) : Int) &&& 31).toBitVec.smod 32#32).toNat = p) := by decide +kernel
theorem bt_shr (x : Int) {p : Nat} (h : p < 32) {y : Nat} (hy : p + y < 32) : bt (ay_shr x (p : Int)) y = bt x (p + y) := by
  have e : BitVec.ofInt 32 (ay_shr x (p : Int)) = (BitVec.ofInt 32 x).sshiftRight p := by
    show BitVec.ofInt 32 (BitVec.toInt ((BitVec.ofInt 32 x).sshiftRight ((Int32.ofInt ((p : Nat) : Int) &&& 31).toBitVec.smod 32#32).toNat)) = _
    rw [BitVec.ofInt_toInt, sh_amt p h]
  unfold bt
  rw [e, BitVec.getLsbD_sshiftRight, if_pos hy]
  have : ¬ 32 ≤ y := by omega
  rw [decide_eq_false this]; rfl
theorem b255 : ∀ y, y < 32 → bt 255 y = decide (y < 8) := by decide +kernel
theorem byte_eq (x : Int) {p : Nat} (h : p ≤ 24) : ay_and (ay_shr x (p : Int)) 255 = ay_and (ay_ushr x (p : Int)) 255 := by
  refine bt_ext (ay_and_ok _ _) (ay_and_ok _ _) (fun y hy => ?_)
  rw [bt_and, bt_and, b255 y hy]
  by_cases c : y < 8
  · rw [bt_shr x (by omega) (by omega), bt_ushr x (by omega)]
  · rw [decide_eq_false c, Bool.and_false, Bool.and_false]
theorem byte_in (x : Int) : 0 ≤ ay_and x 255 ∧ ay_and x 255 < 256 := by
  have h : BitVec.ofInt 32 (ay_and x 255) = BitVec.ofInt 32 x &&& 255#32 := bv_and x 255
  have e : ay_and x 255 = (BitVec.ofInt 32 x &&& 255#32).toInt := rfl
  have hl : (BitVec.ofInt 32 x &&& 255#32).toNat < 256 := by
    rw [BitVec.toNat_and]
    exact Nat.lt_of_le_of_lt Nat.and_le_right (by decide)
  rw [e, BitVec.toInt_eq_toNat_of_lt (by omega)]
  omega
/-- a byte on the tape, on both sides -/
def tbI (q : bS) (L : Nat) (v : Int) : bS := bI (bA q 0 (L : Int) v) 1 ((L + 1 : Nat) : Int)
def tmI (m : bS) (L : Nat) (v : Int) : bS := bI (bA m 3 (L : Int) v) 4 ((L + 1 : Nat) : Int)
theorem four_ok (x : Int) : ∀ (d n L s : Nat) (q m : bS), s = 8 * d → d ≤ 3 → d + 1 < n → L + d + 1 ≤ 300 → BY q L → RM q m L → ∃ q' m', Q_add_3 n q x (s : Int) = some (0, q') ∧ R_four_3 n m x (s : Int) = some (0, m') ∧ BY q' (L + d + 1) ∧ RM q' m' (L + d + 1) ∧ (∀ k, k ≠ 4 → m'.1 k = m.1 k) ∧ ∀ j, j ≠ 3 → m'.2 j = m.2 j
  | d, 0, _, _, _, _, _, _, h, _, _, _ => by omega
  | d, n + 1, L, s, q, m, hs, hd, hn, hL, hB, hM => by
    obtain ⟨v, hv⟩ : ∃ v, v = ay_and (ay_ushr x (s : Int)) 255 := ⟨_, rfl⟩
    have hv2 : ay_and (ay_shr x (s : Int)) 255 = v := by rw [hv]; exact byte_eq x (by omega)
    have hvb := byte_in (ay_ushr x (s : Int))
    rw [← hv] at hvb
    have B1 : BY (tbI q L v) (L + 1) := ⟨rfl, by omega, fun i => by
      show 0 ≤ ay_u (q.2 0) (L : Int).toNat v i ∧ ay_u (q.2 0) (L : Int).toNat v i < 256
      rw [Int.toNat_natCast]
      by_cases e : i = L
      · rw [e, ay_ue]; exact hvb
      · rw [ay_ux e]; exact hB.2.2 i⟩
    have M1 : RM (tbI q L v) (tmI m L v) (L + 1) := ⟨rfl, fun i hi => by
      show ay_u (m.2 3) (L : Int).toNat v i = ay_u (q.2 0) (L : Int).toNat v i
      rw [Int.toNat_natCast]
      by_cases e : i = L
      · rw [e, ay_ue, ay_ue]
      · rw [ay_ux e, ay_ux e]; exact hM.2 i (by omega)⟩
    have f1 : ∀ k, k ≠ 4 → (tmI m L v).1 k = m.1 k := fun k hk => bI_1 hk
    have f2 : ∀ j, j ≠ 3 → (tmI m L v).2 j = m.2 j := fun j hj => bIA hj
    have eQ : Q_add_3 (n + 1) q x (s : Int) = Q_add_3 n (tbI q L v) x (ay_w ((s : Int) + (-8))) := by
      conv => lhs; unfold Q_add_3
      rw [if_neg (by omega), hB.1, if_neg (by omega), if_pos ⟨by omega, by omega⟩, wad1 (by omega), ← hv]; rfl
    have eR : R_four_3 (n + 1) m x (s : Int) = R_four_3 n (tmI m L v) x (ay_w ((s : Int) + (-8))) := by
      conv => lhs; unfold R_four_3
      rw [if_neg (by omega), hM.1, if_pos ⟨by omega, by omega⟩, wad1 (by omega), hv2]; rfl
    rw [eQ, eR]
    clear eQ eR
    match d, hs, hd, hn, hL with
    | 0, hs, _, hn, _ =>
      have e8 : ay_w ((s : Int) + (-8)) = -8 := by rw [ay_wi (by omega) (by omega)]; omega
      obtain ⟨n2, hn2⟩ : ∃ n2, n = n2 + 1 := ⟨n - 1, by clear e8; omega⟩
      subst hn2
      refine ⟨tbI q L v, tmI m L v, ?_, ?_, B1, M1, f1, f2⟩
      · rw [e8]
        unfold Q_add_3
        rw [if_pos (by decide)]
      · rw [e8]
        unfold R_four_3
        rw [if_pos (by decide)]
    | d + 1, hs, hd, hn, hL =>
      have e8 : ay_w ((s : Int) + (-8)) = ((s - 8 : Nat) : Int) := by rw [ay_wi (by omega) (by omega)]; omega
      obtain ⟨q', m', g1, g2, g3, g4, g5, g6⟩ := four_ok x d n (L + 1) (s - 8) (tbI q L v) (tmI m L v) (by clear e8; omega) (by clear e8; omega) (by clear e8; omega) (by clear e8; omega) B1 M1
      rw [show L + 1 + d + 1 = L + (d + 1) + 1 by clear e8; omega] at g3 g4
      exact ⟨q', m', by rw [e8]; exact g1, by rw [e8]; exact g2, g3, g4, fun k hk => by rw [g5 k hk, f1 k hk], fun j hj => by rw [g6 j hj, f2 j hj]⟩
theorem add_ok (x : Int) (hL : L + 4 ≤ 300) (hB : BY q L) (hM : RM q m L) : ∃ q' m', Q_add 10 q x = some (0, q') ∧ R_four 10 m x = some (0, m') ∧ BY q' (L + 4) ∧ RM q' m' (L + 4) ∧ (∀ k, k ≠ 4 → m'.1 k = m.1 k) ∧ ∀ j, j ≠ 3 → m'.2 j = m.2 j := four_ok x 3 10 L 24 q m rfl (by omega) (by omega) (by omega) hB hM
/-- a tape in another's place -/
theorem GI_tape (H : GI z zp B Kt c U m) (hB : BY q L) (hM : RM q m' L) (g : ∀ k, k ≠ 4 → m'.1 k = m.1 k) (f : ∀ j, j ≠ 3 → m'.2 j = m.2 j) : GI z zp B Kt (bU c 7 q) U m' := by
  obtain ⟨⟨A1, A2, A3, A4⟩, ⟨B1, B2, B3, B4⟩, h1, h2, _, h5, h6, h7⟩ := H
  unfold GI
  rw [bU_n (show 0 ≠ 7 by decide), bU_n (show 1 ≠ 7 by decide), bU_n (show 3 ≠ 7 by decide), bU_n (show 4 ≠ 7 by decide), bU_n (show 8 ≠ 7 by decide), bU_n (show 10 ≠ 7 by decide), bU_n (show 12 ≠ 7 by decide), bU_e, f 0 (by decide), f 1 (by decide), f 2 (by decide), g 23 (by decide), g 24 (by decide)]
  refine ⟨⟨A1, A2, ST_c (bU_n (by decide)) A3, A4⟩, ⟨B1, B2, ST_c (bU_n (by decide)) B3, B4⟩, h1, HS_2 h2 (by rw [bU_n (by decide)]) (by rw [bU_n (by decide)]), ⟨L, hB, hM⟩, h5, h6, ?_⟩
  unfold FT
  rw [g 5 (by decide), g 6 (by decide)]
  exact h7
theorem L_feed (H : GI z zp B Kt c U m) : ∃ c' U' m', LStep 1 c U m a1 a2 a3 a4 a5 c' U' m' ∧ NX1 B Kt c' U' m' := by
  have H0 := H
  obtain ⟨_, _, _, _, ⟨L, h3, h4⟩, _⟩ := H
  have hL := h3.2.1
  have e20 : ay_w ((L : Int) + 20) = (L : Int) + 20 := ay_wi (by omega) (by omega)
  by_cases hc : L + 20 ≤ 300
  · obtain ⟨q1, m1, x1, x2, x3, x4, x5, x6⟩ := add_ok a1 (by clear e20; omega) h3 h4
    obtain ⟨q2, m2, y1, y2, y3, y4, y5, y6⟩ := add_ok a2 (by clear e20; omega) x3 x4
    obtain ⟨q3, m3, u1, u2, u3, u4, u5, u6⟩ := add_ok a3 (by clear e20; omega) y3 y4
    obtain ⟨q4, m4, v1, v2, v3, v4, v5, v6⟩ := add_ok a4 (by clear e20; omega) u3 u4
    obtain ⟨q5, m5, w1, w2, w3, w4, w5, w6⟩ := add_ok a5 (by clear e20; omega) v3 v4
    refine ⟨bU c 7 q5, U, m5, ⟨10, 10, q5.1 1, ?_, ?_⟩, NX1_s (GI_tape H0 w3 w4 (fun k hk => by rw [w5 k hk, v5 k hk, u5 k hk, y5 k hk, x5 k hk]) (fun j hj => by rw [w6 j hj, v6 j hj, u6 j hj, y6 j hj, x6 j hj]))⟩
    · unfold P_feed
      dsimp only
      rw [h3.1, e20, if_pos (by clear e20; omega), bb_s x1, bb_s y1, bb_s u1, bb_s v1, bb_s w1]
    · unfold R_feed
      rw [h4.1, e20, if_pos (by clear e20; omega), bb_s x2, bb_s y2, bb_s u2, bb_s v2, bb_s w2, w4.1, w3.1]
  · refine ⟨c, U, m, ⟨10, 10, -1, ?_, ?_⟩, NX1_s H0⟩
    · unfold P_feed
      dsimp only
      rw [h3.1, e20, if_neg (by clear e20; omega)]
    · unfold R_feed
      rw [h4.1, e20, if_neg (by clear e20; omega)]
theorem L_end (H : GI z zp B Kt c U m) : ∃ c' U' m', LStep 2 c U m a1 a2 a3 a4 a5 c' U' m' ∧ NX1 B Kt c' U' m' := by
  have H0 := H
  obtain ⟨_, _, _, _, ⟨L, h3, h4⟩, _⟩ := H
  have hL := h3.2.1
  by_cases hc : 0 ≤ a1 ∧ a1 ≤ (L : Int)
  · obtain ⟨y, hy⟩ : ∃ y : Nat, a1 = (y : Int) := ⟨a1.toNat, by omega⟩
    refine ⟨bU c 7 (bI (c 7) 1 a1), U, bI m 4 a1, ⟨0, 0, a1, ?_, ?_⟩, NX1_s (GI_tape (L := y) H0 ⟨hy, by omega, h3.2.2⟩ ⟨hy, fun k hk => h4.2 k (by omega)⟩ (fun k hk => bI_1 hk) (fun _ _ => rfl))⟩
    · unfold P_end
      dsimp only
      rw [if_neg (by omega), h3.1, if_pos hc.2]
    · unfold R_end
      rw [b1_s (R_isIn_ok _ _ _ _), h4.1, if_pos hc, if_neg (by decide)]
  · refine ⟨c, U, m, ⟨0, 0, -1, ?_, ?_⟩, NX1_s H0⟩
    · unfold P_end
      dsimp only
      by_cases d : a1 < 0
      · rw [if_pos d]
      · rw [if_neg d, h3.1, if_neg (by omega)]
    · unfold R_end
      rw [b1_s (R_isIn_ok _ _ _ _), h4.1, if_neg hc, if_pos rfl]
theorem L_fault (H : GI z zp B Kt c U m) : ∃ c' U' m', LStep 4 c U m a1 a2 a3 a4 a5 c' U' m' ∧ NX1 B Kt c' U' m' := by
  have H0 := H
  obtain ⟨_, _, _, _, _, _, _, h7⟩ := H
  refine ⟨c, U, m, ⟨0, 0, (if a1 = 0 then m.1 5 else if a1 = 1 then m.1 6 else -1), ?_, ?_⟩, NX1_s H0⟩
  · unfold P_fault
    dsimp only
    rcases h7 with ⟨g1, g2, g3⟩ | ⟨g1, g2, g3⟩
    · rw [if_pos g1, g2, g3]
      by_cases d0 : a1 = 0
      · rw [if_pos d0]
      · rw [if_neg d0]
        by_cases d1 : a1 = 1
        · rw [if_pos d1]
        · rw [if_neg d1]
    · rw [if_neg g1, g2, g3]
      by_cases d0 : a1 = 0
      · rw [if_neg (by omega), if_pos (by omega), if_pos d0, if_pos d0]
      · rw [if_neg d0]
        by_cases d1 : a1 = 1
        · rw [if_neg (by omega), if_pos (by omega), if_neg d0, if_pos d1]
        · rw [if_neg d1]
          by_cases d2 : a1 < 0
          · rw [if_pos d2, if_neg d0]
          · rw [if_neg d2, if_neg (by omega), if_neg d0]
  · unfold R_fault
    by_cases d0 : a1 = 0
    · rw [if_pos d0, if_pos d0]
    · rw [if_neg d0, if_neg d0]
      by_cases d1 : a1 = 1
      · rw [if_pos d1, if_pos d1]
      · rw [if_neg d1, if_neg d1]
/-- what is told changes -/
theorem GI_told {a' : Nat → Int} (H : GI z zp B Kt c U m) (hO : TO z tt a') (hD : TD tt U a' (m.2 2)) (ea : ∀ i, i = 1 ∨ i = 3 ∨ i = 5 ∨ (10 ≤ i ∧ i < 1259) ∨ 1275 ≤ i → a' i = m.2 0 i) : GI z zp B Kt (bU c 1 tt) U (bC m 0 a') := by
  obtain ⟨⟨A1, A2, A3, A4⟩, ⟨B1, B2, B3, B4⟩, h1, h2, ⟨L, h3, h4⟩, h5, h6, h7⟩ := H
  unfold GI
  rw [bU_n (show 0 ≠ 1 by decide), bU_n (show 7 ≠ 1 by decide), bU_n (show 3 ≠ 1 by decide), bU_n (show 4 ≠ 1 by decide), bU_n (show 8 ≠ 1 by decide), bU_n (show 10 ≠ 1 by decide), bU_n (show 12 ≠ 1 by decide), bU_e]
  refine ⟨⟨GB_a (fun i i1 i2 => ea i (by omega)) A1, hO, ST_a (ea 3 (by omega)) (ea 5 (by omega)) (fun i hi => ea i (by omega)) (ST_c (bU_n (by decide)) A3), hD⟩, ⟨B1, B2, ST_c (bU_n (by decide)) B3, B4⟩, ?_, HS_2 h2 (by rw [bU_n (by decide)]) (by rw [bU_n (by decide)]), ⟨L, h3, h4⟩, h5, h6, h7⟩
  show m.2 1 1 ≤ a' 1
  rw [ea 1 (by omega)]; exact h1
theorem L_by (H : GI z zp B Kt c U m) : ∃ c' U' m', LStep 5 c U m a1 a2 a3 a4 a5 c' U' m' ∧ NX1 B Kt c' U' m' := by
  have H0 := H
  obtain ⟨⟨_, A2, _, N, S, g1, g2, g3, g4, g5, g6, g7⟩, _⟩ := H
  have eR : ∀ n, R_by n m a1 = if -1 ≤ a1 ∧ a1 < (N : Int) then some (1, bA m 0 2 a1) else some (0, m) := fun n => by
    unfold R_by
    rw [g2.2, b1_s (R_isIn_ok _ _ _ _), ay_wi (x := (N : Int) - 1) (by omega) (by omega)]
    by_cases h : -1 ≤ a1 ∧ a1 < (N : Int)
    · rw [if_pos (show -1 ≤ a1 ∧ a1 ≤ (N : Int) - 1 by omega), if_neg (by decide), if_pos h]
    · rw [if_neg (show ¬ (-1 ≤ a1 ∧ a1 ≤ (N : Int) - 1) by omega), if_pos rfl, if_neg h]
  have eP : ∀ n T, P_by n (c, T) a1 = if -1 ≤ a1 ∧ a1 < (N : Int) then some (1, (bU c 1 (bI (c 1) 6 a1), T)) else some (0, (c, T)) := fun n T => by
    unfold P_by P_isText
    dsimp only
    rw [g2.1]
    by_cases h : a1 = -1
    · rw [if_pos h, if_pos (by omega)]
    · rw [if_neg h]
      by_cases h2 : a1 < 0
      · rw [if_pos h2, bb_s rfl, if_pos rfl, if_neg (by omega)]
      · rw [if_neg h2]
        by_cases h3 : (N : Int) ≤ a1
        · rw [if_pos h3, bb_s rfl, if_pos rfl, if_neg (by omega)]
        · rw [if_neg h3, bb_s rfl, if_neg (by decide), if_pos (by omega)]
  by_cases h : -1 ≤ a1 ∧ a1 < (N : Int)
  · refine ⟨bU c 1 (bI (c 1) 6 a1), U, bC m 0 (ay_u (m.2 0) 2 a1), ⟨0, 0, 1, by rw [eP, if_pos h], by rw [eR, if_pos h]; rfl⟩, NX1_s (GI_told H0 ?_ ?_ (fun i hi => ay_ux (by omega)))⟩
    · obtain ⟨O1, q, q1, q2, q3, q4, q5⟩ := A2
      exact ⟨fun o ho => by rw [ay_ux (by omega)]; exact O1 o ho, q, q1, q2, by rw [ay_ux (by omega)]; exact q3, q4, q5⟩
    · refine ⟨N, S, g1, ⟨g2.1, by rw [ay_ux (by omega)]; exact g2.2⟩, ⟨by rw [ay_ue]; rfl, by rw [ay_ue]; omega, by rw [ay_ue]; omega⟩, ⟨g4.1, by rw [ay_ux (by omega)]; exact g4.2⟩, g5, fun i hi => ?_, g7⟩
      obtain ⟨p, v, e1, e2, e3, e4, e5, e6⟩ := g6 i hi
      exact ⟨p, v, e1, e2, e3, e4, by rw [ay_ux (by omega)]; exact e5, by rw [ay_ux (by omega)]; exact e6⟩
  · exact ⟨c, U, m, ⟨0, 0, 0, by rw [eP, if_neg h], by rw [eR, if_neg h]⟩, NX1_s H0⟩
theorem L_about (H : GI z zp B Kt c U m) : ∃ c' U' m', LStep 45 c U m a1 a2 a3 a4 a5 c' U' m' ∧ NX1 B Kt c' U' m' := by
  have H0 := H
  obtain ⟨⟨_, ⟨_, qo, _, q2, q3, _⟩, ⟨F, C, f, _, ⟨_, s2⟩, ⟨s3, _⟩, _⟩, N, S, g1, g2, g3, g4, _⟩, _, _, _, ⟨L, h3, h4⟩, _⟩ := H
  refine ⟨c, U, m, ⟨0, 0, (if a1 = 5 then m.1 4 else if 0 ≤ a1 ∧ a1 ≤ 4 then m.2 0 a1.toNat else -2), ?_, ?_⟩, NX1_s H0⟩
  · unfold P_about
    dsimp only
    by_cases d0 : a1 = 0
    · rw [if_pos d0, if_neg (by omega), if_pos (by omega), d0, q2]; show _ = some (m.2 0 0, _); rw [q3]
    · rw [if_neg d0]
      by_cases d1 : a1 = 1
      · rw [if_pos d1, if_neg (by omega), if_pos (by omega), d1, g2.1]; show _ = some (m.2 0 1, _); rw [g2.2]
      · rw [if_neg d1]
        by_cases d2 : a1 = 2
        · rw [if_pos d2, if_neg (by omega), if_pos (by omega), d2, g3.1]; rfl
        · rw [if_neg d2]
          by_cases d3 : a1 = 3
          · rw [if_pos d3, if_neg (by omega), if_pos (by omega), d3, s2]; show _ = some (m.2 0 3, _); rw [s3]
          · rw [if_neg d3]
            by_cases d4 : a1 = 4
            · rw [if_pos d4, if_neg (by omega), if_pos (by omega), d4, g4.1]; show _ = some (m.2 0 4, _); rw [g4.2]
            · rw [if_neg d4]
              by_cases d5 : a1 = 5
              · rw [if_pos d5, if_pos d5, h3.1, h4.1]
              · rw [if_neg d5, if_neg d5, if_neg (by omega)]
  · unfold R_about
    by_cases d5 : a1 = 5
    · rw [if_pos d5, if_pos d5]
    · rw [if_neg d5, if_neg d5, b1_s (R_isIn_ok _ _ _ _)]
      by_cases d : 0 ≤ a1 ∧ a1 ≤ 4
      · rw [if_pos d, if_neg (by decide), if_pos ⟨by omega, by omega⟩, if_pos d]
      · rw [if_neg d, if_pos rfl, if_neg d]
end
