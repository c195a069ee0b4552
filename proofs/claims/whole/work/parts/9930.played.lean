/-! What a text plays. -/
section
variable {n n' B B' Kt T k j i o p e jx : Nat} {z zp z' : Nat → Nat} {c c' c1 : Nat → bS} {U U' U1 : bH} {m m' m0 m1 : bS} {r : Nat → Int} {v a1 a2 a3 a4 a5 : Int} {q : Nat × bS} {K : pS → Int → Int → Option (Int × pS)} {T0 : bH}
theorem gd_ok {P : Prop} {γ : Type} {x : Option γ} (h : P) : gd P x = x := @if_pos _ (Classical.propDecidable P) h _ _ _
theorem figx_ok (h : txH T0 q.1 q.2) (h6 : (q.2.1 6).toNat = 4 * k) (hk : k ≤ 24) (hj : j < k) (hi : i < 4) : X_figure q n (c, T0) (j : Int) (i : Int) = some (q.2.2 0 (4 * j + i), (c, T0)) := by
  have e4 : ay_w ((j : Int) * 4) = ((4 * j : Nat) : Int) := by rw [ay_wi (by omega) (by omega)]; omega
  have e5 : ay_w (((4 * j : Nat) : Int) + (i : Int)) = ((4 * j + i : Nat) : Int) := wadd (by clear e4; omega)
  have e6 : ay_w ((4 * k : Nat) : Int) = ((4 * k : Nat) : Int) := ay_wi (by clear e4 e5; omega) (by clear e4 e5; omega)
  unfold X_figure
  dsimp only
  rw [e4, e5, h6, e6]
  clear e4 e5 e6
  rw [if_neg (by omega), gd_ok h, gd_ok h, if_neg (by omega), gd_ok h, gd_ok h, if_pos (by omega), Int.toNat_natCast]
theorem wad3 {x : Nat} (h : x < 2147483000) : ay_w ((x : Int) + 3) = ((x + 3 : Nat) : Int) := by rw [ay_wi (by omega) (by omega)]; omega
/-- one clause of a text -/
theorem clause1_ok (H : GI z zp B Kt c U m) (hB : B ≤ 60000) (hB' : 60 ≤ B) (hX : uX U jx q.2) (hq : q.1 = jx + 10) (h6 : (q.2.1 6).toNat = 4 * k) (hk : k ≤ 24) (hj : j < k) (hT : T < 4) (C : CT (q.2.2 0) (m.2 2) T j) (hn : 2200 ≤ n) (hn' : 2200 ≤ n') : ∃ (f : Int) (c' : Nat → bS) (U' : bH) (m' : bS) (z' : Nat → Nat), P_played_37 q (n + 1) (c, mC m0 ++ U) (k : Int) (j : Int) = P_played_267 q (fun s l3 l4 => P_played_37 q n s l3 l4) n (c', mC m0 ++ U') (k : Int) (j : Int) f ∧ R_isPlayed n' m ((729 * T + 1 + 5 * j : Nat) : Int) = some (f, m') ∧ GI z' zp (B + 1) Kt c' U' m' ∧ KP U m U' m' ∧ (f = 0 ∨ f = 1) := by
  obtain ⟨st, hs, g1, g2, g3, g4, g5⟩ := C
  have hx : txH (mC m0 ++ U) q.1 q.2 := by rw [hq]; exact uX_txH hX
  obtain ⟨E, hE⟩ : ∃ E, E = 729 * T + 1 + 5 * j := ⟨_, rfl⟩
  rw [← hE] at g1 g3 g4 g5 ⊢
  have hE' : E < 2500 := by omega
  have f0 : X_figure q n (c, mC m0 ++ U) (j : Int) 0 = some (200 + (st : Int), (c, mC m0 ++ U)) := by
    rw [← g2]; exact figx_ok (i := 0) hx h6 hk hj (by omega)
  have f1 : X_figure q n (c, mC m0 ++ U) (j : Int) 1 = some (q.2.2 0 (4 * j + 1), (c, mC m0 ++ U)) := figx_ok (i := 1) hx h6 hk hj (by omega)
  have f2 : X_figure q n (c, mC m0 ++ U) (j : Int) 2 = some (q.2.2 0 (4 * j + 2), (c, mC m0 ++ U)) := figx_ok (i := 2) hx h6 hk hj (by omega)
  have f3 : X_figure q n (c, mC m0 ++ U) (j : Int) 3 = some (q.2.2 0 (4 * j + 3), (c, mC m0 ++ U)) := figx_ok (i := 3) hx h6 hk hj (by omega)
  have eP : P_played_37 q (n + 1) (c, mC m0 ++ U) (k : Int) (j : Int) = (if 200 + (st : Int) = 202 then (bb (P_object n (c, mC m0 ++ U) (q.2.2 0 (4 * j + 1))) fun v6 s6 => (if v6 = (-1) then P_played_267 q (fun s l3 l4 => P_played_37 q n s l3 l4) n s6 k j 0 else P_played_267 q (fun s l3 l4 => P_played_37 q n s l3 l4) n s6 k j 1)) else (if 200 + (st : Int) = 203 then (bb (P_touch n (c, mC m0 ++ U) (q.2.2 0 (4 * j + 2)) (q.2.2 0 (4 * j + 1))) fun v7 s7 => (if v7 = (-1) then P_played_267 q (fun s l3 l4 => P_played_37 q n s l3 l4) n s7 k j 0 else P_played_267 q (fun s l3 l4 => P_played_37 q n s l3 l4) n s7 k j 1)) else (if 200 + (st : Int) = 204 then (bb (P_write n (c, mC m0 ++ U) (q.2.2 0 (4 * j + 2)) (q.2.2 0 (4 * j + 1)) (q.2.2 0 (4 * j + 3))) fun v9 s9 => (if v9 = (-1) then P_played_267 q (fun s l3 l4 => P_played_37 q n s l3 l4) n s9 k j 0 else P_played_267 q (fun s l3 l4 => P_played_37 q n s l3 l4) n s9 k j 1)) else (if 200 + (st : Int) = 205 then (bb (P_sweep n (c, mC m0 ++ U) (q.2.2 0 (4 * j + 1))) fun v10 s10 => (if v10 = (-1) then P_played_267 q (fun s l3 l4 => P_played_37 q n s l3 l4) n s10 k j 0 else P_played_267 q (fun s l3 l4 => P_played_37 q n s l3 l4) n s10 k j 1)) else (if 200 + (st : Int) = 206 then (bb (P_empty n (c, mC m0 ++ U) (q.2.2 0 (4 * j + 1))) fun v11 s11 => (if v11 = (-1) then P_played_267 q (fun s l3 l4 => P_played_37 q n s l3 l4) n s11 k j 0 else P_played_267 q (fun s l3 l4 => P_played_37 q n s l3 l4) n s11 k j 1)) else (if 200 + (st : Int) = 207 then (bb (P_drop n (c, mC m0 ++ U) (q.2.2 0 (4 * j + 1))) fun v12 s12 => P_played_267 q (fun s l3 l4 => P_played_37 q n s l3 l4) n s12 k j v12) else (if 200 + (st : Int) = 208 then (if 9999 < (ay_w (((c 0).1 16) + (q.2.2 0 (4 * j + 1)))) then P_played_255 q (fun s l3 l4 => P_played_37 q n s l3 l4) n (c, mC m0 ++ U) k j (q.2.2 0 (4 * j + 1)) 0 else P_played_255 q (fun s l3 l4 => P_played_37 q n s l3 l4) n (c, mC m0 ++ U) k j (q.2.2 0 (4 * j + 1)) 1) else P_played_267 q (fun s l3 l4 => P_played_37 q n s l3 l4) n (c, mC m0 ++ U) k j 1))))))) := by
    rw [P_played_37, if_neg (by omega), gd_ok hx, bb_s f1, gd_ok hx, bb_s f2, gd_ok hx, bb_s f0, gd_ok hx, bb_s f3]
  have eR : R_isPlayed n' m (E : Int) = (if (st : Int) = 2 then (bb (R_object n' m (m.2 2 (E + 1))) fun v1 s1 => (if v1 < 0 then some (0, s1) else some (1, s1))) else (if (st : Int) = 3 then (bb (R_touch n' m (m.2 2 (E + 2)) (m.2 2 (E + 1))) fun v2 s2 => (if v2 < 0 then some (0, s2) else some (1, s2))) else (if (st : Int) = 4 then (bb (R_write n' m (m.2 2 (E + 2)) (m.2 2 (E + 1)) (m.2 2 (E + 3))) fun v3 s3 => (if v3 < 0 then some (0, s3) else some (1, s3))) else (if (st : Int) = 5 then (bb (R_sweep n' m (m.2 2 (E + 1))) fun v4 s4 => (if v4 < 0 then some (0, s4) else some (1, s4))) else (if (st : Int) = 6 then (bb (R_empty n' m (m.2 2 (E + 1))) fun v5 s5 => (if v5 < 0 then some (0, s5) else some (1, s5))) else (if (st : Int) = 7 then (bb (R_drop n' m (m.2 2 (E + 1))) fun v6 s6 => (if v6 = 0 ∨ v6 = 1 then some (v6, s6) else none)) else (if (st : Int) = 8 then (bb (R_arePassed n' m (m.2 2 (E + 1))) fun v7 s7 => (if v7 = 0 ∨ v7 = 1 then some (v7, s7) else none)) else some (1, m)))))))) := by
    unfold R_isPlayed
    rw [wad1 (by omega), wad2 (by omega), wad3 (by omega), if_pos (show 0 ≤ ((E + 1 : Nat) : Int) ∧ ((E + 1 : Nat) : Int) < 2916 by omega), if_pos (show 0 ≤ ((E + 2 : Nat) : Int) ∧ ((E + 2 : Nat) : Int) < 2916 by omega), if_pos (show 0 ≤ ((E : Nat) : Int) ∧ ((E : Nat) : Int) < 2916 by omega), if_pos (show 0 ≤ ((E + 3 : Nat) : Int) ∧ ((E + 3 : Nat) : Int) < 2916 by omega), Int.toNat_natCast, Int.toNat_natCast, Int.toNat_natCast, Int.toNat_natCast, g1]
  rw [eP, eR]
  clear eP eR f0 f1 f2 f3
  by_cases s2 : st = 2
  · subst s2
    obtain ⟨a, b1, b2⟩ := g3 (by omega)
    rw [if_pos (by decide), if_pos (by decide), ← a]
    obtain ⟨v, c', m', z', y1, y2, y3, y4, y5⟩ := object_ok H (q.2.2 0 (4 * j + 1))
    rw [bb_s (y1 _ _), bb_s (y2 _)]
    rcases y4 with y4 | y4
    · exact ⟨0, c', U, m', z', by rw [if_pos y4], by rw [if_pos (by omega)], GI_m (by omega) (Nat.le_refl _) y3, ⟨fun _ _ h => h, y5⟩, Or.inl rfl⟩
    · exact ⟨1, c', U, m', z', by rw [if_neg (by omega)], by rw [if_neg (by omega)], GI_m (by omega) (Nat.le_refl _) y3, ⟨fun _ _ h => h, y5⟩, Or.inr rfl⟩
  rw [if_neg (show ¬ 200 + (st : Int) = 202 by omega), if_neg (show ¬ (st : Int) = 2 by omega)]
  by_cases s3 : st = 3
  · subst s3
    obtain ⟨a, b1, b2⟩ := g3 (by omega)
    obtain ⟨a', b1', b2'⟩ := g4 (by omega)
    rw [if_pos (by decide), if_pos (by decide), ← a, ← a']
    obtain ⟨v, c', U', m', y1, y2, y3, y4, y5⟩ := touch_ok (m0 := m0) (n := n) (n' := n') (a1 := q.2.2 0 (4 * j + 2)) (a2 := q.2.2 0 (4 * j + 1)) H hB (by omega) (by omega) (by omega) (by omega)
    rw [bb_s y1, bb_s y2]
    rcases y4 with y4 | y4
    · exact ⟨0, c', U', m', z, by rw [if_pos y4], by rw [if_pos (by omega)], y3, y5, Or.inl rfl⟩
    · exact ⟨1, c', U', m', z, by rw [if_neg (by omega)], by rw [if_neg (by omega)], y3, y5, Or.inr rfl⟩
  rw [if_neg (show ¬ 200 + (st : Int) = 203 by omega), if_neg (show ¬ (st : Int) = 3 by omega)]
  by_cases s4 : st = 4
  · subst s4
    obtain ⟨a, b1, b2⟩ := g3 (by omega)
    obtain ⟨a', b1', b2'⟩ := g4 (by omega)
    obtain ⟨a'', b1'', b2''⟩ := g5 (by omega)
    rw [if_pos (by decide), if_pos (by decide), ← a, ← a', ← a'']
    obtain ⟨v, c', U', m', y1, y2, y3, y4, y5⟩ := write_ok (m0 := m0) (n := n) (n' := n') (a1 := q.2.2 0 (4 * j + 2)) (a2 := q.2.2 0 (4 * j + 1)) (a3 := q.2.2 0 (4 * j + 3)) H hB (by omega) (by omega) (by omega) (by omega)
    rw [bb_s y1, bb_s y2]
    rcases y4 with y4 | y4
    · exact ⟨0, c', U', m', z, by rw [if_pos y4], by rw [if_pos (by omega)], y3, y5, Or.inl rfl⟩
    · exact ⟨1, c', U', m', z, by rw [if_neg (by omega)], by rw [if_neg (by omega)], y3, y5, Or.inr rfl⟩
  rw [if_neg (show ¬ 200 + (st : Int) = 204 by omega), if_neg (show ¬ (st : Int) = 4 by omega)]
  by_cases s5 : st = 5
  · subst s5
    obtain ⟨a, b1, b2⟩ := g3 (by omega)
    rw [if_pos (by decide), if_pos (by decide), ← a]
    obtain ⟨v, c', U', m', y1, y2, y3, y4, y5⟩ := sweepc_ok (m0 := m0) (n := n) (n' := n') (a1 := q.2.2 0 (4 * j + 1)) H (by omega) (by omega) (by omega)
    rw [bb_s y1, bb_s y2]
    rcases y4 with y4 | y4
    · exact ⟨0, c', U', m', z, by rw [if_pos y4], by rw [if_pos (by omega)], GI_m (by omega) (Nat.le_refl _) y3, y5, Or.inl rfl⟩
    · exact ⟨1, c', U', m', z, by rw [if_neg (by omega)], by rw [if_neg (by omega)], GI_m (by omega) (Nat.le_refl _) y3, y5, Or.inr rfl⟩
  rw [if_neg (show ¬ 200 + (st : Int) = 205 by omega), if_neg (show ¬ (st : Int) = 5 by omega)]
  by_cases s6 : st = 6
  · subst s6
    obtain ⟨a, b1, b2⟩ := g3 (by omega)
    rw [if_pos (by decide), if_pos (by decide), ← a]
    obtain ⟨v, c', U', m', y1, y2, y3, y4, y5⟩ := emptyc_ok (m0 := m0) (n := n) (n' := n') (a1 := q.2.2 0 (4 * j + 1)) H (by omega) (by omega)
    rw [bb_s y1, bb_s y2]
    rcases y4 with y4 | y4
    · exact ⟨0, c', U', m', z, by rw [if_pos y4], by rw [if_pos (by omega)], GI_m (by omega) (Nat.le_refl _) y3, y5, Or.inl rfl⟩
    · exact ⟨1, c', U', m', z, by rw [if_neg (by omega)], by rw [if_neg (by omega)], GI_m (by omega) (Nat.le_refl _) y3, y5, Or.inr rfl⟩
  rw [if_neg (show ¬ 200 + (st : Int) = 206 by omega), if_neg (show ¬ (st : Int) = 6 by omega)]
  by_cases s7 : st = 7
  · subst s7
    obtain ⟨a, b1, b2⟩ := g3 (by omega)
    rw [if_pos (by decide), if_pos (by decide), ← a]
    obtain ⟨v, c', U', m', y1, y2, y3, y4, y5⟩ := dropc_ok (m0 := m0) (n := n) (n' := n') (a1 := q.2.2 0 (4 * j + 1)) H (by omega) (by omega) (by omega)
    rw [bb_s y1, bb_s y2]
    exact ⟨v, c', U', m', z, rfl, by rw [if_pos y4], GI_m (by omega) (Nat.le_refl _) y3, y5, y4⟩
  rw [if_neg (show ¬ 200 + (st : Int) = 207 by omega), if_neg (show ¬ (st : Int) = 7 by omega)]
  by_cases s8 : st = 8
  · subst s8
    obtain ⟨a, b1, b2⟩ := g3 (by omega)
    rw [if_pos (show 200 + ((8 : Nat) : Int) = 208 by decide), if_pos (show ((8 : Nat) : Int) = 8 by decide), ← a]
    obtain ⟨Tm, X, hst, hTm⟩ := H.1.1
    have h12 : m.2 0 12 ≤ 9999 := X.2.2.2.2.2.2.2.2
    have h12' : 0 ≤ m.2 0 12 := X.2.2.2.2.2.2.2.1
    obtain ⟨r, f, c', U', m', y1, y2, y3, y4, y5, y6⟩ := passed_ok (m0 := m0) (n := n) (n' := n') (a1 := q.2.2 0 (4 * j + 1)) H (by omega) hB' (by omega) (by omega) (by omega)
    rw [bb_s y2, hst.2.1, ay_wi (x := m.2 0 12 + q.2.2 0 (4 * j + 1)) (by omega) (by omega)]
    rcases y5 with ⟨y5, y7⟩ | ⟨y5, y7⟩
    · refine ⟨1, c', U', m', z, ?_, by rw [if_pos (Or.inr y5), y5], GI_m (by omega) (Nat.le_refl _) y3, y6, Or.inr rfl⟩
      rw [if_neg (by omega)]
      unfold P_played_255
      rw [bb_s y1]
    · refine ⟨0, c', U', m', z, ?_, by rw [if_pos (Or.inl y5), y5], GI_m (by omega) (Nat.le_refl _) y3, y6, Or.inl rfl⟩
      rw [if_pos (by omega)]
      unfold P_played_255
      rw [bb_s y1]
  rw [if_neg (show ¬ 200 + (st : Int) = 208 by omega), if_neg (show ¬ (st : Int) = 8 by omega)]
  exact ⟨1, c, U, m, z, rfl, rfl, GI_m (by omega) (Nat.le_refl _) H, KP.rf, Or.inr rfl⟩
theorem w729p (hT : T < 4) : ay_w (729 * (T : Int)) = ((729 * T : Nat) : Int) := by rw [ay_wi (by omega) (by omega)]; omega
theorem w5j (hj : j < 24) : ay_w (5 * (j : Int)) = ((5 * j : Nat) : Int) := by rw [ay_wi (by omega) (by omega)]; omega
theorem wN1 {N : Nat} (h : N ≤ 4) : ay_w ((N : Int) - 1) = (N : Int) - 1 := ay_wi (by omega) (by omega)
theorem played_ok (hT : T < 4) (hq : q.1 = jx + 10) (h6 : (q.2.1 6).toNat = 4 * k) (hk : k ≤ 24) (hC : ∀ j, j < k → CT (q.2.2 0) r T j) (hr : r (729 * T) = (k : Int)) (d : Nat) : ∀ (j : Nat) {B n n' : Nat} {z : Nat → Nat} {c : Nat → bS} {U : bH} {m : bS}, GI z zp B Kt c U m → B + d ≤ 60000 → 60 ≤ B → uX U jx q.2 → m.2 2 = r → j + d = k → 2200 + d + 1 ≤ n → 2200 + d + 1 ≤ n' → ∃ (v : Int) (c' : Nat → bS) (U' : bH) (m' : bS) (z' : Nat → Nat), P_played_37 q n (c, mC m0 ++ U) (k : Int) (j : Int) = some (v, (c', mC m0 ++ U')) ∧ R_played_21 n' m (T : Int) (j : Int) = some (v, m') ∧ GI z' zp (B + d) Kt c' U' m' := by
  induction d with
  | zero =>
    intro j B n n' z c U m H hB hB' hX hm hjd hn hn'
    obtain ⟨n, rfl⟩ : ∃ N, n = N + 1 := ⟨n - 1, by omega⟩
    obtain ⟨n', rfl⟩ : ∃ N, n' = N + 1 := ⟨n' - 1, by omega⟩
    refine ⟨-1, c, U, m, z, ?_, ?_, H⟩
    · rw [P_played_37, if_pos (by omega)]
    · rw [R_played_21, w729p hT, if_pos ⟨by omega, by omega⟩, Int.toNat_natCast, hm, hr, if_pos (by omega)]
  | succ d ih =>
    intro j B n n' z c U m H hB hB' hX hm hjd hn hn'
    obtain ⟨n, rfl⟩ : ∃ N, n = N + 1 := ⟨n - 1, by omega⟩
    obtain ⟨n', rfl⟩ : ∃ N, n' = N + 1 := ⟨n' - 1, by omega⟩
    obtain ⟨f, c1, U1, m1, z1, y1, y2, y3, y4, y5⟩ := clause1_ok (m0 := m0) (n := n) (n' := n') (j := j) (k := k) (T := T) H (by omega) hB' hX hq h6 hk (by omega) hT (by rw [hm]; exact hC j (by omega)) (by omega) (by omega)
    have eR : R_played_21 (n' + 1) m (T : Int) (j : Int) = if f = 0 then some ((j : Int), m1) else R_played_21 n' m1 (T : Int) ((j + 1 : Nat) : Int) := by
      rw [R_played_21, w729p hT, if_pos ⟨by omega, by omega⟩, Int.toNat_natCast, hm, hr, if_neg (by omega), w5j (by omega), wad1 (by omega), wadd (by omega), bb_s y2, wad1 (by omega)]
    rw [y1, eR]
    unfold P_played_267
    rcases y5 with y5 | y5
    · exact ⟨(j : Int), c1, U1, m1, z1, by rw [if_pos y5], by rw [if_pos y5], GI_m (by omega) (Nat.le_refl _) y3⟩
    · obtain ⟨v, c', U', m', z', g1, g2, g3⟩ := ih (j + 1) (n := n) (n' := n') y3 (by omega) (by omega) (y4.1 _ _ hX) (y4.2.trans hm) (by omega) (by omega) (by omega)
      refine ⟨v, c', U', m', z', ?_, ?_, GI_m (by omega) (Nat.le_refl _) g3⟩
      · rw [if_neg (by rw [y5]; decide), wad1 (by omega)]
        exact g1
      · rw [if_neg (by rw [y5]; decide)]
        exact g2
theorem PX_ok {x : bS} (g2 : uX U jx x) (g3 : TXR x r T) : ∃ q, PX (mC m ++ U) (jx + 83) = some q ∧ q.1 = jx + 10 ∧ uX U jx q.2 ∧ TXR q.2 r T := by
  have hx : ∃ q : Nat × bS, jx + 83 = q.1 + 73 ∧ txH (mC m ++ U) q.1 q.2 := ⟨(jx + 10, x), rfl, uX_txH g2⟩
  have e : PX (mC m ++ U) (jx + 83) = some (Classical.choose hx) := by
    unfold PX
    exact dif_pos hx
  have hs := Classical.choose_spec hx
  have e1 : (Classical.choose hx).1 = jx + 10 := by have := hs.1; omega
  have hs2 := hs.2
  rw [e1] at hs2
  exact ⟨_, e, e1, hs2, txH_2 (uX_txH (m := m) g2) hs2 g3⟩
theorem L_played (H : GI z zp B Kt c U m) (hB : B ≤ 59000) (ha : -2147483648 ≤ a1 ∧ a1 < 2147483648) : ∃ c' U' m', LStep 13 c U m a1 a2 a3 a4 a5 c' U' m' ∧ NX1 B Kt c' U' m' := by
  obtain ⟨N, S, h1, h2, h3, h4, h5, h6, h7⟩ := H.1.2.2.2
  by_cases cc : 0 ≤ a1 ∧ a1 < (N : Int)
  · obtain ⟨T, hT⟩ : ∃ T : Nat, a1 = (T : Int) := ⟨a1.toNat, by omega⟩
    obtain ⟨jx, x, g1, g2, g3⟩ := h5 T (by omega)
    obtain ⟨q, p1, p2, p3, p4⟩ := PX_ok (m := m) g2 g3
    obtain ⟨k, k1, k2, k3, k4, k5, _⟩ := p4
    obtain ⟨v, c', U', m', z', y1, y2, y3⟩ := played_ok (m0 := m) (jx := jx) (by omega) p2 k3 k1 k5 k2 k 0 (n := 2300) (n' := 2300) (GI_m (B' := B + 60) (by omega) (Nat.le_refl _) H) (by omega) (by omega) p3 rfl (by omega) (by omega) (by omega)
    refine ⟨c', U', m', ⟨2300, 2300, v, ?_, ?_⟩, ⟨z', zp, GI_m (by omega) (by omega) y3⟩⟩
    · have e4 : ay_w (((q.2.1 6).toNat : Nat) : Int) = ((4 * k : Nat) : Int) := by
        rw [k3]; exact ay_wi (by omega) (by omega)
      have e5 : ay_w (Int.tdiv ((4 * k : Nat) : Int) 4) = (k : Int) := by
        clear e4
        rw [show Int.tdiv ((4 * k : Nat) : Int) 4 = (k : Int) by
          rw [Int.tdiv_eq_ediv_of_nonneg (by omega)]; omega]
        exact ay_wi (by omega) (by omega)
      have hx : txH (mC m ++ U) q.1 q.2 := by rw [p2]; exact uX_txH p3
      have eI : P_isText 2300 (c, mC m ++ U) a1 = some (1, (c, mC m ++ U)) := by
        clear e4 e5
        unfold P_isText
        dsimp only
        rw [if_neg (by omega), h2.1, if_neg (by omega)]
      unfold P_played
      rw [bb_s eI, if_neg (by decide), if_pos ⟨by clear e4 e5; omega, by clear e4 e5; omega⟩]
      dsimp only
      rw [hT, Int.toNat_natCast, g1, Int.toNat_natCast, b1_s p1, gd_ok hx]
      unfold X_clauseCount
      dsimp only
      rw [gd_ok hx, gd_ok hx, e4, e5]
      exact y1
    · unfold R_played
      rw [h2.2, wN1 h1.1, b1_s (R_isIn_ok _ _ _ _), if_pos (show 0 ≤ a1 ∧ a1 ≤ (N : Int) - 1 by omega), if_neg (by decide), hT]
      exact y2
  · refine ⟨c, U, m, ⟨0, 0, -2, ?_, ?_⟩, NX1_s H⟩
    · have eI : P_isText 0 (c, mC m ++ U) a1 = some (0, (c, mC m ++ U)) := by
        unfold P_isText
        dsimp only
        by_cases d1 : a1 < 0
        · rw [if_pos d1]
        · rw [if_neg d1, h2.1, if_pos (by omega)]
      unfold P_played
      rw [bb_s eI, if_pos rfl]
    · unfold R_played
      rw [h2.2, wN1 h1.1, b1_s (R_isIn_ok _ _ _ _), if_neg (show ¬ (0 ≤ a1 ∧ a1 ≤ (N : Int) - 1) by omega), if_pos rfl]
end
