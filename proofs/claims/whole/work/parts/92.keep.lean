/-! Steps are kept and taken back, on both sides. -/
/-- a world and a row, nothing ahead; B bounds what the days don't count of the time -/
def GB (z : Nat → Nat) (w : bS) (a : Nat → Int) (B : Nat) : Prop := ∃ T : Nat, GX z w a T ∧ (w.1 15 = a 11 ∧ w.1 16 = a 12 ∧ w.1 13 = a 15) ∧ (T : Int) ≤ B + a 12
/-- the row that is kept at k, as a row -/
def rwa (a : Nat → Int) (k : Nat) : Nat → Int := fun i => a (k + i - 10)
def ST (b : Nat) (c : Nat → bS) (U : bH) (z : Nat → Nat) (a : Nat → Int) (B : Nat) : Prop := ∃ F C f : Nat, (F < 31 ∧ C ≤ 30 ∧ f < 30) ∧ ((c b).1 1 = (F : Int) ∧ (c b).1 2 = (C : Int)) ∧ (a 3 = (C : Int) ∧ a 5 = (f : Int)) ∧ ∀ i, i < C → ∃ j w, (c b).2 0 ((F + i) % 31) = ((j + 83 : Nat) : Int) ∧ uW U j w ∧ GB z w (rwa a (1275 + 1249 * ((f + i) % 30))) B
/-- the next step lies ready -/
def PR (c : Nat → bS) (U : bH) (w : bS) : Prop := ∃ F C : Nat, (F < 31 ∧ C ≤ 30) ∧ ((c 2).1 1 = (F : Int) ∧ (c 2).1 2 = (C : Int)) ∧ ∃ j v, (c 2).2 0 ((F + C) % 31) = ((j + 83 : Nat) : Int) ∧ uW U j v ∧ Ew w v
/-- the row behind a copy of its world to k -/
def kpi (a : Nat → Int) (k i : Nat) : Nat → Int := fun j => if k + i ≤ j ∧ j < k + 1249 then a (10 + (j - k)) else a j
def bki (a : Nat → Int) (k i : Nat) : Nat → Int := fun j => if 10 + i ≤ j ∧ j < 1259 then a (k + (j - 10)) else a j
section
variable {U U' V : bH} {c c' c1 : Nat → bS} {w v m now : bS} {j k b i F K q p n n' B B' f C x y : Nat} {a b' : Nat → Int} {z z' : Nat → Nat}
theorem GB_e (E : Ew w v) (H : GB z w a B) : GB z v a B := by
  obtain ⟨T, X, ⟨h1, h2, h3⟩, h4⟩ := H
  exact ⟨T, GX_e E X, ⟨by rw [E.1 15 (by omega) (by omega)]; exact h1, by rw [E.1 16 (by omega) (by omega)]; exact h2, by rw [E.1 13 (by omega) (by omega)]; exact h3⟩, h4⟩
theorem GB_a (e : ∀ i, 10 ≤ i → i < 1259 → b' i = a i) (H : GB z w a B) : GB z w b' B := by
  obtain ⟨T, X, ⟨h1, h2, h3⟩, h4⟩ := H
  exact ⟨T, GX_a e X, ⟨by rw [e 11 (by omega) (by omega)]; exact h1, by rw [e 12 (by omega) (by omega)]; exact h2, by rw [e 15 (by omega) (by omega)]; exact h3⟩, by rw [e 12 (by omega) (by omega)]; exact h4⟩
theorem GB_m (h : B ≤ B') (H : GB z w a B) : GB z w a B' := by
  obtain ⟨T, X, h1, h4⟩ := H
  exact ⟨T, X, h1, by omega⟩
theorem GB_z (e : ∀ o, o < 4 → z o ≤ z' o) (H : GB z w a B) : GB z' w a B := by
  obtain ⟨T, X, h1, h4⟩ := H
  exact ⟨T, GX_z e X, h1, h4⟩
theorem ST_m (h : B ≤ B') (H : ST b c U z a B) : ST b c U z a B' := by
  obtain ⟨F, C, f, h1, h2, h3, h4⟩ := H
  refine ⟨F, C, f, h1, h2, h3, fun i hi => ?_⟩
  obtain ⟨j, w, e1, e2, e3⟩ := h4 i hi
  exact ⟨j, w, e1, e2, GB_m h e3⟩
theorem ST_z (e : ∀ o, o < 4 → z o ≤ z' o) (H : ST b c U z a B) : ST b c U z' a B := by
  obtain ⟨F, C, f, h1, h2, h3, h4⟩ := H
  refine ⟨F, C, f, h1, h2, h3, fun i hi => ?_⟩
  obtain ⟨j, w, e1, e2, e3⟩ := h4 i hi
  exact ⟨j, w, e1, e2, GB_z e e3⟩
theorem ST_a (e3 : b' 3 = a 3) (e5 : b' 5 = a 5) (e : ∀ i, 1275 ≤ i → b' i = a i) (H : ST b c U z a B) : ST b c U z b' B := by
  obtain ⟨F, C, f, h1, h2, h3, h4⟩ := H
  refine ⟨F, C, f, h1, h2, ⟨by rw [e3]; exact h3.1, by rw [e5]; exact h3.2⟩, fun i hi => ?_⟩
  obtain ⟨j, w, g1, g2, g3⟩ := h4 i hi
  exact ⟨j, w, g1, g2, GB_a (fun i h1 h2 => e _ (by omega)) g3⟩
theorem ST_c (e : c' b = c b) (H : ST b c U z a B) : ST b c' U z a B := by
  unfold ST; rw [e]; exact H
theorem PR_c (e : c' 2 = c 2) (H : PR c U w) : PR c' U w := by
  unfold PR; rw [e]; exact H
theorem kpi_s : kpi (ay_u a (k + i) (a (10 + i))) k (i + 1) = kpi a k i ∨ ¬ (1259 ≤ k ∧ i < 1249) := by
  by_cases h : 1259 ≤ k ∧ i < 1249
  · refine Or.inl ?_
    funext j
    unfold kpi
    by_cases h1 : k + (i + 1) ≤ j ∧ j < k + 1249
    · rw [if_pos h1, if_pos (by omega), ay_ux (by omega)]
    · rw [if_neg h1]
      by_cases h2 : j = k + i
      · subst h2; rw [ay_ue, if_pos (by omega), Nat.add_sub_cancel_left]
      · rw [ay_ux h2, if_neg (by omega)]
  · exact Or.inr h
theorem kp56 : ∀ (d n i : Nat) (s : bS), d + i = 1249 → d < n → 1259 ≤ k → k + 1249 ≤ 38745 → R_keep_56 n s (k : Int) (i : Int) = some (0, bA (bC s 0 (kpi (s.2 0) k i)) 0 3 (ay_w (s.2 0 3 + 1)))
  | _, 0, _, _, _, h, _, _ => by omega
  | 0, n + 1, i, s, h1, _, h3, h4 => by
    unfold R_keep_56
    rw [if_pos (by omega)]
    have : kpi (s.2 0) k i = s.2 0 := by
      funext j; unfold kpi; rw [if_neg (by omega)]
    rw [this, bC_id]
  | d + 1, n + 1, i, s, h1, h2, h3, h4 => by
    have ih := kp56 d n (i + 1) (bA s 0 ((k + i : Nat) : Int) (s.2 0 (10 + i))) (by omega) (by omega) h3 h4
    unfold R_keep_56
    rw [if_neg (by omega), show (10 : Int) + (i : Int) = ((10 + i : Nat) : Int) by omega, ay_wi (x := ((10 + i : Nat) : Int)) (by omega) (by omega), wadd (by omega), if_pos ⟨by omega, by omega⟩, if_pos ⟨by omega, by omega⟩, wad1 (by omega), Int.toNat_natCast, ih]
    have e0 : (bA s 0 ((k + i : Nat) : Int) (s.2 0 (10 + i))).2 0 = ay_u (s.2 0) (k + i) (s.2 0 (10 + i)) := by
      show ay_u (s.2 0) _ _ = _
      rw [Int.toNat_natCast]
    rw [e0, kpi_s.resolve_right (fun h => h ⟨h3, by omega⟩), ay_ux (by omega), bA_C s, bC_C]
theorem stepAt_ok (hx : x < 30) (hy : y ≤ 30) : R_stepAt n (x : Int) (y : Int) = some ((1275 + 1249 * ((x + y) % 30) : Nat) : Int) := by
  unfold R_stepAt
  rw [wadd (by omega), ay_rn' (by omega) (by omega) (by omega) (by omega), show (1249 : Int) * (((x + y : Nat) : Int) % 30) = ((1249 * ((x + y) % 30) : Nat) : Int) by omega, ay_wi (x := ((1249 * ((x + y) % 30) : Nat) : Int)) (by omega) (by omega), show (1275 : Int) + ((1249 * ((x + y) % 30) : Nat) : Int) = ((1275 + 1249 * ((x + y) % 30) : Nat) : Int) by omega, ay_wi (by omega) (by omega)]
theorem commit_ge {T : bH} (h : 30 ≤ (c' 2).1 2) : S_commit n (c', T) = some (0, (bU c' 2 (bI (c' 2) 1 (ay_rem (ay_w ((c' 2).1 1 + 1)) 31)), T)) := if_pos h
theorem commit_lt {T : bH} (h : ¬ 30 ≤ (c' 2).1 2) : S_commit n (c', T) = some (0, (bU c' 2 (bI (c' 2) 2 (ay_w ((c' 2).1 2 + 1))), T)) := if_neg h
/-- what keeping leaves as it was -/
def Rk (a b : Nat → Int) : Prop := ∀ i, i ≠ 3 → i ≠ 5 → i < 1275 → b i = a i
theorem keep_ok (S : ST 2 c U z (m.2 0) B) (P : PR c U w) (G : GB z w (m.2 0) B) (hn : 1300 ≤ n) : ∃ a1 s2, R_keep n m = some (0, bC m 0 a1) ∧ Rk (m.2 0) a1 ∧ s2.2 = (c 2).2 ∧ ∀ c', c' 2 = c 2 → (∀ nn T, S_commit nn (c', T) = some (0, (bU c' 2 s2, T))) ∧ ST 2 (bU c' 2 s2) U z a1 B := by
  obtain ⟨F, C, f, ⟨h1, h2, h3⟩, ⟨h4, h5⟩, ⟨h6, h7⟩, h8⟩ := S
  obtain ⟨F', C', _, ⟨p1, p2⟩, j, v, p3, p4, p5⟩ := P
  have eF : F' = F := by omega
  have eC : C' = C := by omega
  subst eF eC
  by_cases hC : C' = 30
  · subst hC
    have e1 : ay_rem (ay_w (m.2 0 5 + 1)) 30 = (((f + 1) % 30 : Nat) : Int) := by
      rw [h7, wad1 (by omega), ay_rn' (by omega) (by omega) (by omega) (by omega)]; omega
    have e2 : ay_w (m.2 0 3 - 1) = 29 := by rw [h6]; rfl
    obtain ⟨a0, ha0⟩ : ∃ a0, a0 = ay_u (ay_u (m.2 0) 5 (((f + 1) % 30 : Nat) : Int)) 3 29 := ⟨_, rfl⟩
    have g3 : a0 3 = 29 := by rw [ha0, ay_ue]
    have g5 : a0 5 = (((f + 1) % 30 : Nat) : Int) := by rw [ha0, ay_ux (by omega), ay_ue]
    have gx : ∀ i, i ≠ 3 → i ≠ 5 → a0 i = m.2 0 i := fun i h3 h5 => by rw [ha0, ay_ux h3, ay_ux h5]
    have em : bA (bA m 0 5 (((f + 1) % 30 : Nat) : Int)) 0 3 29 = bC m 0 a0 := by
      rw [ha0, bA_C m, bA_C, bC_C]; rfl
    obtain ⟨k, hk⟩ : ∃ k, k = 1275 + 1249 * ((f + 1 + 29) % 30) := ⟨_, rfl⟩
    have hkf : (f + 1 + 29) % 30 = f := by omega
    refine ⟨ay_u (kpi a0 k 0) 3 30, bI (c 2) 1 (((F' + 1) % 31 : Nat) : Int), ?_, ?_, rfl, ?_⟩
    · unfold R_keep R_keep_38
      rw [h6, if_pos (show ((30 : Nat) : Int) = 30 from rfl), e1, show ay_w (((30 : Nat) : Int) - 1) = 29 from rfl, em, b1_s (v := (k : Int)) ?_]
      · have := kp56 (k := k) 1249 n 0 (bC m 0 a0) (by omega) (by omega) (by omega) (by omega)
        refine this.trans ?_
        show some (0, bA (bC (bC m 0 a0) 0 (kpi a0 k 0)) 0 3 (ay_w (a0 3 + 1))) = _
        rw [g3, bC_C, bA_C, bC_C]
        rfl
      · show R_stepAt n (a0 5) (a0 3) = some (k : Int)
        rw [g3, g5, show (29 : Int) = ((29 : Nat) : Int) from rfl, stepAt_ok (by omega) (by omega), hk, show ((f + 1) % 30 + 29) % 30 = (f + 1 + 29) % 30 by omega]
    · intro i i3 i5 hi
      rw [ay_ux i3]
      unfold kpi
      rw [if_neg (by omega), gx i i3 i5]
    · intro c' hc'
      refine ⟨fun nn T => ?_, ?_⟩
      · rw [commit_ge (by rw [hc', h5]; omega), hc', h4, wad1 (by omega), ay_rn' (by omega) (by omega) (by omega) (by omega), show (((F' + 1 : Nat) : Int) % 31) = (((F' + 1) % 31 : Nat) : Int) by omega]
      · have eb : bU c' 2 (bI (c 2) 1 (((F' + 1) % 31 : Nat) : Int)) 2 = bI (c 2) 1 (((F' + 1) % 31 : Nat) : Int) := rfl
        refine ⟨(F' + 1) % 31, 30, (f + 1) % 30, ⟨by omega, by omega, by omega⟩, ?_, ⟨ay_ue, ?_⟩, fun i hi => ?_⟩
        · rw [eb]; exact ⟨rfl, h5⟩
        · rw [ay_ux (by omega)]
          unfold kpi
          rw [if_neg (by omega), g5]
        · rw [eb]
          show ∃ j w, (c 2).2 0 (((F' + 1) % 31 + i) % 31) = _ ∧ _
          by_cases hi9 : i = 29
          · subst hi9
            refine ⟨j, v, by rw [show ((F' + 1) % 31 + 29) % 31 = (F' + 30) % 31 by omega]; exact p3, p4, GB_e p5 (GB_a (fun i h1 h2 => ?_) G)⟩
            show ay_u (kpi a0 k 0) 3 30 (1275 + 1249 * (((f + 1) % 30 + 29) % 30) + i - 10) = _
            rw [ay_ux (by omega), show ((f + 1) % 30 + 29) % 30 = (f + 1 + 29) % 30 by omega, ← hk]
            unfold kpi
            rw [if_pos (by omega), gx _ (by omega) (by omega), show 10 + (k + i - 10 - k) = i by omega]
          · obtain ⟨j', w', q1, q2, q3⟩ := h8 (i + 1) (by omega)
            refine ⟨j', w', by rw [show ((F' + 1) % 31 + i) % 31 = (F' + (i + 1)) % 31 by omega]; exact q1, q2, GB_a (fun i' h1 h2 => ?_) q3⟩
            show ay_u (kpi a0 k 0) 3 30 (1275 + 1249 * (((f + 1) % 30 + i) % 30) + i' - 10) = m.2 0 (1275 + 1249 * ((f + (i + 1)) % 30) + i' - 10)
            rw [ay_ux (by omega), show ((f + 1) % 30 + i) % 30 = (f + (i + 1)) % 30 by omega]
            unfold kpi
            rw [if_neg (by omega), gx _ (by omega) (by omega)]
  · obtain ⟨k, hk⟩ : ∃ k, k = 1275 + 1249 * ((f + C') % 30) := ⟨_, rfl⟩
    refine ⟨ay_u (kpi (m.2 0) k 0) 3 ((C' + 1 : Nat) : Int), bI (c 2) 2 ((C' + 1 : Nat) : Int), ?_, ?_, rfl, ?_⟩
    · unfold R_keep R_keep_38
      rw [h6, if_neg (by omega), b1_s (v := (k : Int)) (by rw [h7, stepAt_ok h3 (by omega), hk])]
      refine (kp56 (k := k) 1249 n 0 m (by omega) (by omega) (by omega) (by omega)).trans ?_
      rw [h6, wad1 (by omega), bA_C, bC_C]
      rfl
    · intro i i3 i5 hi
      rw [ay_ux i3]
      unfold kpi
      rw [if_neg (by omega)]
    · intro c' hc'
      refine ⟨fun nn T => ?_, ?_⟩
      · rw [commit_lt (by rw [hc', h5]; omega), hc', h5, wad1 (by omega)]
      · have eb : bU c' 2 (bI (c 2) 2 ((C' + 1 : Nat) : Int)) 2 = bI (c 2) 2 ((C' + 1 : Nat) : Int) := rfl
        refine ⟨F', C' + 1, f, ⟨by omega, by omega, by omega⟩, ?_, ⟨ay_ue, ?_⟩, fun i hi => ?_⟩
        · rw [eb]; exact ⟨h4, rfl⟩
        · rw [ay_ux (by omega)]
          unfold kpi
          rw [if_neg (by omega)]; exact h7
        · rw [eb]
          show ∃ j w, (c 2).2 0 ((F' + i) % 31) = _ ∧ _
          by_cases hi9 : i = C'
          · subst hi9
            refine ⟨j, v, p3, p4, GB_e p5 (GB_a (fun i' h1 h2 => ?_) G)⟩
            show ay_u (kpi (m.2 0) k 0) 3 _ (1275 + 1249 * ((f + i) % 30) + i' - 10) = _
            rw [ay_ux (by omega), ← hk]
            unfold kpi
            rw [if_pos (by omega), show 10 + (k + i' - 10 - k) = i' by omega]
          · obtain ⟨j', w', q1, q2, q3⟩ := h8 i (by omega)
            refine ⟨j', w', q1, q2, GB_a (fun i' h1 h2 => ?_) q3⟩
            show ay_u (kpi (m.2 0) k 0) 3 _ (1275 + 1249 * ((f + i) % 30) + i' - 10) = m.2 0 (1275 + 1249 * ((f + i) % 30) + i' - 10)
            rw [ay_ux (by omega)]
            unfold kpi
            rw [if_neg (by omega)]
/-- steps as they were, where cells of their worlds stay -/
theorem ST_U (e : ∀ k, k < U.length → ax_at U' k = ax_at U k) (H : ST b c U z a B) : ST b c U' z a B := by
  obtain ⟨F, C, f, h1, h2, h3, h4⟩ := H
  refine ⟨F, C, f, h1, h2, h3, fun i hi => ?_⟩
  obtain ⟨j, w, e1, e2, e3⟩ := h4 i hi
  have := uW_in e2
  exact ⟨j, w, e1, uW_k e2 (fun k _ h => e k (by omega)), e3⟩
theorem ST_put (hb : b = 2 ∨ b = 5) (H : ST b c U z a B) (G : uW U j w) (hj : ∀ F C i : Nat, (c b).1 1 = (F : Int) → (c b).1 2 = (C : Int) → i < C → (c b).2 0 ((F + i) % 31) ≠ ((j + 83 : Nat) : Int)) (es : bH) : ST b c (ay_puts U (wtP j) es) z a B := by
  obtain ⟨F, C, f, h1, h2, h3, h4⟩ := H
  refine ⟨F, C, f, h1, h2, h3, fun i hi => ?_⟩
  obtain ⟨j', w', e1, e2, e3⟩ := h4 i hi
  refine ⟨j', w', e1, uW_pn G e2 (fun h => ?_) es, e3⟩
  subst h
  exact hj F C i h2.1 h2.2 hi e1
theorem ST_Kr (hb : b = 2 ∨ b = 5) (H : ST b c U z a B) (hr : ∀ F C i : Nat, (c b).1 1 = (F : Int) → (c b).1 2 = (C : Int) → i < C → F < 31 → C ≤ 30 → (c' b).2 0 ((F + i) % 31) = (c b).2 0 ((F + i) % 31)) (e1 : (c' b).1 = (c b).1) : ST b c' U z a B := by
  obtain ⟨F, C, f, h1, h2, h3, h4⟩ := H
  refine ⟨F, C, f, h1, by rw [e1]; exact h2, h3, fun i hi => ?_⟩
  obtain ⟨j', w', g1, g2, g3⟩ := h4 i hi
  exact ⟨j', w', by rw [hr F C i h2.1 h2.2 hi h1.1 h1.2.1]; exact g1, g2, g3⟩
/-- what prepare does -/
theorem prep_ok {zp : Nat → Nat} {ap : Nat → Int} (H : HS c U K) (S : ST 2 c U z a B) (S5 : ST 5 c U zp ap B) : ∃ c1 U1, (∀ n, S_prepare n (c, mC m ++ U) = some (0, (c1, mC m ++ U1))) ∧ HS c1 U1 K ∧ ST 2 c1 U1 z a B ∧ ST 5 c1 U1 zp ap B ∧ PR c1 U1 (c 0) ∧ (∀ k, k ≠ 2 → c1 k = c k) ∧ (∀ j x, uX U j x → uX U1 j x) := by
  have S' := S
  obtain ⟨F, C, f, ⟨h1, h2, h3⟩, ⟨h4, h5⟩, _, _⟩ := S'
  obtain ⟨j, c1, U1, w, r1, r2, r3, r4, r5, r6, r7, r8⟩ := row_ok (m := m) (b := 2) (i := C) (Or.inl rfl) H h4 h1 (by omega)
  obtain ⟨v, v1, v2, v3⟩ := wtO_u (m := m) r2
  have e0 : c1 0 = c 0 := r4.1 0 (by omega)
  have hr31 : (F + C) % 31 < 31 := Nat.mod_lt _ (by omega)
  have hen : en c1 ((F + C) % 31) = ((j + 83 : Nat) : Int) := by unfold en; rw [if_pos hr31]; exact r3
  refine ⟨c1, ay_puts U1 (wtP j) (wtC (j + 81) (wCp v (c 0))), fun n => ?_, HS_put r6 v2, ?_, ?_, ?_, fun k hk => r4.1 k hk, ?_⟩
  · unfold S_prepare
    dsimp only
    rw [h5, b1_s r1]
    dsimp only
    rw [b1_s v1, e0, app_wt]
  · have A : ST 2 c1 U z a B := ST_Kr (Or.inl rfl) S (fun F' C' i hF hC hi _ _ => r4.2.2.2 _ (by
      have : F' = F := by omega
      have : C' = C := by omega
      subst_vars; omega)) r4.2.1
    refine ST_put (Or.inl rfl) (ST_U r5 A) v2 (fun F' C' i hF hC hi he => ?_) _
    rw [r4.2.1] at hF hC
    have e1 : F' = F := by omega
    have e2 : C' = C := by omega
    subst e1 e2
    have hi31 : (F' + i) % 31 < 31 := Nat.mod_lt _ (by omega)
    have := r6.2.1 ((F' + i) % 31) ((F' + C') % 31) (by omega) (by omega) (by rw [hen]; unfold en; rw [if_pos hi31]; exact he) (by unfold en; rw [if_pos hi31, he]; omega)
    omega
  · have A : ST 5 c1 U zp ap B := ST_c (r4.1 5 (by omega)) S5
    refine ST_put (Or.inr rfl) (ST_U r5 A) v2 (fun F' C' i hF hC hi he => ?_) _
    have hi31 : (F' + i) % 31 < 31 := Nat.mod_lt _ (by omega)
    have := r6.2.1 ((F' + i) % 31 + 31) ((F + C) % 31) (by omega) (by omega) (by rw [hen]; unfold en; rw [if_neg (by omega), Nat.add_sub_cancel]; exact he) (by unfold en; rw [if_neg (by omega), Nat.add_sub_cancel, he]; omega)
    omega
  · exact ⟨F, C, ⟨h1, h2⟩, ⟨by rw [r4.2.1]; exact h4, by rw [r4.2.1]; exact h5⟩, j, wCp v (c 0), r3, uW_put v2, wCp_E _ _⟩
  · exact fun j' x' h => uX_pn v2 (uX_k h r5) _
end
