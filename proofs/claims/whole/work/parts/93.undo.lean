/-! Steps are taken back; images of steps; copies of rows. -/
noncomputable def S_cpg (b b' : Nat) : Nat → pS → Int → Option (Int × pS)
  | 0, _, _ => none
  | n + 1, s, l2 => if (s.1 b).1 2 ≤ l2 then some (0, s) else b1 (S_row b s l2) fun q => b1 (S_row b' q.2 l2) fun r => b1 (wtO r.2.2 q.1) fun w => b1 (wtO r.2.2 r.1) fun v => if q.1 + 13 ≤ r.1 ∨ r.1 + 13 ≤ q.1 then S_cpg b b' n (r.2.1, ay_puts r.2.2 (wtP q.1) (wtC (q.1 + 71) (wCp w v))) (ay_w (l2 + 1)) else none
section
variable {U U' V : bH} {c c' c1 : Nat → bS} {w v m now x : bS} {j k b g i F K q p n n' B B' f C y : Nat} {a b' : Nat → Int} {z z' : Nat → Nat}
theorem bki_s (hk : 1259 ≤ k) (hi : i < 1249) : bki (ay_u a (10 + i) (a (k + i))) k (i + 1) = bki a k i := by
  funext j
  unfold bki
  by_cases h1 : 10 + (i + 1) ≤ j ∧ j < 1259
  · rw [if_pos h1, if_pos (by omega), ay_ux (by omega)]
  · rw [if_neg h1]
    by_cases h2 : j = 10 + i
    · subst h2; rw [ay_ue, if_pos (by omega), Nat.add_sub_cancel_left]
    · rw [ay_ux h2, if_neg (by omega)]
theorem un39 : ∀ (d n i : Nat) (s : bS), d + i = 1249 → d < n → 1259 ≤ k → k + 1249 ≤ 38745 → R_undo_39 n s (k : Int) (i : Int) = some (s.2 0 3, bC s 0 (bki (s.2 0) k i))
  | _, 0, _, _, _, h, _, _ => by omega
  | 0, n + 1, i, s, h1, _, h3, h4 => by
    unfold R_undo_39
    rw [if_pos (by omega)]
    have : bki (s.2 0) k i = s.2 0 := by
      funext j; unfold bki; rw [if_neg (by omega)]
    rw [this, bC_id]
  | d + 1, n + 1, i, s, h1, h2, h3, h4 => by
    have ih := un39 d n (i + 1) (bA s 0 ((10 + i : Nat) : Int) (s.2 0 (k + i))) (by omega) (by omega) h3 h4
    unfold R_undo_39
    rw [if_neg (by omega), wadd (by omega), show (10 : Int) + (i : Int) = ((10 + i : Nat) : Int) by omega, ay_wi (x := ((10 + i : Nat) : Int)) (by omega) (by omega), if_pos ⟨by omega, by omega⟩, if_pos ⟨by omega, by omega⟩, wad1 (by omega), Int.toNat_natCast, ih]
    have e0 : (bA s 0 ((10 + i : Nat) : Int) (s.2 0 (k + i))).2 0 = ay_u (s.2 0) (10 + i) (s.2 0 (k + i)) := by
      show ay_u (s.2 0) _ _ = _
      rw [Int.toNat_natCast]
    rw [e0, bki_s h3 (by omega), ay_ux (by omega), bA_C s, bC_C]
theorem undo_ok (H : HS c U K) (S : ST 2 c U z (m.2 0) B) (hn : 1300 ≤ n') : ((∀ n, S_takeBack n (c, mC m ++ U) = some (0, (c, mC m ++ U))) ∧ R_undo n' m = some (-1, m)) ∨ ∃ c1 a1, (∀ n, S_takeBack n (c, mC m ++ U) = some (1, (c1, mC m ++ U))) ∧ R_undo n' m = some ((c1 2).1 2, bC m 0 a1) ∧ GB z (c1 0) a1 B ∧ ST 2 c1 U z a1 B ∧ (∀ k, k ≠ 0 → k ≠ 2 → c1 k = c k) ∧ (c1 2).2 = (c 2).2 ∧ ∀ i, (i < 10 ∧ i ≠ 3) ∨ 1259 ≤ i → a1 i = m.2 0 i := by
  have S' := S
  obtain ⟨F, C, f, ⟨h1, h2, h3⟩, ⟨h4, h5⟩, ⟨h6, h7⟩, h8⟩ := S'
  by_cases hC : C = 0
  · subst hC
    refine Or.inl ⟨fun n => ?_, ?_⟩
    · unfold S_takeBack
      exact if_pos h5
    · unfold R_undo
      rw [if_pos (by rw [h6]; rfl)]
  · refine Or.inr ?_
    have e1 : ay_w ((c 2).1 2 - 1) = ((C - 1 : Nat) : Int) := by rw [h5, ay_wi (by omega) (by omega)]; omega
    obtain ⟨jj, ww, g1, g2, g3⟩ := h8 (C - 1) (by omega)
    obtain ⟨c0, hc0⟩ : ∃ c0, c0 = bU c 2 (bI (c 2) 2 ((C - 1 : Nat) : Int)) := ⟨_, rfl⟩
    have c02 : c0 2 = bI (c 2) 2 ((C - 1 : Nat) : Int) := by rw [hc0]; rfl
    have c0x : ∀ k, k ≠ 2 → c0 k = c k := fun k hk => by rw [hc0]; unfold bU; rw [nbeq hk]; rfl
    have H0 : HS c0 U K := HS_c (fun q hq => by
      unfold en
      rw [c02, c0x 5 (by omega)]; rfl) H
    obtain ⟨j, c1, U1, w, r1, r2, r3, r4, r5, r6, r7, r8⟩ := row_ok (m := m) (b := 2) (i := C - 1) (Or.inl rfl) H0 (by rw [c02]; exact h4) h1 (by omega)
    have e0 : (c0 2).2 0 ((F + (C - 1)) % 31) = ((jj + 83 : Nat) : Int) := by rw [c02]; exact g1
    obtain ⟨y1, y2⟩ := r7 (by rw [e0]; omega)
    subst y1 y2
    have ej : j = jj := by rw [e0] at r3; omega
    subst ej
    obtain ⟨v, v1, v2, v3⟩ := wtO_u (m := m) g2
    obtain ⟨kk, hk⟩ : ∃ kk, kk = 1275 + 1249 * ((f + (C - 1)) % 30) := ⟨_, rfl⟩
    refine ⟨bU c1 0 (wCp (c1 0) v), bki (ay_u (m.2 0) 3 ((C - 1 : Nat) : Int)) kk 0, fun n => ?_, ?_, ?_, ?_, ?_, ?_, ?_⟩
    · unfold S_takeBack
      refine (if_neg (by show ¬ (c 2).1 2 = 0; rw [h5]; omega)).trans ?_
      dsimp only
      rw [e1, ← hc0, b1_s r1]
      dsimp only
      rw [b1_s v1]
    · unfold R_undo
      have e2 : ay_w (m.2 0 3 - 1) = ((C - 1 : Nat) : Int) := by rw [h6, ay_wi (by omega) (by omega)]; omega
      rw [if_neg (by rw [h6]; omega), e2, h7, b1_s (stepAt_ok h3 (by omega)), ← hk]
      refine (un39 (k := kk) 1249 n' 0 _ (by omega) (by omega) (by omega) (by omega)).trans ?_
      have e3 : (bA m 0 3 ((C - 1 : Nat) : Int)).2 0 = ay_u (m.2 0) 3 ((C - 1 : Nat) : Int) := rfl
      rw [e3, ay_ue, bA_C, bC_C]
      have e4 : (bU c1 0 (wCp (c1 0) v) 2).1 2 = ((C - 1 : Nat) : Int) := by
        show (c1 2).1 2 = _
        rw [c02]; rfl
      rw [e4]
    · refine GB_e (v3.tr (wCp_E (c1 0) v)) (GB_a (fun i h1 h2 => ?_) g3)
      show _ = m.2 0 (1275 + 1249 * ((f + (C - 1)) % 30) + i - 10)
      unfold bki
      rw [if_pos (by omega), ay_ux (by omega), ← hk, show kk + (i - 10) = kk + i - 10 by omega]
    · refine ⟨F, C - 1, f, ⟨h1, by omega, h3⟩, ?_, ⟨?_, ?_⟩, fun i hi => ?_⟩
      · show (c1 2).1 1 = _ ∧ (c1 2).1 2 = _
        rw [c02]; exact ⟨h4, rfl⟩
      · unfold bki; rw [if_neg (by omega), ay_ue]
      · unfold bki; rw [if_neg (by omega), ay_ux (by omega)]; exact h7
      · obtain ⟨j', w', q1, q2, q3⟩ := h8 i (by omega)
        refine ⟨j', w', ?_, q2, GB_a (fun i' h1 h2 => ?_) q3⟩
        · show (c1 2).2 0 _ = _
          rw [c02]; exact q1
        · show bki _ kk 0 (1275 + 1249 * ((f + i) % 30) + i' - 10) = m.2 0 (1275 + 1249 * ((f + i) % 30) + i' - 10)
          unfold bki
          rw [if_neg (by omega), ay_ux (by omega)]
    · intro k h0 h2'
      show (bif Nat.beq k 0 then _ else c1 k) = c k
      rw [nbeq h0]; exact c0x k h2'
    · show (c1 2).2 = (c 2).2
      rw [c02]; rfl
    · intro i hi
      unfold bki
      rw [if_neg (by omega), ay_ux (by omega)]
/-- rows copied whole -/
theorem cr34 : ∀ (d n i : Nat) (s : bS), d + i = 38745 → d < n → R_copyRow_3_4_2 n s (i : Int) = some (0, bC s 1 (fun j => if i ≤ j ∧ j < 38745 then s.2 0 j else s.2 1 j))
  | _, 0, _, _, _, h => by omega
  | 0, n + 1, i, s, h1, _ => by
    unfold R_copyRow_3_4_2
    rw [if_pos (by omega)]
    have : (fun j => if i ≤ j ∧ j < 38745 then s.2 0 j else s.2 1 j) = s.2 1 := by
      funext j; rw [if_neg (by omega)]
    rw [this]
    refine congrArg some (congrArg (Prod.mk 0) ?_)
    refine Prod.ext rfl ?_
    funext k
    show s.2 k = (bif Nat.beq k 1 then s.2 1 else s.2 k)
    cases e : Nat.beq k 1
    · rfl
    · rw [Nat.eq_of_beq_eq_true e]; rfl
  | d + 1, n + 1, i, s, h1, h2 => by
    have ih := cr34 d n (i + 1) (bA s 1 (i : Int) (s.2 0 i)) (by omega) (by omega)
    unfold R_copyRow_3_4_2
    rw [if_neg (by omega), if_pos ⟨by omega, by omega⟩, if_pos ⟨by omega, by omega⟩, wad1 (by omega), Int.toNat_natCast, ih]
    refine congrArg some (congrArg (Prod.mk 0) ?_)
    refine Prod.ext rfl ?_
    funext k
    show (bif Nat.beq k 1 then _ else (bif Nat.beq k 1 then _ else s.2 k)) = (bif Nat.beq k 1 then _ else s.2 k)
    cases e : Nat.beq k 1
    · rfl
    · show (fun j => if i + 1 ≤ j ∧ j < 38745 then s.2 0 j else ay_u (s.2 1) (i : Int).toNat (s.2 0 i) j) = fun j => if i ≤ j ∧ j < 38745 then s.2 0 j else s.2 1 j
      funext j
      rw [Int.toNat_natCast]
      by_cases h : i + 1 ≤ j ∧ j < 38745
      · rw [if_pos h, if_pos (by omega)]
      · rw [if_neg h]
        by_cases h' : j = i
        · subst h'; rw [ay_ue, if_pos (by omega)]
        · rw [ay_ux h', if_neg (by omega)]
theorem cr43 : ∀ (d n i : Nat) (s : bS), d + i = 38745 → d < n → R_copyRow_4_3_2 n s (i : Int) = some (0, bC s 0 (fun j => if i ≤ j ∧ j < 38745 then s.2 1 j else s.2 0 j))
  | _, 0, _, _, _, h => by omega
  | 0, n + 1, i, s, h1, _ => by
    unfold R_copyRow_4_3_2
    rw [if_pos (by omega)]
    have : (fun j => if i ≤ j ∧ j < 38745 then s.2 1 j else s.2 0 j) = s.2 0 := by
      funext j; rw [if_neg (by omega)]
    rw [this, bC_id]
  | d + 1, n + 1, i, s, h1, h2 => by
    have ih := cr43 d n (i + 1) (bA s 0 (i : Int) (s.2 1 i)) (by omega) (by omega)
    unfold R_copyRow_4_3_2
    rw [if_neg (by omega), if_pos ⟨by omega, by omega⟩, if_pos ⟨by omega, by omega⟩, wad1 (by omega), Int.toNat_natCast, ih, bA_C s, bC_C]
    refine congrArg some (congrArg (Prod.mk 0) (congrArg (bC s 0) ?_))
    funext j
    show (if i + 1 ≤ j ∧ j < 38745 then s.2 1 j else ay_u (s.2 0) (i : Int).toNat (s.2 1 i) j) = _
    rw [Int.toNat_natCast]
    by_cases h : i + 1 ≤ j ∧ j < 38745
    · rw [if_pos h, if_pos (by omega)]
    · rw [if_neg h]
      by_cases h' : j = i
      · subst h'; rw [ay_ue, if_pos (by omega)]
      · rw [ay_ux h', if_neg (by omega)]
theorem cpg_to : ∀ (n : Nat) (s : pS) (l : Int), S_copyTo_15 n s l = S_cpg 5 2 n s l
  | 0, _, _ => rfl
  | n + 1, s, l => by
    unfold S_copyTo_15 S_cpg
    rw [show S_copyTo_15 n = S_cpg 5 2 n from funext fun s => funext fun l => cpg_to n s l]
theorem cpg_back : ∀ (n : Nat) (s : pS) (l : Int), S_copyBack_15 n s l = S_cpg 2 5 n s l
  | 0, _, _ => rfl
  | n + 1, s, l => by
    unfold S_copyBack_15 S_cpg
    rw [show S_copyBack_15 n = S_cpg 2 5 n from funext fun s => funext fun l => cpg_back n s l]
/-- the steps of b', one after the other, into b -/
theorem cpg_ok (hb : (b = 5 ∧ g = 2) ∨ (b = 2 ∧ g = 5)) {C f F : Nat} (hF : F < 31) (hC : C ≤ 30) (hf : f < 30) : ∀ (d n i : Nat) (c : Nat → bS) (U : bH), d + i = C → d < n → HS c U K → (c b).1 1 = 0 → (c b).1 2 = (C : Int) → (c g).1 1 = (F : Int) → (∀ i, i < C → ∃ j w, (c g).2 0 ((F + i) % 31) = ((j + 83 : Nat) : Int) ∧ uW U j w ∧ GB z w (rwa a (1275 + 1249 * ((f + i) % 30))) B) → (∀ i', i' < i → ∃ j w, (c b).2 0 i' = ((j + 83 : Nat) : Int) ∧ uW U j w ∧ GB z w (rwa a (1275 + 1249 * ((f + i') % 30))) B) → ∃ c1 U1, S_cpg b g n (c, mC m ++ U) (i : Int) = some (0, (c1, mC m ++ U1)) ∧ HS c1 U1 K ∧ (∀ k, k ≠ b → c1 k = c k) ∧ (c1 b).1 = (c b).1 ∧ (∀ i', i' < C → ∃ j w, (c1 b).2 0 i' = ((j + 83 : Nat) : Int) ∧ uW U1 j w ∧ GB z w (rwa a (1275 + 1249 * ((f + i') % 30))) B) ∧ (∀ i, i < C → ∃ j w, (c1 g).2 0 ((F + i) % 31) = ((j + 83 : Nat) : Int) ∧ uW U1 j w ∧ GB z w (rwa a (1275 + 1249 * ((f + i) % 30))) B) ∧ (∀ j x, uX U j x → uX U1 j x)
  | _, 0, _, _, _, _, h, _, _, _, _, _, _ => by omega
  | 0, n + 1, i, c, U, h1, _, H, _, h3, _, h5, h6 => by
    have e : i = C := by omega
    subst e
    refine ⟨c, U, ?_, H, fun _ _ => rfl, rfl, h6, h5, fun _ _ h => h⟩
    unfold S_cpg
    exact if_pos (by show (c b).1 2 ≤ _; rw [h3]; omega)
  | d + 1, n + 1, i, c, U, h1, h2, H, hb1, hb2, hg1, hg, hbi => by
    have hb' : b = 2 ∨ b = 5 := by omega
    have hg' : g = 2 ∨ g = 5 := by omega
    have hgb : g ≠ b := by omega
    obtain ⟨j5, c1, U1, w5, r1, r2, r3, r4, r5, r6, r7, r8⟩ := row_ok (m := m) (b := b) (i := i) (F := 0) hb' H hb1 (by omega) (by omega)
    have ei : (0 + i) % 31 = i := by omega
    rw [ei] at r3 r4 r7 r8
    have ecg : c1 g = c g := r4.1 g hgb
    obtain ⟨jj, ww, g1, g2, g3⟩ := hg i (by omega)
    have g2' : uW U1 jj ww := by
      have := uW_in g2
      exact uW_k g2 (fun k _ h => r5 k (by omega))
    obtain ⟨j2, c2, U2, w2, s1, s2, s3, s4, s5, s6, s7, s8⟩ := row_ok (m := m) (b := g) (i := i) (F := F) hg' r6 (by rw [ecg]; exact hg1) hF (by omega)
    have e0 : (c1 g).2 0 ((F + i) % 31) = ((jj + 83 : Nat) : Int) := by rw [ecg]; exact g1
    obtain ⟨y1, y2⟩ := s7 (by rw [e0]; omega)
    subst y1 y2
    have ej : j2 = jj := by rw [e0] at s3; omega
    subst ej
    obtain ⟨w, w1, w2', w3⟩ := wtO_u (m := m) r2
    obtain ⟨v, v1, v2, v3⟩ := wtO_u (m := m) g2'
    have hi31 : i < 31 := by omega
    have hF31 : ∀ i', (F + i') % 31 < 31 := fun i' => Nat.mod_lt _ (by omega)
    -- rows of the two lie apart
    have ne : ∀ i' j', (c2 g).2 0 ((F + i') % 31) = ((j' + 83 : Nat) : Int) → j' ≠ j5 := fun i' j' h1 h2 => by
      subst h2
      have q1 := en_b (c := c2) hb' hi31
      have q2 := en_b (c := c2) hg' (hF31 i')
      rw [r3] at q1
      rw [h1] at q2
      have := hF31 i'
      have h3 := r6.2.1 _ _ (by split <;> omega) (by split <;> omega) (q1.trans q2.symm) (by rw [q1]; omega)
      rcases hb with ⟨y1, y2⟩ | ⟨y1, y2⟩
      · rw [if_neg (by omega), if_pos y2] at h3; omega
      · rw [if_pos y1, if_neg (by omega)] at h3; omega
    have ne2 : ∀ i' j', i' < i → (c2 b).2 0 i' = ((j' + 83 : Nat) : Int) → j' ≠ j5 := fun i' j' hi' h1 h2 => by
      subst h2
      have q1 := en_b (c := c2) hb' hi31
      have q2 := en_b (c := c2) hb' (show i' < 31 by omega)
      rw [r3] at q1
      rw [h1] at q2
      have h3 := r6.2.1 _ _ (by split <;> omega) (by split <;> omega) (q1.trans q2.symm) (by rw [q1]; omega)
      rcases hb' with y1 | y1
      · rw [if_pos y1, if_pos y1] at h3; omega
      · rw [if_neg (by omega), if_neg (by omega)] at h3; omega
    have nej : j2 ≠ j5 := ne i j2 e0
    have hap := uW_ap w2' g2'
    have up : ∀ {j' : Nat} {u : bS}, uW U j' u → uW U2 j' u := fun {j' u} h => by
      have := uW_in h
      exact uW_k h (fun k _ h => r5 k (by omega))
    obtain ⟨cc, UU, t1, t2, t3, t4, t5, t6, t7⟩ := cpg_ok hb hF hC hf d n (i + 1) c2 (ay_puts U2 (wtP j5) (wtC (j5 + 81) (wCp w v))) (by omega) (by omega) (HS_put r6 w2') (by rw [r4.2.1]; exact hb1) (by rw [r4.2.1]; exact hb2) (by rw [ecg]; exact hg1) (fun i' hi' => by
        obtain ⟨j', u, q1, q2, q3⟩ := hg i' hi'
        rw [← ecg] at q1
        exact ⟨j', u, q1, uW_pn w2' (up q2) (ne i' j' q1) _, q3⟩) (fun i' hi' => by
        by_cases h : i' = i
        · subst h
          exact ⟨j5, wCp w v, r3, uW_put w2', GB_e (v3.tr (wCp_E w v)) g3⟩
        · obtain ⟨j', u, q1, q2, q3⟩ := hbi i' (by omega)
          rw [← r4.2.2.2 i' h] at q1
          exact ⟨j', u, q1, uW_pn w2' (up q2) (ne2 i' j' (by omega) q1) _, q3⟩)
    refine ⟨cc, UU, ?_, t2, fun k hk => (t3 k hk).trans (r4.1 k hk), t4.trans r4.2.1, t5, t6, fun j' x' h => t7 j' x' (uX_pn w2' (uX_k h r5) _)⟩
    unfold S_cpg
    refine (if_neg (by show ¬ (c b).1 2 ≤ _; rw [hb2]; omega)).trans ?_
    rw [b1_s r1]
    dsimp only
    rw [b1_s s1]
    dsimp only
    rw [b1_s w1, b1_s v1, if_pos (by omega), app_wt, wad1 (by omega)]
    exact t1
end
