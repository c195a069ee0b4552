/-! Whom a preemption meets, on both sides (with and without a law; by wip/whole/tpl) -/
section
variable {n n' : Nat} {m m' m1 w w' w0 kk xx tt tx : bS} {z : Nat → Nat} {a b' : Nat → Int} {o p f s N k i h g j T b c M x y q : Nat} {t v : Int} {cd sp : Nat → Bool}
theorem K0_vf4 (I : IF w) (hM : isN M) (hsp : ∀ s, s < 64 → 0 < spn w s → LWs (K0_letsGo tt) m w s (sp s)) : ∀ (d n k : Nat) (xx : bS), k + d = 64 → d + 1001 ≤ n → ∃ xx', K0_victimFor_4 tt n (kk, w, xx) M (vic w (vcd kk w sp M) k) k = some (vic w (vcd kk w sp M) 64, (kk, w, xx'))
  | 0, n, k, xx, hk, hn => by
    obtain ⟨n, rfl⟩ : ∃ y, n = y + 1 := ⟨n - 1, by omega⟩
    have : k = 64 := by omega
    subst this
    refine ⟨xx, ?_⟩
    rw [K0_victimFor_4, if_pos (by omega)]
  | d + 1, n, k, xx, hk, hn => by
    obtain ⟨n, rfl⟩ : ∃ y, n = y + 1 := ⟨n - 1, by omega⟩
    have hk64 : k < 64 := by omega
    obtain ⟨e4, e3, hs4, hh, _⟩ := I.1 k hk64
    have tail : ∀ (B : Int) (x1 : bS), vic w (vcd kk w sp M) (k + 1) = B → ∃ xx', K0_victimFor_4 tt n (kk, w, x1) M B ((k + 1 : Nat) : Int) = some (vic w (vcd kk w sp M) 64, (kk, w, xx')) := fun B x1 e => by
      rw [← e]; exact K0_vf4 I hM hsp d n (k + 1) x1 (by omega) (by omega)
    have hv : vic w (vcd kk w sp M) (k + 1) = if (0 < spn w k ∧ (vic w (vcd kk w sp M) k = -1 ∨ w.2 5 k < w.2 5 (vic w (vcd kk w sp M) k).toNat)) ∧ vcd kk w sp M k = true then (k : Int) else vic w (vcd kk w sp M) k := rfl
    have hin := vic_in (w := w) (cd := vcd kk w sp M) k
    generalize vic w (vcd kk w sp M) k = B at hv hin ⊢
    have hb : (0 : Int) ≤ (k : Int) ∧ (k : Int) < 64 := by omega
    have k1 : ay_w ((k : Int) + 1) = ((k + 1 : Nat) : Int) := wad1 (by omega)
    have f52 : 0 < spn w k → (B = -1 ∨ w.2 5 k < w.2 5 B.toNat) → ∃ xx', K0_victimFor_52 tt (fun s l1 l2 l3 => K0_victimFor_4 tt n s l1 l2 l3) n (kk, w, xx) M B k (spn w k) = some (vic w (vcd kk w sp M) 64, (kk, w, xx')) := fun h0 hB => by
      unfold K0_victimFor_52
      rw [bb_s (W_holds_ok n I hk64 h0)]
      dsimp only
      rw [k1]
      clear k1
      have no : vcd kk w sp M k = false → ∀ x1 : bS, ∃ xx', K0_victimFor_4 tt n (kk, w, x1) M B ((k + 1 : Nat) : Int) = some (vic w (vcd kk w sp M) 64, (kk, w, xx')) := fun e x1 => tail B x1 (by rw [hv, e, if_neg (fun y => by cases y.2)])
      by_cases c1 : hld w k < spn w k
      · rw [if_neg (by omega), bb_s (K_isPinned_ok n I hk64), bi_0]
        cases c2 : pin kk w k
        · rw [if_neg (by decide), bb_s (W_hollow_ok I hk64 h0 hM (by omega))]
          by_cases c3 : fs (emp w k M) (spn w k / M) < spn w k / M
          · rw [if_pos c3, if_neg (by omega)]
            obtain ⟨x1, r1⟩ := (hsp k hk64 h0).1 n kk xx (by omega)
            rw [bb_s r1, bi_0]
            cases c4 : sp k
            · rw [if_neg (by decide)]
              exact no (by unfold vcd; rw [c2, c4, Bool.and_false, Bool.and_false, Bool.and_false]) x1
            · rw [if_pos rfl]
              refine tail k x1 ?_
              have e : vcd kk w sp M k = true := by unfold vcd; rw [decide_eq_true c1, c2, decide_eq_true c3, c4]; rfl
              rw [hv, if_pos ⟨⟨h0, hB⟩, e⟩]
          · rw [if_neg c3, if_pos rfl]
            exact no (by unfold vcd; rw [decide_eq_false c3, Bool.false_and, Bool.and_false, Bool.and_false]) xx
        · rw [if_pos rfl]
          exact no (by unfold vcd; rw [c2]; exact Bool.and_false _) xx
      · rw [if_pos (by omega)]
        exact no (by unfold vcd; rw [decide_eq_false c1, Bool.false_and]) xx
    rw [K0_victimFor_4, if_neg (by omega), if_pos hb]
    dsimp only
    rw [Int.toNat_natCast, e4, k1]
    clear k1
    by_cases h0 : 0 < spn w k
    · rw [if_neg (by omega)]
      by_cases cB : B = -1
      · rw [if_pos cB]; exact f52 h0 (Or.inl cB)
      · obtain ⟨s, s1, s2, _⟩ := hin.resolve_left cB
        rw [if_neg cB, if_pos hb, if_pos (by omega)]
        by_cases c5 : w.2 5 B.toNat ≤ w.2 5 k
        · rw [if_pos c5]
          refine tail B xx ?_
          rw [hv, if_neg (fun y => by rcases y.1.2 with y | y; exact cB y; omega)]
        · rw [if_neg c5]; exact f52 h0 (Or.inr (by omega))
    · rw [if_pos (by omega)]
      refine tail B xx ?_
      rw [hv, if_neg (fun y => h0 y.1.1)]
theorem R0_vf4 (G : GW w (m.2 0) T) (P : PN kk m w) (hM : isN M) (hsp : ∀ s, s < 64 → 0 < spn w s → LWs (K0_letsGo tt) m w s (sp s)) : ∀ (d n k : Nat) (m' : bS), k + d = 64 → Mq m m' → d + 1001 ≤ n → ∃ m1, R_victimFor_4 n m' M (vic w (vcd kk w sp M) k) k = some (vic w (vcd kk w sp M) 64, m1) ∧ Mq m m1
  | 0, n, k, m', hk, hm, hn => by
    obtain ⟨n, rfl⟩ : ∃ y, n = y + 1 := ⟨n - 1, by omega⟩
    have : k = 64 := by omega
    subst this
    refine ⟨m', ?_, hm⟩
    rw [R_victimFor_4, if_pos (by omega)]
  | d + 1, n, k, m', hk, hm, hn => by
    obtain ⟨n, rfl⟩ : ∃ y, n = y + 1 := ⟨n - 1, by omega⟩
    have hk64 : k < 64 := by omega
    obtain ⟨R, I, T', J, hT, hT2⟩ := id G
    have HF : RF w (m'.2 0) := by rw [hm.ar]; exact R.1
    have tail : ∀ (B : Int) (m1 : bS), Mq m m1 → vic w (vcd kk w sp M) (k + 1) = B → ∃ m2, R_victimFor_4 n m1 M B ((k + 1 : Nat) : Int) = some (vic w (vcd kk w sp M) 64, m2) ∧ Mq m m2 := fun B m1 hm1 e => by
      rw [← e]; exact R0_vf4 G P hM hsp d n (k + 1) m1 (by omega) hm1 (by omega)
    have hv : vic w (vcd kk w sp M) (k + 1) = if (0 < spn w k ∧ (vic w (vcd kk w sp M) k = -1 ∨ w.2 5 k < w.2 5 (vic w (vcd kk w sp M) k).toNat)) ∧ vcd kk w sp M k = true then (k : Int) else vic w (vcd kk w sp M) k := rfl
    have hin := vic_in (w := w) (cd := vcd kk w sp M) k
    generalize vic w (vcd kk w sp M) k = B at hv hin ⊢
    have f40 : 0 < spn w k → (B = -1 ∨ w.2 5 k < w.2 5 B.toNat) → ∃ m2, R_victimFor_40 (fun s l1 l2 l3 => R_victimFor_4 n s l1 l2 l3) n m' M B k = some (vic w (vcd kk w sp M) 64, m2) ∧ Mq m m2 := fun h0 hB => by
      unfold R_victimFor_40
      obtain ⟨m1, r1, r2⟩ := R_canBreak_ok (n := n) G P hm hk64 h0 hM (hsp k hk64 h0) (by omega)
      rw [bb_s r1, bi_0, wad1 (by omega)]
      cases c : vcd kk w sp M k
      · rw [if_neg (by decide)]
        refine tail B m1 r2 ?_
        rw [hv, c, if_neg (fun y => by cases y.2)]
      · rw [if_pos rfl]
        refine tail k m1 r2 ?_
        rw [hv, c, if_pos ⟨⟨h0, hB⟩, rfl⟩]
    have f0 : R_frameAt n m' k 0 = some (m'.2 0 (914 + 5 * k), m') := R_frameAt_ok n m' hk64 (by omega) (by omega)
    have hbg := beg_iff I HF hk64
    rw [beg_t] at hbg
    rw [R_victimFor_4, if_neg (by omega), bb_s f0, wad1 (by omega)]
    by_cases h0 : 0 < spn w k
    · rw [if_pos (hbg.mpr h0)]
      by_cases cB : B = -1
      · rw [if_pos cB]; exact f40 h0 (Or.inl cB)
      · obtain ⟨s, s1, s2, s3, _⟩ := hin.resolve_left cB
        have g1 : R_frameAt n m' k 4 = some (w.2 5 k, m') := by rw [R_frameAt_ok n m' hk64 (by omega) (by omega), show (4 : Int).toNat = 4 from rfl, (HF.2.1 k hk64 h0).2.2.2]
        have g2 : R_frameAt n m' B 4 = some (w.2 5 B.toNat, m') := by rw [s2, R_frameAt_ok n m' (by omega) (by omega) (by omega), show (4 : Int).toNat = 4 from rfl, (HF.2.1 s (by omega) s3).2.2.2, Int.toNat_natCast]
        rw [if_neg cB, bb_s g1, bb_s g2]
        by_cases c5 : w.2 5 B.toNat ≤ w.2 5 k
        · rw [if_pos c5]
          refine tail B m' hm ?_
          rw [hv, if_neg (fun y => by rcases y.1.2 with y | y; exact cB y; omega)]
        · rw [if_neg c5]; exact f40 h0 (Or.inr (by omega))
    · rw [if_neg (fun y => h0 (hbg.mp y))]
      refine tail B m' hm ?_
      rw [hv, if_neg (fun y => h0 y.1.1)]
/-- whom a preemption meets, on both sides -/
theorem victim0_ok (X : GX z w (m.2 0) T) (L : LW (K0_wanted tt) (K0_letsGo tt) m w) (P : PN kk m w) (hM : isN M) : ∃ r : Int, VR w M r ∧ (∀ (n : Nat) (k1 xx : bS), k1.1 3 = kk.1 3 → 1100 ≤ n → ∃ xx', K0_victimFor tt n (k1, w, xx) M = some (r, (k1, w, xx'))) ∧ ∀ (n : Nat) (m' : bS), 1100 ≤ n → Mq m m' → ∃ m1, R_victimFor n m' M = some (r, m1) ∧ Mq m m1 := by
  obtain ⟨sp, hsp⟩ := L.spr
  have G := X.1
  have I := G.2.1
  refine ⟨vic w (vcd kk w sp M) 64, ?_, fun n k1 xx h1 hn => ?_, fun n m' hn hm => ?_⟩
  · rcases vic_in (w := w) (cd := vcd kk w sp M) 64 with h | ⟨s, h1, h2, h3, h4⟩
    · exact Or.inl h
    · refine Or.inr ⟨s, h1, h2, h3, ?_⟩
      unfold vcd at h4
      rw [Bool.and_eq_true, Bool.and_eq_true, Bool.and_eq_true, decide_eq_true_iff, decide_eq_true_iff] at h4
      refine ⟨h4.1, ?_, h4.2.2.1⟩
      by_cases c : M ≤ spn w s
      · exact c
      · have := Nat.div_eq_of_lt (show spn w s < M by omega)
        have h5 := h4.2.2.1
        rw [this] at h5
        exact absurd h5 (Nat.not_lt_zero _)
  · have e : vcd kk w sp M = vcd k1 w sp M := by funext s; unfold vcd pin; rw [h1]
    rw [e]
    unfold K0_victimFor
    exact K0_vf4 I hM hsp 64 n 0 xx (by omega) (by omega)
  · unfold R_victimFor
    exact R0_vf4 G P hM hsp 64 n 0 m' (by omega) hm (by omega)
theorem K1_vf4 (I : IF w) (hM : isN M) (hsp : ∀ s, s < 64 → 0 < spn w s → LWs (K1_letsGo tt tx) m w s (sp s)) : ∀ (d n k : Nat) (xx : bS), k + d = 64 → d + 1001 ≤ n → ∃ xx', K1_victimFor_4 tt tx n (kk, w, xx) M (vic w (vcd kk w sp M) k) k = some (vic w (vcd kk w sp M) 64, (kk, w, xx'))
  | 0, n, k, xx, hk, hn => by
    obtain ⟨n, rfl⟩ : ∃ y, n = y + 1 := ⟨n - 1, by omega⟩
    have : k = 64 := by omega
    subst this
    refine ⟨xx, ?_⟩
    rw [K1_victimFor_4, if_pos (by omega)]
  | d + 1, n, k, xx, hk, hn => by
    obtain ⟨n, rfl⟩ : ∃ y, n = y + 1 := ⟨n - 1, by omega⟩
    have hk64 : k < 64 := by omega
    obtain ⟨e4, e3, hs4, hh, _⟩ := I.1 k hk64
    have tail : ∀ (B : Int) (x1 : bS), vic w (vcd kk w sp M) (k + 1) = B → ∃ xx', K1_victimFor_4 tt tx n (kk, w, x1) M B ((k + 1 : Nat) : Int) = some (vic w (vcd kk w sp M) 64, (kk, w, xx')) := fun B x1 e => by
      rw [← e]; exact K1_vf4 I hM hsp d n (k + 1) x1 (by omega) (by omega)
    have hv : vic w (vcd kk w sp M) (k + 1) = if (0 < spn w k ∧ (vic w (vcd kk w sp M) k = -1 ∨ w.2 5 k < w.2 5 (vic w (vcd kk w sp M) k).toNat)) ∧ vcd kk w sp M k = true then (k : Int) else vic w (vcd kk w sp M) k := rfl
    have hin := vic_in (w := w) (cd := vcd kk w sp M) k
    generalize vic w (vcd kk w sp M) k = B at hv hin ⊢
    have hb : (0 : Int) ≤ (k : Int) ∧ (k : Int) < 64 := by omega
    have k1 : ay_w ((k : Int) + 1) = ((k + 1 : Nat) : Int) := wad1 (by omega)
    have f52 : 0 < spn w k → (B = -1 ∨ w.2 5 k < w.2 5 B.toNat) → ∃ xx', K1_victimFor_52 tt tx (fun s l1 l2 l3 => K1_victimFor_4 tt tx n s l1 l2 l3) n (kk, w, xx) M B k (spn w k) = some (vic w (vcd kk w sp M) 64, (kk, w, xx')) := fun h0 hB => by
      unfold K1_victimFor_52
      rw [bb_s (W_holds_ok n I hk64 h0)]
      dsimp only
      rw [k1]
      clear k1
      have no : vcd kk w sp M k = false → ∀ x1 : bS, ∃ xx', K1_victimFor_4 tt tx n (kk, w, x1) M B ((k + 1 : Nat) : Int) = some (vic w (vcd kk w sp M) 64, (kk, w, xx')) := fun e x1 => tail B x1 (by rw [hv, e, if_neg (fun y => by cases y.2)])
      by_cases c1 : hld w k < spn w k
      · rw [if_neg (by omega), bb_s (K_isPinned_ok n I hk64), bi_0]
        cases c2 : pin kk w k
        · rw [if_neg (by decide), bb_s (W_hollow_ok I hk64 h0 hM (by omega))]
          by_cases c3 : fs (emp w k M) (spn w k / M) < spn w k / M
          · rw [if_pos c3, if_neg (by omega)]
            obtain ⟨x1, r1⟩ := (hsp k hk64 h0).1 n kk xx (by omega)
            rw [bb_s r1, bi_0]
            cases c4 : sp k
            · rw [if_neg (by decide)]
              exact no (by unfold vcd; rw [c2, c4, Bool.and_false, Bool.and_false, Bool.and_false]) x1
            · rw [if_pos rfl]
              refine tail k x1 ?_
              have e : vcd kk w sp M k = true := by unfold vcd; rw [decide_eq_true c1, c2, decide_eq_true c3, c4]; rfl
              rw [hv, if_pos ⟨⟨h0, hB⟩, e⟩]
          · rw [if_neg c3, if_pos rfl]
            exact no (by unfold vcd; rw [decide_eq_false c3, Bool.false_and, Bool.and_false, Bool.and_false]) xx
        · rw [if_pos rfl]
          exact no (by unfold vcd; rw [c2]; exact Bool.and_false _) xx
      · rw [if_pos (by omega)]
        exact no (by unfold vcd; rw [decide_eq_false c1, Bool.false_and]) xx
    rw [K1_victimFor_4, if_neg (by omega), if_pos hb]
    dsimp only
    rw [Int.toNat_natCast, e4, k1]
    clear k1
    by_cases h0 : 0 < spn w k
    · rw [if_neg (by omega)]
      by_cases cB : B = -1
      · rw [if_pos cB]; exact f52 h0 (Or.inl cB)
      · obtain ⟨s, s1, s2, _⟩ := hin.resolve_left cB
        rw [if_neg cB, if_pos hb, if_pos (by omega)]
        by_cases c5 : w.2 5 B.toNat ≤ w.2 5 k
        · rw [if_pos c5]
          refine tail B xx ?_
          rw [hv, if_neg (fun y => by rcases y.1.2 with y | y; exact cB y; omega)]
        · rw [if_neg c5]; exact f52 h0 (Or.inr (by omega))
    · rw [if_pos (by omega)]
      refine tail B xx ?_
      rw [hv, if_neg (fun y => h0 y.1.1)]
theorem R1_vf4 (G : GW w (m.2 0) T) (P : PN kk m w) (hM : isN M) (hsp : ∀ s, s < 64 → 0 < spn w s → LWs (K1_letsGo tt tx) m w s (sp s)) : ∀ (d n k : Nat) (m' : bS), k + d = 64 → Mq m m' → d + 1001 ≤ n → ∃ m1, R_victimFor_4 n m' M (vic w (vcd kk w sp M) k) k = some (vic w (vcd kk w sp M) 64, m1) ∧ Mq m m1
  | 0, n, k, m', hk, hm, hn => by
    obtain ⟨n, rfl⟩ : ∃ y, n = y + 1 := ⟨n - 1, by omega⟩
    have : k = 64 := by omega
    subst this
    refine ⟨m', ?_, hm⟩
    rw [R_victimFor_4, if_pos (by omega)]
  | d + 1, n, k, m', hk, hm, hn => by
    obtain ⟨n, rfl⟩ : ∃ y, n = y + 1 := ⟨n - 1, by omega⟩
    have hk64 : k < 64 := by omega
    obtain ⟨R, I, T', J, hT, hT2⟩ := id G
    have HF : RF w (m'.2 0) := by rw [hm.ar]; exact R.1
    have tail : ∀ (B : Int) (m1 : bS), Mq m m1 → vic w (vcd kk w sp M) (k + 1) = B → ∃ m2, R_victimFor_4 n m1 M B ((k + 1 : Nat) : Int) = some (vic w (vcd kk w sp M) 64, m2) ∧ Mq m m2 := fun B m1 hm1 e => by
      rw [← e]; exact R1_vf4 G P hM hsp d n (k + 1) m1 (by omega) hm1 (by omega)
    have hv : vic w (vcd kk w sp M) (k + 1) = if (0 < spn w k ∧ (vic w (vcd kk w sp M) k = -1 ∨ w.2 5 k < w.2 5 (vic w (vcd kk w sp M) k).toNat)) ∧ vcd kk w sp M k = true then (k : Int) else vic w (vcd kk w sp M) k := rfl
    have hin := vic_in (w := w) (cd := vcd kk w sp M) k
    generalize vic w (vcd kk w sp M) k = B at hv hin ⊢
    have f40 : 0 < spn w k → (B = -1 ∨ w.2 5 k < w.2 5 B.toNat) → ∃ m2, R_victimFor_40 (fun s l1 l2 l3 => R_victimFor_4 n s l1 l2 l3) n m' M B k = some (vic w (vcd kk w sp M) 64, m2) ∧ Mq m m2 := fun h0 hB => by
      unfold R_victimFor_40
      obtain ⟨m1, r1, r2⟩ := R_canBreak_ok (n := n) G P hm hk64 h0 hM (hsp k hk64 h0) (by omega)
      rw [bb_s r1, bi_0, wad1 (by omega)]
      cases c : vcd kk w sp M k
      · rw [if_neg (by decide)]
        refine tail B m1 r2 ?_
        rw [hv, c, if_neg (fun y => by cases y.2)]
      · rw [if_pos rfl]
        refine tail k m1 r2 ?_
        rw [hv, c, if_pos ⟨⟨h0, hB⟩, rfl⟩]
    have f0 : R_frameAt n m' k 0 = some (m'.2 0 (914 + 5 * k), m') := R_frameAt_ok n m' hk64 (by omega) (by omega)
    have hbg := beg_iff I HF hk64
    rw [beg_t] at hbg
    rw [R_victimFor_4, if_neg (by omega), bb_s f0, wad1 (by omega)]
    by_cases h0 : 0 < spn w k
    · rw [if_pos (hbg.mpr h0)]
      by_cases cB : B = -1
      · rw [if_pos cB]; exact f40 h0 (Or.inl cB)
      · obtain ⟨s, s1, s2, s3, _⟩ := hin.resolve_left cB
        have g1 : R_frameAt n m' k 4 = some (w.2 5 k, m') := by rw [R_frameAt_ok n m' hk64 (by omega) (by omega), show (4 : Int).toNat = 4 from rfl, (HF.2.1 k hk64 h0).2.2.2]
        have g2 : R_frameAt n m' B 4 = some (w.2 5 B.toNat, m') := by rw [s2, R_frameAt_ok n m' (by omega) (by omega) (by omega), show (4 : Int).toNat = 4 from rfl, (HF.2.1 s (by omega) s3).2.2.2, Int.toNat_natCast]
        rw [if_neg cB, bb_s g1, bb_s g2]
        by_cases c5 : w.2 5 B.toNat ≤ w.2 5 k
        · rw [if_pos c5]
          refine tail B m' hm ?_
          rw [hv, if_neg (fun y => by rcases y.1.2 with y | y; exact cB y; omega)]
        · rw [if_neg c5]; exact f40 h0 (Or.inr (by omega))
    · rw [if_neg (fun y => h0 (hbg.mp y))]
      refine tail B m' hm ?_
      rw [hv, if_neg (fun y => h0 y.1.1)]
/-- whom a preemption meets, on both sides -/
theorem victim1_ok (X : GX z w (m.2 0) T) (L : LW (K1_wanted tt tx) (K1_letsGo tt tx) m w) (P : PN kk m w) (hM : isN M) : ∃ r : Int, VR w M r ∧ (∀ (n : Nat) (k1 xx : bS), k1.1 3 = kk.1 3 → 1100 ≤ n → ∃ xx', K1_victimFor tt tx n (k1, w, xx) M = some (r, (k1, w, xx'))) ∧ ∀ (n : Nat) (m' : bS), 1100 ≤ n → Mq m m' → ∃ m1, R_victimFor n m' M = some (r, m1) ∧ Mq m m1 := by
  obtain ⟨sp, hsp⟩ := L.spr
  have G := X.1
  have I := G.2.1
  refine ⟨vic w (vcd kk w sp M) 64, ?_, fun n k1 xx h1 hn => ?_, fun n m' hn hm => ?_⟩
  · rcases vic_in (w := w) (cd := vcd kk w sp M) 64 with h | ⟨s, h1, h2, h3, h4⟩
    · exact Or.inl h
    · refine Or.inr ⟨s, h1, h2, h3, ?_⟩
      unfold vcd at h4
      rw [Bool.and_eq_true, Bool.and_eq_true, Bool.and_eq_true, decide_eq_true_iff, decide_eq_true_iff] at h4
      refine ⟨h4.1, ?_, h4.2.2.1⟩
      by_cases c : M ≤ spn w s
      · exact c
      · have := Nat.div_eq_of_lt (show spn w s < M by omega)
        have h5 := h4.2.2.1
        rw [this] at h5
        exact absurd h5 (Nat.not_lt_zero _)
  · have e : vcd kk w sp M = vcd k1 w sp M := by funext s; unfold vcd pin; rw [h1]
    rw [e]
    unfold K1_victimFor
    exact K1_vf4 I hM hsp 64 n 0 xx (by omega) (by omega)
  · unfold R_victimFor
    exact R1_vf4 G P hM hsp 64 n 0 m' (by omega) hm (by omega)
end
