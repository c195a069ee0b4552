/-! Clauses: figures and words, on both sides. -/
def FM (T : Nat) (m m' : bS) : Prop := (∀ k, k < 7 ∨ 20 ≤ k → m'.1 k = m.1 k) ∧ (∀ j, j ≠ 2 → j ≠ 15 → m'.2 j = m.2 j) ∧ ∀ k, k < 729 * T ∨ 729 * T + 729 ≤ k → m'.2 2 k = m.2 2 k
def BX (q : bS) (L : Nat) (K S A : Nat → Int) (N : Nat) (s m : bS) (t k i u T : Nat) : Prop := CS K S A N s t ∧ MS q L K S A N m t ∧ (s.1 13 = 0 ∧ s.1 11 = (i : Int) ∧ i ≤ 2 * t ∧ s.1 12 = (k : Int)) ∧ (m.1 13 = (u : Int) ∧ u ≤ t) ∧ m.1 12 = ((729 * T : Nat) : Int) ∧ T < 4
def GS (k : Nat) (s s' : bS) : Prop := (∀ j, j < 4 * k + 1 → s'.2 5 j = s.2 5 j) ∧ s'.1 15 = s.1 15 ∧ s'.1 14 = s.1 14
def GM (T k u : Nat) (m m' : bS) : Prop := FM T m m' ∧ (∀ j, j < 2 + 5 * k ∨ (121 ≤ j ∧ j < 121 + 2 * u) → m'.2 2 (729 * T + j) = m.2 2 (729 * T + j)) ∧ m'.1 19 = m.1 19
/-- refused on both sides -/
def FO (T : Nat) (F : Option (Int × bS)) (RF : Nat → Option (Int × bS)) (s m : bS) : Prop := ∃ s', F = some (0, s') ∧ s'.1 13 ≠ 0 ∧ s'.1 15 = s.1 15 ∧ ∀ n, 3000 ≤ n → ∃ mf, RF n = some (s'.1 13, mf) ∧ mf.1 8 = s'.1 14 ∧ FM T m mf
/-- a text's clause, on both sides -/
def CF (s m : bS) (T j : Nat) : Prop := ∃ st : Nat, st < 9 ∧ m.2 2 (729 * T + 1 + 5 * j) = (st : Int) ∧ s.2 5 (4 * j) = 200 + (st : Int) ∧ (2 ≤ st → s.2 5 (4 * j + 1) = m.2 2 (729 * T + 1 + 5 * j + 1) ∧ 0 ≤ s.2 5 (4 * j + 1) ∧ s.2 5 (4 * j + 1) ≤ 60) ∧ (st = 3 ∨ st = 4 → s.2 5 (4 * j + 2) = m.2 2 (729 * T + 1 + 5 * j + 2) ∧ 0 ≤ s.2 5 (4 * j + 2) ∧ s.2 5 (4 * j + 2) ≤ 3) ∧ (st = 4 → s.2 5 (4 * j + 3) = m.2 2 (729 * T + 1 + 5 * j + 3) ∧ 0 ≤ s.2 5 (4 * j + 3) ∧ s.2 5 (4 * j + 3) ≤ 99)
section
variable {q s s' s2 m m' m1 m2 : bS} {K S A C R : Nat → Int} {L n n' i i' j k t t' N u u' T x ix st d : Nat} {lo hi l1 f v : Int} {F : Option (Int × bS)} {RF : Nat → Option (Int × bS)}
theorem FM.rf' : FM T m m := ⟨fun _ _ => rfl, fun _ _ _ => rfl, fun _ _ => rfl⟩
theorem FM.tr (h1 : FM T m m') (h2 : FM T m' m1) : FM T m m1 := ⟨fun k h => (h2.1 k h).trans (h1.1 k h), fun j a b => (h2.2.1 j a b).trans (h1.2.1 j a b), fun k h => (h2.2.2 k h).trans (h1.2.2 k h)⟩
theorem FM_FR (h : FR m m') (hT : m.1 12 = ((729 * T : Nat) : Int)) (hu : m.1 13 = (u : Int)) : FM T m m' := ⟨fun k hk => h.1 k (by omega), h.2.1, fun k hk => h.2.2.1 k (by rw [hT, hu]; omega)⟩
theorem FM_NX (h : NX m m') : FM T m m' := ⟨fun k hk => h.1 k (by omega), fun j _ _ => by rw [h.2], fun k _ => by rw [h.2]⟩
theorem FM_a (h : x < 729) : FM T m (bA m 2 ((729 * T + x : Nat) : Int) v) := ⟨fun _ _ => rfl, fun j h _ => bA_2 h, fun k hk => by
  show ay_u (m.2 2) ((729 * T + x : Nat) : Int).toNat v k = _
  rw [Int.toNat_natCast, ay_ux (by omega)]⟩
theorem GM.rf' : GM T k u m m := ⟨FM.rf', fun _ _ => rfl, rfl⟩
theorem GM.tr (h1 : GM T k u m m') (h2 : GM T k u m' m1) : GM T k u m m1 := ⟨h1.1.tr h2.1, fun j h => (h2.2.1 j h).trans (h1.2.1 j h), h2.2.2.trans h1.2.2⟩
theorem GM_NX (h : NX m m') : GM T k u m m' := ⟨FM_NX h, fun j _ => by rw [h.2], h.1 19 (by omega)⟩
theorem GM_a (h : x < 121) (h2 : 2 + 5 * k ≤ x) : GM T k u m (bA m 2 ((729 * T + x : Nat) : Int) v) := ⟨FM_a (by omega), fun j hj => by
  show ay_u (m.2 2) ((729 * T + x : Nat) : Int).toNat v (729 * T + j) = _
  rw [Int.toNat_natCast, ay_ux (by omega)], rfl⟩
theorem GS.tr (h1 : GS k s s') (h2 : GS k s' s2) : GS k s s2 := ⟨fun j h => (h2.1 j h).trans (h1.1 j h), h2.2.1.trans h1.2.1, h2.2.2.trans h1.2.2⟩
theorem GS_89 {x y : Int} : GS k s (bI (bI s 8 x) 9 y) := ⟨fun _ _ => rfl, rfl, rfl⟩
theorem GS_5 (h : 4 * k + 1 ≤ x) (hx : x < 1000) : GS k s (bA s 5 (x : Int) v) := ⟨fun j hj => by rw [bA_e (by omega), if_neg (by omega)], rfl, rfl⟩
theorem b2_e {x : Nat} : (bA m 2 (x : Int) v).2 2 j = if j = x then v else m.2 2 j := by
  show ay_u (m.2 2) ((x : Int)).toNat v j = _
  rw [Int.toNat_natCast]
  rfl
theorem w4k (h : 4 * k + ix < 1000) : ay_w (ay_w ((k : Int) * 4) + (ix : Int)) = ((4 * k + ix : Nat) : Int) := by
  rw [ay_wi (x := (k : Int) * 4) (by omega) (by omega), ay_wi (by omega) (by omega)]; omega
/-- a number -/
theorem fig_ok (B : BY q L) (H : TB (q.2 0) L N K S A) (hb : BX q L K S A N s m t k i u T) (hk : k < 24) (i1 : 1 ≤ ix) (i2 : ix ≤ 3) (hlo : 0 ≤ lo) (hhi : hi ≤ 9999) : (∃ f, f ≠ 0 ∧ D_expectNumber q n s (ix : Int) lo hi = some (0, rf s f (S t)) ∧ ∀ n', R_figure n' m ((729 * T + (1 + 5 * k + ix) : Nat) : Int) lo hi = some (f, m)) ∨ ∃ m', (lo ≤ A t ∧ A t ≤ hi) ∧ D_expectNumber q n s (ix : Int) lo hi = some (0, bI (bI (bA s 5 ((4 * k + ix : Nat) : Int) (A t)) 8 ((t + 1 : Nat) : Int)) 9 (K (t + 1))) ∧ (∀ n', 700 ≤ n' → R_figure n' m ((729 * T + (1 + 5 * k + ix) : Nat) : Int) lo hi = some (0, m')) ∧ BX q L K S A N (bI (bI (bA s 5 ((4 * k + ix : Nat) : Int) (A t)) 8 ((t + 1 : Nat) : Int)) 9 (K (t + 1))) m' (t + 1) k i u T ∧ NX (bA m 2 ((729 * T + (1 + 5 * k + ix) : Nat) : Int) (A t)) m' := by
  obtain ⟨C, M, ⟨w1, w2, w3, w4⟩, ⟨u1, u2⟩, T1, T2⟩ := hb
  have hRT := M.2.2.1
  have hN := C.2.2
  have hk9 : s.1 9 = K t := C.1.2.2
  have hs8 : s.1 8 = (t : Int) := C.1.2.1
  have hs3 : s.2 3 = A := C.2.1.2.2
  by_cases c2 : K t = 2
  · have a1 := (tok_1 hRT).2 c2
    have am := tok_am hRT c2
    have eD : D_expectNumber q n s (ix : Int) lo hi = if A t < lo then D_expectNumber_49 q n s else (if A t ≤ hi then (bb (D_advance q n (bA s 5 ((4 * k + ix : Nat) : Int) (A t)) ) fun v1 s1 => some (0, s1)) else D_expectNumber_49 q n s) := by
      unfold D_expectNumber
      rw [if_pos w1, hk9, if_pos c2, hs8, if_pos ⟨by omega, by omega⟩, Int.toNat_natCast, hs3]
      by_cases c : A t < lo
      · rw [if_pos c, if_pos c]
      · rw [if_neg c, if_neg c, if_pos ⟨by omega, by omega⟩]
        by_cases d : A t ≤ hi
        · rw [if_pos d, if_pos d, if_pos ⟨by omega, by omega⟩, w4, w4k (k := k) (ix := ix) (by omega), if_pos ⟨by omega, by omega⟩]
        · rw [if_neg d, if_neg d]
    have eR : ∀ n', R_figure n' m ((729 * T + (1 + 5 * k + ix) : Nat) : Int) lo hi = if lo ≤ m.1 10 ∧ m.1 10 ≤ hi then (bb (R_nextToken n' (bA m 2 ((729 * T + (1 + 5 * k + ix) : Nat) : Int) (m.1 10)) ) fun v2 s2 => some (0, s2)) else some (2, m) := fun n' => by
      unfold R_figure
      rw [if_pos a1, b1_s (R_isIn_ok n' _ lo hi)]
      by_cases c : lo ≤ m.1 10 ∧ m.1 10 ≤ hi
      · rw [if_pos c, if_neg (by decide), if_pos ⟨by omega, by omega⟩, if_pos c]
      · rw [if_neg c, if_pos rfl, if_neg c]
    by_cases c : lo ≤ A t ∧ A t ≤ hi
    · have htN : t < N := K_lt H hN.1 (by omega)
      have e10 : m.1 10 = A t := am.1 (by omega)
      have Mp : MS q L K S A N (bA m 2 ((729 * T + (1 + 5 * k + ix) : Nat) : Int) (A t)) t := MS_c M (fun _ _ => rfl) (bA_2 (by decide))
      obtain ⟨m', x1, x2, x3⟩ := nxtt B H Mp htN
      have Cp : CS K S A N (bA s 5 ((4 * k + ix : Nat) : Int) (A t)) t := CS_c C rfl rfl rfl (bA_2 (by decide)) (bA_2 (by decide)) (bA_2 (by decide))
      have Ca := adv (q := q) (n := n) Cp htN
      refine Or.inr ⟨m', c, ?_, fun n' hn' => ?_, ⟨Ca.2, x2, ⟨w1, w2, by omega, w4⟩, ⟨(x3.1 13 (by omega)).trans u1, by omega⟩, (x3.1 12 (by omega)).trans T1, T2⟩, x3⟩
      · rw [eD, if_neg (by omega), if_pos c.2, bb_s Ca.1]
      · rw [eR, e10, if_pos c, bb_s (x1 n' hn')]
    · refine Or.inl ⟨2, by decide, ?_, fun n' => ?_⟩
      · have e49 : D_expectNumber_49 q n s = some (0, rf s 2 (S t)) := by
          unfold D_expectNumber_49
          rw [bb_s (refuse_ok C w1)]
        rw [eD, e49]
        by_cases d : A t < lo
        · rw [if_pos d]
        · rw [if_neg d, if_neg (by omega)]
      · rw [eR, if_neg (by
          intro h
          by_cases d : A t ≤ 9999
          · rw [am.1 d] at h; exact c h
          · have := am.2.1 (by omega); omega)]
  · refine Or.inl ⟨1, by decide, ?_, fun n' => ?_⟩
    · unfold D_expectNumber D_expectNumber_15
      rw [if_pos w1, hk9, if_neg c2, bb_s (refuse_ok C w1)]
    · unfold R_figure
      rw [if_neg (fun h => c2 ((tok_1 hRT).1 h))]
/-- a word -/
theorem wrd_ok (B : BY q L) (H : TB (q.2 0) L N K S A) (hb : BX q L K S A N s m t k i u T) (hj : j < 28) : (D_expect q n s (200 + (j : Int)) = some (0, rf s 1 (S t)) ∧ ∀ n', R_isWord n' m ((wcd.getD j 0 : Nat) : Int) = some (0, m)) ∨ ∃ m', D_expect q n s (200 + (j : Int)) = some (0, bI (bI s 8 ((t + 1 : Nat) : Int)) 9 (K (t + 1))) ∧ (∀ n', R_isWord n' m ((wcd.getD j 0 : Nat) : Int) = some (1, m)) ∧ (∀ n', 700 ≤ n' → R_nextToken n' m = some (0, m')) ∧ BX q L K S A N (bI (bI s 8 ((t + 1 : Nat) : Int)) 9 (K (t + 1))) m' (t + 1) k i u T ∧ NX m m' := by
  obtain ⟨C, M, ⟨w1, w2, w3, w4⟩, ⟨u1, u2⟩, T1, T2⟩ := hb
  have hRT := M.2.2.1
  have hN := C.2.2
  by_cases c : K t = 200 + (j : Int)
  · have htN : t < N := K_lt H hN.1 (by omega)
    obtain ⟨m', x1, x2, x3⟩ := nxtt B H M htN
    exact Or.inr ⟨m', exp_y C w1 c htN, fun n' => isw_y hRT hj c, x1, ⟨(adv (q := q) (n := 0) C htN).2, x2, ⟨w1, w2, by omega, w4⟩, ⟨(x3.1 13 (by omega)).trans u1, by omega⟩, (x3.1 12 (by omega)).trans T1, T2⟩, x3⟩
  · exact Or.inl ⟨exp_n C w1 c, fun n' => isw_n hRT hj c⟩
theorem BX_DD (hb : BX q L K S A N s m t k i u T) (hf : f ≠ 0) : DD K S A N (rf s f (S t)) := by
  have := hb.2.2.1.2.1
  have := hb.2.2.1.2.2.1
  have := hb.1.2.2
  exact rf_DD hb.1 hf (by omega) (by omega)
theorem FO_1 (hb : BX q L K S A N s m t k i u T) (hf : f ≠ 0) (hF : ∃ v, F = some (0, bI (rf s f (S t)) 12 v) ∨ F = some (0, rf s f (S t))) (hR : ∀ n, 3000 ≤ n → RF n = some (f, m)) : FO T F RF s m := by
  obtain ⟨v, h | h⟩ := hF
  · exact ⟨_, h, hf, rfl, fun n hn => ⟨m, hR n hn, hb.2.1.2.1, FM.rf'⟩⟩
  · exact ⟨_, h, hf, rfl, fun n hn => ⟨m, hR n hn, hb.2.1.2.1, FM.rf'⟩⟩
theorem FO_up (h : FO T F RF s2 m2) (hs : s2.1 15 = s.1 15) (hm : FM T m m2) : FO T F RF s m := by
  obtain ⟨s', a, b, c, e⟩ := h
  refine ⟨s', a, b, c.trans hs, fun n hn => ?_⟩
  obtain ⟨mf, x, y, z⟩ := e n hn
  exact ⟨mf, x, y, hm.tr z⟩
theorem FO_c {RF' : Nat → Option (Int × bS)} (h : FO T F RF s m) (hR : ∀ n, 3000 ≤ n → RF' n = RF n) : FO T F RF' s m := by
  obtain ⟨s', a, b, c, e⟩ := h
  refine ⟨s', a, b, c, fun n hn => ?_⟩
  rw [hR n hn]; exact e n hn
/-- behind a fault a clause ends -/
theorem d243 (h : s.1 13 ≠ 0) : D_readClause_243 q d n s = some (0, bI s 12 (ay_w (s.1 12 + 1))) := by
  unfold D_readClause_243
  rw [bb_s (dd_exp h)]
theorem d221 (h : s.1 13 ≠ 0) : D_readClause_221 q d n s l1 = some (0, bI s 12 (ay_w (s.1 12 + 1))) := by
  unfold D_readClause_221
  rw [bb_s (dd_exp h), bb_s (dd_num h), d243 h]
  by_cases c : l1 = 204
  · rw [if_pos c]
  · rw [if_neg c]
theorem sort_ok (H : RT l1 v m) : R_sortOf n m = some (if 200 ≤ l1 ∧ l1 ≤ 208 then l1 - 200 else -1, m) := by
  unfold R_sortOf
  rw [b1_s w_0]
  by_cases d0 : l1 = 200
  · rw [bb_s (isw_y (j := 0) H (by decide) (by omega)), if_neg (by decide), if_pos (by omega), d0]; rfl
  · rw [bb_s (isw_n (j := 0) H (by decide) (by omega)), if_pos rfl, b1_s w_1]
    by_cases d1 : l1 = 201
    · rw [bb_s (isw_y (j := 1) H (by decide) (by omega)), if_neg (by decide), if_pos (by omega), d1]; rfl
    · rw [bb_s (isw_n (j := 1) H (by decide) (by omega)), if_pos rfl, b1_s w_2]
      by_cases d2 : l1 = 202
      · rw [bb_s (isw_y (j := 2) H (by decide) (by omega)), if_neg (by decide), if_pos (by omega), d2]; rfl
      · rw [bb_s (isw_n (j := 2) H (by decide) (by omega)), if_pos rfl, b1_s w_3]
        by_cases d3 : l1 = 203
        · rw [bb_s (isw_y (j := 3) H (by decide) (by omega)), if_neg (by decide), if_pos (by omega), d3]; rfl
        · rw [bb_s (isw_n (j := 3) H (by decide) (by omega)), if_pos rfl, b1_s w_4]
          by_cases d4 : l1 = 204
          · rw [bb_s (isw_y (j := 4) H (by decide) (by omega)), if_neg (by decide), if_pos (by omega), d4]; rfl
          · rw [bb_s (isw_n (j := 4) H (by decide) (by omega)), if_pos rfl, b1_s w_5]
            by_cases d5 : l1 = 205
            · rw [bb_s (isw_y (j := 5) H (by decide) (by omega)), if_neg (by decide), if_pos (by omega), d5]; rfl
            · rw [bb_s (isw_n (j := 5) H (by decide) (by omega)), if_pos rfl, b1_s w_6]
              by_cases d6 : l1 = 206
              · rw [bb_s (isw_y (j := 6) H (by decide) (by omega)), if_neg (by decide), if_pos (by omega), d6]; rfl
              · rw [bb_s (isw_n (j := 6) H (by decide) (by omega)), if_pos rfl, b1_s w_7]
                by_cases d7 : l1 = 207
                · rw [bb_s (isw_y (j := 7) H (by decide) (by omega)), if_neg (by decide), if_pos (by omega), d7]; rfl
                · rw [bb_s (isw_n (j := 7) H (by decide) (by omega)), if_pos rfl, b1_s w_8]
                  by_cases d8 : l1 = 208
                  · rw [bb_s (isw_y (j := 8) H (by decide) (by omega)), if_neg (by decide), if_pos (by omega), d8]; rfl
                  · rw [bb_s (isw_n (j := 8) H (by decide) (by omega)), if_pos rfl, if_neg (by omega)]
end
