/-! Reading laws: where both sides stand, tokens and words. -/
def TB (b : Nat → Int) (L N : Nat) (K S A : Nat → Int) : Prop := (N ≤ L ∧ S N = (L : Int) ∧ K N = 0) ∧ ∀ t, t < N → ∃ st en : Nat, S t = (st : Int) ∧ TKd b L st en (K t) (A t) ∧ SK b L en (S (t + 1)).toNat
def CS (K S A : Nat → Int) (N : Nat) (s : bS) (t : Nat) : Prop := (s.1 7 = (N : Int) ∧ s.1 8 = (t : Int) ∧ s.1 9 = K t) ∧ (s.2 1 = K ∧ s.2 2 = S ∧ s.2 3 = A) ∧ t ≤ N ∧ N ≤ 300
def MS (q : bS) (L : Nat) (K S A : Nat → Int) (N : Nat) (m : bS) (t : Nat) : Prop := RM q m L ∧ m.1 8 = S t ∧ RT (K t) (A t) m ∧ ∃ en : Nat, m.1 7 = (en : Int) ∧ (t < N → ∃ st : Nat, S t = (st : Int) ∧ TKd (q.2 0) L st en (K t) (A t) ∧ SK (q.2 0) L en (S (t + 1)).toNat)
def rk (x : Int) : Int := (if x < 40 then (if x = 22 then 1 else (if x = 21 then 2 else (if x = 20 then 3 else (if x < 10 then (if x < 8 then (if x < 6 then 7 else 5) else 6) else 4)))) else 0)
def opA (f : Nat → Int) : Nat → Int
  | 0 => -1
  | p + 1 => if 40 ≤ f p then (p : Int) else opA f p
def opN (f : Nat → Int) (p : Nat) : Int := if opA f p < 0 then -1 else f (opA f p).toNat
def cmA (f : Nat → Int) : Nat → Bool
  | 0 => false
  | p + 1 => if rk (f p) ≤ 4 then decide (rk (f p) = 4) else cmA f p
/-- a piece of code is written down -/
def em (T u : Nat) (m : bS) (o v : Int) : bS := bI (bA (bA m 2 ((729 * T + 121 + 2 * u : Nat) : Int) o) 2 ((729 * T + 121 + 2 * u + 1 : Nat) : Int) v) 13 ((u + 1 : Nat) : Int)
def RC (T : Nat) (m : bS) : Nat → Int := fun k => m.2 2 (729 * T + 121 + k)
/-- the uppermost of the pile is written down -/
def ppd (T u p : Nat) (m : bS) : bS := if rk (m.2 15 p) = 7 ∨ m.2 15 p = 20 then bI (em T u (bI m 16 (p : Int)) (m.2 15 p) 0) 17 (ay_w (m.1 17 - 1)) else em T u (bI m 16 (p : Int)) (m.2 15 p) 0
section
variable {q s m m' : bS} {b f g K S A : Nat → Int} {L n st en i j d k t N p u T : Nat} {x y kd am o v l : Int}
theorem sg_b : ∀ x ∈ sgs, 35 ≤ x ∧ x ≤ 62 ∧ x ≠ 58 := by decide
theorem TKd_0 (h : TKd b L st en kd am) : kd ≠ 0 := by
  rcases h.2 with ⟨_, _, _, a4, _⟩ | ⟨_, _, _, a4⟩ | ⟨a1, _, _, _, a5⟩ | ⟨a1, _, _, a4⟩ | ⟨_, _, _, _, _, a6⟩
  · omega
  · rcases a4 with ⟨j, _, _, h⟩ | ⟨h, _⟩ <;> omega
  · omega
  · omega
  · rcases a6 with ⟨h1, h2⟩ | ⟨_, h2⟩
    · have := sg_b _ h1
      omega
    · omega
theorem K_lt (H : TB b L N K S A) (ht : t ≤ N) (h : K t ≠ 0) : t < N := by
  rcases Nat.lt_or_ge t N with c | c
  · exact c
  · exact absurd (by rw [show t = N by omega]; exact H.1.2.2) h
theorem K_nz (H : TB b L N K S A) (ht : t < N) : K t ≠ 0 := by
  obtain ⟨st, en, _, h, _⟩ := H.2 t ht
  exact TKd_0 h
/-- on to the next token -/
theorem adv (C : CS K S A N s t) (ht : t < N) : D_advance q n s = some (0, bI (bI s 8 ((t + 1 : Nat) : Int)) 9 (K (t + 1))) ∧ CS K S A N (bI (bI s 8 ((t + 1 : Nat) : Int)) 9 (K (t + 1))) (t + 1) := by
  obtain ⟨⟨c1, c2, c3⟩, ⟨c4, c5, c6⟩, c7, c8⟩ := C
  refine ⟨?_, ⟨c1, rfl, rfl⟩, ⟨c4, c5, c6⟩, by omega, c8⟩
  unfold D_advance
  rw [c1, c2, if_neg (by omega), wad1 (by omega), if_pos ⟨by omega, by omega⟩, Int.toNat_natCast, c4]
theorem nxtt (B : BY q L) (H : TB (q.2 0) L N K S A) (M : MS q L K S A N m t) (ht : t < N) : ∃ m', (∀ n, 700 ≤ n → R_nextToken n m = some (0, m')) ∧ MS q L K S A N m' (t + 1) ∧ NX m m' := by
  obtain ⟨M1, M2, M3, en, M4, M5⟩ := M
  obtain ⟨st, s1, s2, s3⟩ := M5 ht
  by_cases c : t + 1 < N
  · obtain ⟨st', en', h1, h2, h3⟩ := H.2 (t + 1) c
    rw [h1, Int.toNat_natCast] at s3
    obtain ⟨m', r1, r2, r3, r4, r5⟩ := next_ok B M1 M4 s3 (Or.inr h2)
    exact ⟨m', r1, ⟨RM_c (r5.1 4 (by omega)) r5.2 M1, by rw [r2, h1], r4, en', r3, fun _ => ⟨st', h1, h2, h3⟩⟩, r5⟩
  · have e : t + 1 = N := by omega
    rw [e, H.1.2.1, Int.toNat_natCast] at s3
    obtain ⟨m', r1, r2, r3, r4, r5⟩ := next_ok (kd := 0) (am := A N) (en := L) B M1 M4 s3 (Or.inl ⟨rfl, rfl, rfl⟩)
    rw [e]
    exact ⟨m', r1, ⟨RM_c (r5.1 4 (by omega)) r5.2 M1, by rw [r2, H.1.2.1], by rw [H.1.2.2]; exact r4, L, r3, fun h => by omega⟩, r5⟩
theorem MS_c (M : MS q L K S A N m t) (h1 : ∀ k, k = 4 ∨ (7 ≤ k ∧ k ≤ 11) → m'.1 k = m.1 k) (h3 : m'.2 3 = m.2 3) : MS q L K S A N m' t := by
  obtain ⟨M1, M2, M3, en, M4, M5⟩ := M
  refine ⟨⟨by rw [h1 4 (by omega)]; exact M1.1, by rw [h3]; exact M1.2⟩, by rw [h1 8 (by omega)]; exact M2, ?_, en, by rw [h1 7 (by omega)]; exact M4, M5⟩
  unfold RT
  rw [h1 9 (by omega), h1 10 (by omega), h1 11 (by omega)]
  exact M3
/-- tokens, on both sides -/
theorem tok_sg (H : RT kd am m) (h1 : 6 ≤ x) (h2 : x ≤ 100) (h3 : x ≠ 58) : m.1 9 = x ↔ kd = x := by
  rcases H with ⟨a, b⟩ | ⟨a, b, _⟩ | ⟨a, b, _⟩ | ⟨a, b⟩ | ⟨a, b⟩ | ⟨a, b⟩ | ⟨a, b⟩
  · omega
  · omega
  · rcases b with b | ⟨j, _, b⟩ <;> omega
  · omega
  · omega
  · omega
  · omega
theorem tok_0 (H : RT kd am m) : m.1 9 = 0 ↔ kd = 0 := by
  rcases H with ⟨a, b⟩ | ⟨a, b, _⟩ | ⟨a, b, _⟩ | ⟨a, b⟩ | ⟨a, b⟩ | ⟨a, b⟩ | ⟨a, b⟩
  · omega
  · omega
  · rcases b with b | ⟨j, _, b⟩ <;> omega
  · omega
  · omega
  · omega
  · omega
theorem tok_1 (H : RT kd am m) : m.1 9 = 1 ↔ kd = 2 := by
  rcases H with ⟨a, b⟩ | ⟨a, b, _⟩ | ⟨a, b, _⟩ | ⟨a, b⟩ | ⟨a, b⟩ | ⟨a, b⟩ | ⟨a, b⟩
  · omega
  · omega
  · rcases b with b | ⟨j, _, b⟩ <;> omega
  · omega
  · omega
  · have := sg_b _ a; omega
  · omega
theorem tok_4 (H : RT kd am m) : m.1 9 = 4 ↔ kd = 160 := by
  rcases H with ⟨a, b⟩ | ⟨a, b, _⟩ | ⟨a, b, _⟩ | ⟨a, b⟩ | ⟨a, b⟩ | ⟨a, b⟩ | ⟨a, b⟩
  · omega
  · omega
  · rcases b with b | ⟨j, _, b⟩ <;> omega
  · omega
  · omega
  · have := sg_b _ a; omega
  · omega
theorem tok_5 (H : RT kd am m) : m.1 9 = 5 ↔ kd = 162 := by
  rcases H with ⟨a, b⟩ | ⟨a, b, _⟩ | ⟨a, b, _⟩ | ⟨a, b⟩ | ⟨a, b⟩ | ⟨a, b⟩ | ⟨a, b⟩
  · omega
  · omega
  · rcases b with b | ⟨j, _, b⟩ <;> omega
  · omega
  · omega
  · have := sg_b _ a; omega
  · omega
theorem tok_kd (H : RT kd am m) : 0 ≤ kd ∧ kd < 228 := by
  rcases H with ⟨a, b⟩ | ⟨a, b, _⟩ | ⟨a, b, _⟩ | ⟨a, b⟩ | ⟨a, b⟩ | ⟨a, b⟩ | ⟨a, b⟩
  · omega
  · omega
  · rcases b with b | ⟨j, _, b⟩ <;> omega
  · omega
  · omega
  · have := sg_b _ a; omega
  · omega
theorem tok_2 (H : RT kd am m) (h : 200 ≤ kd) : m.1 9 = 2 := by
  rcases H with ⟨a, b⟩ | ⟨a, b, _⟩ | ⟨a, b, _⟩ | ⟨a, b⟩ | ⟨a, b⟩ | ⟨a, b⟩ | ⟨a, b⟩
  · omega
  · omega
  · exact a
  · omega
  · omega
  · have := sg_b _ a; omega
  · omega
theorem tok_am (H : RT kd am m) (h : kd = 2) : (am ≤ 9999 → m.1 10 = am) ∧ (9999 < am → 9999 < m.1 10) ∧ 0 ≤ am ∧ am ≤ 10000 := by
  rcases H with ⟨a, b⟩ | ⟨_, _, c⟩ | ⟨a, b, _⟩ | ⟨a, b⟩ | ⟨a, b⟩ | ⟨a, b⟩ | ⟨a, b⟩
  · omega
  · exact c
  · rcases b with b | ⟨j, _, b⟩ <;> omega
  · omega
  · omega
  · have := sg_b _ a; omega
  · omega
theorem ay_ceq : ay_cmp x y = 0 ↔ x = y := by
  unfold ay_cmp
  by_cases c : x < y
  · rw [if_pos c]; omega
  · rw [if_neg c]
    by_cases d : x = y
    · rw [if_pos d]; omega
    · rw [if_neg d]; omega
theorem cmwd (H : RT kd am m) (h2 : m.1 9 = 2) (hj : j < 28) : ay_cmp (m.1 11) ((wcd.getD j 0 : Nat) : Int) = 0 ↔ kd = 200 + (j : Int) := by
  rw [ay_ceq]
  rcases H with ⟨a, b⟩ | ⟨a, b, _⟩ | ⟨a, b, c⟩ | ⟨a, b⟩ | ⟨a, b⟩ | ⟨a, b⟩ | ⟨a, b⟩
  · omega
  · omega
  · exact (c j hj).symm
  · omega
  · omega
  · have := sg_b _ a; omega
  · omega
theorem isw (H : RT kd am m) (hj : j < 28) : R_isWord n m ((wcd.getD j 0 : Nat) : Int) = some (if kd = 200 + (j : Int) then 1 else 0, m) := by
  unfold R_isWord
  by_cases c : m.1 9 = 2
  · rw [if_pos c]
    by_cases d : kd = 200 + (j : Int)
    · rw [if_pos ((cmwd H c hj).2 d), if_pos d]
    · rw [if_neg (fun h => d ((cmwd H c hj).1 h)), if_neg d]
  · rw [if_neg c, if_neg (fun h => c (tok_2 H (by omega)))]
theorem w_0 : R_w5 n 119 97 110 116 115 = some ((wcd.getD 0 0 : Nat) : Int) := (by decide +kernel : R_w5 0 119 97 110 116 115 = some ((wcd.getD 0 0 : Nat) : Int))
theorem w_1 : R_w6 n 115 112 97 114 101 115 = some ((wcd.getD 1 0 : Nat) : Int) := (by decide +kernel : R_w6 0 115 112 97 114 101 115 = some ((wcd.getD 1 0 : Nat) : Int))
theorem w_2 : R_w6 n 111 98 106 101 99 116 = some ((wcd.getD 2 0 : Nat) : Int) := (by decide +kernel : R_w6 0 111 98 106 101 99 116 = some ((wcd.getD 2 0 : Nat) : Int))
theorem w_3 : R_w5 n 116 111 117 99 104 = some ((wcd.getD 3 0 : Nat) : Int) := (by decide +kernel : R_w5 0 116 111 117 99 104 = some ((wcd.getD 3 0 : Nat) : Int))
theorem w_4 : R_w5 n 119 114 105 116 101 = some ((wcd.getD 4 0 : Nat) : Int) := (by decide +kernel : R_w5 0 119 114 105 116 101 = some ((wcd.getD 4 0 : Nat) : Int))
theorem w_5 : R_w5 n 115 119 101 101 112 = some ((wcd.getD 5 0 : Nat) : Int) := (by decide +kernel : R_w5 0 115 119 101 101 112 = some ((wcd.getD 5 0 : Nat) : Int))
theorem w_6 : R_w5 n 101 109 112 116 121 = some ((wcd.getD 6 0 : Nat) : Int) := (by decide +kernel : R_w5 0 101 109 112 116 121 = some ((wcd.getD 6 0 : Nat) : Int))
theorem w_7 : R_w4 n 100 114 111 112 = some ((wcd.getD 7 0 : Nat) : Int) := (by decide +kernel : R_w4 0 100 114 111 112 = some ((wcd.getD 7 0 : Nat) : Int))
theorem w_8 : R_w3 n 100 97 121 = some ((wcd.getD 8 0 : Nat) : Int) := (by decide +kernel : R_w3 0 100 97 121 = some ((wcd.getD 8 0 : Nat) : Int))
theorem w_9 : R_w2 n 111 102 = some ((wcd.getD 9 0 : Nat) : Int) := (by decide +kernel : R_w2 0 111 102 = some ((wcd.getD 9 0 : Nat) : Int))
theorem w_10 : R_w2 n 98 121 = some ((wcd.getD 10 0 : Nat) : Int) := (by decide +kernel : R_w2 0 98 121 = some ((wcd.getD 10 0 : Nat) : Int))
theorem w_11 : R_w3 n 104 97 115 = some ((wcd.getD 11 0 : Nat) : Int) := (by decide +kernel : R_w3 0 104 97 115 = some ((wcd.getD 11 0 : Nat) : Int))
theorem w_12 : R_w6 n 115 111 105 108 101 100 = some ((wcd.getD 12 0 : Nat) : Int) := (by decide +kernel : R_w6 0 115 111 105 108 101 100 = some ((wcd.getD 12 0 : Nat) : Int))
theorem w_13 : R_w2 n 105 102 = some ((wcd.getD 13 0 : Nat) : Int) := (by decide +kernel : R_w2 0 105 102 = some ((wcd.getD 13 0 : Nat) : Int))
theorem w_14 : R_w4 n 116 104 101 110 = some ((wcd.getD 14 0 : Nat) : Int) := (by decide +kernel : R_w4 0 116 104 101 110 = some ((wcd.getD 14 0 : Nat) : Int))
theorem w_15 : R_w4 n 101 108 115 101 = some ((wcd.getD 15 0 : Nat) : Int) := (by decide +kernel : R_w4 0 101 108 115 101 = some ((wcd.getD 15 0 : Nat) : Int))
theorem w_16 : R_w3 n 101 110 100 = some ((wcd.getD 16 0 : Nat) : Int) := (by decide +kernel : R_w3 0 101 110 100 = some ((wcd.getD 16 0 : Nat) : Int))
theorem w_17 : R_w2 n 111 114 = some ((wcd.getD 17 0 : Nat) : Int) := (by decide +kernel : R_w2 0 111 114 = some ((wcd.getD 17 0 : Nat) : Int))
theorem w_18 : R_w3 n 97 110 100 = some ((wcd.getD 18 0 : Nat) : Int) := (by decide +kernel : R_w3 0 97 110 100 = some ((wcd.getD 18 0 : Nat) : Int))
theorem w_19 : R_w3 n 110 111 116 = some ((wcd.getD 19 0 : Nat) : Int) := (by decide +kernel : R_w3 0 110 111 116 = some ((wcd.getD 19 0 : Nat) : Int))
theorem w_20 : R_w4 n 116 105 109 101 = some ((wcd.getD 20 0 : Nat) : Int) := (by decide +kernel : R_w4 0 116 105 109 101 = some ((wcd.getD 20 0 : Nat) : Int))
theorem w_21 : R_w4 n 102 114 101 101 = some ((wcd.getD 21 0 : Nat) : Int) := (by decide +kernel : R_w4 0 102 114 101 101 = some ((wcd.getD 21 0 : Nat) : Int))
theorem w_22 : R_w6 n 110 117 109 98 101 114 = some ((wcd.getD 22 0 : Nat) : Int) := (by decide +kernel : R_w6 0 110 117 109 98 101 114 = some ((wcd.getD 22 0 : Nat) : Int))
theorem w_23 : R_w4 n 115 105 122 101 = some ((wcd.getD 23 0 : Nat) : Int) := (by decide +kernel : R_w4 0 115 105 122 101 = some ((wcd.getD 23 0 : Nat) : Int))
theorem w_24 : R_w4 n 112 97 103 101 = some ((wcd.getD 24 0 : Nat) : Int) := (by decide +kernel : R_w4 0 112 97 103 101 = some ((wcd.getD 24 0 : Nat) : Int))
theorem w_25 : R_w4 n 105 100 108 101 = some ((wcd.getD 25 0 : Nat) : Int) := (by decide +kernel : R_w4 0 105 100 108 101 = some ((wcd.getD 25 0 : Nat) : Int))
theorem w_26 : R_w5 n 104 111 108 100 115 = some ((wcd.getD 26 0 : Nat) : Int) := (by decide +kernel : R_w5 0 104 111 108 100 115 = some ((wcd.getD 26 0 : Nat) : Int))
theorem w_27 : R_w4 n 115 112 97 110 = some ((wcd.getD 27 0 : Nat) : Int) := (by decide +kernel : R_w4 0 115 112 97 110 = some ((wcd.getD 27 0 : Nat) : Int))
theorem nameOf_ok (H : RT kd am m) : R_nameOf n m = some (if 220 ≤ kd then kd - 220 else -1, m) := by
  have hk := tok_kd H
  unfold R_nameOf
  by_cases c : m.1 9 = 2
  · have e := fun (j : Nat) (hj : j < 28) => cmwd H c hj
    rw [if_pos c, b1_s w_20]
    by_cases d0 : kd = 220
    · rw [if_pos ((e 20 (by decide)).2 d0), if_pos (by omega), d0]; rfl
    · rw [if_neg (fun h => d0 ((e 20 (by decide)).1 h)), b1_s w_21]
      by_cases d1 : kd = 221
      · rw [if_pos ((e 21 (by decide)).2 d1), if_pos (by omega), d1]; rfl
      · rw [if_neg (fun h => d1 ((e 21 (by decide)).1 h)), b1_s w_22]
        by_cases d2 : kd = 222
        · rw [if_pos ((e 22 (by decide)).2 d2), if_pos (by omega), d2]; rfl
        · rw [if_neg (fun h => d2 ((e 22 (by decide)).1 h)), b1_s w_23]
          by_cases d3 : kd = 223
          · rw [if_pos ((e 23 (by decide)).2 d3), if_pos (by omega), d3]; rfl
          · rw [if_neg (fun h => d3 ((e 23 (by decide)).1 h)), b1_s w_24]
            by_cases d4 : kd = 224
            · rw [if_pos ((e 24 (by decide)).2 d4), if_pos (by omega), d4]; rfl
            · rw [if_neg (fun h => d4 ((e 24 (by decide)).1 h)), b1_s w_25]
              by_cases d5 : kd = 225
              · rw [if_pos ((e 25 (by decide)).2 d5), if_pos (by omega), d5]; rfl
              · rw [if_neg (fun h => d5 ((e 25 (by decide)).1 h)), b1_s w_26]
                by_cases d6 : kd = 226
                · rw [if_pos ((e 26 (by decide)).2 d6), if_pos (by omega), d6]; rfl
                · rw [if_neg (fun h => d6 ((e 26 (by decide)).1 h)), b1_s w_27]
                  by_cases d7 : kd = 227
                  · rw [if_pos ((e 27 (by decide)).2 d7), if_pos (by omega), d7]; rfl
                  · rw [if_neg (fun h => d7 ((e 27 (by decide)).1 h)), if_neg (by omega)]
  · rw [if_neg c, if_neg (fun h => c (tok_2 H (by omega)))]
theorem rank_ok : R_rank n x = some (rk x) := by
  unfold R_rank rk
  by_cases a : x < 40
  · rw [if_pos a, if_pos a]
    by_cases b : x = 22
    · rw [if_pos b, if_pos b]
    · rw [if_neg b, if_neg b]
      by_cases c : x = 21
      · rw [if_pos c, if_pos c]
      · rw [if_neg c, if_neg c]
        by_cases d : x = 20
        · rw [if_pos d, if_pos d]
        · rw [if_neg d, if_neg d]
          by_cases e : x < 10
          · rw [if_pos e, if_pos e]
            by_cases f : x < 8
            · rw [if_pos f, if_pos f]
              by_cases g : x < 6
              · rw [if_pos g, if_pos g]
              · rw [if_neg g, if_neg g]
            · rw [if_neg f, if_neg f]
          · rw [if_neg e, if_neg e]
  · rw [if_neg a, if_neg a]
theorem emit_ok (hT : m.1 12 = ((729 * T : Nat) : Int)) (h4 : T < 4) (hu : m.1 13 = (u : Int)) (h3 : u < 304) : R_emit n m o v = some (0, em T u m o v) := by
  have e1 : ay_w (ay_w (((729 * T : Nat) : Int) + 121) + ay_w (2 * (u : Int))) = ((729 * T + 121 + 2 * u : Nat) : Int) := by
    rw [ay_wi (x := ((729 * T : Nat) : Int) + 121) (by omega) (by omega), ay_wi (x := 2 * (u : Int)) (by omega) (by omega), ay_wi (by omega) (by omega)]
    omega
  unfold R_emit
  rw [hT, hu, e1, wad1 (x := 729 * T + 121 + 2 * u) (by omega), wad1 (x := u) (by omega), if_pos ⟨by omega, by omega⟩, if_pos ⟨by omega, by omega⟩]
  rfl
theorem em_RC : RC T (em T u m o v) = fun k => if k = 2 * u + 1 then v else if k = 2 * u then o else RC T m k := by
  funext k
  show (bA (bA m 2 ((729 * T + 121 + 2 * u : Nat) : Int) o) 2 ((729 * T + 121 + 2 * u + 1 : Nat) : Int) v).2 2 (729 * T + 121 + k) = _
  show ay_u (ay_u (m.2 2) ((729 * T + 121 + 2 * u : Nat) : Int).toNat o) ((729 * T + 121 + 2 * u + 1 : Nat) : Int).toNat v (729 * T + 121 + k) = _
  rw [Int.toNat_natCast, Int.toNat_natCast]
  by_cases c : k = 2 * u + 1
  · rw [if_pos c, c]; exact ay_ue
  · rw [if_neg c, ay_ux (by omega)]
    by_cases d : k = 2 * u
    · rw [if_pos d, d]; exact ay_ue
    · rw [if_neg d, ay_ux (by omega)]; rfl
theorem em_2 (h : k ≠ 729 * T + 121 + 2 * u) (h' : k ≠ 729 * T + 121 + 2 * u + 1) : (em T u m o v).2 2 k = m.2 2 k := by
  show ay_u (ay_u (m.2 2) ((729 * T + 121 + 2 * u : Nat) : Int).toNat o) ((729 * T + 121 + 2 * u + 1 : Nat) : Int).toNat v k = _
  rw [Int.toNat_natCast, Int.toNat_natCast, ay_ux h', ay_ux h]
theorem em_j (h : j ≠ 2) : (em T u m o v).2 j = m.2 j := by
  unfold em
  show (bA (bA m 2 _ o) 2 _ v).2 j = _
  rw [bA_2 h, bA_2 h]
theorem em_1 (h : j ≠ 13) : (em T u m o v).1 j = m.1 j := bI_1 h
/-- the pile -/
theorem stl0 (h : m.1 16 = (p : Int)) (hp : p ≤ 160) (hs : p = 0 ∨ rk (m.2 15 (p - 1)) < l) : R_settle_0 (n + 1) m l = some (0, m) := by
  unfold R_settle_0
  by_cases c : p = 0
  · rw [if_pos (by omega)]
  · have e : ay_w (m.1 16 - 1) = ((p - 1 : Nat) : Int) := by rw [ay_wi (by omega) (by omega)]; omega
    rw [if_neg (by omega), e, if_pos ⟨by omega, by omega⟩, Int.toNat_natCast, b1_s rank_ok, if_pos (hs.resolve_left c)]
theorem stl1 (hT : m.1 12 = ((729 * T : Nat) : Int)) (h4 : T < 4) (hu : m.1 13 = (u : Int)) (h3 : u < 304) (h : m.1 16 = ((p + 1 : Nat) : Int)) (hp : p < 160) (hs : l ≤ rk (m.2 15 p)) : R_settle_0 (n + 1) m l = R_settle_0 n (ppd T u p m) l := by
  have e : ay_w (m.1 16 - 1) = (p : Int) := by rw [ay_wi (by omega) (by omega)]; omega
  conv => lhs; unfold R_settle_0
  have e16 : (em T u (bI m 16 (p : Int)) (m.2 15 p) 0).1 16 = (p : Int) := rfl
  have e15 : (em T u (bI m 16 (p : Int)) (m.2 15 p) 0).2 15 = m.2 15 := em_j (by decide)
  have e17 : (em T u (bI m 16 (p : Int)) (m.2 15 p) 0).1 17 = m.1 17 := rfl
  rw [if_neg (by omega), e, if_pos ⟨by omega, by omega⟩, Int.toNat_natCast, b1_s rank_ok, if_neg (by omega), if_pos ⟨by omega, by omega⟩, bb_s (emit_ok (m := bI m 16 (p : Int)) (T := T) (u := u) hT h4 hu h3), e16, if_pos ⟨by omega, by omega⟩, Int.toNat_natCast, e15, b1_s rank_ok, e17]
  unfold ppd
  by_cases c : rk (m.2 15 p) = 7
  · rw [if_pos c, if_pos (Or.inl c)]
  · rw [if_neg c, if_pos ⟨by omega, by omega⟩]
    by_cases d : m.2 15 p = 20
    · rw [if_pos d, if_pos (Or.inr d)]
    · rw [if_neg d, if_neg (by intro h; rcases h with h | h; exact c h; exact d h)]
theorem opA_lt : ∀ p, -1 ≤ opA f p ∧ opA f p < p
  | 0 => by show (-1 : Int) ≤ -1 ∧ (-1 : Int) < 0; omega
  | p + 1 => by
    have := opA_lt p
    unfold opA
    by_cases c : 40 ≤ f p
    · rw [if_pos c]; omega
    · rw [if_neg c]; omega
theorem opA_c : ∀ {p : Nat}, (∀ k, k < p → f k = g k) → opA f p = opA g p
  | 0, _ => rfl
  | p + 1, h => by
    unfold opA
    rw [h p (by omega), opA_c (p := p) (fun k hk => h k (by omega))]
theorem opN_c (h : ∀ k, k < p → f k = g k) : opN f p = opN g p := by
  have := opA_lt (f := f) p
  unfold opN
  rw [← opA_c h]
  by_cases c : opA f p < 0
  · rw [if_pos c, if_pos c]
  · rw [if_neg c, if_neg c, h _ (by omega)]
theorem cmA_c : ∀ {p : Nat}, (∀ k, k < p → f k = g k) → cmA f p = cmA g p
  | 0, _ => rfl
  | p + 1, h => by
    unfold cmA
    rw [h p (by omega), cmA_c (p := p) (fun k hk => h k (by omega))]
theorem openAt_ok : ∀ (p n : Nat), p ≤ 160 → p < n → R_openAt_7 n m ((p : Int) - 1) = some (opA (m.2 15) p, m)
  | _, 0, _, h => by omega
  | 0, n + 1, _, _ => by
    unfold R_openAt_7
    rw [if_pos (by omega)]; rfl
  | p + 1, n + 1, h1, h2 => by
    have ih := openAt_ok p n (by omega) (by omega)
    have e : ((p + 1 : Nat) : Int) - 1 = (p : Int) := by omega
    have e2 : ay_w ((p : Int) + (-1)) = (p : Int) - 1 := ay_wi (by omega) (by omega)
    unfold R_openAt_7 opA
    rw [e, if_neg (by omega), if_pos ⟨by omega, by omega⟩, Int.toNat_natCast, e2]
    by_cases c : 40 ≤ m.2 15 p
    · rw [if_pos c, if_pos c]
    · rw [if_neg c, if_neg c]; exact ih
theorem openAt_k (h : m.1 16 = (p : Int)) (hp : p ≤ 160) (hn : 200 ≤ n) : R_openAt n m = some (opA (m.2 15) p, m) := by
  unfold R_openAt
  rw [h, ay_wi (by omega) (by omega)]
  exact openAt_ok p n hp (by omega)
theorem openNow_ok (h : m.1 16 = (p : Int)) (hp : p ≤ 160) (hn : 200 ≤ n) : R_openNow n m = some (opN (m.2 15) p, m) := by
  have hl := opA_lt (f := m.2 15) p
  unfold R_openNow opN
  rw [bb_s (openAt_k h hp hn)]
  by_cases c : opA (m.2 15) p < 0
  · rw [if_neg (by omega), if_pos c]
  · rw [if_pos (by omega), if_neg c, bb_s (openAt_k h hp hn), if_pos ⟨by omega, by omega⟩]
theorem cmp7 : ∀ (p n : Nat), p ≤ 160 → p < n → R_isCompared_7 n m ((p : Int) - 1) = some (bi (cmA (m.2 15) p), m)
  | _, 0, _, h => by omega
  | 0, n + 1, _, _ => by
    unfold R_isCompared_7 R_isCompared_30
    rw [if_pos (by omega), if_pos (by omega)]; rfl
  | p + 1, n + 1, h1, h2 => by
    have ih := cmp7 p n (by omega) (by omega)
    have e : ((p + 1 : Nat) : Int) - 1 = (p : Int) := by omega
    have e2 : ay_w ((p : Int) + (-1)) = (p : Int) - 1 := ay_wi (by omega) (by omega)
    unfold R_isCompared_7 cmA
    rw [e, if_neg (by omega), if_pos ⟨by omega, by omega⟩, Int.toNat_natCast, b1_s rank_ok, e2]
    by_cases c : rk (m.2 15 p) ≤ 4
    · rw [if_pos c, if_pos c]
      unfold R_isCompared_30
      rw [if_neg (by omega), if_pos ⟨by omega, by omega⟩, Int.toNat_natCast, b1_s rank_ok]
      by_cases d : rk (m.2 15 p) = 4
      · rw [if_pos d, decide_eq_true d]; rfl
      · rw [if_neg d, decide_eq_false d]; rfl
    · rw [if_neg c, if_neg c]; exact ih
theorem isCompared_ok (h : m.1 16 = (p : Int)) (hp : p ≤ 160) (hn : 200 ≤ n) : R_isCompared n m = some (bi (cmA (m.2 15) p), m) := by
  unfold R_isCompared
  rw [h, ay_wi (by omega) (by omega)]
  exact cmp7 p n hp (by omega)
theorem compareOf_ok (H : RT kd am m) : R_compareOf n m = some (if kd = 60 then 10 else if kd = 160 then 11 else if kd = 62 then 12 else if kd = 162 then 13 else if kd = 61 then 14 else if kd = 35 then 15 else -1, m) := by
  unfold R_compareOf
  have a1 := tok_sg (x := 60) H (by decide) (by decide) (by decide)
  have a2 := tok_4 H
  have a3 := tok_sg (x := 62) H (by decide) (by decide) (by decide)
  have a4 := tok_5 H
  have a5 := tok_sg (x := 61) H (by decide) (by decide) (by decide)
  have a6 := tok_sg (x := 35) H (by decide) (by decide) (by decide)
  by_cases c1 : kd = 60
  · rw [if_pos (a1.2 c1), if_pos c1]
  · rw [if_neg (fun h => c1 (a1.1 h)), if_neg c1]
    by_cases c2 : kd = 160
    · rw [if_pos (a2.2 c2), if_pos c2]
    · rw [if_neg (fun h => c2 (a2.1 h)), if_neg c2]
      by_cases c3 : kd = 62
      · rw [if_pos (a3.2 c3), if_pos c3]
      · rw [if_neg (fun h => c3 (a3.1 h)), if_neg c3]
        by_cases c4 : kd = 162
        · rw [if_pos (a4.2 c4), if_pos c4]
        · rw [if_neg (fun h => c4 (a4.1 h)), if_neg c4]
          by_cases c5 : kd = 61
          · rw [if_pos (a5.2 c5), if_pos c5]
          · rw [if_neg (fun h => c5 (a5.1 h)), if_neg c5]
            by_cases c6 : kd = 35
            · rw [if_pos (a6.2 c6), if_pos c6]
            · rw [if_neg (fun h => c6 (a6.1 h)), if_neg c6]
end
