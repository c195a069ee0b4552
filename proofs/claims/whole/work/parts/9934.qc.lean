/-! Questions: what would be, whose law it is. -/
section
variable {n n' B Kt T k j i o p f s M : Nat} {z zp : Nat → Nat} {c : Nat → bS} {U : bH} {m w tt kk xx m' : bS} {a : Nat → Int} {v a1 a2 a3 a4 a5 x y : Int} {ox : Option (Nat × bS)}
theorem room19 (I : IF w) (F : RF w (m.2 0)) (P : RP w (m.2 0)) (hM : isN M) (hs : s < 64) (hMS : M ≤ spn w s) (hF : fs (emp w s M) (spn w s / M) < spn w s / M) (d : Nat) : ∀ (k n : Nat), k + d = fs (emp w s M) (spn w s / M) → 20 + d < n → R_roomFor_19 n m (M : Int) ((s + k * M : Nat) : Int) = some (((s + fs (emp w s M) (spn w s / M) * M : Nat) : Int), m) := by
  have hM0 := isN_r hM
  have S := fs_spec (emp w s M) (spn w s / M)
  have h16 : spn w s ≤ 16 := by have := (I.1 s hs).2.2.1; omega
  have hb : ∀ k, k < spn w s / M → k * M + M ≤ spn w s := fun k hk => by
    have h1 : (k + 1) * M ≤ spn w s / M * M := Nat.mul_le_mul_right M hk
    have h2 : spn w s / M * M ≤ spn w s := Nat.div_mul_le_self _ _
    have h3 : (k + 1) * M = k * M + M := Nat.succ_mul k M
    omega
  induction d with
  | zero =>
    intro k n hk hn
    obtain ⟨n, rfl⟩ : ∃ N, n = N + 1 := ⟨n - 1, by omega⟩
    have hk' : k = fs (emp w s M) (spn w s / M) := by omega
    have := hb k (by omega)
    rw [R_roomFor_19, bb_s (R_areEmpty_ok I F P hM hs this (by omega)), if_pos (show emp w s M k = true by rw [hk']; exact S.2 hF), if_neg (by decide), hk']
  | succ d ih =>
    intro k n hk hn
    obtain ⟨n, rfl⟩ : ∃ N, n = N + 1 := ⟨n - 1, by omega⟩
    have h1 := hb k (by omega)
    have h3 : (k + 1) * M = k * M + M := Nat.succ_mul k M
    rw [R_roomFor_19, bb_s (R_areEmpty_ok I F P hM hs h1 (by omega)), if_neg (show ¬ emp w s M k = true by rw [S.1 k (by omega)]; decide), if_pos rfl, wadd (by omega), show s + k * M + M = s + (k + 1) * M by omega]
    exact ih (k + 1) n (by omega) (by omega)
theorem findx_out {kq : bS} (P2 : PO ox (m.2 0 2) (m.2 2)) (X : GX z w (m.2 0) T) (hto : TO z tt (m.2 0)) (P : PN kq m w) (ho : o < 4) (hp : p < 32) (hno : ¬ hvs w (32 * o + p) < 64) : ((∀ (n : Nat) (kk xx : bS), 1200 ≤ n → kk.1 3 = kq.1 3 → ∃ k1 xx', Kx_findRoom tt ox n (kk, w, xx) o p = some (0, (k1, w, xx')) ∧ Kk kk k1) ∧ ∀ (n : Nat) (m' : bS), 1200 ≤ n → Mq m m' → ∃ m1, R_manyFor n m' o p = some (-1, m1) ∧ Mq m m1) ∨ ∃ M s : Nat, FIT z w o p M s ∧ (∀ (n : Nat) (kk xx : bS), 1200 ≤ n → kk.1 3 = kq.1 3 → ∃ k1 xx', Kx_findRoom tt ox n (kk, w, xx) o p = some (1, (k1, w, xx')) ∧ Kk kk k1 ∧ PL w p M s k1) ∧ (∀ (n : Nat) (m' : bS), 1200 ≤ n → Mq m m' → ∃ m1, R_manyFor n m' o p = some ((M : Int), m1) ∧ Mq m m1) ∧ ∀ (n : Nat) (m' : bS), 1200 ≤ n → Mq m m' → ¬ lo w M < 64 / M → ∃ m1, R_victimFor n m' M = some ((s : Int), m1) ∧ Mq m m1 := by
  rcases LAWx P2 X hto with ⟨h, L⟩ | ⟨q, h, L⟩
  · subst h
    exact find0_out X hto L P ho hp hno
  · subst h
    exact find1_out X hto L P ho hp hno
theorem findx_in (P2 : PO ox (m.2 0 2) (m.2 2)) (X : GX z w (m.2 0) T) (ho : o < 4) (hp : p < 32) (hs : s < 64) (hsl : slt w o p = s) (hn : 100 ≤ n) : ∃ k1, Kx_findRoom tt ox n (kk, w, xx) o p = some (1, (k1, w, xx)) ∧ Kk kk k1 ∧ k1.1 4 = 0 ∧ k1.1 5 = (s : Int) ∧ k1.1 7 = -1 ∧ k1.1 6 = ((frm w (32 * o + p) : Nat) : Int) := by
  cases ox with
  | none => exact find0_in X ho hp hs hsl hn
  | some q => exact find1_in X ho hp hs hsl hn
theorem L_would (H : GI z zp B Kt c U m) (ha : -2147483648 ≤ a1 ∧ a1 < 2147483648) (ha2 : -2147483648 ≤ a2 ∧ a2 < 2147483648) : ∃ c' U' m', LStep 23 c U m a1 a2 a3 a4 a5 c' U' m' ∧ NX1 B Kt c' U' m' := by
  obtain ⟨T, X, hst, hT⟩ := H.1.1
  have h5 := H.2.2.2.2.2.1
  rcases page_ok (a1 := a1) (a2 := a2) H.1.2.1 ha ha2 with ⟨p1, p2⟩ | ⟨o, p, e1, e2, ho, hp, hz, p1, p2⟩
  · exact ⟨c, U, m, ⟨0, 0, -1, by unfold P_would; rw [bb_s (p1 _ _), if_pos rfl], by unfold R_would; rw [bb_s (p2 _), if_pos rfl]⟩, NX1_s H⟩
  subst e1 e2
  by_cases h3 : 0 ≤ a3 ∧ a3 ≤ 1
  rotate_left
  · refine ⟨c, U, m, ⟨0, 0, -1, ?_, ?_⟩, NX1_s H⟩
    · unfold P_would
      rw [bb_s (p1 _ _), if_neg (by decide)]
      by_cases d : a3 < 0
      · rw [if_pos d]
      · rw [if_neg d, if_neg (by omega)]
    · unfold R_would
      rw [bb_s (p2 _), if_neg (by decide), b1_s (R_isIn_ok _ _ _ _), if_neg h3, if_pos rfl]
  have eP : ∀ n, P_would n (c, mC m ++ U) (o : Int) (p : Int) a3 = (if (if thr (c 0) o p = true then (1 : Int) else 0) = 0 then (b1 (PT (c, mC m ++ U)) fun o3 => (bb (Kx_findRoom (c 1) o3 n ((c 8), c 0, (c 9)) o p) fun v3 s3 => (if v3 = 0 then some ((-1), (bU (bU (bU c 0 s3.2.1) 8 s3.1) 9 s3.2.2, mC m ++ U)) else (if a3 = 0 then some ((s3.1.1 4), (bU (bU (bU c 0 s3.2.1) 8 s3.1) 9 s3.2.2, mC m ++ U)) else some ((s3.1.1 6), (bU (bU (bU c 0 s3.2.1) 8 s3.1) 9 s3.2.2, mC m ++ U)))))) else some ((-1), (c, mC m ++ U))) := fun n => by
    unfold P_would
    rw [bb_s (p1 _ _), if_neg (by decide), if_neg (by omega), if_pos h3.2, bb_s (W_isThere_ok _ _ ho hp), bU_id]
  have eR : ∀ n, R_would n m (o : Int) (p : Int) a3 = (if (if thr (c 0) o p = true then (1 : Int) else 0) = 0 then (bb (R_canTouch n m o p) fun v4 s4 => (if v4 = 0 then some ((-1), s4) else (bb (R_pageAt n s4 o p 0) fun v5 s5 => (if v5 = (-1) then (bb (R_manyFor n s5 o p) fun v6 s6 => (if a3 = 0 then some (v6, s6) else (bb (R_roomFor n s6 v6) fun v7 s7 => (if v6 = 0 then none else some ((ay_w (v7 + (ay_rem p v6))), s7))))) else (if a3 = 0 then some (0, s5) else (bb (R_pageAt n s5 o p 0) fun v8 s8 => some (v8, s8))))))) else some ((-1), m)) := fun n => by
    unfold R_would
    rw [bb_s (p2 _), if_neg (by decide), b1_s (R_isIn_ok _ _ _ _), if_pos h3, if_neg (by decide), bb_s (R_isThere_ok _ X.1.1.2.1 ho hp)]
  by_cases ht : thr (c 0) o p = true
  · exact ⟨c, U, m, ⟨0, 0, -1, by rw [eP, if_pos ht, if_neg (by decide)], by rw [eR, if_pos ht, if_neg (by decide)]⟩, NX1_s H⟩
  have eP' := eP 1300
  have eR' := eR 1300
  rw [if_neg ht, if_pos rfl] at eP' eR'
  obtain ⟨ox, y1, y2⟩ := PT_ok (m := m) H.1.2.2.2
  by_cases hh : hvs (c 0) (32 * o + p) < 64
  · obtain ⟨k1, f1, f2, f3, f4, f5, f6⟩ := findx_in (tt := c 1) (kk := c 8) (xx := c 9) (n := 1300) y2 X ho hp hh rfl (by omega)
    have ct : R_canTouch 1300 m o p = some (1, m) := by
      unfold R_canTouch
      rw [bb_s (R_pfr _ X.1 ho hp), if_pos hh, if_neg (by omega)]
    by_cases c0 : a3 = 0
    · refine ⟨_, U, m, ⟨1300, 1300, 0, ?_, ?_⟩, NX1_s (try_GI (xx := c 9) H Mq.rf f2)⟩
      · rw [eP', b1_s y1, bb_s f1, if_neg (by decide), if_pos c0, f3]
      · rw [eR', bb_s ct, if_neg (by decide), bb_s (R_pfr _ X.1 ho hp), if_pos hh, if_neg (by omega), if_pos c0]
    · refine ⟨_, U, m, ⟨1300, 1300, ((frm (c 0) (32 * o + p) : Nat) : Int), ?_, ?_⟩, NX1_s (try_GI (xx := c 9) H Mq.rf f2)⟩
      · rw [eP', b1_s y1, bb_s f1, if_neg (by decide), if_neg c0, f6]
      · rw [eR', bb_s ct, if_neg (by decide), bb_s (R_pfr _ X.1 ho hp), if_pos hh, if_neg (by omega), if_neg c0, bb_s (R_pfr _ X.1 ho hp), if_pos hh]
  · have ct : R_canTouch 1300 m o p = (bb (R_manyFor 1300 m o p) fun v2 s2 => (if v2 = (-1) then some (0, s2) else some (1, s2))) := by
      unfold R_canTouch
      rw [bb_s (R_pfr _ X.1 ho hp), if_neg hh, if_pos rfl]
    rcases findx_out y2 X H.1.2.1 (PN0 h5.1 h5.2.2) ho hp hh with ⟨g1, g2⟩ | ⟨M, s, ⟨⟨hM, _, _⟩, h0⟩, g1, g2, g3⟩
    · obtain ⟨k1, x1, q1, q2⟩ := g1 1300 (c 8) (c 9) (by omega) rfl
      obtain ⟨m1, r1, r2⟩ := g2 1300 m (by omega) Mq.rf
      refine ⟨_, U, m1, ⟨1300, 1300, -1, ?_, ?_⟩, NX1_s (try_GI (xx := x1) H r2 q2)⟩
      · rw [eP', b1_s y1, bb_s q1, if_pos rfl]
      · rw [eR', ct, bb_s r1, if_pos rfl]
        rfl
    · obtain ⟨k1, x1, q1, q2, q3, q4, q5⟩ := g1 1300 (c 8) (c 9) (by omega) rfl
      obtain ⟨m1, r1, r2⟩ := g2 1300 m (by omega) Mq.rf
      obtain ⟨m2, r3, r4⟩ := g2 1300 m1 (by omega) r2
      have ct' : R_canTouch 1300 m o p = some (1, m1) := by rw [ct, bb_s r1, if_neg (by omega)]
      have X1 : GW (c 0) (m1.2 0) T := by rw [r2.ar]; exact X.1
      have X2 : GW (c 0) (m2.2 0) T := by rw [r4.ar]; exact X.1
      have hM0 := isN_r hM
      by_cases c0 : a3 = 0
      · refine ⟨_, U, m2, ⟨1300, 1300, (M : Int), ?_, ?_⟩, NX1_s (try_GI (xx := x1) H r4 q2)⟩
        · rw [eP', b1_s y1, bb_s q1, if_neg (by decide), if_pos c0, q3]
        · rw [eR', bb_s ct', if_neg (by decide), bb_s (R_pfr _ X1 ho hp), if_neg hh, if_pos rfl, bb_s r3, if_pos c0]
      · have lf : R_lowestFree 1300 m2 M = some ((if lo (c 0) M < 64 / M then ((lo (c 0) M * M : Nat) : Int) else -1), m2) := R_lowestFree_ok X2.2.1 X2.1.1 hM (by omega)
        have er : ay_rem (p : Int) (M : Int) = ((p % M : Nat) : Int) := by rw [ay_rn' (by omega) (by omega) (by omega) (by omega)]; rfl
        have hpm : p % M < M := Nat.mod_lt _ hM0.1
        obtain ⟨m3, v5, e5, e6, e7, e8⟩ : ∃ (m3 : bS) (v5 : Nat), k1.1 5 = (v5 : Int) ∧ v5 < 5000 ∧ R_roomFor 1300 m2 M = some ((v5 : Int), m3) ∧ Mq m m3 := by
          clear er
          rcases q5 with ⟨b1, b2, b3⟩ | ⟨b1, b2, b3⟩
          · refine ⟨m2, lo (c 0) M * M, b3, ?_, ?_, r4⟩
            · have h1 : lo (c 0) M * M ≤ 64 / M * M := Nat.mul_le_mul_right M (by omega)
              have h2 : 64 / M * M ≤ 64 := Nat.div_mul_le_self _ _
              omega
            · unfold R_roomFor
              rw [bb_s lf, if_pos b1, if_neg (by omega)]
          · obtain ⟨_, s1, s2, s3, s4, s5⟩ := h0.resolve_left b1
            obtain ⟨m3, v1, v2⟩ := g3 1300 m2 (by omega) r4 b1
            have X3 : GW (c 0) (m3.2 0) T := by rw [v2.ar]; exact X.1
            have h16 : spn (c 0) s ≤ 16 := by have := (X3.2.1.1 s s1).2.2.1; omega
            have hF1 : spn (c 0) s / M ≤ spn (c 0) s := Nat.div_le_self _ _
            refine ⟨m3, s + fs (emp (c 0) s M) (spn (c 0) s / M) * M, b3, ?_, ?_, v2⟩
            · have h1 : fs (emp (c 0) s M) (spn (c 0) s / M) * M ≤ 16 * 16 := Nat.mul_le_mul (by omega) hM0.2
              omega
            · unfold R_roomFor
              rw [bb_s lf, if_neg b1, if_pos rfl, bb_s v1]
              have := room19 X3.2.1 X3.1.1 X3.1.2.1 hM s1 s4 s5 (fs (emp (c 0) s M) (spn (c 0) s / M)) 0 1300 (by omega) (by omega)
              rw [Nat.zero_mul, Nat.add_zero] at this
              exact this
        refine ⟨_, U, m3, ⟨1300, 1300, ((v5 + p % M : Nat) : Int), ?_, ?_⟩, NX1_s (try_GI (xx := x1) H e8 q2)⟩
        · rw [eP', b1_s y1, bb_s q1, if_neg (by decide), if_neg c0, q4, e5]
          rfl
        · rw [eR', bb_s ct', if_neg (by decide), bb_s (R_pfr _ X1 ho hp), if_neg hh, if_pos rfl, bb_s r3, if_neg c0, bb_s e7, if_neg (by clear er; omega), er, wadd (by clear er; omega)]
/-- whether a text agrees with what was said -/
theorem agrees_ok {q : Nat × bS} {S : Nat} (hS8 : S ≤ 8) (hx : txH (mC m ++ U) q.1 q.2) (h4 : T < 4) {Tm : Nat} (d : Nat) : ∀ (i n n' : Nat) {c : Nat → bS} {m1 : bS}, 1001 + d ≤ n → 1020 + d ≤ n' → GI z zp B Kt c U m1 → Mq m m1 → TXR q.2 (m1.2 2) T → GX z (c 0) (m1.2 0) Tm → (c 1).1 7 = (S : Int) → m1.2 0 4 = (S : Int) → (∀ i, i < S → ∃ p v : Nat, p < 32 ∧ v < 100 ∧ (c 1).2 2 i = (p : Int) ∧ (c 1).2 3 i = (v : Int) ∧ m1.2 0 (1259 + 2 * i) = (p : Int) ∧ m1.2 0 (1260 + 2 * i) = (v : Int)) → i + d = S → ∃ (b : Bool) (xx' m2 : bS), P_agrees_2 q n (c, mC m ++ U) (i : Int) = some (bi b, (b3 c (c 0) (c 8) xx', mC m ++ U)) ∧ (∀ (K : bS → Int → Int → Option (Int × bS)) (l1 : Int), R_whose_21 K n' m1 l1 (T : Int) 1 ((1259 + 2 * i : Nat) : Int) = if b = true then K m2 (ay_or l1 (ay_shl 1 (T : Int))) (ay_w ((T : Int) + 1)) else K m2 (ay_or l1 0) (ay_w ((T : Int) + 1))) ∧ Mq m1 m2 := by
  have w2 : ay_w (2 * (S : Int)) = ((2 * S : Nat) : Int) := by rw [ay_wi (by omega) (by omega)]; omega
  have w3 : ay_w (1259 + ((2 * S : Nat) : Int)) = ((1259 + 2 * S : Nat) : Int) := wadd (x := 1259) (by clear w2; omega)
  have hz : ∀ (e i n : Nat) (m2 : bS) (l1 : Int) (K : bS → Int → Int → Option (Int × bS)), m2.2 0 4 = (S : Int) → i + e = S → e < n → R_whose_21 K n m2 l1 (T : Int) 0 ((1259 + 2 * i : Nat) : Int) = K m2 (ay_or l1 0) (ay_w ((T : Int) + 1)) := by
    intro e
    induction e with
    | zero =>
      intro i n m2 l1 K h4' hi hn
      obtain ⟨n, rfl⟩ : ∃ N, n = N + 1 := ⟨n - 1, by clear w2 w3; omega⟩
      rw [R_whose_21, h4', w2, w3, if_pos (by clear w2 w3; omega), if_pos rfl]
    | succ e ih =>
      intro i n m2 l1 K h4' hi hn
      obtain ⟨n, rfl⟩ : ∃ N, n = N + 1 := ⟨n - 1, by clear w2 w3 ih; omega⟩
      rw [R_whose_21, h4', w2, w3, if_neg (by clear w2 w3 ih; omega), if_pos rfl, wad2 (by clear w2 w3 ih; omega)]
      exact ih (i + 1) n m2 l1 K h4' (by clear w2 w3 ih; omega) (by clear w2 w3 ih; omega)
  induction d with
  | zero =>
    intro i n n' c m1 hn hn' H Q TX X h7 h4' hs hi
    obtain ⟨n, rfl⟩ : ∃ N, n = N + 1 := ⟨n - 1, by clear w2 w3 hz; omega⟩
    obtain ⟨n', rfl⟩ : ∃ N, n' = N + 1 := ⟨n' - 1, by clear w2 w3 hz; omega⟩
    refine ⟨true, c 9, m1, ?_, fun K l1 => ?_, Mq.rf⟩
    · rw [P_agrees_2]
      dsimp only
      rw [h7, if_pos (by clear w2 w3 hz; omega), ← b3_w, bU_id]
      rfl
    · rw [R_whose_21, h4', w2, w3, if_pos (by clear w2 w3 hz; omega), if_neg (by decide), if_pos rfl]
  | succ d ih =>
    intro i n n' c m1 hn hn' H Q TX X h7 h4' hs hi
    obtain ⟨n, rfl⟩ : ∃ N, n = N + 1 := ⟨n - 1, by clear w2 w3 hz ih; omega⟩
    obtain ⟨n', rfl⟩ : ∃ N, n' = N + 1 := ⟨n' - 1, by clear w2 w3 hz ih; omega⟩
    obtain ⟨p, v, hp, hv, s1, s2, s3, s4⟩ := hs i (by clear w2 w3 hz ih; omega)
    obtain ⟨V, _, v1, v2⟩ := wants_ok (tt := c 1) TX h4 X H.1.2.1 (show 0 < 4 by decide) hp
    obtain ⟨xx', g1⟩ := v1 n (c 8) (c 9) (by clear w2 w3 hz ih; omega)
    obtain ⟨m2, g2, g3⟩ := v2 n' m1 (by clear w2 w3 hz ih; omega) Mq.rf
    have eP : P_agrees_2 q (n + 1) (c, mC m ++ U) (i : Int) = if (V : Int) = (v : Int) then P_agrees_2 q n (b3 c (c 0) (c 8) xx', mC m ++ U) ((i + 1 : Nat) : Int) else some (0, (b3 c (c 0) (c 8) xx', mC m ++ U)) := by
      rw [P_agrees_2]
      dsimp only
      rw [h7, if_neg (by clear w2 w3 hz ih; omega), if_pos ⟨by clear w2 w3 hz ih; omega, by clear w2 w3 hz ih; omega⟩, gd_ok hx, Int.toNat_natCast, s1, s2]
      have g1' : K1_wanted (c 1) q.2 n (c 8, c 0, c 9) 0 (p : Int) = some ((V : Int), (c 8, c 0, xx')) := g1
      rw [bb_s g1', if_pos ⟨by clear w2 w3 hz ih; omega, by clear w2 w3 hz ih; omega⟩, wad1 (by clear w2 w3 hz ih; omega)]
      rfl
    have eR : ∀ (K : bS → Int → Int → Option (Int × bS)) (l1 : Int), R_whose_21 K (n' + 1) m1 l1 (T : Int) 1 ((1259 + 2 * i : Nat) : Int) = if (V : Int) = (v : Int) then R_whose_21 K n' m2 l1 (T : Int) 1 ((1259 + 2 * (i + 1) : Nat) : Int) else R_whose_21 K n' m2 l1 (T : Int) 0 ((1259 + 2 * (i + 1) : Nat) : Int) := fun K l1 => by
      have g2' : R_wantsBy n' m1 (T : Int) 0 (p : Int) = some ((V : Int), m2) := g2
      rw [R_whose_21, h4', w2, w3, if_neg (by clear w2 w3 hz ih; omega), if_neg (by decide), if_pos ⟨by clear w2 w3 hz ih; omega, by clear w2 w3 hz ih; omega⟩, Int.toNat_natCast, s3, bb_s g2', wad1 (by clear w2 w3 hz ih; omega), wad2 (by clear w2 w3 hz ih; omega), if_pos ⟨by clear w2 w3 hz ih; omega, by clear w2 w3 hz ih; omega⟩, Int.toNat_natCast, g3.ar, show 1259 + 2 * i + 1 = 1260 + 2 * i by clear w2 w3 hz ih; omega, s4]
      rfl
    rw [eP]
    by_cases hV : (V : Int) = (v : Int)
    · have H2 : GI z zp B Kt (b3 c (c 0) (c 8) xx') U m2 := try_GI (xx := xx') H g3 Kk.rf
      obtain ⟨b, xx2, m3, r1, r2, r3⟩ := ih (i + 1) n n' (by clear w2 w3 hz ih; omega) (by clear w2 w3 hz ih; omega) (c := b3 c (c 0) (c 8) xx') (m1 := m2) H2 (Q.tr g3) (by rw [g3.tx]; exact TX) (by rw [b3_0, g3.ar]; exact X) (by rw [b3_n (by decide) (by decide) (by decide)]; exact h7) (by rw [g3.ar]; exact h4') (by rw [b3_n (by decide) (by decide) (by decide), g3.ar]; exact hs) (by clear w2 w3 hz ih; omega)
      refine ⟨b, xx2, m3, ?_, fun K l1 => ?_, g3.tr r3⟩
      · rw [if_pos hV, r1, b3_0, b3_8]
        unfold b3
        rw [show bU (bU (bU (bU (bU (bU c 0 (c 0)) 8 (c 8)) 9 xx') 0 (c 0)) 8 (c 8)) 9 xx2 = bU (bU (bU c 0 (c 0)) 8 (c 8)) 9 xx2 from b3_b3]
      · rw [eR, if_pos hV]
        exact r2 K l1
    · refine ⟨false, xx', m2, ?_, fun K l1 => ?_, g3⟩
      · rw [if_neg hV]; rfl
      · rw [eR, if_neg hV, if_neg (by decide)]
        exact hz d (i + 1) n' m2 l1 K (by rw [g3.ar]; exact h4') (by clear w2 w3 hz ih; omega) (by clear w2 w3 hz ih; omega)
theorem whose_ok {N : Nat} (h4 : N ≤ 4) (d : Nat) : ∀ (T L n n' : Nat) {c : Nat → bS} {m1 : bS}, 1100 + d ≤ n → 1100 + d ≤ n' → GI z zp B Kt c U m1 → Mq m m1 → (c 1).1 5 = (N : Int) → T + d = N → L < 16 → ∃ (V : Int) (c' : Nat → bS) (m2 : bS), P_whose_4 n (c, mC m ++ U) (L : Int) (T : Int) = some (V, (c', mC m ++ U)) ∧ R_whose_4 n' m1 (L : Int) (T : Int) = some (V, m2) ∧ GI z zp B Kt c' U m2 := by
  induction d with
  | zero =>
    intro T L n n' c m1 hn hn' H Q h5 hT hL
    obtain ⟨n, rfl⟩ : ∃ N, n = N + 1 := ⟨n - 1, by omega⟩
    obtain ⟨n', rfl⟩ : ∃ N, n' = N + 1 := ⟨n' - 1, by omega⟩
    obtain ⟨N', S, t1, t2, _⟩ := H.1.2.2.2
    refine ⟨(L : Int), c, m1, ?_, ?_, H⟩
    · rw [P_whose_4]; dsimp only; rw [h5, if_pos (by omega)]
    · rw [R_whose_4, if_pos (by omega)]
  | succ d ih =>
    intro T L n n' c m1 hn hn' H Q h5 hT hL
    obtain ⟨n, rfl⟩ : ∃ N, n = N + 1 := ⟨n - 1, by omega⟩
    obtain ⟨n', rfl⟩ : ∃ N, n' = N + 1 := ⟨n' - 1, by omega⟩
    obtain ⟨Tm, X, hst, hTm⟩ := H.1.1
    obtain ⟨N', S, t1, t2, t3, t4, t5, t6, t7⟩ := H.1.2.2.2
    obtain ⟨jx, x, g1, g2, g3⟩ := t5 T (by omega)
    obtain ⟨q, p1, p2, p3, p4⟩ := PX_ok (m := m) g2 g3
    obtain ⟨b, xx', m2, r1, r2, r3⟩ := agrees_ok (z := z) (zp := zp) (B := B) (Kt := Kt) (T := T) (Tm := Tm) t1.2 (show txH (mC m ++ U) q.1 q.2 by rw [p2]; exact uX_txH p3) (by omega) S 0 n n' (by omega) (by omega) H Q p4 X t4.1 t4.2 t6 (by omega)
    have H2 : GI z zp B Kt (b3 c (c 0) (c 8) xx') U m2 := try_GI (xx := xx') H r3 Kk.rf
    have eP : P_whose_4 (n + 1) (c, mC m ++ U) (L : Int) (T : Int) = if bi b = 0 then P_whose_4 n (b3 c (c 0) (c 8) xx', mC m ++ U) (L : Int) ((T + 1 : Nat) : Int) else P_whose_4 n (b3 c (c 0) (c 8) xx', mC m ++ U) (ay_or (L : Int) (ay_shl 1 (T : Int))) ((T + 1 : Nat) : Int) := by
      rw [P_whose_4]
      dsimp only
      rw [h5, if_neg (by omega), if_pos ⟨by omega, by omega⟩, Int.toNat_natCast, g1, Int.toNat_natCast, b1_s p1]
      unfold P_agrees
      have r1' : P_agrees_2 q n (c, mC m ++ U) 0 = some (bi b, (b3 c (c 0) (c 8) xx', mC m ++ U)) := r1
      rw [bb_s r1', wad1 (by omega)]
    have eR : R_whose_4 (n' + 1) m1 (L : Int) (T : Int) = if b = true then R_whose_4 n' m2 (ay_or (L : Int) (ay_shl 1 (T : Int))) (ay_w ((T : Int) + 1)) else R_whose_4 n' m2 (ay_or (L : Int) 0) (ay_w ((T : Int) + 1)) := by
      rw [R_whose_4, t2.2, if_neg (by omega)]
      exact r2 (fun s l1 l2 => R_whose_4 n' s l1 l2) (L : Int)
    rw [eP, eR, wad1 (by omega)]
    have hb : (b3 c (c 0) (c 8) xx') 1 = c 1 := b3_n (by decide) (by decide) (by decide)
    cases b with
    | true =>
      rw [if_neg (by decide), if_pos rfl]
      have e1 : ay_shl 1 (T : Int) = ((1 * 2 ^ T : Nat) : Int) := ay_shln (x := 1) (by omega) (by
        have : (2 : Nat) ^ T ≤ 2 ^ 4 := Nat.pow_le_pow_right (by decide) (by omega)
        omega)
      have hp : (2 : Nat) ^ T < 2 ^ 4 := Nat.pow_lt_pow_right (by decide) (by omega)
      have e2 : ay_or (L : Int) ((1 * 2 ^ T : Nat) : Int) = ((L ||| 1 * 2 ^ T : Nat) : Int) := ay_orn (by omega) (by omega)
      rw [e1, e2]
      have hl : L ||| 1 * 2 ^ T < 2 ^ 4 := Nat.or_lt_two_pow (by omega) (by omega)
      exact ih (T + 1) _ n n' (by clear e1 e2; omega) (by clear e1 e2; omega) H2 (Q.tr r3) (by rw [hb]; exact h5) (by clear e1 e2; omega) hl
    | false =>
      have e2 : ay_or (L : Int) 0 = (L : Int) := by
        have := ay_orn (x := L) (y := 0) (by omega) (by omega)
        rw [Nat.or_zero] at this
        exact this
      rw [if_pos (show bi false = 0 from rfl), if_neg (by decide), e2]
      exact ih (T + 1) L n n' (by clear e2; omega) (by clear e2; omega) H2 (Q.tr r3) (by rw [hb]; exact h5) (by clear e2; omega) hL
theorem L_whose (H : GI z zp B Kt c U m) : ∃ c' U' m', LStep 41 c U m a1 a2 a3 a4 a5 c' U' m' ∧ NX1 B Kt c' U' m' := by
  obtain ⟨N', S, t1, t2, _⟩ := H.1.2.2.2
  obtain ⟨V, c', m2, r1, r2, r3⟩ := whose_ok (m := m) t1.1 N' 0 0 1200 1200 (by omega) (by omega) H Mq.rf t2.1 (by omega) (by decide)
  exact ⟨c', U, m2, ⟨1200, 1200, V, r1, r2⟩, NX1_s r3⟩
end
