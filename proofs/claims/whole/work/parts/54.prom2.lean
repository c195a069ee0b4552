/-! Promotion, demotion: the two sides in step. -/
def GW (w : bS) (a : Nat → Int) (T : Nat) : Prop := RW w a ∧ IF w ∧ IT w ∧ IL w ∧ w.1 14 = (T : Int) ∧ T < 131072
section
variable {n : Nat} {m w w' w1 kk xx tt : bS} {a b' : Nat → Int} {o p f s N k i h g j x y T b L q S : Nat} {t : Int}
theorem Lv.kp (V : Lv w w' o b N L) : Kp w w' := ⟨V.2.1, V.2.2⟩
theorem kp_thr (H : Kp w w') : thr w' = thr w := by
  funext x y; show bt (w'.2 6 x) y = bt (w.2 6 x) y; rw [H.1 6 (by omega) (by omega) (by omega)]
theorem kp_hvs (H : Kp w w') : hvs w' = hvs w := hvs_same (H.1 3 (by omega) (by omega) (by omega)) (H.1 4 (by omega) (by omega) (by omega))
theorem kp_slt (H : Kp w w') : slt w' = slt w := by funext x y; unfold slt; rw [kp_hvs H]
theorem kp_spn (H : Kp w w') : spn w' = spn w := by
  funext x; show (w'.2 4 x).toNat = (w.2 4 x).toNat; rw [H.1 4 (by omega) (by omega) (by omega)]
theorem kp_IT (H : Kp w w') (h : IT w) : IT w' := by unfold IT; rw [kp_thr H, kp_hvs H]; exact h
theorem kp_IF (H : Kp w w') (h : IF w) : IF w' := IF_eq (H.1 3 (by omega) (by omega) (by omega)) (H.1 4 (by omega) (by omega) (by omega)) h
theorem GW.of (G : GW w a T) (K : Kp w w') (R : RW w' b') (J : IL w') : GW w' b' T := ⟨R, kp_IF K G.2.1, kp_IT K G.2.2.1, J, by rw [K.2 14 (by omega)]; exact G.2.2.2.2.1, G.2.2.2.2.2⟩
theorem GW.tm (G : GW w a T) : a 10 = (T : Int) := by rw [← G.1.2.2.2.1]; exact G.2.2.2.2.1
theorem GW.l (G : GW w a T) : (0 ≤ w.1 12 ∧ w.1 12 ≤ 25) ∧ 0 ≤ a 14 ∧ a 14 ≤ 25 := G.1.2.2.1.le
/-- bits set and cleared in one object's row -/
theorem bA_bt (w : bS) (r : Nat) (ho : o < 4) (v : Int) (o' q : Nat) : bt ((bA w r (o : Int) v).2 r o') q = if o' = o then bt v q else bt (w.2 r o') q := by
  show bt ((bif Nat.beq r r then ay_u (w.2 r) ((o : Int)).toNat v else w.2 r) o') q = _
  rw [Nat.beq_refl, cond_true, Int.toNat_natCast]
  unfold ay_u
  split <;> rfl
theorem blk_rng (hN : N = 4 ∨ N = 16) (hp : p < 32) : p - p % N + N ≤ 32 ∧ p - p % N < 32 ∧ (p - p % N) % N = 0 ∧ p - p % N ≤ p ∧ p < p - p % N + N ∧ (p - p % N) / N = p / N := by
  rcases hN with h | h <;> subst h <;> omega
theorem and_blk (hN : isN N) (hp : p < 32) (x : Int) : ay_and x (bk p N) = bk p N ↔ ∀ q, p - p % N ≤ q → q < p - p % N + N → bt x q = true := by
  have hb : p - p % N + N ≤ 32 := by rcases hN with h | h | h <;> subst h <;> omega
  rw [and_s _ _ bk_ok]
  exact ⟨fun h q a b => h q (by omega) (by rw [bk_bt hN hp (by omega)]; exact decide_eq_true ⟨a, b⟩), fun h q hq a => by rw [bk_bt hN hp hq, decide_eq_true_iff] at a; exact h q a.1 a.2⟩
theorem and_blz (hN : isN N) (hp : p < 32) (x : Int) : ay_and x (bk p N) = 0 ↔ ∀ q, p - p % N ≤ q → q < p - p % N + N → bt x q = false := by
  have hb : p - p % N + N ≤ 32 := by rcases hN with h | h | h <;> subst h <;> omega
  rw [and_z]
  exact ⟨fun h q a b => h q (by omega) (by rw [bk_bt hN hp (by omega)]; exact decide_eq_true ⟨a, b⟩), fun h q hq a => by rw [bk_bt hN hp hq, decide_eq_true_iff] at a; exact h q a.1 a.2⟩
theorem lvl1 : lvl w o q = 1 ↔ thr w o q = true ∧ fou w o q = false ∧ six w o q = false := by
  unfold lvl; cases thr w o q <;> cases six w o q <;> cases fou w o q <;> decide
theorem lvl4 : lvl w o q = 4 ↔ thr w o q = true ∧ fou w o q = true ∧ six w o q = false := by
  unfold lvl; cases thr w o q <;> cases six w o q <;> cases fou w o q <;> decide
theorem lvl16 : lvl w o q = 16 ↔ thr w o q = true ∧ six w o q = true := by
  unfold lvl; cases thr w o q <;> cases six w o q <;> cases fou w o q <;> decide
/-- levels raised to four -/
def up4 (w : bS) (o p T : Nat) : bS := nt (bA w 8 (o : Int) (ay_or (w.2 8 o) (bk p 4))) ((T * 16384 + 2 * 2048 + o * 32 + (p - p % 4) : Nat) : Int)
def up16 (w : bS) (o p T : Nat) : bS := nt (bA (bA w 8 (o : Int) (ay_and (w.2 8 o) (ay_xor (bk p 16) (-1)))) 9 (o : Int) (ay_or (w.2 9 o) (bk p 16))) ((T * 16384 + 2 * 2048 + o * 32 + (p - p % 16) : Nat) : Int)
theorem K_promote_134_ok (n : Nat) (J : IL w) (ho : o < 4) (hp : p < 32) (hT : w.1 14 = (T : Int)) (hT2 : T < 131072) (hl : 0 ≤ w.1 12 ∧ w.1 12 ≤ 25) : K_promote_134 tt n (kk, w, xx) o p S = some (0, (kk, (if S = 16 ∧ evn w o (p - p % 16) 16 4 = true then up16 w o p T else w), xx)) := by
  have hN : isN 16 := Or.inr (Or.inr rfl)
  have hr := blk_rng (N := 16) (Or.inr rfl) hp
  have e16 : (16 : Int) = ((16 : Nat) : Int) := rfl
  unfold K_promote_134
  rw [e16, b1_s (P_blockBits_ok n hN hp), Int.toNat_natCast]
  have ev : evn w o (p - p % 16) 16 4 = true ↔ ay_and (w.2 8 o) (bk p 16) = bk p 16 ∧ un (w.2 7 o) (p - p % 16) 16 = true := by
    rw [evn_iff, and_blk hN hp, un_iff]
    refine ⟨fun h => ⟨fun q h1 h2 => (lvl4.mp (h q h1 h2).2.1).2.1, fun q h1 h2 => (h q h1 h2).2.2⟩, fun ⟨h1, h2⟩ q a b => ?_⟩
    have hf := h1 q a b
    obtain ⟨c1, c2, _⟩ := (J o q ho (by omega)).2.1 hf
    exact ⟨c1, lvl4.mpr ⟨c1, hf, c2⟩, h2 q a b⟩
  by_cases c1 : S = 16
  · rw [if_pos (by omega), if_pos (by omega)]
    by_cases c2 : ay_and (w.2 8 o) (bk p 16) = bk p 16
    · rw [if_pos c2, if_pos (by omega), b1_s (P_allOrNone_ok n _ hN hp), i01]
      by_cases c3 : un (w.2 7 o) (p - p % 16) 16 = true
      · rw [if_pos c3, if_pos (by omega), if_pos (by omega), if_pos (by omega), if_pos (by omega), if_pos ⟨c1, ev.mpr ⟨c2, c3⟩⟩, psub hN hp]
        have hn1 : W_note n (bA (bA w 8 (o : Int) (ay_and (w.2 8 o) (ay_xor (bk p 16) (-1)))) 9 (o : Int) (ay_or (w.2 9 o) (bk p 16))) 2 (o : Int) ((p - p % 16 : Nat) : Int) = some (0, up16 w o p T) := W_note_ok n (k := 2) (T := T) hT2 (by omega) (by omega) (by omega) hl hT
        exact (bb_s hn1).trans rfl
      · rw [if_neg c3, if_neg (fun z => c3 (ev.mp z.2).2)]
    · rw [if_neg c2, if_neg (fun z => c2 (ev.mp z.2).1)]
  · rw [if_neg (by omega), if_neg (fun z => c1 z.1)]
theorem K_promote_28_ok (n : Nat) (ho : o < 4) (hp : p < 32) (hT : w.1 14 = (T : Int)) (hT2 : T < 131072) (hl : 0 ≤ w.1 12 ∧ w.1 12 ≤ 25) : K_promote_28 tt n (kk, w, xx) o p S = K_promote_134 tt n (kk, (if 4 ≤ S ∧ evn w o (p - p % 4) 4 1 = true then up4 w o p T else w), xx) o p S := by
  have hN : isN 4 := Or.inr (Or.inl rfl)
  have hr := blk_rng (N := 4) (Or.inl rfl) hp
  have e4 : (4 : Int) = ((4 : Nat) : Int) := rfl
  unfold K_promote_28
  have hc4 : (0 : Int) ≤ (o : Int) ∧ (o : Int) < 4 := by omega
  have ev : evn w o (p - p % 4) 4 1 = true ↔ ay_and (w.2 6 o) (bk p 4) = bk p 4 ∧ ay_and (ay_or (w.2 8 o) (w.2 9 o)) (bk p 4) = 0 ∧ un (w.2 7 o) (p - p % 4) 4 = true := by
    rw [evn_iff, and_blk hN hp, and_blz hN hp, un_iff]
    refine ⟨fun h => ⟨fun q h1 h2 => (h q h1 h2).1, fun q h1 h2 => ?_, fun q h1 h2 => (h q h1 h2).2.2⟩, fun ⟨h1, h2, h3⟩ q a b => ?_⟩
    · obtain ⟨_, c1, c2⟩ := lvl1.mp (h q h1 h2).2.1
      rw [bt_or]
      show (fou w o q || six w o q) = false
      rw [c1, c2]; rfl
    · have := h2 q a b
      rw [bt_or, Bool.or_eq_false_iff] at this
      exact ⟨h1 q a b, lvl1.mpr ⟨h1 q a b, this.1, this.2⟩, h3 q a b⟩
  have hbk : P_blockBits n (p : Int) 4 = some (bk p 4) := P_blockBits_ok n hN hp
  have hal : P_allOrNone n (w.2 7 o) (bk p 4) = _ := P_allOrNone_ok n (w.2 7 o) hN hp
  rw [b1_s hbk, if_pos hc4, if_pos hc4, if_pos hc4, if_pos hc4, if_pos hc4, if_pos hc4, Int.toNat_natCast]
  by_cases c1 : 4 ≤ S
  · rw [if_neg (by omega)]
    by_cases c2 : ay_and (w.2 6 o) (bk p 4) = bk p 4
    · rw [if_pos c2]
      by_cases c3 : ay_and (ay_or (w.2 8 o) (w.2 9 o)) (bk p 4) = 0
      · rw [if_pos c3, b1_s hal, i01]
        by_cases c4 : un (w.2 7 o) (p - p % 4) 4 = true
        · have hps : ay_w ((p : Int) - ay_rem (p : Int) 4) = ((p - p % 4 : Nat) : Int) := psub hN hp
          rw [if_pos c4, if_pos ⟨c1, ev.mpr ⟨c2, c3, c4⟩⟩, hps]
          have hn1 : W_note n (bA w 8 (o : Int) (ay_or (w.2 8 o) (bk p 4))) 2 (o : Int) ((p - p % 4 : Nat) : Int) = some (0, up4 w o p T) := W_note_ok n (k := 2) (T := T) hT2 (by omega) (by omega) (by omega) hl hT
          exact (bb_s hn1).trans rfl
        · rw [if_neg c4, if_neg (fun z => c4 (ev.mp z.2).2.2)]
      · rw [if_neg c3, if_neg (fun z => c3 (ev.mp z.2).2.1)]
    · rw [if_neg c2, if_neg (fun z => c2 (ev.mp z.2).1)]
  · rw [if_pos (by omega), if_neg (fun z => c1 z.1)]
/-- the raising, on both sides -/
theorem up4_ok (G : GW w a T) (ho : o < 4) (hp : p < 32) (hS : 4 ≤ spn w (slt w o p)) (hc : slt w o p < 64) (he : evn w o (p - p % 4) 4 1 = true) : GW (up4 w o p T) (wd (lvr (32 * o + (p - p % 4)) ((4 : Nat) : Int) 4 a) ((T * 12288 + 2 * 2048 + o * 32 + (p - p % 4) : Nat) : Int)) T ∧ Kp w (up4 w o p T) := by
  obtain ⟨R, I, IT', J, hT, hT2⟩ := G
  have hr := blk_rng (N := 4) (Or.inl rfl) hp
  have he' := evn_iff.mp he
  have V : Lv w (bA w 8 (o : Int) (ay_or (w.2 8 o) (bk p 4))) o (p - p % 4) 4 4 := by
    refine ⟨fun o' q ho' hq => ⟨?_, ?_⟩, fun j h1 h2 h3 => ?_, fun j h1 => rfl⟩
    · show bt ((bA w 8 (o : Int) (ay_or (w.2 8 o) (bk p 4))).2 8 o') q = _
      rw [bA_bt w 8 ho, bt_or, bk_bt (Or.inr (Or.inl rfl)) hp hq]
      by_cases c : o' = o
      · rw [if_pos c]
        by_cases d : p - p % 4 ≤ q ∧ q < p - p % 4 + 4
        · rw [decide_eq_true d, Bool.or_true, if_pos ⟨c, d⟩]; rfl
        · rw [decide_eq_false d, Bool.or_false, if_neg (fun z => d z.2), c]; rfl
      · rw [if_neg c, if_neg (fun z => c z.1)]; rfl
    · show six w o' q = _
      by_cases d : o' = o ∧ p - p % 4 ≤ q ∧ q < p - p % 4 + 4
      · rw [if_pos d, d.1, (lvl1.mp (he' q d.2.1 d.2.2).2.1).2.2]; rfl
      · rw [if_neg d]
    · show (bif Nat.beq j 8 then _ else w.2 j) = _
      cases e : Nat.beq j 8
      · rfl
      · exact absurd (Nat.eq_of_beq_eq_true e) h1
  have hsl : ∀ q, p - p % 4 ≤ q → q < p - p % 4 + 4 → slt w o q = slt w o p := fun q h1 h2 => slt_blk I ho hp (by omega) (Or.inr (Or.inl rfl)) (by omega) hc hS
  have := relevel (T := T) (k := 2) V R.1 R.2.2.1 R.2.2.2 R.2.1 J ho (Or.inl rfl) hr.2.2.1 hr.1 hr.2.1 (Or.inr (Or.inl rfl)) (by omega) (fun q h1 h2 => (he' q h1 h2).1) (fun _ q h1 h2 => by rw [hsl q h1 h2]; exact hS) (fun _ q r h1 h2 h3 h4 _ => by rw [(he' q h1 h2).2.2, (he' r h3 h4).2.2]) (fun _ q h1 h2 => (lvl1.mp (he' q h1 h2).2.1).2.2) hT2 (by omega)
  exact ⟨GW.of ⟨R, I, IT', J, hT, hT2⟩ this.2.2.kp this.1 this.2.1, this.2.2.kp⟩
theorem up16_ok (G : GW w a T) (ho : o < 4) (hp : p < 32) (hS : 16 ≤ spn w (slt w o p)) (hc : slt w o p < 64) (he : evn w o (p - p % 16) 16 4 = true) : GW (up16 w o p T) (wd (lvr (32 * o + (p - p % 16)) ((16 : Nat) : Int) 16 a) ((T * 12288 + 2 * 2048 + o * 32 + (p - p % 16) : Nat) : Int)) T ∧ Kp w (up16 w o p T) := by
  obtain ⟨R, I, IT', J, hT, hT2⟩ := G
  have hr := blk_rng (N := 16) (Or.inr rfl) hp
  have he' := evn_iff.mp he
  have V : Lv w (bA (bA w 8 (o : Int) (ay_and (w.2 8 o) (ay_xor (bk p 16) (-1)))) 9 (o : Int) (ay_or (w.2 9 o) (bk p 16))) o (p - p % 16) 16 16 := by
    refine ⟨fun o' q ho' hq => ⟨?_, ?_⟩, fun j h1 h2 h3 => ?_, fun j h1 => rfl⟩
    · show bt ((bA w 8 (o : Int) (ay_and (w.2 8 o) (ay_xor (bk p 16) (-1)))).2 8 o') q = _
      rw [bA_bt w 8 ho, bt_and, bt_not _ hq, bk_bt (Or.inr (Or.inr rfl)) hp hq]
      by_cases c : o' = o
      · rw [if_pos c]
        by_cases d : p - p % 16 ≤ q ∧ q < p - p % 16 + 16
        · rw [decide_eq_true d, Bool.not_true, Bool.and_false, if_pos ⟨c, d⟩]; rfl
        · rw [decide_eq_false d, Bool.not_false, Bool.and_true, if_neg (fun z => d z.2), c]; rfl
      · rw [if_neg c, if_neg (fun z => c z.1)]; rfl
    · show bt ((bA w 9 (o : Int) (ay_or (w.2 9 o) (bk p 16))).2 9 o') q = _
      rw [bA_bt w 9 ho, bt_or, bk_bt (Or.inr (Or.inr rfl)) hp hq]
      by_cases c : o' = o
      · rw [if_pos c]
        by_cases d : p - p % 16 ≤ q ∧ q < p - p % 16 + 16
        · rw [decide_eq_true d, Bool.or_true, if_pos ⟨c, d⟩]; rfl
        · rw [decide_eq_false d, Bool.or_false, if_neg (fun z => d z.2), c]; rfl
      · rw [if_neg c, if_neg (fun z => c z.1)]; rfl
    · show (bif Nat.beq j 9 then _ else (bif Nat.beq j 8 then _ else w.2 j)) = _
      cases e : Nat.beq j 9
      · cases e' : Nat.beq j 8
        · rfl
        · exact absurd (Nat.eq_of_beq_eq_true e') h1
      · exact absurd (Nat.eq_of_beq_eq_true e) h2
  have hsl : ∀ q, p - p % 16 ≤ q → q < p - p % 16 + 16 → slt w o q = slt w o p := fun q h1 h2 => slt_blk I ho hp (by omega) (Or.inr (Or.inr rfl)) (by omega) hc hS
  have := relevel (T := T) (k := 2) V R.1 R.2.2.1 R.2.2.2 R.2.1 J ho (Or.inr rfl) hr.2.2.1 hr.1 hr.2.1 (Or.inr (Or.inr rfl)) (by omega) (fun q h1 h2 => (he' q h1 h2).1) (fun _ q h1 h2 => by rw [hsl q h1 h2]; exact hS) (fun _ q r h1 h2 h3 h4 _ => by rw [(he' q h1 h2).2.2, (he' r h3 h4).2.2]) (fun h => by omega) hT2 (by omega)
  exact ⟨GW.of ⟨R, I, IT', J, hT, hT2⟩ this.2.2.kp this.1 this.2.1, this.2.2.kp⟩
end
