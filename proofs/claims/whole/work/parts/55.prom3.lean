/-! Promotion and demotion, whole. -/
section
variable {n n' : Nat} {m w w' w1 kk xx tt : bS} {a b' : Nat → Int} {o p f s N k i h g j x y T b L q S : Nat} {t : Int}
/-- the span behind a page, 0 where it is kept nowhere -/
def spo (w : bS) (o p : Nat) : Nat := if slt w o p < 64 then spn w (slt w o p) else 0
theorem spo_blk (I : IF w) (ho : o < 4) (hp : p < 32) (hN : N = 4 ∨ N = 16) : (slt w o (p - p % N) < 64 ∧ N ≤ spn w (slt w o (p - p % N))) ↔ N ≤ spo w o p := by
  have hr := blk_rng hN hp
  have hN' : isN N := by rcases hN with h | h; exact Or.inr (Or.inl h); exact Or.inr (Or.inr h)
  unfold spo
  refine ⟨fun ⟨h1, h2⟩ => ?_, fun h => ?_⟩
  · have e := slt_blk (q := p) I ho hr.2.1 hp hN' hr.2.2.2.2.2.symm h1 h2
    rw [e, if_pos h1]; exact h2
  · by_cases c : slt w o p < 64
    · rw [if_pos c] at h
      have e := slt_blk (q := p - p % N) I ho hp hr.2.1 hN' hr.2.2.2.2.2 c h
      rw [e]; exact ⟨c, h⟩
    · rw [if_neg c] at h; rcases hN with h' | h' <;> omega
theorem spo_c (hN : 0 < N) (h : N ≤ spo w o p) : slt w o p < 64 ∧ N ≤ spn w (slt w o p) := by
  unfold spo at h
  by_cases c : slt w o p < 64
  · rw [if_pos c] at h; exact ⟨c, h⟩
  · rw [if_neg c] at h; omega
theorem spo_16 (I : IF w) (h : 16 ≤ spo w o p) : spo w o p = 16 := by
  obtain ⟨c, h2⟩ := spo_c (by omega) h
  have := (I.1 _ c).2.2.1
  unfold spo at h ⊢
  rw [if_pos c] at h ⊢
  omega
theorem K_promote_28_in (I : IF w) (ho : o < 4) (hp : p < 32) (hn : 66 ≤ n) : K_promote tt n (kk, w, xx) o p = K_promote_28 tt n (kk, w, xx) o p (spo w o p) := by
  unfold K_promote spo
  have hs : W_slotOf n w (o : Int) (p : Int) = some (if slt w o p < 64 then (slt w o p : Int) else -1, w) := W_slotOf_ok I ho hp hn
  refine (bb_s hs).trans ?_
  by_cases c : slt w o p < 64
  · rw [if_pos c, if_pos c, if_neg (by omega), if_pos (by omega), Int.toNat_natCast, (I.1 _ c).1]
  · rw [if_neg c, if_neg c, if_pos rfl]; rfl
theorem promote_ok (G : GW w (m.2 0) T) (ho : o < 4) (hp : p < 32) (hn : 100 ≤ n) (hn' : 100 ≤ n') : ∃ w' a', K_promote tt n (kk, w, xx) o p = some (0, (kk, w', xx)) ∧ R_promote n' m o p = some (0, bC m 0 a') ∧ GW w' a' T ∧ Kp w w' ∧ Ra (m.2 0) a' := by
  obtain ⟨R, I, IT', J, hT, hT2⟩ := id G
  have hr4 := blk_rng (N := 4) (Or.inl rfl) hp
  have hr16 := blk_rng (N := 16) (Or.inr rfl) hp
  have hp4 : ay_w ((p : Int) - ay_rem (p : Int) 4) = ((p - p % 4 : Nat) : Int) := psub (N := 4) (Or.inr (Or.inl rfl)) hp
  have hp16 : ay_w ((p : Int) - ay_rem (p : Int) 16) = ((p - p % 16 : Nat) : Int) := psub (N := 16) (Or.inr (Or.inr rfl)) hp
  -- the first stage
  have st4 : ∃ w4 a4, K_promote tt n (kk, w, xx) o p = K_promote_134 tt n (kk, w4, xx) o p (spo w o p) ∧ R_promote n' m o p = R_promote_34 n' (bC m 0 a4) o ((p - p % 16 : Nat) : Int) ∧ GW w4 a4 T ∧ Kp w w4 ∧ Ra (m.2 0) a4 := by
    have hev : R_isEven n' m (o : Int) ((p - p % 4 : Nat) : Int) 4 1 = some (if (slt w o (p - p % 4) < 64 ∧ 4 ≤ spn w (slt w o (p - p % 4))) ∧ evn w o (p - p % 4) 4 1 = true then 1 else 0, m) := R_isEven_ok (N := 4) (L := 1) I R.1 R.2.1 ho hr4.1 (by omega) (by omega) (by omega)
    rw [K_promote_28_in I ho hp (by omega), K_promote_28_ok n ho hp hT hT2 G.l.1]
    unfold R_promote
    rw [hp4, hp16, bb_s hev, i01]
    by_cases c : 4 ≤ spo w o p ∧ evn w o (p - p % 4) 4 1 = true
    · obtain ⟨c1, c2⟩ := spo_c (by omega) c.1
      have U := up4_ok G ho hp c2 c1 c.2
      refine ⟨up4 w o p T, _, by rw [if_pos c], ?_, U.1, U.2, Ra.tr (Ra_lvr (by omega)) (Ra_wd (by rw [lvr_o (by omega) (by omega)]; exact G.l.2) _)⟩
      rw [if_pos ⟨(spo_blk I ho hp (Or.inl rfl)).mpr c.1, c.2⟩]
      have hl : R_level n' m (o : Int) ((p - p % 4 : Nat) : Int) 4 4 2 = _ := R_level_ok (N := 4) (L := 4) (k := 2) G.l.2 hT2 (GW.tm G) ho hr4.1 hr4.2.1 (by omega) (by omega) (by omega)
      exact (bb_s hl)
    · refine ⟨w, m.2 0, by rw [if_neg c], ?_, G, Kp.rf, Ra.rf⟩
      rw [if_neg (fun z => c ⟨(spo_blk I ho hp (Or.inl rfl)).mp z.1, z.2⟩), bC_id]
  obtain ⟨w4, a4, e1, e2, G4, K4, A4⟩ := st4
  obtain ⟨R4, I4, IT4, J4, hT4, _⟩ := id G4
  have es : spo w4 o p = spo w o p := by unfold spo; rw [kp_slt K4, kp_spn K4]
  rw [e1, e2, ← es, K_promote_134_ok n J4 ho hp hT4 hT2 G4.l.1]
  have hev : R_isEven n' (bC m 0 a4) (o : Int) ((p - p % 16 : Nat) : Int) 16 4 = some (if (slt w4 o (p - p % 16) < 64 ∧ 16 ≤ spn w4 (slt w4 o (p - p % 16))) ∧ evn w4 o (p - p % 16) 16 4 = true then 1 else 0, bC m 0 a4) := R_isEven_ok (m := bC m 0 a4) (N := 16) (L := 4) I4 R4.1 R4.2.1 ho hr16.1 (by omega) (by omega) (by omega)
  unfold R_promote_34
  rw [bb_s hev, i01]
  by_cases c : spo w4 o p = 16 ∧ evn w4 o (p - p % 16) 16 4 = true
  · obtain ⟨c1, c2⟩ := spo_c (N := 16) (by omega) (Nat.le_of_eq c.1.symm)
    have U := up16_ok G4 ho hp c2 c1 c.2
    refine ⟨up16 w4 o p T, _, by rw [if_pos c], ?_, U.1, K4.tr U.2, A4.tr (Ra.tr (Ra_lvr (by omega)) (Ra_wd (by rw [lvr_o (by omega) (by omega)]; exact G4.l.2) _))⟩
    rw [if_pos ⟨(spo_blk I4 ho hp (Or.inr rfl)).mpr (Nat.le_of_eq c.1.symm), c.2⟩]
    have hl : R_level n' (bC m 0 a4) (o : Int) ((p - p % 16 : Nat) : Int) 16 16 2 = _ := R_level_ok (m := bC m 0 a4) (N := 16) (L := 16) (k := 2) G4.l.2 hT2 (GW.tm G4) ho hr16.1 hr16.2.1 (by omega) (by omega) (by omega)
    refine (bb_s hl).trans ?_
    rw [bC_C]; rfl
  · refine ⟨w4, a4, by rw [if_neg c], ?_, G4, K4, A4⟩
    rw [if_neg (fun z => c ⟨spo_16 I4 ((spo_blk I4 ho hp (Or.inr rfl)).mp z.1), z.2⟩)]
def dn16 (w : bS) (o p T : Nat) : bS := nt (bA (bA w 9 (o : Int) (ay_and (w.2 9 o) (ay_xor (bk p 16) (-1)))) 8 (o : Int) (ay_or (w.2 8 o) (bk p 16))) ((T * 16384 + 3 * 2048 + o * 32 + (p - p % 16) : Nat) : Int)
def dn4 (w : bS) (o p T : Nat) : bS := nt (bA w 8 (o : Int) (ay_and (w.2 8 o) (ay_xor (bk p 4) (-1)))) ((T * 16384 + 3 * 2048 + o * 32 + (p - p % 4) : Nat) : Int)
theorem dn16_ok (G : GW w a T) (ho : o < 4) (hp : p < 32) (h6 : lvl w o p = 16) : GW (dn16 w o p T) (wd (lvr (32 * o + (p - p % 16)) ((4 : Nat) : Int) 16 a) ((T * 12288 + 3 * 2048 + o * 32 + (p - p % 16) : Nat) : Int)) T ∧ Kp w (dn16 w o p T) ∧ lvl (dn16 w o p T) o p = 4 := by
  obtain ⟨R, I, IT', J, hT, hT2⟩ := id G
  have hr := blk_rng (N := 16) (Or.inr rfl) hp
  obtain ⟨hth, hsx⟩ := lvl16.mp h6
  obtain ⟨_, hS, hblk⟩ := (J o p ho hp).2.2 hsx
  have hin : ∀ q, p - p % 16 ≤ q → q < p - p % 16 + 16 → q < 32 ∧ q / 16 = p / 16 := fun q h1 h2 => by omega
  have V : Lv w (bA (bA w 9 (o : Int) (ay_and (w.2 9 o) (ay_xor (bk p 16) (-1)))) 8 (o : Int) (ay_or (w.2 8 o) (bk p 16))) o (p - p % 16) 16 4 := by
    refine ⟨fun o' q ho' hq => ⟨?_, ?_⟩, fun j h1 h2 h3 => ?_, fun j h1 => rfl⟩
    · show bt ((bA w 8 (o : Int) (ay_or (w.2 8 o) (bk p 16))).2 8 o') q = _
      rw [bA_bt w 8 ho, bt_or, bk_bt (Or.inr (Or.inr rfl)) hp hq]
      by_cases c : o' = o
      · rw [if_pos c]
        by_cases d : p - p % 16 ≤ q ∧ q < p - p % 16 + 16
        · rw [decide_eq_true d, Bool.or_true, if_pos ⟨c, d⟩]; rfl
        · rw [decide_eq_false d, Bool.or_false, if_neg (fun z => d z.2), c]; rfl
      · rw [if_neg c, if_neg (fun z => c z.1)]; rfl
    · show bt ((bA w 9 (o : Int) (ay_and (w.2 9 o) (ay_xor (bk p 16) (-1)))).2 9 o') q = _
      rw [bA_bt w 9 ho, bt_and, bt_not _ hq, bk_bt (Or.inr (Or.inr rfl)) hp hq]
      by_cases c : o' = o
      · rw [if_pos c]
        by_cases d : p - p % 16 ≤ q ∧ q < p - p % 16 + 16
        · rw [decide_eq_true d, Bool.not_true, Bool.and_false, if_pos ⟨c, d⟩]; rfl
        · rw [decide_eq_false d, Bool.not_false, Bool.and_true, if_neg (fun z => d z.2), c]; rfl
      · rw [if_neg c, if_neg (fun z => c z.1)]; rfl
    · show (bif Nat.beq j 8 then _ else (bif Nat.beq j 9 then _ else w.2 j)) = _
      cases e : Nat.beq j 8
      · cases e' : Nat.beq j 9
        · rfl
        · exact absurd (Nat.eq_of_beq_eq_true e') h2
      · exact absurd (Nat.eq_of_beq_eq_true e) h1
  have hc : slt w o p < 64 := IT' o p ho hp hth
  have hsl : ∀ q, p - p % 16 ≤ q → q < p - p % 16 + 16 → slt w o q = slt w o p := fun q h1 h2 => slt_blk I ho hp (by omega) (Or.inr (Or.inr rfl)) (by omega) hc hS
  have hall : ∀ q, p - p % 16 ≤ q → q < p - p % 16 + 16 → thr w o q = true := fun q h1 h2 => ((J o q ho (hin q h1 h2).1).2.2 (hblk q (hin q h1 h2).1 (hin q h1 h2).2).1).1
  have := relevel (T := T) (k := 3) V R.1 R.2.2.1 R.2.2.2 R.2.1 J ho (Or.inr rfl) hr.2.2.1 hr.1 hr.2.1 (Or.inr (Or.inl rfl)) (by omega) hall (fun _ q h1 h2 => by rw [hsl q h1 h2]; omega) (fun _ q r h1 h2 h3 h4 _ => by rw [(hblk q (hin q h1 h2).1 (hin q h1 h2).2).2, (hblk r (hin r h3 h4).1 (hin r h3 h4).2).2]) (fun h => by omega) hT2 (by omega)
  refine ⟨GW.of G this.2.2.kp this.1 this.2.1, this.2.2.kp, lvl4.mpr ⟨by rw [show thr (dn16 w o p T) = thr w from this.2.2.thr]; exact hth, ?_, ?_⟩⟩
  · have := (this.2.2.1 o p ho hp).1
    rw [if_pos ⟨rfl, hr.2.2.2.1, hr.2.2.2.2.1⟩] at this
    exact this
  · have := (this.2.2.1 o p ho hp).2
    rw [if_pos ⟨rfl, hr.2.2.2.1, hr.2.2.2.2.1⟩] at this
    exact this
theorem dn4_ok (G : GW w a T) (ho : o < 4) (hp : p < 32) (h4 : lvl w o p = 4) : GW (dn4 w o p T) (wd (lvr (32 * o + (p - p % 4)) ((1 : Nat) : Int) 4 a) ((T * 12288 + 3 * 2048 + o * 32 + (p - p % 4) : Nat) : Int)) T ∧ Kp w (dn4 w o p T) ∧ lvl (dn4 w o p T) o p = 1 := by
  obtain ⟨R, I, IT', J, hT, hT2⟩ := id G
  have hr := blk_rng (N := 4) (Or.inl rfl) hp
  obtain ⟨hth, hfo, hsx⟩ := lvl4.mp h4
  obtain ⟨_, _, hS, hblk⟩ := (J o p ho hp).2.1 hfo
  have hin : ∀ q, p - p % 4 ≤ q → q < p - p % 4 + 4 → q < 32 ∧ q / 4 = p / 4 := fun q h1 h2 => by omega
  have V : Lv w (bA w 8 (o : Int) (ay_and (w.2 8 o) (ay_xor (bk p 4) (-1)))) o (p - p % 4) 4 1 := by
    refine ⟨fun o' q ho' hq => ⟨?_, ?_⟩, fun j h1 h2 h3 => ?_, fun j h1 => rfl⟩
    · show bt ((bA w 8 (o : Int) (ay_and (w.2 8 o) (ay_xor (bk p 4) (-1)))).2 8 o') q = _
      rw [bA_bt w 8 ho, bt_and, bt_not _ hq, bk_bt (Or.inr (Or.inl rfl)) hp hq]
      by_cases c : o' = o
      · rw [if_pos c]
        by_cases d : p - p % 4 ≤ q ∧ q < p - p % 4 + 4
        · rw [decide_eq_true d, Bool.not_true, Bool.and_false, if_pos ⟨c, d⟩]; rfl
        · rw [decide_eq_false d, Bool.not_false, Bool.and_true, if_neg (fun z => d z.2), c]; rfl
      · rw [if_neg c, if_neg (fun z => c z.1)]; rfl
    · show six w o' q = _
      by_cases d : o' = o ∧ p - p % 4 ≤ q ∧ q < p - p % 4 + 4
      · have hf := (hblk q (hin q d.2.1 d.2.2).1 (hin q d.2.1 d.2.2).2).1
        rw [if_pos d, d.1, ((J o q ho hq).2.1 hf).2.1]; rfl
      · rw [if_neg d]
    · show (bif Nat.beq j 8 then _ else w.2 j) = _
      cases e : Nat.beq j 8
      · rfl
      · exact absurd (Nat.eq_of_beq_eq_true e) h1
  have hf : ∀ q, p - p % 4 ≤ q → q < p - p % 4 + 4 → thr w o q = true ∧ six w o q = false := fun q h1 h2 => by
    have := (J o q ho (hin q h1 h2).1).2.1 (hblk q (hin q h1 h2).1 (hin q h1 h2).2).1
    exact ⟨this.1, this.2.1⟩
  have := relevel (T := T) (k := 3) V R.1 R.2.2.1 R.2.2.2 R.2.1 J ho (Or.inl rfl) hr.2.2.1 hr.1 hr.2.1 (Or.inl rfl) (by omega) (fun q h1 h2 => (hf q h1 h2).1) (fun h => by omega) (fun h => by omega) (fun _ q h1 h2 => (hf q h1 h2).2) hT2 (by omega)
  refine ⟨GW.of G this.2.2.kp this.1 this.2.1, this.2.2.kp, lvl1.mpr ⟨by rw [show thr (dn4 w o p T) = thr w from this.2.2.thr]; exact hth, ?_, ?_⟩⟩
  · have := (this.2.2.1 o p ho hp).1
    rw [if_pos ⟨rfl, hr.2.2.2.1, hr.2.2.2.2.1⟩] at this
    exact this
  · have := (this.2.2.1 o p ho hp).2
    rw [if_pos ⟨rfl, hr.2.2.2.1, hr.2.2.2.2.1⟩] at this
    exact this
theorem demote_ok (G : GW w (m.2 0) T) (ho : o < 4) (hp : p < 32) (hn : 100 ≤ n) (hn' : 100 ≤ n') : ∃ w' a', K_demote tt n (kk, w, xx) o p = some (0, (kk, w', xx)) ∧ R_demote n' m o p = some (0, bC m 0 a') ∧ GW w' a' T ∧ Kp w w' ∧ Ra (m.2 0) a' ∧ lvl w' o p ≤ 1 := by
  obtain ⟨R, I, IT', J, hT, hT2⟩ := id G
  have hr4 := blk_rng (N := 4) (Or.inl rfl) hp
  have hr16 := blk_rng (N := 16) (Or.inr rfl) hp
  have hp4 : ay_w ((p : Int) - ay_rem (p : Int) 4) = ((p - p % 4 : Nat) : Int) := psub (N := 4) (Or.inr (Or.inl rfl)) hp
  have hp16 : ay_w ((p : Int) - ay_rem (p : Int) 16) = ((p - p % 16 : Nat) : Int) := psub (N := 16) (Or.inr (Or.inr rfl)) hp
  have hc4 : (0 : Int) ≤ (o : Int) ∧ (o : Int) < 4 := by omega
  have hbk4 : P_blockBits n (p : Int) 4 = some (bk p 4) := P_blockBits_ok n (N := 4) (Or.inr (Or.inl rfl)) hp
  have hbk16 : P_blockBits n (p : Int) 16 = some (bk p 16) := P_blockBits_ok n (N := 16) (Or.inr (Or.inr rfl)) hp
  -- from level four down
  have st : ∀ (w4 : bS) (a4 : Nat → Int) (l : Nat), GW w4 a4 T → (4 ≤ l ↔ lvl w4 o p = 4) → lvl w4 o p ≤ 4 → lvl w4 o p ≠ 2 → lvl w4 o p ≠ 3 → ∃ w' a', K_demote_69 tt n (kk, w4, xx) o p l = some (0, (kk, w', xx)) ∧ R_demote_26 n' (bC m 0 a4) o p = some (0, bC m 0 a') ∧ GW w' a' T ∧ Kp w4 w' ∧ Ra a4 a' ∧ lvl w' o p ≤ 1 := fun w4 a4 l G4 hl hle hn2 hn3 => by
    obtain ⟨R4, I4, IT4, J4, hT4, _⟩ := id G4
    have hlv : R_levelOf n' (bC m 0 a4) (o : Int) (p : Int) = some ((lvl w4 o p : Int), bC m 0 a4) := R_levelOf_ok (m := bC m 0 a4) n' R4.2.1 ho hp
    unfold K_demote_69 R_demote_26
    rw [bb_s hlv, hp4]
    by_cases c : lvl w4 o p = 4
    · have D := dn4_ok G4 ho hp c
      have hlev : R_level n' (bC m 0 a4) (o : Int) ((p - p % 4 : Nat) : Int) 4 1 3 = _ := R_level_ok (m := bC m 0 a4) (N := 4) (L := 1) (k := 3) G4.l.2 hT2 (GW.tm G4) ho hr4.1 hr4.2.1 (by omega) (by omega) (by omega)
      have hn1 : W_note n (bA w4 8 (o : Int) (ay_and (w4.2 8 o) (ay_xor (bk p 4) (-1)))) 3 (o : Int) ((p - p % 4 : Nat) : Int) = some (0, dn4 w4 o p T) := W_note_ok n (k := 3) (T := T) hT2 (by omega) (by omega) (by omega) G4.l.1 hT4
      refine ⟨dn4 w4 o p T, _, ?_, ?_, D.1, D.2.1, Ra.tr (Ra_lvr (by omega)) (Ra_wd (by rw [lvr_o (by omega) (by omega)]; exact G4.l.2) _), by omega⟩
      · rw [if_neg (by have := hl.mpr c; omega), if_pos hc4, b1_s hbk4, if_pos hc4, Int.toNat_natCast]
        exact (bb_s hn1).trans rfl
      · rw [if_pos (by omega)]
        refine (bb_s hlev).trans ?_
        rw [bC_C]; rfl
    · refine ⟨w4, a4, ?_, ?_, G4, Kp.rf, Ra.rf, by omega⟩
      · rw [if_pos (by have : ¬ 4 ≤ l := fun z => c (hl.mp z); omega)]
      · rw [if_neg (by omega)]
  have hlvl : lvl w o p = 0 ∨ lvl w o p = 1 ∨ lvl w o p = 4 ∨ lvl w o p = 16 := by
    unfold lvl; cases thr w o p <;> cases six w o p <;> cases fou w o p <;> simp
  unfold K_demote R_demote
  have hlvK : W_levelOf n w (o : Int) (p : Int) = some ((lvl w o p : Int), w) := W_levelOf_ok n w ho hp
  have hlvR : R_levelOf n' m (o : Int) (p : Int) = some ((lvl w o p : Int), m) := R_levelOf_ok n' R.2.1 ho hp
  rw [bb_s hlvR]
  by_cases c : lvl w o p = 16
  · have D := dn16_ok G ho hp c
    have hlev : R_level n' m (o : Int) ((p - p % 16 : Nat) : Int) 16 4 3 = _ := R_level_ok (N := 16) (L := 4) (k := 3) G.l.2 hT2 (GW.tm G) ho hr16.1 hr16.2.1 (by omega) (by omega) (by omega)
    have hn1 : W_note n (bA (bA w 9 (o : Int) (ay_and (w.2 9 o) (ay_xor (bk p 16) (-1)))) 8 (o : Int) (ay_or (w.2 8 o) (bk p 16))) 3 (o : Int) ((p - p % 16 : Nat) : Int) = some (0, dn16 w o p T) := W_note_ok n (k := 3) (T := T) hT2 (by omega) (by omega) (by omega) G.l.1 hT
    obtain ⟨w', a', h1, h2, h3, h4, h5, h6⟩ := st (dn16 w o p T) _ 16 D.1 ⟨fun _ => D.2.2, fun _ => by omega⟩ (by rw [D.2.2]; exact Nat.le_refl _) (by rw [D.2.2]; decide) (by rw [D.2.2]; decide)
    refine ⟨w', a', ?_, ?_, h3, D.2.1.tr h4, Ra.tr (Ra.tr (Ra_lvr (by omega)) (Ra_wd (by rw [lvr_o (by omega) (by omega)]; exact G.l.2) _)) h5, h6⟩
    · refine (bb_s hlvK).trans ?_
      rw [if_pos (by omega), b1_s hbk16, if_pos hc4, if_pos hc4, if_pos hc4, if_pos hc4, Int.toNat_natCast, hp16, bb_s hn1, c]
      exact h1
    · rw [if_pos (by omega), hp16]
      exact (bb_s hlev).trans h2
  · obtain ⟨w', a', h1, h2, h3, h4, h5, h6⟩ := st w (m.2 0) (lvl w o p) G (by omega) (by omega) (by omega) (by omega)
    refine ⟨w', a', ?_, ?_, h3, h4, h5, h6⟩
    · refine (bb_s hlvK).trans ?_
      rw [if_neg (by omega)]
      exact h1
    · rw [if_neg (by omega)]
      rw [bC_id] at h2
      exact h2
end
