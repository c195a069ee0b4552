/-! A reservation is undone: what the two sides come to. -/
def ds1 (w : bS) (s : Nat) : bS := bA (bA (cl w s) 8 ((hom w s / 32 : Nat) : Int) (ay_and (w.2 8 (hom w s / 32)) (ay_xor (pgb w s) (-1)))) 9 ((hom w s / 32 : Nat) : Int) (ay_and (w.2 9 (hom w s / 32)) (ay_xor (pgb w s) (-1)))
def dwf (w : bS) (s b M : Nat) : bS := lvw (dsw w s b M (ds1 w s) (spn w s)) (hom w s / 32) (lvb w s b M (spn w s))
section
variable {n n' : Nat} {m m' m1 w w' w1 w2 w0 kk k1 xx tt tx : bS} {z : Nat → Nat} {a b' : Nat → Int} {o p f s N k i h g j T b c M q : Nat} {t v x : Int}
theorem ds1_2 (h4 : j ≠ 4) (h8 : j ≠ 8) (h9 : j ≠ 9) : (ds1 w s).2 j = w.2 j := by
  unfold ds1
  rw [bA_2 h9, bA_2 h8]
  show (bA w 4 (s : Int) 0).2 j = w.2 j
  rw [bA_2 h4]
theorem ds1_spn : spn (ds1 w s) g = if g = s then 0 else spn w g := by
  have : spn (ds1 w s) g = spn (cl w s) g := by
    unfold spn ds1
    rw [bA_2 (by omega), bA_2 (by omega)]
  rw [this, cl_spn]
theorem ds1_hom : hom (ds1 w s) g = hom w g := by unfold hom; rw [ds1_2 (by omega) (by omega) (by omega)]
theorem ds1_thr : thr (ds1 w s) = thr w := by funext x y; unfold thr; rw [ds1_2 (by omega) (by omega) (by omega)]
theorem K_ds89 (I : IF w) (hs : s < 64) (h0 : 0 < spn w s) (hb : b + M ≤ 64) (hk : k < spn w s) : K_dissolve_89 tt (n + 1) (kk, dsw w s b M (ds1 w s) k, xx) s b M (hom w s) (spn w s) ((hom w s / 32 : Nat) : Int) (lvb w s b M k) k = K_dissolve_89 tt n (kk, dsw w s b M (ds1 w s) (k + 1), xx) s b M (hom w s) (spn w s) ((hom w s / 32 : Nat) : Int) (lvb w s b M (k + 1)) ((k + 1 : Nat) : Int) := by
  obtain ⟨a1, a2, a3⟩ := I.at hs h0
  have hN16 := (isN_r (isN_of I hs h0)).2
  have hh : hom w s < 128 := by omega
  have tt1 : thr (dsw w s b M (ds1 w s) k) (hom w s / 32) (hom w s % 32 + k) = pgs w s k := by
    show bt ((dsw w s b M (ds1 w s) k).2 6 (hom w s / 32)) (hom w s % 32 + k) = _
    rw [dsw_2 (by omega) (by omega) (by omega), ds1_2 (by omega) (by omega) (by omega)]; rfl
  have t5 : (dsw w s b M (ds1 w s) k).2 5 s = w.2 5 s := by
    rw [(dsw_at s k).2.2, ds1_2 (by omega) (by omega) (by omega)]
    split <;> rfl
  have hb64 : (0 : Int) ≤ (s : Int) ∧ (s : Int) < 64 := by omega
  have f150 : kep w s b M k = true → lev w s b M k = false → K_dissolve_150 tt (fun s l1 l2 l3 l4 l5 l6 l8 l9 => K_dissolve_89 tt n s l1 l2 l3 l4 l5 l6 l8 l9) n (kk, dsw w s b M (ds1 w s) k, xx) s b M (hom w s) (spn w s) ((hom w s / 32 : Nat) : Int) (lvb w s b M k) k = K_dissolve_89 tt n (kk, dsw w s b M (ds1 w s) (k + 1), xx) s b M (hom w s) (spn w s) ((hom w s / 32 : Nat) : Int) (lvb w s b M (k + 1)) ((k + 1 : Nat) : Int) := fun c1 c2 => by
    unfold K_dissolve_150
    dsimp only
    rw [if_pos hb64, Int.toNat_natCast, t5, wadd (x := s) (y := k) (by omega), wadd (x := hom w s) (y := k) (by omega), wad1 (by omega), dsw, if_pos c1, lvb, c2, if_neg (by decide)]
    exact bb_s (W_hold_ok (N := 1) n _ (by omega))
  rw [K_dissolve_89, if_neg (by omega), hm32 hh, wadd (x := hom w s % 32) (y := k) (by omega), wadd (x := s) (y := k) (by omega), wadd (x := b) (y := M) (by omega), wad1 (by omega)]
  refine (bb_s (W_isThere_ok n (dsw w s b M (ds1 w s) k) (o := hom w s / 32) (p := hom w s % 32 + k) (by omega) (by omega))).trans ?_
  rw [i01, tt1]
  cases th : pgs w s k
  · have c1 : kep w s b M k = false := by unfold kep; rw [th]; rfl
    have c2 : lev w s b M k = false := by unfold lev; rw [th]; rfl
    rw [if_neg (by decide), dsw, c1, if_neg (by decide), lvb, c2, if_neg (by decide)]
  · rw [if_pos rfl]
    by_cases d : b ≤ s + k ∧ s + k < b + M
    · have c1 : kep w s b M k = false := by unfold kep; rw [th, decide_eq_true d]; rfl
      have c2 : lev w s b M k = true := by unfold lev; rw [th, decide_eq_true d]; rfl
      rw [if_neg (by omega), if_neg (by omega), dsw, c1, if_neg (by decide), lvb, c2, if_pos rfl]
    · have c1 : kep w s b M k = true := by unfold kep; rw [th, decide_eq_false d]; rfl
      have c2 : lev w s b M k = false := by unfold lev; rw [th, decide_eq_false d]; rfl
      by_cases e : s + k < b
      · rw [if_pos (by omega)]; exact f150 c1 c2
      · rw [if_neg (by omega), if_pos (by omega)]; exact f150 c1 c2
theorem K_dissolve_ok (I : IF w) (hs : s < 64) (h0 : 0 < spn w s) (hb : b + M ≤ 64) (hn : 100 ≤ n) : K_dissolve tt n (kk, w, xx) s b M = some (((cn (lev w s b M) (spn w s) : Nat) : Int), (kk, dwf w s b M, xx)) := by
  obtain ⟨e4, e3, _, hh, _⟩ := I.1 s hs
  obtain ⟨a1, a2, a3⟩ := I.at hs h0
  have hN16 := (isN_r (isN_of I hs h0)).2
  have hb64 : (0 : Int) ≤ (s : Int) ∧ (s : Int) < 64 := by omega
  have hq : (0 : Int) ≤ ((hom w s / 32 : Nat) : Int) ∧ ((hom w s / 32 : Nat) : Int) < 4 := by omega
  have hcn : cn (bt (lvb w s b M (spn w s))) 32 = cn (lev w s b M) (spn w s) := by
    have e : cn (bt (lvb w s b M (spn w s))) 32 = cn (fun q => decide (hom w s % 32 ≤ q ∧ q < hom w s % 32 + spn w s) && lev w s b M (q - hom w s % 32)) 32 := cn_congr (fun q hq => lvb_bt a3 hq _ (Nat.le_refl _))
    rw [e, cn_sh, show min (32 - hom w s % 32) (spn w s) = spn w s by omega]
  unfold K_dissolve
  dsimp only
  rw [if_pos hb64, if_pos hb64]
  refine (bb_s (W_pageBits_ok n I hs)).trans ?_
  rw [Int.toNat_natCast, e3, e4, hd32 hh, if_pos hb64, if_pos hq, if_pos hq, if_pos hq, if_pos hq, Int.toNat_natCast]
  refine runs0 (fun n k => K_dissolve_89 tt n (kk, dsw w s b M (ds1 w s) k, xx) s b M (hom w s) (spn w s) ((hom w s / 32 : Nat) : Int) (lvb w s b M k) k) (spn w s) 60 (fun n k hk _ => K_ds89 I hs h0 hb hk) (fun n hn => ?_) (n := n) (by omega)
  show K_dissolve_89 tt (n + 1) (kk, dsw w s b M (ds1 w s) (spn w s), xx) s b M (hom w s) (spn w s) ((hom w s / 32 : Nat) : Int) (lvb w s b M (spn w s)) (spn w s) = _
  rw [K_dissolve_89, if_pos (Int.le_refl _)]
  refine (bb_s (W_leave_ok (o := hom w s / 32) (by omega) (by omega))).trans ?_
  rw [b1_s (bitCount_ok n _), hcn]
  rfl
theorem R_isThere_raw (n : Nat) (m : bS) (ho : o < 4) (hp : p < 32) : R_isThere n m o p = some (if m.2 0 (18 + 7 * (32 * o + p) + 1) = 1 then 1 else 0, m) := by
  unfold R_isThere
  rw [bb_s (R_pageAt_ok n m ho hp (by omega) (by omega))]
  show (if m.2 0 (18 + 7 * (32 * o + p) + 1) = 1 then some ((1 : Int), m) else some (0, m)) = _
  split <;> rfl
theorem R_un38 (I : IF w) (HP : RP w a) (hs : s < 64) (h0 : 0 < spn w s) (hb : b + M ≤ 64) (hM : 0 < M) (hk : k < spn w s) (hn : 30 ≤ n) : R_undoFrames_38 (n + 1) (bC m 0 (und w s b M a k)) s b M ((hom w s / 32 : Nat) : Int) ((hom w s % 32 : Nat) : Int) (spn w s) (w.2 5 s) ((cn (lev w s b M) k : Nat) : Int) k = R_undoFrames_38 n (bC m 0 (und w s b M a (k + 1))) s b M ((hom w s / 32 : Nat) : Int) ((hom w s % 32 : Nat) : Int) (spn w s) (w.2 5 s) ((cn (lev w s b M) (k + 1) : Nat) : Int) ((k + 1 : Nat) : Int) := by
  obtain ⟨a1, a2, a3⟩ := I.at hs h0
  have hN16 := (isN_r (isN_of I hs h0)).2
  have hidx : 32 * (hom w s / 32) + (hom w s % 32 + k) = hom w s + k := by omega
  have hcl := cn_le (lev w s b M) k
  have fr : R_free n (bC m 0 (und w s b M a k)) ((s + k : Nat) : Int) ((hom w s / 32 : Nat) : Int) ((hom w s % 32 + k : Nat) : Int) = some (0, bC m 0 (fr1 (und w s b M a k) (s + k) (hom w s + k))) := by
    rw [R_free_ok (f := s + k) (o := hom w s / 32) (p := hom w s % 32 + k) (by omega) (by omega) (by omega) (by omega), bC_C, hidx]; rfl
  have hrow : fr1 (und w s b M a k) (s + k) (hom w s + k) (18 + 7 * (hom w s + k) + 1) = if pgs w s k = true then 1 else 0 := by
    rw [fr1_p (by omega) (by omega) (by omega), if_neg (by omega), und_p (by omega) a2 a1 k (by omega) 1 (by omega), if_neg (by omega)]
    have := (HP (hom w s / 32) (hom w s % 32 + k) (by omega) (by omega)).1
    rw [hidx] at this
    exact this
  have it : R_isThere n (bC m 0 (fr1 (und w s b M a k) (s + k) (hom w s + k))) ((hom w s / 32 : Nat) : Int) ((hom w s % 32 + k : Nat) : Int) = some (if pgs w s k = true then 1 else 0, bC m 0 (fr1 (und w s b M a k) (s + k) (hom w s + k))) := by
    rw [R_isThere_raw n _ (o := hom w s / 32) (p := hom w s % 32 + k) (by omega) (by omega), hidx]
    show some ((if fr1 (und w s b M a k) (s + k) (hom w s + k) (18 + 7 * (hom w s + k) + 1) = 1 then (1 : Int) else 0), _) = _
    rw [hrow]
    cases pgs w s k <;> rfl
  rw [R_undoFrames_38, if_neg (by omega), wadd (x := hom w s % 32) (y := k) (by omega), wadd (x := s) (y := k) (by omega), wadd (x := b) (y := M) (by omega), wad1 (x := k) (by omega), ay_wi (x := ((b + M : Nat) : Int) - 1) (by omega) (by omega), bb_s fr, bb_s it, i01, und, cn_s]
  cases th : pgs w s k
  · have c2 : lev w s b M k = false := by unfold lev; rw [th]; rfl
    rw [if_neg (by decide), if_neg (by decide), c2, if_neg (by decide)]
    rfl
  · rw [if_pos rfl, if_pos rfl, b1_s (R_isIn_ok n _ _ _), i01]
    by_cases d : b ≤ s + k ∧ s + k < b + M
    · have c2 : lev w s b M k = true := by unfold lev; rw [th, decide_eq_true d]; rfl
      rw [if_pos (show (b : Int) ≤ ((s + k : Nat) : Int) ∧ ((s + k : Nat) : Int) ≤ ((b + M : Nat) : Int) - 1 by omega), if_pos d, c2, if_pos rfl]
      rw [bb_s (R_leave_ok n _ (o := hom w s / 32) (p := hom w s % 32 + k) (by omega) (by omega)), bC_C, hidx, wad1 (x := cn (lev w s b M) k) (by omega)]
      rfl
    · have c2 : lev w s b M k = false := by unfold lev; rw [th, decide_eq_false d]; rfl
      rw [if_neg (show ¬ ((b : Int) ≤ ((s + k : Nat) : Int) ∧ ((s + k : Nat) : Int) ≤ ((b + M : Nat) : Int) - 1) by omega), if_neg d, c2, if_neg (show ¬ (false = true) by decide)]
      have rs : R_reserve n (bC m 0 (fr1 (und w s b M a k) (s + k) (hom w s + k))) ((s + k : Nat) : Int) ((hom w s / 32 : Nat) : Int) ((hom w s % 32 + k : Nat) : Int) 1 (w.2 5 s) = some (0, bC m 0 (rsv (fr1 (und w s b M a k) (s + k) (hom w s + k)) (s + k) (hom w s + k) 1 (w.2 5 s))) := by
        have := R_reserve_ok (n := n) (m := bC m 0 (fr1 (und w s b M a k) (s + k) (hom w s + k))) (f := s + k) (h := hom w s + k) (N := 1) (t := w.2 5 s) (Or.inl rfl) (by omega) (by omega) (by omega) (by omega)
        rw [show (hom w s + k) / 32 = hom w s / 32 by omega, show (hom w s + k) % 32 = hom w s % 32 + k by omega, bC_C] at this
        exact this
      rw [bb_s rs, bb_s (R_putPage_ok n _ (o := hom w s / 32) (p := hom w s % 32 + k) (by omega) (by omega) (by omega) (by omega) 1), bC_C, hidx]
      rfl
theorem R_undoFrames_ok (I : IF w) (HF : RF w (m.2 0)) (HP : RP w (m.2 0)) (hs : s < 64) (h0 : 0 < spn w s) (hb : b + M ≤ 64) (hM : 0 < M) (hn : 100 ≤ n) : R_undoFrames n m s b M = some (((cn (lev w s b M) (spn w s) : Nat) : Int), bC m 0 (und w s b M (m.2 0) (spn w s))) := by
  have hN16 := (isN_r (isN_of I hs h0)).2
  obtain ⟨q1, q2, q3, q4⟩ := HF.2.1 s hs h0
  have f1 : R_frameAt n m s 1 = some (((hom w s / 32 : Nat) : Int), m) := by rw [R_frameAt_ok n m hs (by omega) (by omega), show (1 : Int).toNat = 1 from rfl, q1]
  have f2 : R_frameAt n m s 2 = some (((hom w s % 32 : Nat) : Int), m) := by rw [R_frameAt_ok n m hs (by omega) (by omega), show (2 : Int).toNat = 2 from rfl, q2]
  have f3 : R_frameAt n m s 3 = some ((spn w s : Int), m) := by rw [R_frameAt_ok n m hs (by omega) (by omega), show (3 : Int).toNat = 3 from rfl, q3]
  have f4 : R_frameAt n m s 4 = some (w.2 5 s, m) := by rw [R_frameAt_ok n m hs (by omega) (by omega), show (4 : Int).toNat = 4 from rfl, q4]
  unfold R_undoFrames
  rw [bb_s f1, bb_s f2, bb_s f3, bb_s f4]
  have key := runs0 (fun n k => R_undoFrames_38 n (bC m 0 (und w s b M (m.2 0) k)) s b M ((hom w s / 32 : Nat) : Int) ((hom w s % 32 : Nat) : Int) (spn w s) (w.2 5 s) ((cn (lev w s b M) k : Nat) : Int) k) (spn w s) 40 (r := (((cn (lev w s b M) (spn w s) : Nat) : Int), bC m 0 (und w s b M (m.2 0) (spn w s)))) (fun n k hk hn => R_un38 I HP hs h0 hb hM hk (by omega)) (fun n hn => ?_) (n := n) (by omega)
  · have e : bC m 0 (und w s b M (m.2 0) 0) = m := bC_id m
    rw [e] at key
    exact key
  · show R_undoFrames_38 (n + 1) (bC m 0 (und w s b M (m.2 0) (spn w s))) s b M ((hom w s / 32 : Nat) : Int) ((hom w s % 32 : Nat) : Int) (spn w s) (w.2 5 s) ((cn (lev w s b M) (spn w s) : Nat) : Int) (spn w s) = _
    rw [R_undoFrames_38, if_pos (Int.le_refl _)]
end
