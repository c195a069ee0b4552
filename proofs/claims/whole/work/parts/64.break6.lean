/-! Breaking up: the two sides in step; all that holds of a world. -/
/-- what is absent has the value that is saved -/
def IV (w : bS) : Prop := ∀ o p, o < 4 → p < 32 → thr w o p = false → w.2 0 (32 * o + p) = w.2 1 (32 * o + p)
/-- all is inside the sizes -/
def SZ (z : Nat → Nat) (w : bS) : Prop := (∀ o p, o < 4 → p < 32 → thr w o p = true → p < z o) ∧ ∀ s, s < 64 → 0 < spn w s → hom w s % 32 + spn w s ≤ z (hom w s / 32)
/-- times of reservations -/
def IS (w : bS) : Prop := ∀ s, s < 64 → 0 < spn w s → 0 ≤ w.2 5 s ∧ w.2 5 s < 131072
/-- what is drawn next -/
def nxx (x : Int) : Int := (x * 761 + 619) % 31121
/-- all of it; the class may be a day, or a draw, ahead -/
def GX (z : Nat → Nat) (w : bS) (a : Nat → Int) (T : Nat) : Prop := GW w a T ∧ IU w ∧ IV w ∧ SZ z w ∧ IS w ∧ ((w.1 15 = a 11 ∨ w.1 15 = nxx (a 11)) ∧ (w.1 16 = a 12 ∨ w.1 16 = a 12 + 1) ∧ w.1 17 = a 13) ∧ (0 ≤ a 11 ∧ a 11 < 31121) ∧ 0 ≤ a 12 ∧ a 12 ≤ 9999
/-- worlds that differ in reservations and book alone -/
def Kb (w w' : bS) : Prop := (∀ j, j ≠ 3 → j ≠ 4 → j ≠ 5 → j ≠ 10 → w'.2 j = w.2 j) ∧ ∀ j, j ≠ 12 → w'.1 j = w.1 j
section
variable {n n' : Nat} {m w w' w0 kk xx tt : bS} {z : Nat → Nat} {a b' : Nat → Int} {o p f s N k i h g j T b c M : Nat} {t v x : Int}
theorem GX.kp (X : GX z w a T) (K : Kp w w') (G : GW w' b' T) (R : Ra a b') : GX z w' b' T := by
  obtain ⟨G0, U, V, S, Q, ⟨x1, x2, x3⟩, x4, x5⟩ := X
  have e : ∀ j, j ≠ 8 → j ≠ 9 → j ≠ 10 → w'.2 j = w.2 j := K.1
  have h6 := kp_thr K
  have hsp := kp_spn K
  have hho : hom w' = hom w := by funext s; unfold hom; rw [e 3 (by omega) (by omega) (by omega)]
  refine ⟨G, ?_, ?_, ?_, ?_, ⟨?_, ?_, ?_⟩, ?_, ?_⟩
  · unfold IU; rw [e 2 (by omega) (by omega) (by omega)]; exact U
  · unfold IV; rw [h6, e 0 (by omega) (by omega) (by omega), e 1 (by omega) (by omega) (by omega)]; exact V
  · unfold SZ; rw [h6, hsp, hho]; exact S
  · unfold IS; rw [hsp, e 5 (by omega) (by omega) (by omega)]; exact Q
  · rw [K.2 15 (by omega), R 11 (by omega)]; exact x1
  · rw [K.2 16 (by omega), R 12 (by omega)]; exact x2
  · rw [K.2 17 (by omega), R 13 (by omega)]; exact x3
  · rw [R 11 (by omega)]; exact x4
  · rw [R 12 (by omega)]; exact x5
theorem nt_2 {V : Int} (hj : j ≠ 10) : (nt w V).2 j = w.2 j := by
  show (bif Nat.beq j 10 then _ else w.2 j) = w.2 j
  rw [nbeq hj]; rfl
theorem nt_1 {V : Int} (hj : j ≠ 12) : (nt w V).1 j = w.1 j := by
  show (bif Nat.beq j 12 then _ else w.1 j) = w.1 j
  rw [nbeq hj]; rfl
theorem K_breakUp_ok (G : GW w a T) (hs : s < 64) (h0 : 0 < spn w s) (hn : 40 ≤ n) : K_breakUp tt n (kk, w, xx) s = some (0, (kk, nt (bkn w s) ((T * 16384 + 1 * 2048 + hom w s / 32 * 32 + hom w s % 32 : Nat) : Int), xx)) := by
  obtain ⟨R, I, IT', J, hT, hT2⟩ := id G
  obtain ⟨e4, e3, hsp, hh, hal⟩ := I.1 s hs
  obtain ⟨a1, a2, a3⟩ := I.at hs h0
  have hN := isN_of I hs h0
  have hN16 : spn w s ≤ 16 := by rcases hN with e | e | e <;> omega
  have B := Bk.fin I R.1 hs h0
  have hb : (0 : Int) ≤ (s : Int) ∧ (s : Int) < 64 := by omega
  have hq : (0 : Int) ≤ ((hom w s / 32 : Nat) : Int) ∧ ((hom w s / 32 : Nat) : Int) < 4 := by omega
  unfold K_breakUp
  dsimp only
  rw [if_pos hb, if_pos hb, if_pos hb, Int.toNat_natCast, e3, e4, hd32 hh, hm32 hh, if_pos hq, if_pos hb, Int.toNat_natCast]
  refine runs0 (fun n i => K_breakUp_63 tt n (kk, brk w s (hom w s) (spn w s) (w.2 5 s) i (cl w s), xx) s (hom w s) (spn w s) (w.2 5 s) (ay_ushr (w.2 6 (hom w s / 32)) ((hom w s % 32 : Nat) : Int)) i) (spn w s) 0 (fun n i hi _ => K_bu63_s hN a2 a3 hh hi (cl w s)) (fun n _ => ?_) (n := n) (by omega)
  show K_breakUp_63 tt (n + 1) (kk, bkn w s, xx) s (hom w s) (spn w s) (w.2 5 s) (ay_ushr (w.2 6 (hom w s / 32)) ((hom w s % 32 : Nat) : Int)) (spn w s) = _
  rw [K_breakUp_63, if_pos (Int.le_refl _), hd32 hh, hm32 hh]
  have h14 : (bkn w s).1 14 = (T : Int) := by rw [B.2.2.2.1]; exact hT
  have h12 : 0 ≤ (bkn w s).1 12 ∧ (bkn w s).1 12 ≤ 25 := by rw [B.2.2.2.1]; exact G.l.1
  exact bb_s (W_note_ok (k := 1) n hT2 (by omega) (by omega) (by omega) h12 h14)
theorem R_breakNow_ok (G : GW w (m.2 0) T) (hs : s < 64) (h0 : 0 < spn w s) (hn : 100 ≤ n) : R_breakNow n m s = some (0, bC m 0 (rbk w s (hom w s) (spn w s) (w.2 5 s) (spn w s) (frs s (hom w s) (spn w s) (wd (m.2 0) ((T * 12288 + 1 * 2048 + hom w s / 32 * 32 + hom w s % 32 : Nat) : Int))))) := by
  obtain ⟨R, I, IT', J, hT, hT2⟩ := id G
  obtain ⟨e4, e3, hsp, hh, hal⟩ := I.1 s hs
  obtain ⟨a1, a2, a3⟩ := I.at hs h0
  have hN := isN_of I hs h0
  have hN16 : spn w s ≤ 16 := by rcases hN with e | e | e <;> omega
  obtain ⟨q1, q2, q3, q4⟩ := R.1.2.1 s hs h0
  have f1 : R_frameAt n m s 1 = some (((hom w s / 32 : Nat) : Int), m) := by rw [R_frameAt_ok n m hs (by omega) (by omega), show (1 : Int).toNat = 1 from rfl, q1]
  have f2 : R_frameAt n m s 2 = some (((hom w s % 32 : Nat) : Int), m) := by rw [R_frameAt_ok n m hs (by omega) (by omega), show (2 : Int).toNat = 2 from rfl, q2]
  have f3 : R_frameAt n m s 3 = some ((spn w s : Int), m) := by rw [R_frameAt_ok n m hs (by omega) (by omega), show (3 : Int).toNat = 3 from rfl, q3]
  have f4 : R_frameAt n m s 4 = some (w.2 5 s, m) := by rw [R_frameAt_ok n m hs (by omega) (by omega), show (4 : Int).toNat = 4 from rfl, q4]
  have h10 : m.2 0 10 = (T : Int) := G.tm
  unfold R_breakNow
  rw [bb_s f1, bb_s f2, bb_s f3, bb_s f4]
  refine (bb_s (R_writeDown_ok (k := 1) hT2 (by omega) (by omega) (by omega) G.l.2 h10 (by omega))).trans ?_
  generalize hv : ((T * 12288 + 1 * 2048 + hom w s / 32 * 32 + hom w s % 32 : Nat) : Int) = V
  have HP : RP w (frs s (hom w s) (spn w s) (wd (m.2 0) V)) := RP_p (fun g j h1 h2 h3 => by
    rw [frs_p h1 h3 a2 a1, if_neg (by omega)]
    exact wd_o (by omega) (by omega) G.l.2 V) R.2.1
  refine runs0 (fun n i => R_breakNow_40 n (bC m 0 (frs s (hom w s) i (wd (m.2 0) V))) s ((hom w s / 32 : Nat) : Int) ((hom w s % 32 : Nat) : Int) (spn w s) (w.2 5 s) i) (spn w s) 60 (fun n i hi hn => ?_) (fun n hn => ?_) (n := n) (by omega)
  · show R_breakNow_40 (n + 1) _ _ _ _ _ _ _ = R_breakNow_40 n (bC m 0 (frs s (hom w s) (i + 1) (wd (m.2 0) V))) s ((hom w s / 32 : Nat) : Int) ((hom w s % 32 : Nat) : Int) (spn w s) (w.2 5 s) ((i + 1 : Nat) : Int)
    rw [R_breakNow_40, if_neg (by omega), wadd (x := s) (y := i) (by omega), wadd (x := hom w s % 32) (y := i) (by omega), wad1 (by omega), bb_s (R_free_ok (m := bC m 0 (frs s (hom w s) i (wd (m.2 0) V))) (f := s + i) (o := hom w s / 32) (p := hom w s % 32 + i) (by omega) (by omega) (by omega) (by omega)), bC_C, show 32 * (hom w s / 32) + (hom w s % 32 + i) = hom w s + i by omega]
    rfl
  · show R_breakNow_40 (n + 1) _ _ _ _ _ _ _ = _
    rw [R_breakNow_40, if_pos (Int.le_refl _)]
    exact R_bn69 hN a2 a3 hh HP 16 n 0 (by omega) (by omega) (Or.inl (by omega)) (by omega)
theorem hole_of (hh : hld w s < spn w s) : ∃ c, c < spn w s ∧ pgs w s c = false := cn_lt hh
theorem RB_w (e12 : w'.1 12 = w.1 12) (e10 : w'.2 10 = w.2 10) (H : RB w a) : RB w' a := by
  unfold RB; rw [e12, e10]; exact H
theorem RS_w (e14 : w'.1 14 = w.1 14) (e13 : w'.1 13 = w.1 13) (e11 : w'.2 11 = w.2 11) (H : RS w a) : RS w' a := by
  unfold RS RG; rw [e14, e13, e11]; exact H
theorem RG_w (e13 : w'.1 13 = w.1 13) (e11 : w'.2 11 = w.2 11) (H : RG w a) : RG w' a := by
  unfold RG; rw [e13, e11]; exact H
theorem RP_w (e0 : w'.2 0 = w.2 0) (e1 : w'.2 1 = w.2 1) (e2 : w'.2 2 = w.2 2) (e6 : w'.2 6 = w.2 6) (e7 : w'.2 7 = w.2 7) (e8 : w'.2 8 = w.2 8) (e9 : w'.2 9 = w.2 9) (H : RP w a) : RP w' a := by
  unfold RP lvl thr drt fou six; rw [e0, e1, e2, e6, e7, e8, e9]; exact H
end
