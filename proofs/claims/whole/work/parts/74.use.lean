/-! A use: the time of it, on both sides. -/
/-- what a use leaves as it was -/
def Ku (w w' : bS) (o p : Nat) : Prop := (w'.2 0 = w.2 0 ∧ w'.2 1 = w.2 1 ∧ w'.2 7 = w.2 7 ∧ w'.2 11 = w.2 11) ∧ (∀ j, j ≠ 12 → j ≠ 14 → w'.1 j = w.1 j) ∧ (∀ o' q', o' < 4 → q' < 32 → thr w' o' q' = if o' = o ∧ q' = p then true else thr w o' q') ∧ ∀ o' q', o' < 4 → q' < 32 → thr w o' q' = true → frm w' (32 * o' + q') = frm w (32 * o' + q')
def usw (w : bS) (i : Nat) (T : Nat) : bS := bI (bA w 2 (i : Int) (T : Int)) 14 ((T + 1 : Nat) : Int)
def usr (a : Nat → Int) (i : Nat) (T : Nat) : Nat → Int := ay_u (ay_u a (18 + 7 * i + 6) (T : Int)) 10 ((T + 1 : Nat) : Int)
section
variable {n n' : Nat} {m m' m1 w w' w1 w2 w0 kk k1 xx tt tx : bS} {z : Nat → Nat} {a b' : Nat → Int} {o p f s N k i h g j T b c M x y q : Nat} {t v : Int}
theorem usw_2 (h : j ≠ 2) : (usw w i T).2 j = w.2 j := by
  show (bif Nat.beq j 2 then _ else w.2 j) = w.2 j
  rw [nbeq h]; rfl
theorem usw_22 : (usw w i T).2 2 g = if g = i then (T : Int) else w.2 2 g := by
  show ay_u (w.2 2) ((i : Int)).toNat (T : Int) g = _
  rw [Int.toNat_natCast]; rfl
theorem usw_1 (h : j ≠ 14) : (usw w i T).1 j = w.1 j := bI_1 h
theorem usw_14 : (usw w i T).1 14 = ((T + 1 : Nat) : Int) := bI_e
theorem usr_p (hg : g < 128) (hj : j < 7) : usr a i T (18 + 7 * g + j) = if g = i ∧ j = 6 then (T : Int) else a (18 + 7 * g + j) := by
  unfold usr
  rw [ay_ux (by omega)]
  by_cases c : g = i ∧ j = 6
  · rw [if_pos c, c.1, c.2, ay_ue]
  · rw [if_neg c, ay_ux (by omega)]
theorem usr_pn (hg : g < 128) (hj : j < 7) (h6 : j ≠ 6) : usr a i T (18 + 7 * g + j) = a (18 + 7 * g + j) := by rw [usr_p hg hj, if_neg (fun q => h6 q.2)]
theorem usr_o (hg : g < 18 ∨ 914 ≤ g) (h10 : g ≠ 10) (hi : i < 128) : usr a i T g = a g := by
  unfold usr
  rw [ay_ux (by omega), ay_ux (by omega)]
theorem usr_10 : usr a i T 10 = ((T + 1 : Nat) : Int) := ay_ue
theorem GX_use (X : GX z w a T) (hT1 : T + 1 < 131072) (ho : o < 4) (hp : p < 32) : GX z (usw w (32 * o + p) T) (usr a (32 * o + p) T) (T + 1) := by
  obtain ⟨G, U, V, S, Q, ⟨x1, x2, x3⟩, x4, x5⟩ := X
  obtain ⟨R, I, T', J, hT, hT2⟩ := id G
  have hi : 32 * o + p < 128 := by omega
  have ra : ∀ i, (i < 10 ∨ 1259 ≤ i) ∨ (11 ≤ i ∧ i ≤ 13) → usr a (32 * o + p) T i = a i := fun i h => usr_o (by omega) (by omega) hi
  have ht : thr (usw w (32 * o + p) T) = thr w := by funext x y; unfold thr; rw [usw_2 (by omega)]
  have hsp : spn (usw w (32 * o + p) T) = spn w := by funext x; unfold spn; rw [usw_2 (by omega)]
  have hho : hom (usw w (32 * o + p) T) = hom w := by funext x; unfold hom; rw [usw_2 (by omega)]
  have hlv : lvl (usw w (32 * o + p) T) = lvl w := by funext x y; unfold lvl thr six fou; rw [usw_2 (by omega), usw_2 (by omega), usw_2 (by omega)]
  have hdr : drt (usw w (32 * o + p) T) = drt w := by funext x y; unfold drt; rw [usw_2 (by omega)]
  refine ⟨⟨⟨?_, fun o' q' ho' hq' => ?_, ?_, ?_⟩, ?_, ?_, ?_, usw_14, hT1⟩, ?_, ?_, ?_, ?_, ⟨?_, ?_, ?_⟩, ?_, ?_⟩
  · refine RF_eq (usw_2 (by omega)) (usw_2 (by omega)) (usw_2 (by omega)) ?_
    refine ⟨fun f hf => ?_, fun s hs h0 => ?_, fun g hg => ?_⟩
    · rw [usr_o (by omega) (by omega) hi]; exact R.1.1 f hf
    · rw [usr_o (by omega) (by omega) hi, usr_o (by omega) (by omega) hi, usr_o (by omega) (by omega) hi, usr_o (by omega) (by omega) hi]; exact R.1.2.1 s hs h0
    · rw [show 18 + 7 * g = 18 + 7 * g + 0 from rfl, usr_p hg (by omega), if_neg (by omega)]; exact R.1.2.2 g hg
  · obtain ⟨h1, h2, h3, h4, h5, h6⟩ := R.2.1 o' q' ho' hq'
    have hg : 32 * o' + q' < 128 := by omega
    rw [ht, hdr, hlv, usw_2 (by omega), usw_2 (by omega), usw_22, usr_pn (j := 1) hg (by omega) (by omega), usr_pn (j := 2) hg (by omega) (by omega), usr_pn (j := 3) hg (by omega) (by omega), usr_pn (j := 4) hg (by omega) (by omega), usr_pn (j := 5) hg (by omega) (by omega), usr_p (j := 6) hg (by omega)]
    refine ⟨h1, h2, h3, h4, h5, ?_⟩
    by_cases e : 32 * o' + q' = 32 * o + p
    · rw [if_pos ⟨e, rfl⟩, if_pos e]
    · rw [if_neg (fun q => e q.1), if_neg e]; exact h6
  · exact RB_c (usr_o (by omega) (by omega) hi) (fun i h1 h2 => usr_o (by omega) (by omega) hi) (RB_w (usw_1 (by omega)) (usw_2 (by omega)) R.2.2.1)
  · refine ⟨by rw [usw_14, usr_10], R.2.2.2.2.imp (fun H => RG_w (usw_1 (by omega)) (usw_2 (by omega)) (RG_c (fun i h1 h2 => usr_o (by omega) (by omega) hi) H)) (fun H => by rw [usw_1 (by omega)]; exact H)⟩
  · exact IF_eq (usw_2 (by omega)) (usw_2 (by omega)) I
  · unfold IT; rw [ht, hvs_same (usw_2 (by omega)) (usw_2 (by omega))]; exact T'
  · exact IL_same (usw_2 (by omega)) (usw_2 (by omega)) (usw_2 (by omega)) (usw_2 (by omega)) (usw_2 (by omega)) (usw_2 (by omega)) J
  · intro i h
    rw [usw_22]
    by_cases e : i = 32 * o + p
    · rw [if_pos e]; omega
    · rw [if_neg e]; exact U i h
  · unfold IV; rw [ht, usw_2 (by omega), usw_2 (by omega)]; exact V
  · unfold SZ; rw [ht, hsp, hho]; exact S
  · unfold IS; rw [hsp, usw_2 (by omega)]; exact Q
  · rw [usw_1 (by omega), ra 11 (by omega)]; exact x1
  · rw [usw_1 (by omega), ra 12 (by omega)]; exact x2
  · rw [usw_1 (by omega), ra 13 (by omega)]; exact x3
  · rw [ra 11 (by omega)]; exact x4
  · rw [ra 12 (by omega)]; exact x5
theorem pfr_w (hs : s < 64) (hp : p < 32) (hh : h ≤ p) (hf : f = s + (p - h)) : ay_w (ay_w ((s : Int) + (p : Int)) - (h : Int)) = (f : Int) := by
  rw [wadd (by omega), ay_wi (by omega) (by omega)]; omega
theorem W_frameOf_frm (I : IF w) (hT : IT w) (ho : o < 4) (hp : p < 32) (th : thr w o p = true) (hn : 66 ≤ n) : W_frameOf n w o p = some (((frm w (32 * o + p) : Nat) : Int), w) := by
  rw [W_frameOf_ok I hT ho hp hn, if_pos th]; rfl
theorem Mq.bCC (Q : Mq m m') : Mq (bC m 0 a) (bC m' 0 a) := by
  refine ⟨Q.1, fun j h1 h2 h3 => ?_⟩
  show (bif Nat.beq j 0 then a else m'.2 j) = (bif Nat.beq j 0 then a else m.2 j)
  rw [Q.2 j h1 h2 h3]
theorem touch15_ok (X : GX z w (m.2 0) T) (hT1 : T + 1 < 131072) (ho : o < 4) (hp : p < 32) (th : thr w o p = true) : R_touchNow_15 n m o p = some (((frm w (32 * o + p) : Nat) : Int), bC m 0 (usr (m.2 0) (32 * o + p) T)) := by
  have h10 : m.2 0 10 = (T : Int) := X.1.tm
  have hi : 32 * o + p < 128 := by omega
  have Y := GX_use X hT1 ho hp
  have Y' : GW (usw w (32 * o + p) T) ((bC m 0 (usr (m.2 0) (32 * o + p) T)).2 0) (T + 1) := Y.1
  have hc : hvs w (32 * o + p) < 64 := X.1.2.2.1 o p ho hp th
  have e3 : (usw w (32 * o + p) T).2 3 = w.2 3 := usw_2 (by omega)
  have e4 : (usw w (32 * o + p) T).2 4 = w.2 4 := usw_2 (by omega)
  have pf := R_pfr n Y' ho hp
  rw [hvs_same e3 e4, if_pos hc, frm_same e3 e4] at pf
  unfold R_touchNow_15
  rw [bb_s (R_putPage_ok n m ho hp (by omega) (by omega) _), h10]
  have e : bA (bC m 0 (ay_u (m.2 0) (18 + 7 * (32 * o + p) + (6 : Int).toNat) (T : Int))) 0 10 (ay_w ((bC m 0 (ay_u (m.2 0) (18 + 7 * (32 * o + p) + (6 : Int).toNat) (T : Int))).2 0 10 + 1)) = bC m 0 (usr (m.2 0) (32 * o + p) T) := by
    rw [bA_C, bC_C]
    show bC m 0 (ay_u (ay_u (m.2 0) (18 + 7 * (32 * o + p) + 6) (T : Int)) 10 (ay_w (ay_u (m.2 0) (18 + 7 * (32 * o + p) + 6) (T : Int) 10 + 1))) = _
    rw [ay_ux (by omega), h10, wad1 (by omega)]
    rfl
  rw [e, bb_s pf]
end
