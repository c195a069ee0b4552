/-! Writing into the book, on both sides. -/
def nt (w : bS) (V : Int) : bS := bI (bC w 10 (if w.1 12 < 25 then ay_u (w.2 10) (w.1 12).toNat V else ay_u (ay_cpy (w.2 10) (w.2 10) 1 0 24) 24 V)) 12 (if w.1 12 < 25 then w.1 12 + 1 else 25)
def wd (a : Nat → Int) (v : Int) : Nat → Int := fun i => if i = 14 then (if a 14 = 25 then 25 else a 14 + 1) else if a 14 = 25 then (if 1234 ≤ i ∧ i < 1258 then a (i + 1) else if i = 1258 then v else a i) else if i = 1234 + (a 14).toNat then v else a i
/-- who was let go -/
def RG (w : bS) (a : Nat → Int) : Prop := w.1 13 = a 15 ∧ ∃ G : Nat, G ≤ 2 ∧ w.1 13 = (G : Int) ∧ ∀ i, i < G → w.2 11 i = a (16 + i)
/-- the time; who was let go, or (within a copy) nobody yet on the class's side -/
def RS (w : bS) (a : Nat → Int) : Prop := w.1 14 = a 10 ∧ (RG w a ∨ w.1 13 = 0)
def RW (w : bS) (a : Nat → Int) : Prop := RF w a ∧ RP w a ∧ RB w a ∧ RS w a
theorem bI_same {w : bS} {k : Nat} {v v' : Int} (h : v = v') : bI w k v = bI w k v' := by rw [h]
section
variable {n : Nat} {m w : bS} {a b : Nat → Int} {o p f s N k i h g j x y T : Nat} {t : Int}
theorem RF_c (e : ∀ i, 18 ≤ i → i < 1234 → b i = a i) (H : RF w a) : RF w b := by
  refine ⟨fun f hf => ?_, fun s hs h0 => ?_, fun i hi => ?_⟩
  · rw [e _ (by omega) (by omega)]; exact H.1 f hf
  · rw [e _ (by omega) (by omega), e _ (by omega) (by omega), e _ (by omega) (by omega), e _ (by omega) (by omega)]; exact H.2.1 s hs h0
  · rw [e _ (by omega) (by omega)]; exact H.2.2 i hi
theorem RP_c (e : ∀ i, 18 ≤ i → i < 914 → b i = a i) (H : RP w a) : RP w b := fun o p ho hp => by
  rw [e _ (by omega) (by omega), e _ (by omega) (by omega), e _ (by omega) (by omega), e _ (by omega) (by omega), e _ (by omega) (by omega), e _ (by omega) (by omega)]
  exact H o p ho hp
theorem RG_c (e : ∀ i, 15 ≤ i → i < 18 → b i = a i) (H : RG w a) : RG w b := by
  obtain ⟨h5, G, h6, h7, h8⟩ := H
  refine ⟨?_, G, h6, h7, fun i hi => ?_⟩
  · rw [e _ (by omega) (by omega)]; exact h5
  · rw [e _ (by omega) (by omega)]; exact h8 i hi
theorem RS_c (e : ∀ i, 10 ≤ i → i < 18 → i ≠ 14 → b i = a i) (H : RS w a) : RS w b := by
  obtain ⟨h1, h2⟩ := H
  refine ⟨?_, h2.imp (RG_c (fun i a1 a2 => e i (by omega) a2 (by omega))) id⟩
  rw [e _ (by omega) (by omega) (by omega)]; exact h1
theorem RB_c (e14 : b 14 = a 14) (e : ∀ i, 1234 ≤ i → i < 1259 → b i = a i) (H : RB w a) : RB w b := by
  obtain ⟨L, h1, h2, h3, h4⟩ := H
  exact ⟨L, h1, h2, by rw [e14, h3], fun i hi => by rw [e _ (by omega) (by omega)]; exact h4 i hi⟩
theorem wd_o (hi : i ≠ 14) (h2 : i < 1234 ∨ 1259 ≤ i) (h14 : 0 ≤ a 14 ∧ a 14 ≤ 25) (v : Int) : wd a v i = a i := by
  unfold wd
  rw [if_neg hi]
  by_cases e : a 14 = 25
  · rw [if_pos e, if_neg (by omega), if_neg (by omega)]
  · rw [if_neg e, if_neg (by omega)]
theorem W_note_ok (n : Nat) (hT : T < 131072) (hk : k < 8) (hx : x < 64) (hy : y < 32) (h12 : 0 ≤ w.1 12 ∧ w.1 12 ≤ 25) (hw : w.1 14 = (T : Int)) : W_note n w k x y = some (0, nt w ((T * 16384 + k * 2048 + x * 32 + y : Nat) : Int)) := by
  unfold W_note
  by_cases c : w.1 12 < 25
  · rw [if_pos c]
    unfold W_note_30
    rw [if_pos ⟨h12.1, c⟩, hw, line_or hT hk hx hy, ay_wi (by omega) (by omega)]
    unfold nt
    rw [if_pos c, if_pos c]
    rfl
  · rw [if_neg c]
    unfold W_note_30
    have e : (bI (bC w 10 (ay_cpy (w.2 10) (w.2 10) 1 0 24)) 12 24).1 14 = (T : Int) := hw
    rw [if_pos (show 0 ≤ (bI (bC w 10 (ay_cpy (w.2 10) (w.2 10) 1 0 24)) 12 24).1 12 ∧ (bI (bC w 10 (ay_cpy (w.2 10) (w.2 10) 1 0 24)) 12 24).1 12 < 25 from (by decide : (0 : Int) ≤ 24 ∧ (24 : Int) < 25)), e, line_or hT hk hx hy]
    unfold nt
    rw [if_neg c, if_neg c]
    congr 2
    refine Prod.ext ?_ ?_
    · funext q
      show (bif Nat.beq q 12 then ay_w (24 + 1) else (bif Nat.beq q 12 then (24 : Int) else w.1 q)) = (bif Nat.beq q 12 then (25 : Int) else w.1 q)
      cases Nat.beq q 12 <;> rfl
    · funext q
      show (bif Nat.beq q 10 then ay_u (ay_cpy (w.2 10) (w.2 10) 1 0 24) 24 _ else (bif Nat.beq q 10 then _ else w.2 q)) = (bif Nat.beq q 10 then _ else w.2 q)
      cases Nat.beq q 10 <;> rfl
theorem bA_C (m : bS) (i v : Int) : bA m 0 i v = bC m 0 (ay_u (m.2 0) i.toNat v) := rfl
theorem R_wd63 (n : Nat) (hT : T < 131072) (hk : k < 6) (hx : x < 64) (hy : y < 32) {L : Nat} (hL : L < 25) (h14 : m.2 0 14 = (L : Int)) (h10 : m.2 0 10 = (T : Int)) : R_writeDown_63 n m k x y = some (0, bC m 0 (ay_u (ay_u (m.2 0) (1234 + L) ((T * 12288 + k * 2048 + x * 32 + y : Nat) : Int)) 14 ((L + 1 : Nat) : Int))) := by
  unfold R_writeDown_63
  rw [h14, h10]
  simp (disch := omega) only [ay_wi]
  rw [if_pos (by omega), bA_C, bA_C, bC_C, show ((((T : Int) * 6 + (k : Int)) * 64 + (x : Int)) * 32 + (y : Int)) = ((T * 12288 + k * 2048 + x * 32 + y : Nat) : Int) by omega]
  have e : (1234 + (L : Int)).toNat = 1234 + L := by omega
  rw [e]
  show some ((0 : Int), bC m 0 (ay_u (ay_u (m.2 0) (1234 + L) _) 14 (ay_w (ay_u (m.2 0) (1234 + L) _ 14 + 1)))) = _
  rw [ay_ux (show 14 ≠ 1234 + L by omega), h14, ay_wi (by omega) (by omega)]
  rfl
def shf (a : Nat → Int) (k : Nat) : Nat → Int := fun i => if 1234 ≤ i ∧ i < 1234 + k then a (i + 1) else a i
theorem R_writeDown_ok (hT : T < 131072) (hk : k < 6) (hx : x < 64) (hy : y < 32) (h14 : 0 ≤ m.2 0 14 ∧ m.2 0 14 ≤ 25) (h10 : m.2 0 10 = (T : Int)) (hn : 26 ≤ n) : R_writeDown n m k x y = some (0, bC m 0 (wd (m.2 0) ((T * 12288 + k * 2048 + x * 32 + y : Nat) : Int))) := by
  unfold R_writeDown
  by_cases c : m.2 0 14 = 25
  · rw [if_pos c]
    have key := runs0 (fun n q => R_writeDown_15 n (bC m 0 (shf (m.2 0) q)) k x y ((q + 1 : Nat) : Int)) 24 0 (r := (0, bC m 0 (wd (m.2 0) ((T * 12288 + k * 2048 + x * 32 + y : Nat) : Int)))) (fun n q hq _ => ?_) (fun n _ => ?_) (n := n) (by omega)
    · have e : bC m 0 (shf (m.2 0) 0) = m := by
        refine Prod.ext rfl ?_
        funext q
        show (bif Nat.beq q 0 then shf (m.2 0) 0 else m.2 q) = m.2 q
        cases hq : Nat.beq q 0
        · rfl
        · rw [Nat.eq_of_beq_eq_true hq]
          funext i
          show (if 1234 ≤ i ∧ i < 1234 + 0 then _ else m.2 0 i) = m.2 0 i
          rw [if_neg (by omega)]
      simp only [e] at key
      exact key
    · show R_writeDown_15 (n + 1) (bC m 0 (shf (m.2 0) q)) k x y ((q + 1 : Nat) : Int) = R_writeDown_15 n (bC m 0 (shf (m.2 0) (q + 1))) k x y ((q + 1 + 1 : Nat) : Int)
      rw [R_writeDown_15, if_neg (by omega)]
      simp (disch := omega) only [ay_wi]
      rw [if_pos (by omega), if_pos (by omega), bA_C, bC_C, show (1234 + ((q + 1 : Nat) : Int)).toNat = 1234 + (q + 1) by omega, show (1234 + ((q + 1 : Nat) : Int) - 1).toNat = 1234 + q by omega, show ((q + 1 : Nat) : Int) + 1 = ((q + 1 + 1 : Nat) : Int) by omega]
      congr 2
      funext i
      show ay_u (shf (m.2 0) q) (1234 + q) (shf (m.2 0) q (1234 + (q + 1))) i = shf (m.2 0) (q + 1) i
      unfold ay_u shf
      by_cases e : i = 1234 + q
      · rw [if_pos e, if_neg (by omega), if_pos (by omega), e]
        rfl
      · rw [if_neg e]
        by_cases e2 : 1234 ≤ i ∧ i < 1234 + q
        · rw [if_pos e2, if_pos (by omega)]
        · rw [if_neg e2, if_neg (by omega)]
    · show R_writeDown_15 (n + 1) (bC m 0 (shf (m.2 0) 24)) k x y ((24 + 1 : Nat) : Int) = _
      rw [R_writeDown_15, if_pos (by decide), bA_C, bC_C]
      have e14 : shf (m.2 0) 24 14 = 25 := by unfold shf; rw [if_neg (by omega)]; exact c
      have g14 : (bC m 0 (ay_u ((bC m 0 (shf (m.2 0) 24)).2 0) (14 : Int).toNat (ay_w ((bC m 0 (shf (m.2 0) 24)).2 0 14 - 1)))).2 0 14 = ((24 : Nat) : Int) := by
        show ay_u (shf (m.2 0) 24) 14 (ay_w (shf (m.2 0) 24 14 - 1)) 14 = _
        rw [ay_ue, e14]; decide
      rw [R_wd63 n hT hk hx hy (L := 24) (by omega) g14 (by
        show ay_u (shf (m.2 0) 24) 14 (ay_w (shf (m.2 0) 24 14 - 1)) 10 = _
        rw [ay_ux (by omega)]
        unfold shf; rw [if_neg (by omega)]; exact h10), bC_C]
      congr 3
      funext i
      show ay_u (ay_u (ay_u (shf (m.2 0) 24) 14 _) (1234 + 24) _) 14 ((24 + 1 : Nat) : Int) i = wd (m.2 0) _ i
      generalize ((T * 12288 + k * 2048 + x * 32 + y : Nat) : Int) = v
      have hwd : wd (m.2 0) v i = if i = 14 then 25 else if 1234 ≤ i ∧ i < 1258 then m.2 0 (i + 1) else if i = 1258 then v else m.2 0 i := by
        unfold wd
        rw [if_pos c, if_pos c]
      rw [hwd]
      unfold ay_u shf
      by_cases e : i = 14
      · rw [if_pos e, if_pos e]; rfl
      · rw [if_neg e, if_neg e, if_neg e]
        by_cases e2 : i = 1234 + 24
        · rw [if_pos e2, if_neg (show ¬ (1234 ≤ i ∧ i < 1258) by omega), if_pos (show i = 1258 by omega)]
        · rw [if_neg e2]
          by_cases e3 : 1234 ≤ i ∧ i < 1258
          · rw [if_pos (show 1234 ≤ i ∧ i < 1234 + 24 by omega), if_pos e3]
          · rw [if_neg (show ¬ (1234 ≤ i ∧ i < 1234 + 24) by omega), if_neg e3, if_neg (show ¬ i = 1258 by omega)]
  · rw [if_neg c]
    obtain ⟨L, hL⟩ := Int.eq_ofNat_of_zero_le h14.1
    rw [R_wd63 n hT hk hx hy (L := L) (by omega) hL h10]
    congr 3
    funext i
    unfold wd ay_u
    by_cases e : i = 14
    · rw [if_pos e, if_pos e, if_neg c]; omega
    · rw [if_neg e, if_neg e, if_neg c, hL, Int.toNat_natCast]
theorem RB_nt (H : RB w a) (hT : T < 131072) (hk : k < 6) (hx : x < 64) (hy : y < 32) : RB (nt w ((T * 16384 + k * 2048 + x * 32 + y : Nat) : Int)) (wd a ((T * 12288 + k * 2048 + x * 32 + y : Nat) : Int)) := by
  obtain ⟨L, h1, h2, h3, h4⟩ := H
  have new : LN ((T * 16384 + k * 2048 + x * 32 + y : Nat) : Int) ((T * 12288 + k * 2048 + x * 32 + y : Nat) : Int) T k x y := ⟨hT, hk, hx, hy, rfl, rfl⟩
  by_cases c : L = 25
  · refine ⟨25, Nat.le_refl _, ?_, ?_, fun i hi => ?_⟩
    · show (if w.1 12 < 25 then w.1 12 + 1 else 25) = _
      rw [if_neg (by omega)]; rfl
    · unfold wd; rw [if_pos rfl, if_pos (by omega)]; rfl
    · show ∃ T' k' u' v', LN ((if w.1 12 < 25 then ay_u (w.2 10) (w.1 12).toNat _ else ay_u (ay_cpy (w.2 10) (w.2 10) 1 0 24) 24 _) i) _ T' k' u' v'
      rw [if_neg (by omega)]
      unfold wd
      rw [if_neg (by omega), if_pos (by omega)]
      by_cases e : i = 24
      · subst e
        rw [ay_ue, if_neg (by omega), if_pos (by omega)]
        exact ⟨_, _, _, _, new⟩
      · rw [ay_ux e, if_pos (by omega)]
        unfold ay_cpy
        rw [if_pos (by omega), show 1 + (i - 0) = i + 1 by omega]
        exact h4 (i + 1) (by omega)
  · refine ⟨L + 1, by omega, ?_, ?_, fun i hi => ?_⟩
    · show (if w.1 12 < 25 then w.1 12 + 1 else 25) = _
      rw [if_pos (by omega)]; omega
    · unfold wd; rw [if_pos rfl, if_neg (by omega)]; omega
    · show ∃ T' k' u' v', LN ((if w.1 12 < 25 then ay_u (w.2 10) (w.1 12).toNat _ else ay_u (ay_cpy (w.2 10) (w.2 10) 1 0 24) 24 _) i) _ T' k' u' v'
      rw [if_pos (by omega), h2, Int.toNat_natCast]
      unfold wd
      rw [if_neg (by omega), if_neg (by omega), h3, Int.toNat_natCast]
      by_cases e : i = L
      · subst e
        rw [ay_ue, if_pos rfl]
        exact ⟨_, _, _, _, new⟩
      · rw [ay_ux e, if_neg (by omega)]
        exact h4 i (by omega)
theorem RB.le (H : RB w a) : (0 ≤ w.1 12 ∧ w.1 12 ≤ 25) ∧ 0 ≤ a 14 ∧ a 14 ≤ 25 := by
  obtain ⟨L, h1, h2, h3, h4⟩ := H
  omega
theorem RW_nt (H : RW w a) (hT : T < 131072) (hk : k < 6) (hx : x < 64) (hy : y < 32) : RW (nt w ((T * 16384 + k * 2048 + x * 32 + y : Nat) : Int)) (wd a ((T * 12288 + k * 2048 + x * 32 + y : Nat) : Int)) := by
  obtain ⟨h1, h2, h3, h4⟩ := H
  have hl := h3.le.2
  refine ⟨RF_c (fun i a1 a2 => wd_o (by omega) (by omega) hl _) h1, RP_c (fun i a1 a2 => wd_o (by omega) (by omega) hl _) h2, RB_nt h3 hT hk hx hy, RS_c (fun i a1 a2 a3 => wd_o a3 (by omega) hl _) h4⟩
end
