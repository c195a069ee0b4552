/-! A new reservation, on both sides. -/
/-- the frame of a page that is kept -/
def frm (w : bS) (i : Nat) : Nat := hvs w i + (i - hom w (hvs w i))
section
variable {n n' : Nat} {m w w' w0 kk xx tt : bS} {z : Nat → Nat} {a b' : Nat → Int} {o p f s N k i h g j T b c M x y : Nat} {t v : Int}
theorem bkn_frm (I : IF w) (H : RF w a) (T' : IT w) (hs : s < 64) (h0 : 0 < spn w s) (ho : o < 4) (hp : p < 32) (th : thr w o p = true) : frm (bkn w s) (32 * o + p) = frm w (32 * o + p) := by
  have B := Bk.fin I H hs h0
  obtain ⟨q1, q2⟩ := bkn_slot I H T' hs h0 ho hp th
  have hin : inH w (32 * o + p) (slt w o p) := hvs_in (T' o p ho hp th)
  have hin2 : inH (bkn w s) (32 * o + p) (slt (bkn w s) o p) := hvs_in q1
  show slt (bkn w s) o p + (32 * o + p - hom (bkn w s) (slt (bkn w s) o p)) = slt w o p + (32 * o + p - hom w (slt w o p))
  rcases q2 with ⟨e1, e2, e3⟩ | ⟨e1, e2, e3, e4, _⟩
  · have h1 := I.oth hs (T' o p ho hp th) e1 (by have := hin.1; have := hin.2; show 0 < spn w (slt w o p); omega)
    have e := (B.2.2.2.2.1 _ (T' o p ho hp th) h1).2
    rw [e2]
    rw [show hom (bkn w s) (slt w o p) = hom w (slt w o p) from e]
  · rw [e1] at hin ⊢
    have i1 := hin.1
    have i2 := hin.2
    rcases bkn_at (w := w) (s := s) (slt (bkn w s) o p) with ⟨y1, y2, _⟩ | ⟨y1, y2, y3, y4, _⟩
    · have zz : inH (cl w s) (32 * o + p) (slt (bkn w s) o p) := by unfold inH at hin2 ⊢; rw [← y1, ← y2]; exact hin2
      obtain ⟨z1, z2⟩ := cl_inH.mp zz
      exact absurd (I.2.2 _ _ s (by omega) q1 hs z2 hin) z1
    · have j1 := hin2.1
      have j2 := hin2.2
      rw [y2] at j1 j2 ⊢
      omega
theorem IL_slots (e6 : w'.2 6 = w.2 6) (e7 : w'.2 7 = w.2 7) (e8 : w'.2 8 = w.2 8) (e9 : w'.2 9 = w.2 9) (hsl : ∀ o p, o < 4 → p < 32 → thr w o p = true → spn w' (slt w' o p) = spn w (slt w o p)) (J : IL w) : IL w' := by
  have h6 : thr w' = thr w := by funext o p; unfold thr; rw [e6]
  have h7 : drt w' = drt w := by funext o p; unfold drt; rw [e7]
  have h8 : fou w' = fou w := by funext o p; unfold fou; rw [e8]
  have h9 : six w' = six w := by funext o p; unfold six; rw [e9]
  intro o p ho hp
  rw [h6, h7, h8, h9]
  obtain ⟨j1, j2, j3⟩ := J o p ho hp
  refine ⟨j1, fun hf => ?_, fun hx => ?_⟩
  · obtain ⟨q1, q2, q3, q4⟩ := j2 hf
    exact ⟨q1, q2, by rw [hsl o p ho hp q1]; exact q3, q4⟩
  · obtain ⟨q1, q3, q4⟩ := j3 hx
    exact ⟨q1, by rw [hsl o p ho hp q1]; exact q3, q4⟩
theorem nt_hom {V : Int} : hom (nt w V) = hom w := by funext g; unfold hom; rw [nt_2 (by omega)]
theorem nt_spn {V : Int} : spn (nt w V) = spn w := by funext g; unfold spn; rw [nt_2 (by omega)]
theorem Kp_nt {V : Int} : Kp w (nt w V) := ⟨fun _ _ _ h10 => nt_2 h10, fun _ h12 => nt_1 h12⟩
theorem GX_nt (X : GX z w a T) (hk : k < 6) (hx : x < 64) (hy : y < 32) : GX z (nt w ((T * 16384 + k * 2048 + x * 32 + y : Nat) : Int)) (wd a ((T * 12288 + k * 2048 + x * 32 + y : Nat) : Int)) T := by
  have G := X.1
  refine X.kp Kp_nt (G.of Kp_nt (RW_nt G.1 G.2.2.2.2.2 hk hx hy) ?_) (Ra_wd G.l.2 _)
  exact IL_same (nt_2 (by omega)) (nt_2 (by omega)) (nt_2 (by omega)) (nt_2 (by omega)) (nt_2 (by omega)) (nt_2 (by omega)) G.2.2.2.1
theorem hd_2 (h3 : j ≠ 3) (h4 : j ≠ 4) (h5 : j ≠ 5) : (hd w s h N t).2 j = w.2 j := by
  show (bif Nat.beq j 5 then _ else (bif Nat.beq j 4 then _ else (bif Nat.beq j 3 then _ else w.2 j))) = w.2 j
  rw [nbeq h5, nbeq h4, nbeq h3]; rfl
/-- pages that are there keep their slots -/
theorem hd_slot (I' : IF (hd w f h M t)) (I : IF w) (T' : IT w) (hf : f < 64) (hfr : ¬ cvs w f < 64) (ho : o < 4) (hp : p < 32) (th : thr w o p = true) : slt (hd w f h M t) o p = slt w o p ∧ slt w o p < 64 ∧ slt w o p ≠ f := by
  have hc : slt w o p < 64 := T' o p ho hp th
  have hin : inH w (32 * o + p) (slt w o p) := hvs_in hc
  have hne : slt w o p ≠ f := fun e => by
    refine hfr (cvs_iff.mpr ⟨f, hf, Nat.le_refl _, ?_⟩)
    rw [e] at hin
    have := hin.1; have := hin.2; omega
  refine ⟨hvs_eq I' (by omega) hc ?_, hc, hne⟩
  rw [hd_inH, if_neg hne]; exact hin
theorem GX_hd (X : GX z w a T) (hM : isN M) (hf : f + M ≤ 64) (hfM : f % M = 0) (hfr : ∀ t, t < M → ¬ cvs w (f + t) < 64) (ho : o < 4) (hb : b + M ≤ 32) (hbM : b % M = 0) (hz : b + M ≤ z o) (hpg : ∀ t, t < M → ¬ hvs w (32 * o + b + t) < 64) : GX z (hd w f (32 * o + b) M (T : Int)) (rsv a f (32 * o + b) M (T : Int)) T ∧ ∀ o' p', o' < 4 → p' < 32 → thr w o' p' = true → slt (hd w f (32 * o + b) M (T : Int)) o' p' = slt w o' p' ∧ slt w o' p' ≠ f := by
  obtain ⟨G, U, V, S, Q, ⟨x1, x2, x3⟩, x4, x5⟩ := X
  obtain ⟨R, I, T', J, hT, hT2⟩ := id G
  have hM0 : 0 < M := by rcases hM with e | e | e <;> omega
  have hF : ∀ f', f ≤ f' → f' < f + M → ∀ g, g < 64 → ¬ inF w f' g := fun f' h1 h2 => by
    have := cvs_no (hfr (f' - f) (by omega))
    rw [show f + (f' - f) = f' by omega] at this; exact this
  have hH : ∀ i, 32 * o + b ≤ i → i < 32 * o + b + M → ∀ g, g < 64 → ¬ inH w i g := fun i h1 h2 => by
    have := hvs_no (hpg (i - (32 * o + b)) (by omega))
    rw [show 32 * o + b + (i - (32 * o + b)) = i by omega] at this; exact this
  have hhM : (32 * o + b) % M = 0 := by rcases hM with e | e | e <;> subst e <;> omega
  have I' : IF (hd w f (32 * o + b) M (T : Int)) := IF_hd I hM (by omega) (by omega) hfM hhM hF hH
  have sl : ∀ o' p', o' < 4 → p' < 32 → thr w o' p' = true → slt (hd w f (32 * o + b) M (T : Int)) o' p' = slt w o' p' ∧ slt w o' p' < 64 ∧ slt w o' p' ≠ f := fun o' p' ho' hp' th => hd_slot I' I T' (by omega) (by have := hfr 0 hM0; rw [Nat.add_zero] at this; exact this) ho' hp' th
  have ht : thr (hd w f (32 * o + b) M (T : Int)) = thr w := by
    funext o p; unfold thr; rw [hd_2 (by omega) (by omega) (by omega)]
  have ro : ∀ g, (g < 18 ∨ 1234 ≤ g) → rsv a f (32 * o + b) M (T : Int) g = a g := fun g hg => rsv_o hg (by omega) hf (by omega)
  have ra : Ra a (rsv a f (32 * o + b) M (T : Int)) := fun i hi => ro i (by omega)
  have hG : GW (hd w f (32 * o + b) M (T : Int)) (rsv a f (32 * o + b) M (T : Int)) T := by
    refine ⟨⟨RF_hd I R.1 hM (by omega) hf (by omega) hF hH, ?_, ?_, ?_⟩, I', ?_, ?_, hT, hT2⟩
    · refine RP_w (hd_2 (by omega) (by omega) (by omega)) (hd_2 (by omega) (by omega) (by omega)) (hd_2 (by omega) (by omega) (by omega)) (hd_2 (by omega) (by omega) (by omega)) (hd_2 (by omega) (by omega) (by omega)) (hd_2 (by omega) (by omega) (by omega)) (hd_2 (by omega) (by omega) (by omega)) (RP_p (fun g j h1 h2 h3 => ?_) R.2.1)
      rw [rsv_p h1 h3 (by omega) hf (by omega), if_neg (by omega)]
    · exact RB_c (ro 14 (by omega)) (fun i h1 h2 => ro i (by omega)) (RB_w rfl (hd_2 (by omega) (by omega) (by omega)) R.2.2.1)
    · exact RS_c (fun i h1 h2 _ => ro i (by omega)) (RS_w rfl rfl (hd_2 (by omega) (by omega) (by omega)) R.2.2.2)
    · intro o' p' ho' hp' th
      rw [ht] at th
      obtain ⟨q1, q2, _⟩ := sl o' p' ho' hp' th
      have q1 : hvs (hd w f (32 * o + b) M (T : Int)) (32 * o' + p') = slt w o' p' := q1
      rw [q1]; exact q2
    · refine IL_slots (hd_2 (by omega) (by omega) (by omega)) (hd_2 (by omega) (by omega) (by omega)) (hd_2 (by omega) (by omega) (by omega)) (hd_2 (by omega) (by omega) (by omega)) (fun o' p' ho' hp' th => ?_) J
      obtain ⟨q1, q2, q3⟩ := sl o' p' ho' hp' th
      rw [q1, hd_spn, if_neg q3]
  refine ⟨⟨hG, ?_, ?_, ⟨?_, ?_⟩, ?_, ⟨?_, ?_, ?_⟩, ?_, ?_⟩, fun o' p' ho' hp' th => ⟨(sl o' p' ho' hp' th).1, (sl o' p' ho' hp' th).2.2⟩⟩
  · unfold IU; rw [hd_2 (by omega) (by omega) (by omega)]; exact U
  · unfold IV; rw [ht, hd_2 (by omega) (by omega) (by omega), hd_2 (by omega) (by omega) (by omega)]; exact V
  · rw [ht]; exact S.1
  · intro g hg hg0
    rw [hd_spn] at hg0 ⊢
    rw [hd_hom]
    by_cases e : g = f
    · rw [if_pos e, if_pos e, show (32 * o + b) % 32 = b by omega, show (32 * o + b) / 32 = o by omega]; exact hz
    · rw [if_neg e] at hg0 ⊢
      rw [if_neg e]; exact S.2 g hg hg0
  · intro g hg hg0
    rw [hd_spn] at hg0
    rw [hd_snc]
    by_cases e : g = f
    · rw [if_pos e]; omega
    · rw [if_neg e] at hg0 ⊢; exact Q g hg hg0
  · rw [ra 11 (by omega)]; exact x1
  · rw [ra 12 (by omega)]; exact x2
  · rw [ra 13 (by omega)]; exact x3
  · rw [ra 11 (by omega)]; exact x4
  · rw [ra 12 (by omega)]; exact x5
theorem blk_is (hM : isN M) (hp : p < 32) : p - p % M + M ≤ 32 ∧ (p - p % M) % M = 0 ∧ p - p % M ≤ p ∧ p < p - p % M + M := by
  rcases hM with e | e | e <;> subst e <;> omega
theorem wob (ho : o < 4) (hb : b < 32) : ay_w (ay_w ((o : Int) * 32) + (b : Int)) = ((32 * o + b : Nat) : Int) := by
  simp (disch := omega) only [ay_wi]; omega
/-- the stage, on both sides -/
theorem reserve_ok (X : GX z w (m.2 0) T) (hM : isN M) (hf : f + M ≤ 64) (hfM : f % M = 0) (hfr : ∀ t, t < M → ¬ cvs w (f + t) < 64) (ho : o < 4) (hp : p < 32) (hz : p - p % M + M ≤ z o) (hpg : ∀ t, t < M → ¬ hvs w (32 * o + (p - p % M) + t) < 64) (k4 : kk.1 4 = (M : Int)) (k5 : kk.1 5 = (f : Int)) (hn : 100 ≤ n) (hn' : 100 ≤ n') (hl : R_lowestFree n' m M = some ((f : Int), m)) : ∃ w' a', K_bringIn_16 tt n (kk, w, xx) o p = K_bringIn_70 tt n (kk, w', xx) o p ∧ R_comeNow_36 n' m o p M = R_comeNow_70 n' (bC m 0 a') o p ∧ GX z w' a' T ∧ Kb w w' ∧ Ra (m.2 0) a' ∧ slt w' o p = f ∧ ∀ o' p', o' < 4 → p' < 32 → thr w o' p' = true → frm w' (32 * o' + p') = frm w (32 * o' + p') := by
  obtain ⟨r1, r2, r3, r4⟩ := blk_is hM hp
  have hM0 : 0 < M ∧ M ≤ 16 := by rcases hM with e | e | e <;> omega
  obtain ⟨b, hb⟩ : ∃ b, b = p - p % M := ⟨_, rfl⟩
  rw [← hb] at r1 r2 r3 r4 hz hpg
  obtain ⟨Y, sl⟩ := GX_hd X hM hf hfM hfr ho r1 r2 hz hpg
  have G := X.1
  have h10 : m.2 0 10 = (T : Int) := G.tm
  have hT2 := G.2.2.2.2.2
  have Y2 := GX_nt (k := 0) (x := o) (y := b) Y (by omega) (by omega) (by omega)
  have hw14 : w.1 14 = (T : Int) := G.2.2.2.2.1
  have kb : Kb w (nt (hd w f (32 * o + b) M (T : Int)) ((T * 16384 + 0 * 2048 + o * 32 + b : Nat) : Int)) := ⟨fun j h3 h4 h5 h10 => by rw [nt_2 h10, hd_2 h3 h4 h5], fun j h12 => by rw [nt_1 h12]; rfl⟩
  have e1 : K_bringIn_16 tt n (kk, w, xx) o p = K_bringIn_70 tt n (kk, nt (hd w f (32 * o + b) M (T : Int)) ((T * 16384 + 0 * 2048 + o * 32 + b : Nat) : Int), xx) o p := by
    unfold K_bringIn_16
    dsimp only
    rw [k4, k5, if_neg (by omega), if_neg (by omega), psub hM hp, ← hb, wob ho (by omega), hw14]
    refine (bb_s (W_hold_ok n w (show f < 64 by omega))).trans ?_
    exact bb_s (W_note_ok (k := 0) n hT2 (by omega) (by omega) (by omega) Y.1.l.1 Y.1.2.2.2.2.1)
  have e2 : R_comeNow_36 n' m o p M = R_comeNow_70 n' (bC m 0 (wd (rsv (m.2 0) f (32 * o + b) M (T : Int)) ((T * 12288 + 0 * 2048 + o * 32 + b : Nat) : Int))) o p := by
    have rs : R_reserve n' m f o b M (T : Int) = some (0, bC m 0 (rsv (m.2 0) f (32 * o + b) M (T : Int))) := by
      have := R_reserve_ok (n := n') (m := m) (f := f) (h := 32 * o + b) (N := M) (t := (T : Int)) hM hf (by omega) (by omega) (by omega)
      rw [show (32 * o + b) / 32 = o by omega, show (32 * o + b) % 32 = b by omega] at this
      exact this
    unfold R_comeNow_36
    rw [bb_s hl, if_neg (by omega), psub hM hp, ← hb, h10, bb_s rs, if_neg (by omega)]
    refine (bb_s (R_writeDown_ok (k := 0) (T := T) (x := o) (y := b) hT2 (by omega) (by omega) (by omega) Y.1.l.2 Y.1.tm (by omega))).trans ?_
    rw [bC_C]
    rfl
  have hsl : slt (nt (hd w f (32 * o + b) M (T : Int)) ((T * 16384 + 0 * 2048 + o * 32 + b : Nat) : Int)) o p = f := by
    refine hvs_eq Y2.1.2.1 (by omega) (by omega) ?_
    have : inH (hd w f (32 * o + b) M (T : Int)) (32 * o + p) f := by rw [hd_inH, if_pos rfl]; omega
    exact this
  refine ⟨_, _, e1, e2, Y2, kb, ?_, hsl, fun o' p' ho' hp' th => ?_⟩
  · refine Ra.tr (fun i hi => rsv_o (by omega) (by omega) hf (by omega)) (Ra_wd Y.1.l.2 _)
  · obtain ⟨q1, q3⟩ := sl o' p' ho' hp' th
    have q1 : hvs (hd w f (32 * o + b) M (T : Int)) (32 * o' + p') = slt w o' p' := q1
    unfold frm
    rw [hvs_same (w := hd w f (32 * o + b) M (T : Int)) (nt_2 (by omega)) (nt_2 (by omega)), q1]
    have : hom (nt (hd w f (32 * o + b) M (T : Int)) ((T * 16384 + 0 * 2048 + o * 32 + b : Nat) : Int)) (slt w o' p') = hom w (slt w o' p') := by
      rw [nt_hom, hd_hom, if_neg q3]
    rw [this]; rfl
end
