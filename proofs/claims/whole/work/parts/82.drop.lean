/-! Dropping, on both sides. -/
def drs (w : bS) (o : Nat) : Nat → bS
  | 0 => w
  | k + 1 => if hom w k / 32 = o then cl (drs w o k) k else drs w o k
def drw (w : bS) (o : Nat) : bS := lvw (drs w o 64) o (-1)
def drr (w : bS) (o : Nat) (a : Nat → Int) : Nat → (Nat → Int)
  | 0 => a
  | k + 1 => if hvs w (32 * o + k) < 64 then lv1 (fr1 (drr w o a k) (frm w (32 * o + k)) (32 * o + k)) (32 * o + k) else lv1 (drr w o a k) (32 * o + k)
/-- a frame of a page below k -/
def dfr (w : bS) (o k g : Nat) : Prop := cvs w g < 64 ∧ hom w (cvs w g) / 32 = o ∧ hom w (cvs w g) % 32 + (g - cvs w g) < k
section
variable {n n' : Nat} {m m' m1 w w' w1 w2 w0 kk k1 xx tt tx : bS} {z : Nat → Nat} {a b' : Nat → Int} {o p f s N k i h g j T b c M q : Nat} {t v x : Int}
theorem drs_spn (g : Nat) : ∀ k, spn (drs w o k) g = if g < k ∧ hom w g / 32 = o then 0 else spn w g
  | 0 => by rw [if_neg (by omega)]; rfl
  | k + 1 => by
    have ih := drs_spn g k
    rw [drs]
    by_cases c : hom w k / 32 = o
    · rw [if_pos c, cl_spn]
      by_cases e : g = k
      · subst e; rw [if_pos rfl, if_pos ⟨by omega, c⟩]
      · rw [if_neg e, ih]
        by_cases y : g < k ∧ hom w g / 32 = o
        · rw [if_pos y, if_pos (by omega)]
        · rw [if_neg y, if_neg (by omega)]
    · rw [if_neg c, ih]
      by_cases y : g < k ∧ hom w g / 32 = o
      · rw [if_pos y, if_pos (by omega)]
      · by_cases e : g = k
        · subst e; rw [if_neg y, if_neg (fun q => c q.2)]
        · rw [if_neg y, if_neg (by omega)]
theorem drs_2 (h4 : j ≠ 4) : ∀ k, (drs w o k).2 j = w.2 j
  | 0 => rfl
  | k + 1 => by
    rw [drs]
    by_cases c : hom w k / 32 = o
    · rw [if_pos c]
      show (bA (drs w o k) 4 (k : Int) 0).2 j = _
      rw [bA_2 h4, drs_2 h4 k]
    · rw [if_neg c, drs_2 h4 k]
theorem drs_1 : ∀ k, (drs w o k).1 = w.1
  | 0 => rfl
  | k + 1 => by
    rw [drs]
    by_cases c : hom w k / 32 = o
    · rw [if_pos c]
      show (drs w o k).1 = w.1
      exact drs_1 k
    · rw [if_neg c]; exact drs_1 k
theorem drs_IF (I : IF w) : ∀ k, IF (drs w o k)
  | 0 => I
  | k + 1 => by
    rw [drs]
    by_cases c : hom w k / 32 = o
    · rw [if_pos c]; exact IF_cl (drs_IF I k)
    · rw [if_neg c]; exact drs_IF I k
theorem drw_1 : (drw w o).1 = w.1 := by unfold drw lvw; rw [lvv_1, drs_1]
theorem drw_2 (h0 : j ≠ 0) (h4 : j ≠ 4) (h6 : j ≠ 6) (h7 : j ≠ 7) (h8 : j ≠ 8) (h9 : j ≠ 9) : (drw w o).2 j = w.2 j := by
  unfold drw lvw; rw [lvv_2 h0 h6 h7 h8 h9, drs_2 h4]
theorem drw_spn (hg : g < 64) : spn (drw w o) g = if hom w g / 32 = o then 0 else spn w g := by
  have : spn (drw w o) g = spn (drs w o 64) g := by unfold spn drw lvw; rw [lvv_2 (by omega) (by omega) (by omega) (by omega) (by omega)]
  rw [this, drs_spn]
  by_cases c : hom w g / 32 = o
  · rw [if_pos ⟨hg, c⟩, if_pos c]
  · rw [if_neg (fun y => c y.2), if_neg c]
theorem drw_hom : hom (drw w o) = hom w := by funext g; unfold hom; rw [drw_2 (by omega) (by omega) (by omega) (by omega) (by omega) (by omega)]
theorem drw_thr (ho : o < 4) (hq : q < 32) : thr (drw w o) g q = (thr w g q && !decide (g = o)) := by
  unfold drw lvw
  rw [lvv_6 ho hq, bt_m1 hq, Bool.and_true]
  have : thr (drs w o 64) g q = thr w g q := by unfold thr; rw [drs_2 (by omega)]
  rw [this]
theorem drw_drt (ho : o < 4) (hq : q < 32) : drt (drw w o) g q = (drt w g q && !decide (g = o)) := by
  unfold drw lvw
  rw [lvv_7 ho hq, bt_m1 hq, Bool.and_true]
  have : drt (drs w o 64) g q = drt w g q := by unfold drt; rw [drs_2 (by omega)]
  rw [this]
theorem drw_fou (ho : o < 4) (hq : q < 32) : fou (drw w o) g q = (fou w g q && !decide (g = o)) := by
  unfold drw lvw
  rw [lvv_8 ho hq, bt_m1 hq, Bool.and_true]
  have : fou (drs w o 64) g q = fou w g q := by unfold fou; rw [drs_2 (by omega)]
  rw [this]
theorem drw_six (ho : o < 4) (hq : q < 32) : six (drw w o) g q = (six w g q && !decide (g = o)) := by
  unfold drw lvw
  rw [lvv_9 ho hq, bt_m1 hq, Bool.and_true]
  have : six (drs w o 64) g q = six w g q := by unfold six; rw [drs_2 (by omega)]
  rw [this]
theorem drw_0 (ho : o < 4) (hq : q < 32) : (drw w o).2 0 (32 * g + q) = if g = o then w.2 1 (32 * g + q) else w.2 0 (32 * g + q) := by
  unfold drw lvw
  rw [lvv_0 ho 32 (Nat.le_refl _), drs_2 (by omega), drs_2 (by omega)]
  by_cases c : g = o
  · rw [if_pos c, if_pos ⟨by omega, bt_m1 (by omega)⟩]
  · rw [if_neg c, if_neg (by omega)]
theorem K_dropAll_ok (I : IF w) (ho : o < 4) (hT : w.1 14 = (T : Int)) (hT2 : T < 131072) (hl : 0 ≤ w.1 12 ∧ w.1 12 ≤ 25) (hn : 120 ≤ n) : K_dropAll tt n (kk, w, xx) o = some (0, (kk, nt (drw w o) ((T * 16384 + 5 * 2048 + o * 32 + 0 : Nat) : Int), xx)) := by
  unfold K_dropAll
  refine runs0 (fun n k => K_dropAll_2 tt n (kk, drs w o k, xx) o k) 64 50 (fun n k hk _ => ?_) (fun n hn => ?_) (n := n) (by omega)
  · show K_dropAll_2 tt (n + 1) (kk, drs w o k, xx) o k = K_dropAll_2 tt n (kk, drs w o (k + 1), xx) o ((k + 1 : Nat) : Int)
    obtain ⟨_, e3, _, hh, _⟩ := I.1 k hk
    have hb64 : (0 : Int) ≤ (k : Int) ∧ (k : Int) < 64 := by omega
    have e3' : (drs w o k).2 3 k = (hom w k : Int) := by rw [drs_2 (by omega)]; exact e3
    rw [K_dropAll_2, if_neg (by omega), if_pos hb64, Int.toNat_natCast]
    dsimp only
    rw [e3', hd32 hh, wad1 (by omega), drs]
    by_cases c : hom w k / 32 = o
    · rw [if_pos (by omega), if_pos hb64, if_pos c]; rfl
    · rw [if_neg (by omega), if_neg c]
  · show K_dropAll_2 tt (n + 1) (kk, drs w o 64, xx) o ((64 : Nat) : Int) = _
    rw [K_dropAll_2, if_pos (by omega)]
    refine (bb_s (W_leave_ok (x := -1) ho (by omega))).trans ?_
    have e1 : (drw w o).1 = w.1 := drw_1
    refine bb_s (W_note_ok (k := 5) (y := 0) n hT2 (by omega) (by omega) (by omega) ?_ ?_)
    · show 0 ≤ (drw w o).1 12 ∧ (drw w o).1 12 ≤ 25
      rw [e1]; exact hl
    · show (drw w o).1 14 = (T : Int)
      rw [e1]; exact hT
theorem dfr_frm (I : IF w) (ho : o < 4) (hk : k < 32) (hc : hvs w (32 * o + k) < 64) (hg : g < 64) : g = frm w (32 * o + k) ↔ cvs w g < 64 ∧ hom w (cvs w g) / 32 = o ∧ hom w (cvs w g) % 32 + (g - cvs w g) = k := by
  have hin := hvs_in hc
  have hf := frm_in hc
  have i1 := hin.1
  have i2 := hin.2
  obtain ⟨a1, a2, a3⟩ := I.at hc (by omega)
  constructor
  · intro e
    rw [← e] at hf
    have ec : cvs w g = hvs w (32 * o + k) := cvs_eq I hg hc hf
    have ef : frm w (32 * o + k) = hvs w (32 * o + k) + (32 * o + k - hom w (hvs w (32 * o + k))) := rfl
    rw [ec]
    exact ⟨hc, by omega, by omega⟩
  · rintro ⟨q1, q2, q3⟩
    have hin2 := cvs_in q1
    have j1 := hin2.1
    have j2 := hin2.2
    obtain ⟨b1, b2, b3⟩ := I.at q1 (by omega)
    have eh : hvs w (32 * o + k) = cvs w g := hvs_eq I (by omega) q1 ⟨by omega, by omega⟩
    unfold frm
    rw [eh]
    omega
theorem drr_f (I : IF w) (ho : o < 4) (hg : g < 64) (hj : j < 5) : ∀ k, k ≤ 32 → (dfr w o k g → drr w o a k (914 + 5 * g + j) = if j = 0 then -1 else 0) ∧ (¬ dfr w o k g → drr w o a k (914 + 5 * g + j) = a (914 + 5 * g + j))
  | 0, _ => ⟨fun q => absurd q.2.2 (Nat.not_lt_zero _), fun _ => rfl⟩
  | k + 1, hk => by
    obtain ⟨ih1, ih2⟩ := drr_f I ho hg hj k (by omega)
    rw [drr]
    by_cases c : hvs w (32 * o + k) < 64
    · have fl : frm w (32 * o + k) < 64 := (I.in c (frm_in c)).2
      rw [if_pos c, lv1_o (by omega) (by omega), fr1_f hg hj fl (by omega)]
      have key := dfr_frm I ho (show k < 32 by omega) c hg
      by_cases e : g = frm w (32 * o + k)
      · rw [if_pos e]
        obtain ⟨q1, q2, q3⟩ := key.mp e
        exact ⟨fun _ => rfl, fun q => absurd ⟨q1, q2, by omega⟩ q⟩
      · rw [if_neg e]
        refine ⟨fun q => ih1 ⟨q.1, q.2.1, ?_⟩, fun q => ih2 (fun y => q ⟨y.1, y.2.1, by have := y.2.2; omega⟩)⟩
        have := q.2.2
        by_cases d : hom w (cvs w g) % 32 + (g - cvs w g) = k
        · exact absurd (key.mpr ⟨q.1, q.2.1, d⟩) e
        · omega
    · rw [if_neg c, lv1_o (by omega) (by omega)]
      refine ⟨fun q => ih1 ⟨q.1, q.2.1, ?_⟩, fun q => ih2 (fun y => q ⟨y.1, y.2.1, by have := y.2.2; omega⟩)⟩
      have q3 := q.2.2
      by_cases d : hom w (cvs w g) % 32 + (g - cvs w g) = k
      · exfalso
        have hin2 := cvs_in q.1
        have j1 := hin2.1
        have j2 := hin2.2
        obtain ⟨b1, b2, b3⟩ := I.at q.1 (by omega)
        have q2 := q.2.1
        exact c (hvs_iff.mpr ⟨_, q.1, by omega, by omega⟩)
      · omega
theorem drr_p (I : IF w) (H : RF w a) (ho : o < 4) (hi : i < 128) : ∀ k, k ≤ 32 → ∀ j, j < 7 → drr w o a k (18 + 7 * i + j) = if 32 * o ≤ i ∧ i < 32 * o + k then (if j = 0 then -1 else if j = 1 ∨ j = 4 ∨ j = 5 then 0 else if j = 2 then a (18 + 7 * i + 3) else a (18 + 7 * i + j)) else a (18 + 7 * i + j)
  | 0, _, j, hj => by rw [drr, if_neg (by omega)]
  | k + 1, hk, j, hj => by
    have ih := drr_p I H ho hi k (by omega) j hj
    have ih3 := drr_p I H ho hi k (by omega) 3 (by omega)
    rw [drr]
    by_cases e : i = 32 * o + k
    · subst e
      rw [if_neg (by omega)] at ih ih3
      rw [if_pos (show 32 * o ≤ 32 * o + k ∧ 32 * o + k < 32 * o + (k + 1) by omega)]
      have hp := RF.pfr I H hi
      by_cases c : hvs w (32 * o + k) < 64
      · have fl : frm w (32 * o + k) < 64 := (I.in c (frm_in c)).2
        rw [if_pos c, lv1_p hi hj, fr1_p hi hj fl, fr1_p hi (by omega) fl, ih, ih3]
        rcases (show j = 0 ∨ j = 1 ∨ j = 2 ∨ j = 3 ∨ j = 4 ∨ j = 5 ∨ j = 6 by omega) with y | y | y | y | y | y | y <;> subst y <;> simp
      · rw [if_neg c, lv1_p hi hj, ih, ih3]
        rw [if_neg c] at hp
        rcases (show j = 0 ∨ j = 1 ∨ j = 2 ∨ j = 3 ∨ j = 4 ∨ j = 5 ∨ j = 6 by omega) with y | y | y | y | y | y | y <;> subst y <;> simp
        exact hp
    · have hc : (32 * o ≤ i ∧ i < 32 * o + (k + 1)) ↔ (32 * o ≤ i ∧ i < 32 * o + k) := by omega
      have key : (if hvs w (32 * o + k) < 64 then lv1 (fr1 (drr w o a k) (frm w (32 * o + k)) (32 * o + k)) (32 * o + k) else lv1 (drr w o a k) (32 * o + k)) (18 + 7 * i + j) = drr w o a k (18 + 7 * i + j) := by
        by_cases c : hvs w (32 * o + k) < 64
        · have fl : frm w (32 * o + k) < 64 := (I.in c (frm_in c)).2
          rw [if_pos c, lv1_p hi hj, if_neg (fun q => e q.1), fr1_p hi hj fl, if_neg (fun q => e q.2)]
        · rw [if_neg c, lv1_p hi hj, if_neg (fun q => e q.1)]
      rw [key, ih]
      by_cases y : 32 * o ≤ i ∧ i < 32 * o + k
      · rw [if_pos y, if_pos (hc.mpr y)]
      · rw [if_neg y, if_neg (fun q => y (hc.mp q))]
theorem drr_o (I : IF w) (ho : o < 4) (hg : g < 18 ∨ 1234 ≤ g) : ∀ k, k ≤ 32 → drr w o a k g = a g
  | 0, _ => rfl
  | k + 1, hk => by
    have ih := drr_o I ho hg k (by omega)
    rw [drr]
    by_cases c : hvs w (32 * o + k) < 64
    · have fl : frm w (32 * o + k) < 64 := (I.in c (frm_in c)).2
      rw [if_pos c, lv1_o (by omega) (by omega), fr1_o hg fl (by omega), ih]
    · rw [if_neg c, lv1_o (by omega) (by omega), ih]
end
