/-! A reservation is undone: all that holds, holds behind it. -/
section
variable {n n' : Nat} {m m' m1 w w' w1 w2 w0 kk k1 xx tt tx : bS} {z : Nat → Nat} {a b' : Nat → Int} {o p f s N k i h g j T b c M q : Nat} {t v x : Int}
theorem dwf_2 (h0 : j ≠ 0) (h3 : j ≠ 3) (h4 : j ≠ 4) (h5 : j ≠ 5) (h6 : j ≠ 6) (h7 : j ≠ 7) (h8 : j ≠ 8) (h9 : j ≠ 9) : (dwf w s b M).2 j = w.2 j := by
  unfold dwf lvw
  rw [lvv_2 h0 h6 h7 h8 h9, dsw_2 h3 h4 h5, ds1_2 h4 h8 h9]
theorem dwf_d (h3 : j = 3 ∨ j = 4 ∨ j = 5) : (dwf w s b M).2 j = (dsw w s b M (ds1 w s) (spn w s)).2 j := by
  unfold dwf lvw
  rw [lvv_2 (by omega) (by omega) (by omega) (by omega) (by omega)]
theorem dwf_1 : (dwf w s b M).1 = w.1 := by
  unfold dwf lvw
  rw [lvv_1, dsw_1]; rfl
/-- made anew -/
def mk1 (w : bS) (s b M g : Nat) : Prop := (s ≤ g ∧ g < s + spn w s) ∧ kep w s b M (g - s) = true
theorem dwf_spn : spn (dwf w s b M) g = (if (s ≤ g ∧ g < s + spn w s) ∧ kep w s b M (g - s) = true then 1 else if g = s then 0 else spn w g) := by
  have : spn (dwf w s b M) g = spn (dsw w s b M (ds1 w s) (spn w s)) g := by unfold spn; rw [dwf_d (by omega)]; rfl
  rw [this, (dsw_at g _).1, ds1_spn]
theorem dwf_hom : hom (dwf w s b M) g = (if (s ≤ g ∧ g < s + spn w s) ∧ kep w s b M (g - s) = true then hom w s + (g - s) else hom w g) := by
  have : hom (dwf w s b M) g = hom (dsw w s b M (ds1 w s) (spn w s)) g := by unfold hom; rw [dwf_d (by omega)]
  rw [this, (dsw_at g _).2.1, ds1_hom]
theorem dwf_snc : (dwf w s b M).2 5 g = (if (s ≤ g ∧ g < s + spn w s) ∧ kep w s b M (g - s) = true then w.2 5 s else w.2 5 g) := by
  rw [dwf_d (by omega), (dsw_at g _).2.2, ds1_2 (by omega) (by omega) (by omega)]
theorem dsw_IF (I : IF w) (hs : s < 64) (h0 : 0 < spn w s) : ∀ k, k ≤ spn w s → IF (dsw w s b M (ds1 w s) k)
  | 0, _ => by
    refine IF_eq (w := cl w s) ?_ ?_ (IF_cl I)
    · show (ds1 w s).2 3 = _; unfold ds1; rw [bA_2 (by omega), bA_2 (by omega)]
    · show (ds1 w s).2 4 = _; unfold ds1; rw [bA_2 (by omega), bA_2 (by omega)]
  | k + 1, hk => by
    have ih := dsw_IF I hs h0 k (by omega)
    obtain ⟨a1, a2, a3⟩ := I.at hs h0
    rw [dsw]
    by_cases c : kep w s b M k = true
    · rw [if_pos c]
      refine IF_hd ih (Or.inl rfl) (by omega) (by omega) (by omega) (by omega) (fun f f1 f2 g hg q => ?_) (fun i i1 i2 g hg q => ?_)
      · have q1 := q.1
        have q2 := q.2
        rw [(dsw_at g k).1, ds1_spn] at q2
        by_cases y : (s ≤ g ∧ g < s + k) ∧ kep w s b M (g - s) = true
        · rw [if_pos y] at q2; omega
        · rw [if_neg y] at q2
          by_cases e : g = s
          · rw [if_pos e] at q2; omega
          · rw [if_neg e] at q2
            exact e (I.2.1 f g s (by omega) hg hs ⟨q1, q2⟩ ⟨by omega, by omega⟩)
      · have q1 := q.1
        have q2 := q.2
        rw [(dsw_at g k).2.1, ds1_hom] at q1 q2
        rw [(dsw_at g k).1, ds1_spn] at q2
        by_cases y : (s ≤ g ∧ g < s + k) ∧ kep w s b M (g - s) = true
        · rw [if_pos y] at q1 q2; rw [if_pos y] at q2; omega
        · rw [if_neg y] at q1 q2
          rw [if_neg y] at q2
          by_cases e : g = s
          · rw [if_pos e, e] at q2; omega
          · rw [if_neg e] at q2
            exact e (I.2.2 i g s (by omega) hg hs ⟨q1, q2⟩ ⟨by omega, by omega⟩)
    · rw [if_neg c]; exact ih
theorem dwf_IF (I : IF w) (hs : s < 64) (h0 : 0 < spn w s) : IF (dwf w s b M) := IF_eq (dwf_d (by omega)) (dwf_d (by omega)) (dsw_IF I hs h0 _ (Nat.le_refl _))
theorem dwf_inF (I : IF w) (hs : s < 64) (h0 : 0 < spn w s) (hg : g < 64) : inF (dwf w s b M) f g ↔ (mk1 w s b M g ∧ f = g) ∨ (¬ (s ≤ g ∧ g < s + spn w s) ∧ inF w f g) := by
  unfold inF mk1
  rw [dwf_spn]
  by_cases y : (s ≤ g ∧ g < s + spn w s) ∧ kep w s b M (g - s) = true
  · rw [if_pos y]
    constructor
    · intro q; exact Or.inl ⟨y, by omega⟩
    · rintro (q | q)
      · omega
      · exact absurd y.1 q.1
  · rw [if_neg y]
    by_cases e : g = s
    · rw [if_pos e]
      constructor
      · intro q; omega
      · rintro (q | q)
        · exact absurd q.1 y
        · omega
    · rw [if_neg e]
      constructor
      · intro q
        exact Or.inr ⟨I.oth hs hg e (by omega), q⟩
      · rintro (q | q)
        · exact absurd q.1 y
        · exact q.2
theorem dwf_inH (I : IF w) (hs : s < 64) (h0 : 0 < spn w s) (hg : g < 64) : inH (dwf w s b M) i g ↔ (mk1 w s b M g ∧ i = hom w s + (g - s)) ∨ (¬ (s ≤ g ∧ g < s + spn w s) ∧ inH w i g) := by
  unfold inH mk1
  rw [dwf_spn, dwf_hom]
  by_cases y : (s ≤ g ∧ g < s + spn w s) ∧ kep w s b M (g - s) = true
  · rw [if_pos y, if_pos y]
    constructor
    · intro q; exact Or.inl ⟨y, by omega⟩
    · rintro (q | q)
      · omega
      · exact absurd y.1 q.1
  · rw [if_neg y, if_neg y]
    by_cases e : g = s
    · rw [if_pos e]
      constructor
      · intro q; omega
      · rintro (q | q)
        · exact absurd q.1 y
        · omega
    · rw [if_neg e]
      constructor
      · intro q
        exact Or.inr ⟨I.oth hs hg e (by omega), q⟩
      · rintro (q | q)
        · exact absurd q.1 y
        · exact q.2
/-- in what was undone -/
def inR (w : bS) (s o q : Nat) : Bool := decide (o = hom w s / 32 ∧ hom w s % 32 ≤ q ∧ q < hom w s % 32 + spn w s)
theorem inR_b : (decide (g = hom w s / 32) && (decide (hom w s % 32 ≤ q ∧ q < hom w s % 32 + spn w s) && lev w s b M (q - hom w s % 32))) = (inR w s g q && lev w s b M (q - hom w s % 32)) := by
  unfold inR
  by_cases c : g = hom w s / 32
  · by_cases d : hom w s % 32 ≤ q ∧ q < hom w s % 32 + spn w s
    · rw [decide_eq_true c, decide_eq_true d, decide_eq_true ⟨c, d⟩]; rfl
    · rw [decide_eq_true c, decide_eq_false d, decide_eq_false (fun y => d y.2)]; rfl
  · rw [decide_eq_false c, decide_eq_false (show ¬ (g = hom w s / 32 ∧ hom w s % 32 ≤ q ∧ q < hom w s % 32 + spn w s) from fun y => c y.1)]; rfl
theorem inR_p : (decide (g = hom w s / 32) && decide (hom w s % 32 ≤ q ∧ q < hom w s % 32 + spn w s)) = inR w s g q := by
  unfold inR
  by_cases c : g = hom w s / 32
  · by_cases d : hom w s % 32 ≤ q ∧ q < hom w s % 32 + spn w s
    · rw [decide_eq_true c, decide_eq_true d, decide_eq_true ⟨c, d⟩]; rfl
    · rw [decide_eq_true c, decide_eq_false d, decide_eq_false (fun y => d y.2)]; rfl
  · rw [decide_eq_false c, decide_eq_false (show ¬ (g = hom w s / 32 ∧ hom w s % 32 ≤ q ∧ q < hom w s % 32 + spn w s) from fun y => c y.1)]; rfl
theorem dwf_thr (I : IF w) (hs : s < 64) (h0 : 0 < spn w s) (hq : q < 32) : thr (dwf w s b M) g q = (thr w g q && !(inR w s g q && lev w s b M (q - hom w s % 32))) := by
  obtain ⟨a1, a2, a3⟩ := I.at hs h0
  unfold dwf lvw
  rw [lvv_6 (by omega) hq, lvb_bt a3 hq _ (Nat.le_refl _), inR_b]
  have : thr (dsw w s b M (ds1 w s) (spn w s)) g q = thr w g q := by unfold thr; rw [dsw_2 (by omega) (by omega) (by omega), ds1_2 (by omega) (by omega) (by omega)]
  rw [this]
theorem dwf_drt (I : IF w) (hs : s < 64) (h0 : 0 < spn w s) (hq : q < 32) : drt (dwf w s b M) g q = (drt w g q && !(inR w s g q && lev w s b M (q - hom w s % 32))) := by
  obtain ⟨a1, a2, a3⟩ := I.at hs h0
  unfold dwf lvw
  rw [lvv_7 (by omega) hq, lvb_bt a3 hq _ (Nat.le_refl _), inR_b]
  have : drt (dsw w s b M (ds1 w s) (spn w s)) g q = drt w g q := by unfold drt; rw [dsw_2 (by omega) (by omega) (by omega), ds1_2 (by omega) (by omega) (by omega)]
  rw [this]
theorem dwf_fou (I : IF w) (hs : s < 64) (h0 : 0 < spn w s) (hq : q < 32) : fou (dwf w s b M) g q = (fou w g q && !inR w s g q) := by
  obtain ⟨a1, a2, a3⟩ := I.at hs h0
  unfold dwf lvw
  rw [lvv_8 (by omega) hq, lvb_bt a3 hq _ (Nat.le_refl _), inR_b]
  have : fou (dsw w s b M (ds1 w s) (spn w s)) g q = (fou w g q && !inR w s g q) := by
    unfold fou
    rw [dsw_2 (by omega) (by omega) (by omega)]
    unfold ds1
    rw [bA_2 (by omega)]
    have e : (cl w s).2 8 = w.2 8 := bA_2 (by omega)
    have := bt_clr (w := cl w s) (x := pgb w s) (o := hom w s / 32) (g := g) (by omega) 8 hq
    rw [e, pgb_bt I hs h0 hq, inR_p] at this
    exact this
  rw [this]
  cases fou w g q <;> cases inR w s g q <;> cases lev w s b M (q - hom w s % 32) <;> rfl
theorem dwf_six (I : IF w) (hs : s < 64) (h0 : 0 < spn w s) (hq : q < 32) : six (dwf w s b M) g q = (six w g q && !inR w s g q) := by
  obtain ⟨a1, a2, a3⟩ := I.at hs h0
  unfold dwf lvw
  rw [lvv_9 (by omega) hq, lvb_bt a3 hq _ (Nat.le_refl _), inR_b]
  have : six (dsw w s b M (ds1 w s) (spn w s)) g q = (six w g q && !inR w s g q) := by
    unfold six
    rw [dsw_2 (by omega) (by omega) (by omega)]
    unfold ds1
    generalize hy : bA (cl w s) 8 ((hom w s / 32 : Nat) : Int) (ay_and (w.2 8 (hom w s / 32)) (ay_xor (pgb w s) (-1))) = y
    have e : y.2 9 = w.2 9 := by
      rw [← hy, bA_2 (by omega)]
      show (bA w 4 (s : Int) 0).2 9 = _
      rw [bA_2 (by omega)]
    have := bt_clr (w := y) (x := pgb w s) (o := hom w s / 32) (g := g) (by omega) 9 hq
    rw [e, pgb_bt I hs h0 hq, inR_p] at this
    exact this
  rw [this]
  cases six w g q <;> cases inR w s g q <;> cases lev w s b M (q - hom w s % 32) <;> rfl
theorem dwf_0 (I : IF w) (hs : s < 64) (h0 : 0 < spn w s) (ho : o < 4) (hq : q < 32) : (dwf w s b M).2 0 (32 * o + q) = if (inR w s o q && lev w s b M (q - hom w s % 32)) = true then w.2 1 (32 * o + q) else w.2 0 (32 * o + q) := by
  obtain ⟨a1, a2, a3⟩ := I.at hs h0
  unfold dwf lvw
  rw [lvv_0 (by omega) 32 (Nat.le_refl _), dsw_2 (by omega) (by omega) (by omega), ds1_2 (by omega) (by omega) (by omega), dsw_2 (by omega) (by omega) (by omega), ds1_2 (by omega) (by omega) (by omega)]
  by_cases c : o = hom w s / 32
  · have e : 32 * o + q - 32 * (hom w s / 32) = q := by omega
    rw [e, lvb_bt a3 hq _ (Nat.le_refl _), ← inR_b, decide_eq_true c, Bool.true_and]
    by_cases d : (decide (hom w s % 32 ≤ q ∧ q < hom w s % 32 + spn w s) && lev w s b M (q - hom w s % 32)) = true
    · rw [if_pos d, if_pos ⟨by omega, d⟩]
    · rw [if_neg d, if_neg (fun y => d y.2)]
  · have e : inR w s o q = false := decide_eq_false (fun y => c y.1)
    rw [e, Bool.false_and, if_neg (show ¬ ((32 * (hom w s / 32) ≤ 32 * o + q ∧ 32 * o + q < 32 * (hom w s / 32) + 32) ∧ bt (lvb w s b M (spn w s)) (32 * o + q - 32 * (hom w s / 32)) = true) by omega), if_neg (by decide)]
end
