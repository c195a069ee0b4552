/-! Whom a preemption meets: what is the same with and without a law. -/
abbrev bK : Type := bS × bS × bS
/-- what a law's wants shows for a page: the same number on both sides, whatever sums were worked out before -/
def LWw (F : Nat → bK → Int → Int → Option (Int × bK)) (m w : bS) (o p v : Nat) : Prop := (1 ≤ v ∧ v ≤ 16) ∧ (∀ (n : Nat) (kk xx : bS), 1000 ≤ n → ∃ xx', F n (kk, w, xx) o p = some ((v : Int), (kk, w, xx'))) ∧ ∀ (n : Nat) (m' : bS), 1000 ≤ n → Mq m m' → ∃ m1, R_wantsBy n m' (m.2 0 2) o p = some ((v : Int), m1) ∧ Mq m m1
/-- and its spares for a reservation -/
def LWs (F : Nat → bK → Int → Option (Int × bK)) (m w : bS) (s : Nat) (b : Bool) : Prop := (∀ (n : Nat) (kk xx : bS), 1000 ≤ n → ∃ xx', F n (kk, w, xx) s = some (bi b, (kk, w, xx'))) ∧ ∀ (n : Nat) (m' : bS), 1000 ≤ n → Mq m m' → ∃ m1, R_isSpared n m' s = some (bi b, m1) ∧ Mq m m1
def LW (FW : Nat → bK → Int → Int → Option (Int × bK)) (FL : Nat → bK → Int → Option (Int × bK)) (m w : bS) : Prop := (∀ o p, o < 4 → p < 32 → ∃ v, LWw FW m w o p v) ∧ ∀ s, s < 64 → 0 < spn w s → ∃ b, LWs FL m w s b
def LAW (z : Nat → Nat) (tt : bS) (FW : Nat → bK → Int → Int → Option (Int × bK)) (FL : Nat → bK → Int → Option (Int × bK)) (t2 : Nat → Int) (ru : Int) : Prop := ∀ (m w : bS) (T : Nat), GX z w (m.2 0) T → TO z tt (m.2 0) → m.2 2 = t2 → m.2 0 2 = ru → LW FW FL m w
/-- pins, on both sides -/
def PN (kk m w : bS) : Prop := (kk.1 3 = -1 ∧ m.1 23 = -1) ∨ ∃ o p, o < 4 ∧ p < 32 ∧ thr w o p = true ∧ kk.1 3 = ((32 * o + p : Nat) : Int) ∧ m.1 23 = ((frm w (32 * o + p) : Nat) : Int)
def pin (kk w : bS) (s : Nat) : Bool := decide ((hom w s : Int) ≤ kk.1 3 ∧ kk.1 3 < ((hom w s + spn w s : Nat) : Int))
/-- one that a preemption for M could meet -/
def vcd (kk w : bS) (sp : Nat → Bool) (M s : Nat) : Bool := decide (hld w s < spn w s) && (!pin kk w s && (decide (fs (emp w s M) (spn w s / M) < spn w s / M) && sp s))
def vic (w : bS) (cd : Nat → Bool) : Nat → Int
  | 0 => -1
  | k + 1 => if (0 < spn w k ∧ (vic w cd k = -1 ∨ w.2 5 k < w.2 5 (vic w cd k).toNat)) ∧ cd k = true then (k : Int) else vic w cd k
/-- whom a preemption for M meets, if anybody -/
def VR (w : bS) (M : Nat) (r : Int) : Prop := r = -1 ∨ ∃ s : Nat, s < 64 ∧ r = (s : Int) ∧ 0 < spn w s ∧ hld w s < spn w s ∧ M ≤ spn w s ∧ fs (emp w s M) (spn w s / M) < spn w s / M
section
variable {n n' : Nat} {m m' m1 w w' w0 kk xx tt : bS} {z : Nat → Nat} {a b' : Nat → Int} {o p f s N k i h g j T b c M x y q : Nat} {t v : Int} {cd sp : Nat → Bool}
theorem vic_in : ∀ k, vic w cd k = -1 ∨ ∃ s, s < k ∧ vic w cd k = (s : Int) ∧ 0 < spn w s ∧ cd s = true
  | 0 => Or.inl rfl
  | k + 1 => by
    rw [vic]
    by_cases c : (0 < spn w k ∧ (vic w cd k = -1 ∨ w.2 5 k < w.2 5 (vic w cd k).toNat)) ∧ cd k = true
    · rw [if_pos c]; exact Or.inr ⟨k, by omega, rfl, c.1.1, c.2⟩
    · rw [if_neg c]
      rcases vic_in k with h | ⟨s, h1, h2⟩
      · exact Or.inl h
      · exact Or.inr ⟨s, by omega, h2⟩
theorem LW.spr {FW : Nat → bK → Int → Int → Option (Int × bK)} {FL : Nat → bK → Int → Option (Int × bK)} (H : LW FW FL m w) : ∃ sp : Nat → Bool, ∀ s, s < 64 → 0 < spn w s → LWs FL m w s (sp s) := by
  have key : ∀ s, ∃ b, s < 64 → 0 < spn w s → LWs FL m w s b := fun s => by
    by_cases c : s < 64 ∧ 0 < spn w s
    · obtain ⟨b, hb⟩ := H.2 s c.1 c.2
      exact ⟨b, fun _ _ => hb⟩
    · exact ⟨false, fun h1 h2 => absurd ⟨h1, h2⟩ c⟩
  exact ⟨fun s => Classical.choose (key s), fun s => Classical.choose_spec (key s)⟩
theorem bi_0 {b : Bool} {α : Type} {A B : α} : (if bi b = 0 then A else B) = if b = true then B else A := by cases b <;> rfl
theorem K_isPinned_ok (n : Nat) (I : IF w) (hs : s < 64) : K_isPinned tt n (kk, w, xx) s = some (bi (pin kk w s), (kk, w, xx)) := by
  obtain ⟨e4, e3, hsp, hh, _⟩ := I.1 s hs
  have h16 : spn w s ≤ 16 := by omega
  unfold K_isPinned pin
  dsimp only
  have hb : (0 : Int) ≤ (s : Int) ∧ (s : Int) < 64 := by omega
  rw [if_pos hb, Int.toNat_natCast, e4, e3, wadd (by omega)]
  by_cases c : (hom w s : Int) ≤ kk.1 3
  · rw [if_neg (by omega), if_pos hb, if_pos hb]
    by_cases d : kk.1 3 < ((hom w s + spn w s : Nat) : Int)
    · rw [if_neg (by omega), decide_eq_true ⟨c, d⟩]; rfl
    · rw [if_pos (by omega), decide_eq_false (fun y => d y.2)]; rfl
  · rw [if_pos (by omega), decide_eq_false (fun y => c y.1)]; rfl
theorem frm_in (h : hvs w i < 64) : inF w (frm w i) (hvs w i) := by
  have := hvs_in h
  have h1 := this.1
  have h2 := this.2
  exact ⟨Nat.le_add_right _ _, by unfold frm; omega⟩
theorem pin_fr (P : PN kk m w) (I : IF w) (T' : IT w) (hs : s < 64) (h0 : 0 < spn w s) : pin kk w s = true ↔ (s : Int) ≤ m.1 23 ∧ m.1 23 ≤ ((s + spn w s : Nat) : Int) - 1 := by
  unfold pin
  rw [decide_eq_true_iff]
  rcases P with ⟨h1, h2⟩ | ⟨o, p, ho, hp, th, h1, h2⟩
  · rw [h1, h2]; omega
  · rw [h1, h2]
    have hc := T' o p ho hp th
    have hin := hvs_in hc
    have hf := frm_in hc
    constructor
    · intro q
      have e : hvs w (32 * o + p) = s := hvs_eq I (by omega) hs ⟨by omega, by omega⟩
      rw [e] at hf
      have f1 := hf.1
      have f2 := hf.2
      omega
    · intro q
      have e : hvs w (32 * o + p) = s := I.2.1 (frm w (32 * o + p)) _ s (I.in hc hf).2 hc hs hf ⟨by omega, by omega⟩
      rw [e] at hin
      have f1 := hin.1
      have f2 := hin.2
      omega
/-- the reference's search for an empty block within -/
theorem R_cb50 (I : IF w) (HF : RF w (m.2 0)) (HP : RP w (m.2 0)) (hs : s < 64) (h0 : 0 < spn w s) (hM : isN M) (hMN : M ≤ spn w s) (hn : 60 ≤ n) : R_canBreak_50 n m s M (spn w s) s = some (bi (decide (fs (emp w s M) (spn w s / M) < spn w s / M)), m) := by
  have hN := isN_of I hs h0
  obtain ⟨a1, a2, a3⟩ := I.at hs h0
  have hle := fs_le (emp w s M) (spn w s / M)
  obtain ⟨q1, q2⟩ := fs_spec (emp w s M) (spn w s / M)
  have dv : spn w s / M * M = spn w s ∧ spn w s / M ≤ 16 := by
    rcases hM with e | e | e <;> rcases hN with y | y | y <;> rw [e] at hMN ⊢ <;> rw [y] at hMN ⊢ <;> omega
  generalize hD : spn w s / M = D at *
  generalize hj : fs (emp w s M) D = j at *
  have bnd : ∀ k, k < D → k * M + M ≤ spn w s := fun k hk => by
    have : (k + 1) * M ≤ D * M := Nat.mul_le_mul_right M (by omega)
    rw [Nat.add_mul, Nat.one_mul] at this
    omega
  have key := runs0 (fun n k => R_canBreak_50 n m s M (spn w s) ((s + k * M : Nat) : Int)) j 25 (r := (bi (decide (j < D)), m)) (fun n k hk hn => ?_) (fun n hn => ?_) (n := n) (by omega)
  · simp only [Nat.zero_mul, Nat.add_zero] at key
    exact key
  · have hb := bnd k (by omega)
    show R_canBreak_50 (n + 1) m s M (spn w s) ((s + k * M : Nat) : Int) = R_canBreak_50 n m s M (spn w s) ((s + (k + 1) * M : Nat) : Int)
    have hM0 : 0 < M := by rcases hM with e | e | e <;> omega
    rw [R_canBreak_50, wadd (x := s) (y := spn w s) (by omega), if_neg (by omega), bb_s (R_areEmpty_ok I HF HP hM hs hb (by omega)), i01, if_neg (by rw [q1 k hk]; decide), wadd (x := s + k * M) (y := M) (by omega), show s + k * M + M = s + (k + 1) * M by rw [Nat.add_mul, Nat.one_mul]; omega]
  · show R_canBreak_50 (n + 1) m s M (spn w s) ((s + j * M : Nat) : Int) = _
    have hM0 : 0 < M := by rcases hM with e | e | e <;> omega
    rw [R_canBreak_50, wadd (x := s) (y := spn w s) (by omega)]
    by_cases c : j < D
    · have hb := bnd j c
      rw [if_neg (by omega), bb_s (R_areEmpty_ok I HF HP hM hs hb (by omega)), i01, if_pos (q2 c), decide_eq_true c]; rfl
    · have e : j = D := by omega
      subst e
      rw [if_pos (by omega), decide_eq_false c]; rfl
theorem R_canBreak_ok {FL : Nat → bK → Int → Option (Int × bK)} (G : GW w (m.2 0) T) (P : PN kk m w) (Q : Mq m m') (hs : s < 64) (h0 : 0 < spn w s) (hM : isN M) (hsp : LWs FL m w s (sp s)) (hn : 1000 ≤ n) : ∃ m1, R_canBreak n m' s M = some (bi (vcd kk w sp M s), m1) ∧ Mq m m1 := by
  obtain ⟨R, I, T', J, hT, hT2⟩ := id G
  have ea := Q.ar
  have HF : RF w (m'.2 0) := by rw [ea]; exact R.1
  have HP : RP w (m'.2 0) := by rw [ea]; exact R.2.1
  have hN := isN_of I hs h0
  have hN16 : spn w s ≤ 16 := by rcases hN with e | e | e <;> omega
  obtain ⟨q1, q2, q3, q4⟩ := HF.2.1 s hs h0
  have f3 : R_frameAt n m' s 3 = some ((spn w s : Int), m') := by rw [R_frameAt_ok n m' hs (by omega) (by omega), show (3 : Int).toNat = 3 from rfl, q3]
  unfold R_canBreak vcd
  rw [bb_s f3]
  by_cases c : spn w s < M
  · have e0 : spn w s / M = 0 := Nat.div_eq_of_lt c
    refine ⟨m', ?_, Q⟩
    rw [if_pos (by omega), e0, decide_eq_false (Nat.not_lt_zero _), Bool.false_and, Bool.and_false, Bool.and_false]; rfl
  · rw [if_neg (by omega), bb_s (R_holdsOf_ok I HF HP hs h0 (by omega))]
    have hle : hld w s ≤ spn w s := cn_le _ _
    by_cases e : hld w s = spn w s
    · refine ⟨m', ?_, Q⟩
      rw [if_pos (by omega), decide_eq_false (by omega), Bool.false_and]; rfl
    · rw [if_neg (by omega), decide_eq_true (show hld w s < spn w s by omega), Bool.true_and, wadd (by omega), ay_wi (by omega) (by omega), b1_s (R_isIn_ok n _ _ _), i01]
      have pf := pin_fr P I T' hs h0
      rw [Q.1]
      by_cases d : (s : Int) ≤ m.1 23 ∧ m.1 23 ≤ ((s + spn w s : Nat) : Int) - 1
      · refine ⟨m', ?_, Q⟩
        rw [if_pos d, pf.mpr d]; rfl
      · have hp : pin kk w s = false := by
          cases y : pin kk w s
          · rfl
          · exact absurd (pf.mp y) d
        rw [if_neg d, hp]
        obtain ⟨m1, r1, r2⟩ := hsp.2 n m' hn Q
        have HF1 : RF w (m1.2 0) := by rw [r2.ar]; exact R.1
        have HP1 : RP w (m1.2 0) := by rw [r2.ar]; exact R.2.1
        refine ⟨m1, ?_, r2⟩
        rw [bb_s r1, bi_0]
        cases y : sp s
        · rw [if_neg (by decide), Bool.and_false]; rfl
        · rw [if_pos rfl, R_cb50 I HF1 HP1 hs h0 hM (by omega) (by omega), Bool.and_true]; rfl
end
