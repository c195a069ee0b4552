/-! Promotion and demotion, on both sides. -/
/-- worlds that differ in levels and book alone -/
def Kp (w w' : bS) : Prop := (∀ j, j ≠ 8 → j ≠ 9 → j ≠ 10 → w'.2 j = w.2 j) ∧ ∀ j, j ≠ 12 → w'.1 j = w.1 j
/-- rows that differ in the world alone, and not in what is drawn, days and savings -/
def Ra (a a' : Nat → Int) : Prop := ∀ i, (i < 10 ∨ 1259 ≤ i) ∨ (11 ≤ i ∧ i ≤ 13) ∨ (15 ≤ i ∧ i ≤ 17) → a' i = a i
section
variable {n : Nat} {m w w' w1 : bS} {a b' : Nat → Int} {o p f s N k i h g j x y T b L q : Nat} {t : Int}
theorem Ra.rf : Ra a a := fun _ _ => rfl
theorem Ra.tr {c : Nat → Int} (h1 : Ra a b') (h2 : Ra b' c) : Ra a c := fun i hi => (h2 i hi).trans (h1 i hi)
theorem Kp.rf : Kp w w := ⟨fun _ _ _ _ => rfl, fun _ _ => rfl⟩
theorem Kp.tr (h1 : Kp w w') (h2 : Kp w' w1) : Kp w w1 := ⟨fun j a b c => (h2.1 j a b c).trans (h1.1 j a b c), fun j a => (h2.2 j a).trans (h1.2 j a)⟩
theorem Ra_wd (h14 : 0 ≤ a 14 ∧ a 14 ≤ 25) (v : Int) : Ra a (wd a v) := fun i hi => wd_o (by omega) (by omega) h14 v
theorem Ra_lvr (hi : i + k ≤ 128) : Ra a (lvr i t k a) := fun j hj => lvr_o (by omega) hi
theorem R_firstOf_ok (n : Nat) (I : IF w) (HF : RF w (m.2 0)) (ho : o < 4) (hp : p < 32) : R_firstOf n m o p = some (if slt w o p < 64 then (slt w o p : Int) else -1, m) := by
  unfold R_firstOf
  have e := HF.pfr I (show 32 * o + p < 128 by omega)
  have hz : (0 : Int).toNat = 0 := rfl
  rw [bb_s (R_pageAt_ok n m ho hp (by omega) (by omega)), hz, Nat.add_zero, e]
  unfold slt
  by_cases c : hvs w (32 * o + p) < 64
  · have hin := hvs_in c
    have b1 := hin.1; have b2 := hin.2
    have h0 : 0 < spn w (hvs w (32 * o + p)) := by omega
    have ha := I.at c h0
    have hinF : inF w (hvs w (32 * o + p) + (32 * o + p - hom w (hvs w (32 * o + p)))) (hvs w (32 * o + p)) := ⟨by omega, by omega⟩
    have ef := HF.fst I (f := hvs w (32 * o + p) + (32 * o + p - hom w (hvs w (32 * o + p)))) (by omega)
    rw [cvs_eq I (by omega) c hinF, if_pos c] at ef
    rw [if_pos c, if_neg (by omega), bb_s (R_pageAt_ok n m ho hp (by omega) (by omega)), hz, Nat.add_zero, e, if_pos c, bb_s (R_frameAt_ok n m (by omega) (by omega) (by omega)), hz, Nat.add_zero, ef, if_pos c]
  · rw [if_neg c, if_neg c, if_pos rfl]
def evn (w : bS) (o b N L : Nat) : Bool := decide (fs (fun k => !(thr w o (b + k) && decide (lvl w o (b + k) = L) && (drt w o (b + k) == drt w o b))) N = N)
theorem evn_iff : evn w o b N L = true ↔ ∀ q, b ≤ q → q < b + N → thr w o q = true ∧ lvl w o q = L ∧ drt w o q = drt w o b := by
  unfold evn
  rw [decide_eq_true_iff, fs_none]
  refine ⟨fun h q h1 h2 => ?_, fun h k hk => ?_⟩
  · have := h (q - b) (by omega)
    rw [show b + (q - b) = q by omega, Bool.not_eq_false', Bool.and_eq_true, Bool.and_eq_true, decide_eq_true_iff, beq_iff_eq] at this
    exact ⟨this.1.1, this.1.2, this.2⟩
  · obtain ⟨h1, h2, h3⟩ := h (b + k) (by omega) (by omega)
    show (!(thr w o (b + k) && decide (lvl w o (b + k) = L) && (drt w o (b + k) == drt w o b))) = false
    rw [h1, h2, h3, decide_eq_true rfl, beq_self_eq_true]; rfl
theorem ibeq {x y : Bool} : ((if x = true then (1 : Int) else 0) = (if y = true then 1 else 0)) ↔ x = y := by cases x <;> cases y <;> decide
theorem R_isEven_ok (I : IF w) (HF : RF w (m.2 0)) (HP : RP w (m.2 0)) (ho : o < 4) (hb : b + N ≤ 32) (hN : 0 < N) (hn : 20 ≤ n) (hN16 : N ≤ 16) : R_isEven n m o b N L = some (if (slt w o b < 64 ∧ N ≤ spn w (slt w o b)) ∧ evn w o b N L = true then 1 else 0, m) := by
  unfold R_isEven
  rw [bb_s (R_firstOf_ok n I HF ho (by omega))]
  by_cases c : slt w o b < 64
  · have hin : inH w (32 * o + b) (slt w o b) := hvs_in c
    have h0 : 0 < spn w (slt w o b) := by have := hin.1; have := hin.2; omega
    have e3 : (3 : Int).toNat = 3 := rfl
    rw [if_pos c, if_neg (by omega), bb_s (R_frameAt_ok n m c (by omega) (by omega)), e3, (HF.2.1 _ c h0).2.2.1]
    by_cases c2 : N ≤ spn w (slt w o b)
    · rw [if_pos (by omega)]
      obtain ⟨q1, q2⟩ := fs_spec (fun k => !(thr w o (b + k) && decide (lvl w o (b + k) = L) && (drt w o (b + k) == drt w o b))) N
      have q0 := fs_le (fun k => !(thr w o (b + k) && decide (lvl w o (b + k) = L) && (drt w o (b + k) == drt w o b))) N
      have hev : evn w o b N L = true ↔ fs (fun k => !(thr w o (b + k) && decide (lvl w o (b + k) = L) && (drt w o (b + k) == drt w o b))) N = N := decide_eq_true_iff
      generalize fs (fun k => !(thr w o (b + k) && decide (lvl w o (b + k) = L) && (drt w o (b + k) == drt w o b))) N = jj at q0 q1 q2 hev
      refine Eq.trans (runs0 (fun n k => R_isEven_30 n m o b N L ((b + k : Nat) : Int)) jj 0 (r := (if (slt w o b < 64 ∧ N ≤ spn w (slt w o b)) ∧ evn w o b N L = true then 1 else 0, m)) (fun n k hk _ => ?_) (fun n _ => ?_) (n := n) (by omega)) rfl
      · have hq := q1 k hk
        rw [Bool.not_eq_false', Bool.and_eq_true, Bool.and_eq_true, decide_eq_true_iff, beq_iff_eq] at hq
        obtain ⟨⟨hq1, hq2⟩, hq3⟩ := hq
        show R_isEven_30 (n + 1) m o b N L ((b + k : Nat) : Int) = R_isEven_30 n m o b N L ((b + (k + 1) : Nat) : Int)
        rw [R_isEven_30, ay_wi (x := (b : Int) + (N : Int)) (by omega) (by omega), if_neg (by omega), bb_s (R_isThere_ok n HP ho (by omega)), i01, if_pos hq1, bb_s (R_levelOf_ok n HP ho (by omega)), hq2, if_pos rfl, bb_s (R_isDirty_ok n HP ho (by omega)), bb_s (R_isDirty_ok n HP ho (by omega)), if_pos (ibeq.mpr hq3), ay_wi (by omega) (by omega), show ((b + k : Nat) : Int) + 1 = ((b + (k + 1) : Nat) : Int) by omega]
      · show R_isEven_30 (n + 1) m o b N L ((b + jj : Nat) : Int) = _
        rw [R_isEven_30, ay_wi (x := (b : Int) + (N : Int)) (by omega) (by omega)]
        by_cases e : jj = N
        · rw [if_pos (by omega), if_pos ⟨⟨c, c2⟩, hev.mpr e⟩]
        · have hq := q2 (by omega)
          rw [Bool.not_eq_true', Bool.eq_false_iff, Ne, Bool.and_eq_true, Bool.and_eq_true, decide_eq_true_iff, beq_iff_eq] at hq
          have hx : ¬ ((slt w o b < 64 ∧ N ≤ spn w (slt w o b)) ∧ evn w o b N L = true) := fun z => e (hev.mp z.2)
          rw [if_neg (by omega), bb_s (R_isThere_ok n HP ho (by omega)), i01, if_neg hx]
          by_cases t1 : thr w o (b + jj) = true
          · rw [if_pos t1, bb_s (R_levelOf_ok n HP ho (by omega))]
            by_cases t2 : lvl w o (b + jj) = L
            · rw [t2, if_pos rfl, bb_s (R_isDirty_ok n HP ho (by omega)), bb_s (R_isDirty_ok n HP ho (by omega)), if_neg (fun z => hq ⟨⟨t1, t2⟩, ibeq.mp z⟩)]
            · rw [if_neg (by omega)]
          · rw [if_neg t1]
    · rw [if_neg (by omega), if_neg (fun z => c2 z.1.2)]
  · rw [if_neg c, if_pos rfl, if_neg (fun z => c z.1.1)]
theorem bC_id (m : bS) : bC m 0 (m.2 0) = m := by
  refine Prod.ext rfl ?_
  funext q
  show (bif Nat.beq q 0 then m.2 0 else m.2 q) = m.2 q
  cases hq : Nat.beq q 0
  · rfl
  · rw [Nat.eq_of_beq_eq_true hq]; rfl
theorem R_level_ok (H14 : 0 ≤ m.2 0 14 ∧ m.2 0 14 ≤ 25) (hT : T < 131072) (h10 : m.2 0 10 = (T : Int)) (ho : o < 4) (hb : b + N ≤ 32) (hb32 : b < 32) (hk : k < 6) (hN16 : N ≤ 16) (hn : 60 ≤ n) : R_level n m o b N L k = some (0, bC m 0 (wd (lvr (32 * o + b) (L : Int) N (m.2 0)) ((T * 12288 + k * 2048 + o * 32 + b : Nat) : Int))) := by
  unfold R_level
  have key := (runs0 (fun n q => R_level_3 n (bC m 0 (lvr (32 * o + b) (L : Int) q (m.2 0))) o b N L k ((b + q : Nat) : Int)) N 26 (r := (0, bC m 0 (wd (lvr (32 * o + b) (L : Int) N (m.2 0)) ((T * 12288 + k * 2048 + o * 32 + b : Nat) : Int)))) (fun n q hq _ => ?_) (fun n hn => ?_) (n := n) (by omega))
  · have key' : R_level_3 n (bC m 0 (m.2 0)) o b N L k (b : Int) = some (0, bC m 0 (wd (lvr (32 * o + b) (L : Int) N (m.2 0)) ((T * 12288 + k * 2048 + o * 32 + b : Nat) : Int))) := key
    rw [bC_id] at key'
    exact key'
  · show R_level_3 (n + 1) (bC m 0 (lvr (32 * o + b) (L : Int) q (m.2 0))) o b N L k ((b + q : Nat) : Int) = R_level_3 n (bC m 0 (lvr (32 * o + b) (L : Int) (q + 1) (m.2 0))) o b N L k ((b + (q + 1) : Nat) : Int)
    rw [R_level_3, ay_wi (x := (b : Int) + (N : Int)) (by omega) (by omega), if_neg (by omega), bb_s (R_putPage_ok n _ ho (by omega) (by omega) (by omega) _), bC_C, ay_wi (by omega) (by omega), show ((b + q : Nat) : Int) + 1 = ((b + (q + 1) : Nat) : Int) by omega]
    have e : 18 + 7 * (32 * o + (b + q)) + (5 : Int).toNat = 18 + 7 * (32 * o + b + q) + 5 := by rw [show (5 : Int).toNat = 5 from rfl]; omega
    rw [e]
    rfl
  · show R_level_3 (n + 1) (bC m 0 (lvr (32 * o + b) (L : Int) N (m.2 0))) o b N L k ((b + N : Nat) : Int) = _
    have e14 : (bC m 0 (lvr (32 * o + b) (L : Int) N (m.2 0))).2 0 14 = m.2 0 14 := lvr_o (by omega) (by omega)
    have e10 : (bC m 0 (lvr (32 * o + b) (L : Int) N (m.2 0))).2 0 10 = m.2 0 10 := lvr_o (by omega) (by omega)
    rw [R_level_3, ay_wi (x := (b : Int) + (N : Int)) (by omega) (by omega), if_pos (by omega), bb_s (R_writeDown_ok hT hk (by omega) (by omega) (by rw [e14]; exact H14) (by rw [e10]; exact h10) hn), bC_C]
    rfl
/-- a block changes its level, and that is written down -/
theorem relevel (V : Lv w w1 o b N L) (HF : RF w1 a) (HB : RB w1 a) (HS : RS w1 a) (HP : RP w a) (J : IL w) (ho : o < 4) (hN : N = 4 ∨ N = 16) (hbN : b % N = 0) (hb : b + N ≤ 32) (hb32 : b < 32) (hL : L = 1 ∨ L = 4 ∨ L = 16) (hLN : L ≤ N) (hth : ∀ q, b ≤ q → q < b + N → thr w o q = true) (hsp : 1 < L → ∀ q, b ≤ q → q < b + N → L ≤ spn w (slt w o q)) (hdr : 1 < L → ∀ q r, b ≤ q → q < b + N → b ≤ r → r < b + N → q / L = r / L → drt w o q = drt w o r) (h16 : N = 4 → ∀ q, b ≤ q → q < b + N → six w o q = false) (hT : T < 131072) (hk : k < 6) : RW (nt w1 ((T * 16384 + k * 2048 + o * 32 + b : Nat) : Int)) (wd (lvr (32 * o + b) (L : Int) N a) ((T * 12288 + k * 2048 + o * 32 + b : Nat) : Int)) ∧ IL (nt w1 ((T * 16384 + k * 2048 + o * 32 + b : Nat) : Int)) ∧ Lv w (nt w1 ((T * 16384 + k * 2048 + o * 32 + b : Nat) : Int)) o b N L := by
  have hib : 32 * o + b + N ≤ 128 := by omega
  have V' : Lv w (nt w1 ((T * 16384 + k * 2048 + o * 32 + b : Nat) : Int)) o b N L := by
    refine ⟨V.1, fun j h1 h2 h3 => ?_, fun j h1 => ?_⟩
    · show (bif Nat.beq j 10 then _ else w1.2 j) = _
      cases e : Nat.beq j 10
      · exact V.2.1 j h1 h2 h3
      · exact absurd (Nat.eq_of_beq_eq_true e) h3
    · show (bif Nat.beq j 12 then _ else w1.1 j) = _
      cases e : Nat.beq j 12
      · exact V.2.2 j h1
      · exact absurd (Nat.eq_of_beq_eq_true e) h1
  refine ⟨RW_nt ⟨?_, Lv_RP V HP ho hb hL hth, RB_c (lvr_o (by omega) hib) (fun i a1 a2 => lvr_o (by omega) hib) HB, RS_c (fun i a1 a2 a3 => lvr_o (by omega) hib) HS⟩ hT hk (by omega) (by omega), Lv_IL V' J ho hN hbN hb hL hLN hth hsp hdr h16, V'⟩
  · refine ⟨fun f hf => ?_, fun s hs h0 => ?_, fun i hi => ?_⟩
    · rw [lvr_o (by omega) hib]; exact HF.1 f hf
    · rw [lvr_o (by omega) hib, lvr_o (by omega) hib, lvr_o (by omega) hib, lvr_o (by omega) hib]; exact HF.2.1 s hs h0
    · have := lvr_p (i := 32 * o + b) (t := (L : Int)) (k := N) (a := a) hi (show 0 < 7 by omega)
      rw [if_neg (by omega), Nat.add_zero] at this
      rw [this]; exact HF.2.2 i hi
theorem slt_blk (I : IF w) (ho : o < 4) (hp : p < 32) (hq : q < 32) (hN : isN N) (e : q / N = p / N) (hc : slt w o p < 64) (hs : N ≤ spn w (slt w o p)) : slt w o q = slt w o p := by
  have hin : inH w (32 * o + p) (slt w o p) := hvs_in hc
  obtain ⟨_, _, a3, a4, a5⟩ := I.1 _ hc
  have h0 : 0 < spn w (slt w o p) := by have := hin.1; have := hin.2; omega
  obtain ⟨a6, a7⟩ := a5 h0
  refine hvs_eq I (by omega) hc ?_
  have b1 := hin.1; have b2 := hin.2
  show hom w (slt w o p) ≤ 32 * o + q ∧ 32 * o + q < hom w (slt w o p) + spn w (slt w o p)
  clear hin a5 a6 hc
  generalize hom w (slt w o p) = H at *
  generalize spn w (slt w o p) = S at *
  rcases hN with h | h | h <;> subst h <;> rcases a3 with h | h | h | h <;> subst h <;> omega
end
