/-! Whether a block of pages can be kept anew, on both sides; what is told; what laws must show. -/
theorem pb_bits : ∀ h : Nat, h < 32 → ∀ q : Nat, q < 32 → bt (ay_shl (ay_w (ay_shl 1 1 - 1)) (h : Int)) q = decide (h ≤ q ∧ q < h + 1) ∧ bt (ay_shl (ay_w (ay_shl 1 4 - 1)) (h : Int)) q = decide (h ≤ q ∧ q < h + 4) ∧ bt (ay_shl (ay_w (ay_shl 1 16 - 1)) (h : Int)) q = decide (h ≤ q ∧ q < h + 16) := by decide +kernel
/-- the pages of what begins at a slot -/
def pgb (w : bS) (s : Nat) : Int := ay_shl (ay_w (ay_shl 1 (spn w s : Int) - 1)) ((hom w s % 32 : Nat) : Int)
def rvb (w : bS) (o : Nat) : Nat → Int
  | 0 => 0
  | k + 1 => if 0 < spn w k ∧ hom w k / 32 = o then ay_or (rvb w o k) (pgb w k) else rvb w o k
def opn (w : bS) (o b M : Nat) : Bool := decide (fs (fun t => decide (hvs w (32 * o + b + t) < 64)) M = M)
/-- what is told, on both sides -/
def TO (z : Nat → Nat) (tt : bS) (a : Nat → Int) : Prop := (∀ o, o < 4 → tt.2 0 o = (z o : Int) ∧ a (6 + o) = (z o : Int) ∧ z o ≤ 32) ∧ ∃ q : Nat, q ≤ 4 ∧ tt.1 4 = (q : Int) ∧ a 0 = (q : Int) ∧ (∀ o, o < q → 0 < z o) ∧ ∀ o, o < 4 → q ≤ o → z o = 0
/-- the same but for what sums are worked out in -/
def Mq (m m' : bS) : Prop := m'.1 = m.1 ∧ ∀ j, j ≠ 20 → j ≠ 21 → j ≠ 22 → m'.2 j = m.2 j
section
variable {n n' : Nat} {m m' m1 w w' w0 kk xx tt : bS} {z : Nat → Nat} {a b' : Nat → Int} {o p f s N k i h g j T b c M x y q : Nat} {t v : Int}
theorem Mq.rf : Mq m m := ⟨rfl, fun _ _ _ _ => rfl⟩
theorem Mq.tr (h1 : Mq m m') (h2 : Mq m' m1) : Mq m m1 := ⟨h2.1.trans h1.1, fun j a b c => (h2.2 j a b c).trans (h1.2 j a b c)⟩
theorem Mq.sy (h1 : Mq m m') : Mq m' m := ⟨h1.1.symm, fun j a b c => (h1.2 j a b c).symm⟩
theorem Mq.ar (h1 : Mq m m') : m'.2 0 = m.2 0 := h1.2 0 (by omega) (by omega) (by omega)
theorem Mq.tx (h1 : Mq m m') : m'.2 2 = m.2 2 := h1.2 2 (by omega) (by omega) (by omega)
theorem TO_c (e : ∀ i, i < 10 → b' i = a i) (H : TO z tt a) : TO z tt b' := by
  obtain ⟨h1, q, q1, q2, q3, q4⟩ := H
  refine ⟨fun o ho => ?_, q, q1, q2, ?_, q4⟩
  · rw [e _ (by omega)]; exact h1 o ho
  · rw [e _ (by omega)]; exact q3
theorem TO.ra (H : TO z tt a) (R : Ra a b') : TO z tt b' := TO_c (fun i hi => R i (by omega)) H
theorem opn_iff : opn w o b M = true ↔ ∀ t, t < M → ¬ hvs w (32 * o + b + t) < 64 := by
  unfold opn
  rw [decide_eq_true_iff, fs_none]
  exact ⟨fun h t ht => of_decide_eq_false (h t ht), fun h t ht => decide_eq_false (h t ht)⟩
theorem pgb_bt (I : IF w) (hs : s < 64) (h0 : 0 < spn w s) (hq : q < 32) : bt (pgb w s) q = decide (hom w s % 32 ≤ q ∧ q < hom w s % 32 + spn w s) := by
  obtain ⟨b1, b2, b3⟩ := pb_bits (hom w s % 32) (by omega) q hq
  unfold pgb
  rcases isN_of I hs h0 with e | e | e <;> rw [e]
  · exact b1
  · exact b2
  · exact b3
theorem W_pageBits_ok (n : Nat) (I : IF w) (hs : s < 64) : W_pageBits n w s = some (pgb w s, w) := by
  obtain ⟨e4, e3, _, hh, _⟩ := I.1 s hs
  unfold W_pageBits
  rw [if_pos (by omega), if_pos (by omega), Int.toNat_natCast, e4, e3, hm32 hh]
  rfl
theorem W_reservedBits_ok (I : IF w) (ho : o < 4) (hn : 66 ≤ n) : W_reservedBits n w o = some (rvb w o 64, w) := by
  unfold W_reservedBits
  refine runs0 (fun n k => W_reservedBits_4 n w o (rvb w o k) k) 64 0 (fun n k hk _ => ?_) (fun n _ => ?_) (n := n) (by omega)
  · obtain ⟨e4, e3, _, hh, _⟩ := I.1 k hk
    show W_reservedBits_4 (n + 1) w o (rvb w o k) k = W_reservedBits_4 n w o (rvb w o (k + 1)) ((k + 1 : Nat) : Int)
    rw [W_reservedBits_4, if_neg (by omega), if_pos (by omega), Int.toNat_natCast, e4, e3, hd32 hh, wad1 (by omega), rvb]
    by_cases h0 : 0 < spn w k
    · rw [if_neg (by omega), if_pos (by omega)]
      by_cases c : hom w k / 32 = o
      · rw [if_pos (by omega), if_pos ⟨h0, c⟩]
        exact bb_s (W_pageBits_ok n I hk)
      · rw [if_neg (by omega), if_neg (fun y => c y.2)]
    · rw [if_pos (by omega), if_neg (fun y => h0 y.1)]
  · show W_reservedBits_4 (n + 1) w o (rvb w o 64) 64 = _
    rw [W_reservedBits_4, if_pos (by omega)]
theorem rvb_bt (I : IF w) (ho : o < 4) (hq : q < 32) : ∀ k, k ≤ 64 → (bt (rvb w o k) q = true ↔ ∃ s, s < k ∧ inH w (32 * o + q) s)
  | 0, _ => by
    rw [rvb, bt_z]
    exact ⟨fun h => (by cases h), fun ⟨s, h, _⟩ => (by omega)⟩
  | k + 1, hk => by
    have ih := rvb_bt I ho hq k (by omega)
    have hit : (0 < spn w k ∧ hom w k / 32 = o) ∧ (hom w k % 32 ≤ q ∧ q < hom w k % 32 + spn w k) ↔ inH w (32 * o + q) k := by
      constructor
      · rintro ⟨⟨h0, h1⟩, h2, h3⟩; exact ⟨by omega, by omega⟩
      · rintro ⟨h1, h2⟩
        have h0 : 0 < spn w k := by omega
        obtain ⟨a1, a2, a3⟩ := I.at (show k < 64 by omega) h0
        exact ⟨⟨h0, by omega⟩, by omega, by omega⟩
    rw [rvb]
    constructor
    · intro h
      by_cases c : 0 < spn w k ∧ hom w k / 32 = o
      · rw [if_pos c, bt_or, Bool.or_eq_true] at h
        rcases h with h | h
        · obtain ⟨s, s1, s2⟩ := ih.mp h; exact ⟨s, by omega, s2⟩
        · rw [pgb_bt I (by omega) c.1 hq, decide_eq_true_iff] at h
          exact ⟨k, by omega, hit.mp ⟨c, h⟩⟩
      · rw [if_neg c] at h
        obtain ⟨s, s1, s2⟩ := ih.mp h; exact ⟨s, by omega, s2⟩
    · rintro ⟨s, s1, s2⟩
      by_cases e : s = k
      · subst e
        obtain ⟨c, d⟩ := hit.mpr s2
        rw [if_pos c, bt_or, pgb_bt I (by omega) c.1 hq, decide_eq_true d, Bool.or_true]
      · have := ih.mpr ⟨s, by omega, s2⟩
        by_cases c : 0 < spn w k ∧ hom w k / 32 = o
        · rw [if_pos c, bt_or, this, Bool.true_or]
        · rw [if_neg c]; exact this
theorem taken_blk (I : IF w) (ho : o < 4) (hp : p < 32) (hM : isN M) : ay_and (rvb w o 64) (bk p M) = 0 ↔ opn w o (p - p % M) M = true := by
  obtain ⟨r1, r2, r3, r4⟩ := blk_is hM hp
  rw [and_blz hM hp, opn_iff]
  have key : ∀ q, q < 32 → (bt (rvb w o 64) q = false ↔ ¬ hvs w (32 * o + q) < 64) := fun q hq => by
    rw [hvs_iff, ← rvb_bt I ho hq 64 (Nat.le_refl _)]
    cases bt (rvb w o 64) q <;> simp
  constructor
  · intro h t ht
    have := (key (p - p % M + t) (by omega)).mp (h _ (by omega) (by omega))
    rw [Nat.add_assoc]; exact this
  · intro h q h1 h2
    refine (key q (by omega)).mpr ?_
    have := h (q - (p - p % M)) (by omega)
    rw [show 32 * o + (p - p % M) + (q - (p - p % M)) = 32 * o + q by omega] at this
    exact this
theorem R_pfr (n : Nat) (G : GW w (m.2 0) T) (ho : o < 4) (hp : p < 32) : R_pageAt n m o p 0 = some (if hvs w (32 * o + p) < 64 then ((frm w (32 * o + p) : Nat) : Int) else -1, m) := by
  rw [R_pageAt_ok n m ho hp (by omega) (by omega), show (0 : Int).toNat = 0 from rfl, Nat.add_zero, RF.pfr G.2.1 G.1.1 (by omega)]
  rfl
theorem R_isOpen_ok (G : GW w (m.2 0) T) (hto : TO z tt (m.2 0)) (ho : o < 4) (hp : p < 32) (hM : isN M) (hn : 20 ≤ n) : R_isOpen n m o p M = some (if p - p % M + M ≤ z o ∧ opn w o (p - p % M) M = true then 1 else 0, m) := by
  obtain ⟨r1, r2, r3, r4⟩ := blk_is hM hp
  have hM16 : 0 < M ∧ M ≤ 16 := by rcases hM with h | h | h <;> omega
  obtain ⟨_, hz, hz32⟩ := hto.1 o ho
  have hop : opn w o (p - p % M) M = true ↔ fs (fun t => decide (hvs w (32 * o + (p - p % M) + t) < 64)) M = M := decide_eq_true_iff
  unfold R_isOpen
  rw [if_neg (by omega), long_at ho, if_pos (by omega), Int.toNat_natCast, psub hM hp]
  generalize hb : p - p % M = b at *
  rw [hz, wadd (x := b) (y := M) (by omega)]
  by_cases c : b + M ≤ z o
  · rw [if_pos (by omega)]
    obtain ⟨q1, q2, q3⟩ := fs_dec (P := fun t => hvs w (32 * o + b + t) < 64) (n := M)
    generalize hj : fs (fun t => decide (hvs w (32 * o + b + t) < 64)) M = j at q1 q2 q3 hop
    refine Eq.trans (runs0 (fun n t => R_isOpen_29 n m o M b ((b + t : Nat) : Int)) j 0 (r := (if b + M ≤ z o ∧ opn w o b M = true then 1 else 0, m)) (fun n t ht _ => ?_) (fun n _ => ?_) (n := n) (by omega)) rfl
    · show R_isOpen_29 (n + 1) m o M b ((b + t : Nat) : Int) = R_isOpen_29 n m o M b ((b + (t + 1) : Nat) : Int)
      have hq := q2 t ht
      rw [Nat.add_assoc] at hq
      rw [R_isOpen_29, wadd (x := b) (y := M) (by omega), if_neg (by omega), bb_s (R_pfr n G ho (by omega)), if_neg hq, if_pos rfl, wad1 (by omega)]
      rfl
    · show R_isOpen_29 (n + 1) m o M b ((b + j : Nat) : Int) = _
      rw [R_isOpen_29, wadd (x := b) (y := M) (by omega)]
      by_cases e : j = M
      · rw [if_pos (by omega), if_pos ⟨c, hop.mpr e⟩]
      · have hq := q3 (by omega)
        rw [Nat.add_assoc] at hq
        rw [if_neg (by omega), bb_s (R_pfr n G ho (by omega)), if_pos hq, if_neg (by omega), if_neg (fun y => e (hop.mp y.2))]
  · rw [if_neg (by omega), if_neg (fun y => c y.1)]
end
