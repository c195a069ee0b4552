/-! Laws: what they want, what they spare. -/
def hlv (V : Int) : Int := (if 1 < (if V < 16 then V else 16) then (if V < 16 then V else 16) else 1)
section
variable {q s s' m m' m1 w x x' tt kk xx : bS} {K S A a nn r r' : Nat → Int} {z : Nat → Nat} {L n i j k t N u T Tm o p b y c : Nat} {v l V : Int}
theorem hlv_in : ∃ v : Nat, hlv V = (v : Int) ∧ 1 ≤ v ∧ v ≤ 16 := by
  refine ⟨(hlv V).toNat, ?_, ?_, ?_⟩ <;> unfold hlv <;> split <;> (try split) <;> omega
theorem held_ok (h1 : -1000000 ≤ V) (h2 : V ≤ 1000000) : R_held n V 1 16 = some (hlv V) := by
  unfold R_held hlv ay_cmp
  by_cases a : V < 1
  · rw [if_pos a, if_neg (by decide), if_pos (show V < 16 by omega), if_neg (by omega)]
  · rw [if_neg a]
    by_cases b : V = 1
    · rw [if_pos b, if_pos (by decide), if_pos (show V < 16 by omega), if_pos (by decide), if_neg (by omega), ay_wi (by omega) (by omega), b]
    · rw [if_neg b, if_pos (by decide)]
      by_cases c : V < 16
      · rw [if_pos c, if_pos (by decide), if_pos c, if_pos (by omega), ay_wi (by omega) (by omega)]
      · rw [if_neg c, if_neg c]
        by_cases d : V = 16
        · rw [if_pos d, if_pos (by decide), if_pos (by omega), ay_wi (by omega) (by omega), d]
        · rw [if_neg d, if_neg (by decide), if_pos (by omega)]
/-- where a clause lies -/
theorem w729 (h : T < 4) : ay_w (729 * (T : Int)) = ((729 * T : Nat) : Int) := by rw [ay_wi (by omega) (by omega)]; omega
theorem clauseOf_n (h4 : T < 4) (hk : k ≤ 24) (h0 : m.2 2 (729 * T) = (k : Int)) (hno : ∀ j, j < k → ¬ m.2 2 (729 * T + 1 + 5 * j) = (b : Int)) : ∀ (c n j : Nat), c + j = k → c < n → R_clauseOf_2 n m (T : Int) (b : Int) (j : Int) = some (-1, m)
  | _, 0, _, _, h => by omega
  | 0, n + 1, j, h1, _ => by
    unfold R_clauseOf_2
    rw [if_neg (by omega), w729 h4, if_pos ⟨by omega, by omega⟩, Int.toNat_natCast, h0, if_pos (by omega)]
  | c + 1, n + 1, j, h1, h2 => by
    have ih := clauseOf_n h4 hk h0 hno c n (j + 1) (by omega) (by omega)
    have hj := hno j (by omega)
    rw [show 729 * T + 1 + 5 * j = 729 * T + (1 + 5 * j) by omega] at hj
    unfold R_clauseOf_2
    rw [if_neg (by omega), w729 h4, if_pos ⟨by omega, by omega⟩, Int.toNat_natCast, h0, if_neg (by omega), x5k h4 (by omega), if_pos ⟨by omega, by omega⟩, Int.toNat_natCast, if_neg hj, wad1 (by omega)]
    exact ih
theorem clauseOf_y (h4 : T < 4) (hk : k ≤ 24) (h0 : m.2 2 (729 * T) = (k : Int)) {j0 : Nat} (hj0 : j0 < k) (hyes : ∀ j, j < k → (m.2 2 (729 * T + 1 + 5 * j) = (b : Int) ↔ j = j0)) : ∀ (c n j : Nat), c + j = j0 → c < n → R_clauseOf_2 n m (T : Int) (b : Int) (j : Int) = some ((j0 : Int), m)
  | _, 0, _, _, h => by omega
  | 0, n + 1, j, h1, _ => by
    have e : j = j0 := by omega
    subst e
    have hj := (hyes j hj0).2 rfl
    rw [show 729 * T + 1 + 5 * j = 729 * T + (1 + 5 * j) by omega] at hj
    unfold R_clauseOf_2
    rw [if_neg (by omega), w729 h4, if_pos ⟨by omega, by omega⟩, Int.toNat_natCast, h0, if_neg (by omega), x5k h4 (by omega), if_pos ⟨by omega, by omega⟩, Int.toNat_natCast, if_pos hj]
  | c + 1, n + 1, j, h1, h2 => by
    have ih := clauseOf_y h4 hk h0 hj0 hyes c n (j + 1) (by omega) (by omega)
    have hj : ¬ m.2 2 (729 * T + 1 + 5 * j) = (b : Int) := fun h => by have := (hyes j (by omega)).1 h; omega
    rw [show 729 * T + 1 + 5 * j = 729 * T + (1 + 5 * j) by omega] at hj
    unfold R_clauseOf_2
    rw [if_neg (by omega), w729 h4, if_pos ⟨by omega, by omega⟩, Int.toNat_natCast, h0, if_neg (by omega), x5k h4 (by omega), if_pos ⟨by omega, by omega⟩, Int.toNat_natCast, if_neg hj, wad1 (by omega)]
    exact ih
/-- the asker's whole answer, the reference's whole sum -/
theorem ans_ok {i0 i1 : Nat} {t : bS} (H : CV (od b) (x.2 1) i0 i1 44 w nn V) (hi : i0 ≤ i1) (h7 : i1 ≤ (x.1 7).toNat) (h600 : (x.1 7).toNat ≤ 600) (hV : -1000000 ≤ V ∧ V ≤ 1000000) (hnn : ∀ k, k < 8 → od b k → xx.2 0 k = nn k) (hn : 900 ≤ n) : ∃ xx', A1_answer t x n (kk, w, xx) (i0 : Int) (i1 : Int) = some (V, (kk, w, xx')) := by
  obtain ⟨xx', n1, a1, a2, a3, a4, a5⟩ := H x t kk xx i1 n 0 ⟨fun _ _ _ => rfl, h7, h600, Nat.le_refl _⟩ hnn (by omega) (by omega)
  obtain ⟨n2, hn2⟩ : ∃ n2, n1 = n2 + 1 := ⟨n1 - 1, by omega⟩
  subst hn2
  refine ⟨xx', ?_⟩
  show A1_answer_6 t x n (kk, w, xx) (i1 : Int) ((0 : Nat) : Int) (i0 : Int) = _
  rw [a1]
  unfold A1_answer_6
  rw [if_neg (by omega), if_pos (Int.le_refl _)]
  unfold A1_answer_610
  have e : ay_w (((0 + 1 : Nat) : Int) - 1) = 0 := by decide
  rw [if_neg (by decide), e, if_pos (by decide)]
  show some (ay_w (xx'.2 1 0), _) = _
  rw [a5, ay_wi (by omega) (by omega)]
theorem sum_ok {u0 u1 j : Nat} (h4 : T < 4) (hj : j < 24) (H : RV (od b) (fun y => m.2 2 (729 * T + 121 + y)) u0 u1 44 (m.2 0) nn V) (hu : u0 ≤ u1) (h300 : u1 ≤ 300) (e0 : m.2 2 (729 * T + 1 + 5 * j + 1) = (u0 : Int)) (e1 : m.2 2 (729 * T + 1 + 5 * j + 2) = (u1 : Int)) (hnn : ∀ k, k < 8 → od b k → m.2 20 k = nn k) (hn : 900 ≤ n) : ∃ m1, R_summedUp n m (T : Int) (j : Int) = some (V, m1) ∧ M21 m m1 := by
  have X : RX (fun y => m.2 2 (729 * T + 121 + y)) u0 u1 m (729 * T + (1 + 5 * j)) (729 * T + 121) := ⟨fun _ _ _ => rfl, by rw [show 729 * T + (1 + 5 * j) + 2 = 729 * T + 1 + 5 * j + 2 by omega, e1]; exact Int.le_refl _, by omega, by omega⟩
  obtain ⟨m1, n1, a1, a2, a3, a4, a5, a6⟩ := H m (729 * T + (1 + 5 * j)) (729 * T + 121) n 0 0 X rfl hnn (by omega) (by omega) (by omega)
  obtain ⟨n2, hn2⟩ : ∃ n2, n1 = n2 + 1 := ⟨n1 - 1, by omega⟩
  subst hn2
  refine ⟨m1, ?_, a3⟩
  unfold R_summedUp
  have e121 : ay_w (((729 * T : Nat) : Int) + 121) = ((729 * T + 121 : Nat) : Int) := wadd (y := 121) (by omega)
  rw [w729 h4, x5k h4 hj, e121, wad1 (x := 729 * T + (1 + 5 * j)) (by clear e121; omega), if_pos ⟨by clear e121; omega, by clear e121; omega⟩, Int.toNat_natCast, show 729 * T + (1 + 5 * j) + 1 = 729 * T + 1 + 5 * j + 1 by clear e121; omega, e0]
  refine a1.trans ?_
  have e2 : m1.2 2 (729 * T + (1 + 5 * j) + 2) = (u1 : Int) := by rw [a3.2 2 (by decide) (by decide), show 729 * T + (1 + 5 * j) + 2 = 729 * T + 1 + 5 * j + 2 by clear e121; omega, e1]
  unfold R_summedUp_38
  rw [wad2 (x := 729 * T + (1 + 5 * j)) (by clear e121; omega), if_pos ⟨by clear e121; omega, by clear e121; omega⟩, Int.toNat_natCast, e2, if_pos (Int.le_refl _), a6]
theorem Mq21 (h : M21 m m') : Mq m m' := ⟨h.1, fun j h20 h21 h22 => h.2 j h21 h22⟩
theorem Mq20 {i v : Int} : Mq m (bA m 20 i v) := ⟨rfl, fun j h _ _ => bA_2 h⟩
theorem Mq.tr' (h : Mq m m') (h' : Mq m' m1) : Mq m m1 := ⟨h'.1.trans h.1, fun j a b c => (h'.2 j a b c).trans (h.2 j a b c)⟩
/-- the names that both sides share -/
theorem name_ok (X : GX z w (m.2 0) Tm) (ho : o < 4) (hn : 100 ≤ n) : R_name n m (o : Int) = some (0, bA (bA (bA (bA m 20 0 (m.2 0 10)) 20 1 (fr w : Int)) 20 2 (o : Int)) 20 3 (m.2 0 (6 + o))) := by
  have e0 : (bA m 20 0 (m.2 0 10)).2 0 = m.2 0 := bA_2 (by decide)
  have e6 : ay_w (6 + (o : Int)) = ((6 + o : Nat) : Int) := wadd (x := 6) (by omega)
  unfold R_name
  rw [bb_s (R_freeFrames_ok (m := bA m 20 0 (m.2 0 10)) X.1.2.1 (by rw [e0]; exact X.1.1.1) (by omega)), e6, if_pos ⟨by clear e6; omega, by clear e6; omega⟩, Int.toNat_natCast, e0]
theorem fr_b : fr w ≤ 64 := Nat.sub_le _ _
theorem bA_20 {i v : Int} (h : 0 ≤ i) {k : Nat} : (bA m 20 i v).2 20 k = if (k : Int) = i then v else m.2 20 k := by
  show ay_u (m.2 20) i.toNat v k = _
  by_cases c : (k : Int) = i
  · rw [if_pos c, show k = i.toNat by omega]; exact ay_ue
  · rw [if_neg c, ay_ux (by omega)]
theorem bA_0 {i v : Int} (h : 0 ≤ i) {k : Nat} : (bA xx 0 i v).2 0 k = if (k : Int) = i then v else xx.2 0 k := by
  show ay_u (xx.2 0) i.toNat v k = _
  by_cases c : (k : Int) = i
  · rw [if_pos c, show k = i.toNat by omega]; exact ay_ue
  · rw [if_neg c, ay_ux (by omega)]
/-- wants -/
theorem wants_ok (H : TXR x (m.2 2) T) (h4 : T < 4) (X : GX z w (m.2 0) Tm) (O : TO z tt (m.2 0)) (ho : o < 4) (hp : p < 32) : ∃ v : Nat, (1 ≤ v ∧ v ≤ 16) ∧ (∀ (n : Nat) (kk xx : bS), 1000 ≤ n → ∃ xx', K1_wanted tt x n (kk, w, xx) (o : Int) (p : Int) = some ((v : Int), (kk, w, xx'))) ∧ ∀ (n : Nat) (m' : bS), 1000 ≤ n → Mq m m' → ∃ m1, R_wantsBy n m' (T : Int) (o : Int) (p : Int) = some ((v : Int), m1) ∧ Mq m m1 := by
  obtain ⟨k, a1, a2, a3, a4, _, a6, _⟩ := H
  have E := EV_ok X O
  have O1 := O.1 o ho
  have hT : w.1 14 = (Tm : Int) := X.1.2.2.2.2.1
  have hT2 : Tm < 131072 := X.1.2.2.2.2.2
  have hTa : w.1 14 = m.2 0 10 := X.1.1.2.2.2.1
  have hfr := fr_b (w := w)
  rcases a6 with ⟨b1, b2⟩ | ⟨j, i0, i1, u0, u1, b1, b2, b3, b4, b5, b6, b7, b8, b9⟩
  · refine ⟨16, by omega, fun n kk xx hn => ⟨xx, ?_⟩, fun n m' hn hm => ⟨m', ?_, hm⟩⟩
    · unfold K1_wanted
      rw [if_pos (show x.1 2 = -1 from b1)]; rfl
    · have e2 := hm.2 2 (by decide) (by decide) (by decide)
      unfold R_wantsBy
      rw [bb_s (show R_clauseOf n m' (T : Int) 0 = some (-1, m') from clauseOf_n (b := 0) h4 a1 (by rw [e2]; exact a2) (by rw [e2]; exact b2) k n 0 (by omega) (by omega)), if_pos rfl]; rfl
  · obtain ⟨nn, hnn⟩ : ∃ nn : Nat → Int, nn = fun k => if k = 0 then (Tm : Int) else if k = 1 then (fr w : Int) else if k = 2 then (o : Int) else if k = 3 then (z o : Int) else (p : Int) := ⟨_, rfl⟩
    have nb : ∀ k, k < 8 → od 0 k → -1000000 ≤ nn k ∧ nn k ≤ 1000000 := fun k _ _ => by
      rw [hnn]
      show -1000000 ≤ (if k = 0 then (Tm : Int) else if k = 1 then (fr w : Int) else if k = 2 then (o : Int) else if k = 3 then (z o : Int) else (p : Int)) ∧ (if k = 0 then (Tm : Int) else if k = 1 then (fr w : Int) else if k = 2 then (o : Int) else if k = 3 then (z o : Int) else (p : Int)) ≤ 1000000
      split
      · omega
      · split
        · omega
        · split
          · omega
          · split <;> omega
    obtain ⟨V, hV, c1, c2⟩ := b9.2 w (m.2 0) nn E nb
    obtain ⟨v, v1, v2, v3⟩ := hlv_in (V := V)
    have hle := b9.1
    refine ⟨v, ⟨v2, v3⟩, fun n kk xx hn => ?_, fun n m' hn hm => ?_⟩
    · obtain ⟨xx', g⟩ := ans_ok (t := tt) (kk := kk) (xx := bA (bA (bA (bA (bA xx 0 0 (w.1 14)) 0 1 (fr w : Int)) 0 2 (o : Int)) 0 3 (tt.2 0 o)) 0 4 (p : Int)) (n := n) c1 hle.1 b7 a4 hV (fun k hk hk2 => by
        have hk4 : k ≤ 4 := by rcases hk2 with h | h <;> omega
        rw [bA_0 (by decide), bA_0 (by decide), bA_0 (by decide), bA_0 (by decide), bA_0 (by decide), hnn, hT, O1.1]
        show _ = if k = 0 then (Tm : Int) else if k = 1 then (fr w : Int) else if k = 2 then (o : Int) else if k = 3 then (z o : Int) else (p : Int)
        have : k = 0 ∨ k = 1 ∨ k = 2 ∨ k = 3 ∨ k = 4 := by omega
        rcases this with h | h | h | h | h <;> subst h <;> rfl) (by omega)
      refine ⟨xx', ?_⟩
      unfold K1_wanted
      rw [if_neg (by rw [show x.1 2 = (i0 : Int) from b3]; omega), bb_s (W_freeFrames_ok X.1.2.1 (by omega)), if_pos ⟨by omega, by omega⟩]
      unfold A_setShared
      rw [bb_s rfl, Int.toNat_natCast, show x.1 2 = (i0 : Int) from b3, show x.1 3 = (i1 : Int) from b4, bb_s g]
      show some (hlv V, _) = _
      rw [v1]
    · have e2 := hm.2 2 (by decide) (by decide) (by decide)
      have e0 := hm.2 0 (by decide) (by decide) (by decide)
      unfold R_wantsBy
      rw [bb_s (show R_clauseOf n m' (T : Int) 0 = some ((j : Int), m') from clauseOf_y (b := 0) h4 a1 (by rw [e2]; exact a2) b1 (by rw [e2]; exact b2) j n 0 (by omega) (by omega)), if_neg (by omega), bb_s (name_ok (z := z) (Tm := Tm) (w := w) (m := m') (by rw [e0]; exact X) ho (by omega))]
      obtain ⟨m4, hm4⟩ : ∃ m4, m4 = bA (bA (bA (bA (bA m' 20 0 (m'.2 0 10)) 20 1 (fr w : Int)) 20 2 (o : Int)) 20 3 (m'.2 0 (6 + o))) 20 4 (p : Int) := ⟨_, rfl⟩
      rw [← hm4]
      have q4 : Mq m' m4 := by rw [hm4]; exact (((Mq20.tr' Mq20).tr' Mq20).tr' Mq20).tr' Mq20
      have f2 : m4.2 2 = m.2 2 := by rw [q4.2 2 (by decide) (by decide) (by decide), e2]
      have f0 : m4.2 0 = m.2 0 := by rw [q4.2 0 (by decide) (by decide) (by decide), e0]
      obtain ⟨m1, g1, g2⟩ := sum_ok (m := m4) (T := T) (j := j) (n := n) h4 (by omega) (by rw [f2, f0]; exact c2) hle.2 b8 (by rw [f2]; exact b5) (by rw [f2]; exact b6) (fun k hk hk2 => by
        have hk4 : k ≤ 4 := by rcases hk2 with h | h <;> omega
        rw [hm4, bA_20 (by decide), bA_20 (by decide), bA_20 (by decide), bA_20 (by decide), bA_20 (by decide), hnn, e0, ← hTa, hT, O1.2.1]
        show _ = if k = 0 then (Tm : Int) else if k = 1 then (fr w : Int) else if k = 2 then (o : Int) else if k = 3 then (z o : Int) else (p : Int)
        have : k = 0 ∨ k = 1 ∨ k = 2 ∨ k = 3 ∨ k = 4 := by omega
        rcases this with h | h | h | h | h <;> subst h <;> rfl) (by omega)
      refine ⟨m1, ?_, (hm.tr' q4).tr' (Mq21 g2)⟩
      rw [bb_s g1, b1_s (held_ok hV.1 hV.2), v1]
end
