/-! What is told, what stands: all that both sides keep between calls. -/
/-- what is told: texts, who rules, sayings -/
def TD (tt : bS) (U : bH) (a t2 : Nat → Int) : Prop := ∃ N S : Nat, (N ≤ 4 ∧ S ≤ 8) ∧ (tt.1 5 = (N : Int) ∧ a 1 = (N : Int)) ∧ (tt.1 6 = a 2 ∧ -1 ≤ a 2 ∧ a 2 < (N : Int)) ∧ (tt.1 7 = (S : Int) ∧ a 4 = (S : Int)) ∧ (∀ j, j < N → ∃ (jx : Nat) (x : bS), tt.2 1 j = ((jx + 83 : Nat) : Int) ∧ uX U jx x ∧ TXR x t2 j) ∧ (∀ i, i < S → ∃ p v : Nat, p < 32 ∧ v < 100 ∧ tt.2 2 i = (p : Int) ∧ tt.2 3 i = (v : Int) ∧ a (1259 + 2 * i) = (p : Int) ∧ a (1260 + 2 * i) = (v : Int)) ∧ ∀ j, j < 4 → tt.2 1 j = 0 ∨ ∃ (jx : Nat) (x : bS), tt.2 1 j = ((jx + 83 : Nat) : Int) ∧ uX U jx x
/-- faults -/
def FT (r m : bS) : Prop := (r.1 15 = 0 ∧ m.1 5 = -1 ∧ m.1 6 = -1) ∨ (r.1 15 ≠ 0 ∧ r.1 13 = m.1 5 ∧ r.1 14 = m.1 6)
def GI (z zp : Nat → Nat) (B Kt : Nat) (c : Nat → bS) (U : bH) (m : bS) : Prop := (GB z (c 0) (m.2 0) B ∧ TO z (c 1) (m.2 0) ∧ ST 2 c U z (m.2 0) B ∧ TD (c 1) U (m.2 0) (m.2 2)) ∧ (GB zp (c 3) (m.2 1) B ∧ TO zp (c 4) (m.2 1) ∧ ST 5 c U zp (m.2 1) B ∧ TD (c 4) U (m.2 1) (m.2 2)) ∧ m.2 1 1 ≤ m.2 0 1 ∧ HS c U Kt ∧ (∃ L, BY (c 7) L ∧ RM (c 7) m L) ∧ ((c 8).1 3 = -1 ∧ (c 10).1 3 = -1 ∧ m.1 23 = -1) ∧ (0 ≤ m.1 24 ∧ m.1 24 ≤ (B : Int)) ∧ FT (c 12) m
/-- who rules, as both sides see it -/
def PO (o : Option (Nat × bS)) (a2 : Int) (t2 : Nat → Int) : Prop := (o = none ∧ a2 = -1) ∨ ∃ (q : Nat × bS) (T : Nat), o = some q ∧ T < 4 ∧ a2 = (T : Int) ∧ TXR q.2 t2 T
section
variable {n n' B Kt B' Kt' T k j i : Nat} {z zp z' : Nat → Nat} {c c' c1 : Nat → bS} {U U' U1 : bH} {m m' m1 w w' x tt tt' : bS} {a a' t2 t2' : Nat → Int} {o : Option (Nat × bS)} {v : Int}
theorem bU_e : bU c k w k = w := by
  show (bif Nat.beq k k then w else c k) = w
  rw [Nat.beq_refl]; rfl
theorem bU_n (h : j ≠ k) : bU c k w j = c j := by
  show (bif Nat.beq j k then w else c j) = c j
  rw [nbeq h]; rfl
theorem bU_id : bU c k (c k) = c := funext fun j => by
  by_cases h : j = k
  · rw [h]; exact bU_e
  · exact bU_n h
theorem TD_c (H : TD tt U a t2) (e5 : tt'.1 5 = tt.1 5) (e6 : tt'.1 6 = tt.1 6) (e7 : tt'.1 7 = tt.1 7) (f1 : tt'.2 1 = tt.2 1) (f2 : tt'.2 2 = tt.2 2) (f3 : tt'.2 3 = tt.2 3) (ea : ∀ i, i = 1 ∨ i = 2 ∨ i = 4 ∨ (1259 ≤ i ∧ i < 1275) → a' i = a i) (hU : ∀ j x, uX U j x → uX U' j x) : TD tt' U' a' t2 := by
  obtain ⟨N, S, h1, h2, h3, h4, h5, h6, h7⟩ := H
  refine ⟨N, S, h1, ⟨e5.trans h2.1, by rw [ea 1 (by omega)]; exact h2.2⟩, by rw [e6, ea 2 (by omega)]; exact h3, ⟨e7.trans h4.1, by rw [ea 4 (by omega)]; exact h4.2⟩, fun j hj => ?_, fun i hi => ?_, fun j hj => ?_⟩
  · obtain ⟨jx, x, g1, g2, g3⟩ := h5 j hj
    exact ⟨jx, x, by rw [f1]; exact g1, hU _ _ g2, g3⟩
  · obtain ⟨p, v, g1, g2, g3, g4, g5, g6⟩ := h6 i hi
    exact ⟨p, v, g1, g2, by rw [f2]; exact g3, by rw [f3]; exact g4, by rw [ea _ (by omega)]; exact g5, by rw [ea _ (by omega)]; exact g6⟩
  · rw [f1]
    rcases h7 j hj with g | ⟨jx, x, g1, g2⟩
    · exact Or.inl g
    · exact Or.inr ⟨jx, x, g1, hU _ _ g2⟩
/-- texts of other rows -/
theorem TD_t (H : TD tt U a t2) (hr : ∀ j y : Nat, (j : Int) < a 1 → y < 729 → t2' (729 * j + y) = t2 (729 * j + y)) : TD tt U a t2' := by
  obtain ⟨N, S, h1, h2, h3, h4, h5, h6, h7⟩ := H
  refine ⟨N, S, h1, h2, h3, h4, fun j hj => ?_, h6, h7⟩
  obtain ⟨jx, x, g1, g2, g3⟩ := h5 j hj
  exact ⟨jx, x, g1, g2, TXR_c g3 (fun _ _ _ => rfl) rfl rfl rfl rfl (fun y hy => hr j y (by rw [h2.2]; omega) hy)⟩
theorem HS_2 (H : HS c U Kt) (e2 : (c' 2).2 0 = (c 2).2 0) (e5 : (c' 5).2 0 = (c 5).2 0) : HS c' U Kt := HS_c (fun q hq => by unfold en; rw [e2, e5]) H
/-- what a call leaves alone -/
theorem GI_c (H : GI z zp B Kt c U m) (e0 : c' 0 = c 0) (e1 : c' 1 = c 1) (e2 : c' 2 = c 2) (e3 : c' 3 = c 3) (e4 : c' 4 = c 4) (e5 : c' 5 = c 5) (e7 : c' 7 = c 7) (e8 : (c' 8).1 3 = (c 8).1 3) (e10 : (c' 10).1 3 = (c 10).1 3) (e12 : c' 12 = c 12) (f0 : m'.2 0 = m.2 0) (f1 : m'.2 1 = m.2 1) (f2 : m'.2 2 = m.2 2) (f3 : m'.2 3 = m.2 3) (g : ∀ k, k = 4 ∨ k = 5 ∨ k = 6 ∨ k = 23 ∨ k = 24 → m'.1 k = m.1 k) : GI z zp B Kt c' U m' := by
  obtain ⟨⟨a1, a2, a3, a4⟩, ⟨b1, b2, b3, b4⟩, h1, h2, ⟨L, h3, h4⟩, h5, h6, h7⟩ := H
  unfold GI
  rw [e0, e1, e3, e4, e7, e8, e10, e12, f0, f1, f2, g 23 (by omega), g 24 (by omega)]
  refine ⟨⟨a1, a2, ST_c e2 a3, a4⟩, ⟨b1, b2, ST_c e5 b3, b4⟩, h1, HS_2 h2 (by rw [e2]) (by rw [e5]), ⟨L, h3, by rw [g 4 (by omega)]; exact h4.1, by rw [f3]; exact h4.2⟩, h5, h6, ?_⟩
  unfold FT
  rw [g 5 (by omega), g 6 (by omega)]
  exact h7
theorem GI_q (H : GI z zp B Kt c U m) (Q : Mq m m') : GI z zp B Kt c U m' := GI_c H rfl rfl rfl rfl rfl rfl rfl rfl rfl rfl (Q.2 0 (by decide) (by decide) (by decide)) (Q.2 1 (by decide) (by decide) (by decide)) (Q.2 2 (by decide) (by decide) (by decide)) (Q.2 3 (by decide) (by decide) (by decide)) (fun k _ => by rw [Q.1])
theorem HS_m (h : Kt ≤ Kt') (H : HS c U Kt) : HS c U Kt' := ⟨H.1, H.2.1, by have := H.2.2.1; omega, by have := H.2.2.2; omega⟩
theorem GI_m (hB : B ≤ B') (hK : Kt ≤ Kt') (H : GI z zp B Kt c U m) : GI z zp B' Kt' c U m := by
  obtain ⟨⟨a1, a2, a3, a4⟩, ⟨b1, b2, b3, b4⟩, h1, h2, h3, h5, h6, h7⟩ := H
  exact ⟨⟨GB_m hB a1, a2, ST_m hB a3, a4⟩, ⟨GB_m hB b1, b2, ST_m hB b3, b4⟩, h1, HS_m hK h2, h3, h5, by omega, h7⟩
theorem uX_txH (H : uX U j x) : txH (mC m ++ U) (j + 10) x := H
/-- who rules -/
theorem PT_ok (hD : TD (c 1) U a t2) : ∃ o, PT (c, mC m ++ U) = some o ∧ PO o (a 2) t2 := by
  obtain ⟨N, S, h1, h2, h3, h4, h5, h6, h7⟩ := hD
  unfold PT T_ru
  dsimp only
  rw [h3.1, h2.1]
  by_cases c0 : a 2 < 0
  · rw [if_pos c0]
    exact ⟨none, rfl, Or.inl ⟨rfl, by omega⟩⟩
  · obtain ⟨T, hT⟩ : ∃ T : Nat, a 2 = (T : Int) := ⟨(a 2).toNat, by omega⟩
    obtain ⟨jx, x, g1, g2, g3⟩ := h5 T (by omega)
    rw [if_neg c0, hT, if_neg (by omega), if_pos ⟨by omega, by omega⟩, Int.toNat_natCast, g1, Int.toNat_natCast]
    show ∃ o, (match PX (mC m ++ U) (jx + 82 + 1) with | none => none | some q => some (some q)) = some o ∧ _
    have hx : ∃ q : Nat × bS, jx + 83 = q.1 + 73 ∧ txH (mC m ++ U) q.1 q.2 := ⟨(jx + 10, x), rfl, uX_txH g2⟩
    have e : PX (mC m ++ U) (jx + 82 + 1) = some (Classical.choose hx) := by
      unfold PX
      exact dif_pos hx
    rw [e]
    refine ⟨_, rfl, Or.inr ⟨Classical.choose hx, T, rfl, by omega, rfl, ?_⟩⟩
    have hs := Classical.choose_spec hx
    have e1 : (Classical.choose hx).1 = jx + 10 := by have := hs.1; omega
    have hs2 := hs.2
    rw [e1] at hs2
    exact txH_2 (uX_txH g2) hs2 g3
end
