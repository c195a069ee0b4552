/-! Calls: objects, the tape, texts, who rules, sayings. -/
def NX1 (B Kt : Nat) (c' : Nat → bS) (U' : bH) (m' : bS) : Prop := ∃ z zp, GI z zp (B + 100) (Kt + 1) c' U' m'
section
variable {n n' B Kt T k j i o p : Nat} {z zp z' : Nat → Nat} {c c' c1 : Nat → bS} {U U' U1 : bH} {m m' m1 w w' x tt tt' q : bS} {a a' t2 t2' : Nat → Int} {v a1 a2 a3 a4 a5 : Int}
theorem NX1_s (H : GI z zp B Kt c U m) : NX1 B Kt c U m := ⟨z, zp, GI_m (by omega) (by omega) H⟩
theorem NX1_q (H : GI z zp B Kt c U m) (Q : Mq m m') : NX1 B Kt c U m' := NX1_s (GI_q H Q)
/-- whether there is such an object, such a page -/
theorem obj_ok (O : TO z (c 1) (m.2 0)) (ha : -2147483648 ≤ a1 ∧ a1 < 2147483648) : ((∀ n T, P_isObject n (c, T) a1 = some (0, (c, T))) ∧ ∀ n, R_isObject n m a1 = some (0, m)) ∨ ∃ o : Nat, a1 = (o : Int) ∧ o < 4 ∧ 0 < z o ∧ z o ≤ 32 ∧ (∀ n T, P_isObject n (c, T) a1 = some (1, (c, T))) ∧ ∀ n, R_isObject n m a1 = some (1, m) := by
  obtain ⟨O1, q, q1, q2, q3, q4, q5⟩ := O
  have eP : ∀ n T, P_isObject n (c, T) a1 = if 0 ≤ a1 ∧ a1 < (q : Int) then some (1, (c, T)) else some (0, (c, T)) := fun n T => by
    unfold P_isObject
    dsimp only
    rw [q2]
    by_cases h : a1 < 0
    · rw [if_pos h, if_neg (by omega)]
    · rw [if_neg h]
      by_cases h2 : (q : Int) ≤ a1
      · rw [if_pos h2, if_neg (by omega)]
      · rw [if_neg h2, if_pos (by omega)]
  have eR : ∀ n, R_isObject n m a1 = if 0 ≤ a1 ∧ a1 < (q : Int) then some (1, m) else some (0, m) := fun n => by
    unfold R_isObject
    rw [q3, b1_s (R_isIn_ok n _ _ _), ay_wi (by omega) (by omega)]
    by_cases h : 0 ≤ a1 ∧ a1 < (q : Int)
    · rw [if_pos (show 0 ≤ a1 ∧ a1 ≤ (q : Int) - 1 by omega), if_pos (Or.inr rfl), if_pos h]
    · rw [if_neg (show ¬ (0 ≤ a1 ∧ a1 ≤ (q : Int) - 1) by omega), if_pos (Or.inl rfl), if_neg h]
  by_cases h : 0 ≤ a1 ∧ a1 < (q : Int)
  · obtain ⟨o, ho⟩ : ∃ o : Nat, a1 = (o : Int) := ⟨a1.toNat, by omega⟩
    exact Or.inr ⟨o, ho, by omega, q4 o (by omega), (O1 o (by omega)).2.2, fun n T => by rw [eP, if_pos h], fun n => by rw [eR, if_pos h]⟩
  · exact Or.inl ⟨fun n T => by rw [eP, if_neg h], fun n => by rw [eR, if_neg h]⟩
theorem page_ok (O : TO z (c 1) (m.2 0)) (ha : -2147483648 ≤ a1 ∧ a1 < 2147483648) (ha2 : -2147483648 ≤ a2 ∧ a2 < 2147483648) : ((∀ n T, P_isPage n (c, T) a1 a2 = some (0, (c, T))) ∧ ∀ n, R_isPage n m a1 a2 = some (0, m)) ∨ ∃ o p : Nat, a1 = (o : Int) ∧ a2 = (p : Int) ∧ o < 4 ∧ p < 32 ∧ p < z o ∧ (∀ n T, P_isPage n (c, T) a1 a2 = some (1, (c, T))) ∧ ∀ n, R_isPage n m a1 a2 = some (1, m) := by
  rcases obj_ok (a1 := a1) O ha with ⟨h1, h2⟩ | ⟨o, ho, ho4, hz, hz32, h1, h2⟩
  · left
    refine ⟨fun n T => ?_, fun n => ?_⟩
    · unfold P_isPage
      rw [bb_s (h1 n T), if_pos rfl]
    · unfold R_isPage
      rw [bb_s (h2 n), if_pos rfl]
  · have O1 := O.1 o ho4
    have eP : ∀ n T, P_isPage n (c, T) a1 a2 = if 0 ≤ a2 ∧ a2 < (z o : Int) then some (1, (c, T)) else some (0, (c, T)) := fun n T => by
      unfold P_isPage
      rw [bb_s (h1 n T), if_neg (by decide)]
      subst ho
      by_cases h : a2 < 0
      · rw [if_pos h, if_neg (by omega)]
      · rw [if_neg h, if_pos ⟨by omega, by omega⟩, Int.toNat_natCast]
        show (if (c 1).2 0 o ≤ a2 then _ else _) = _
        rw [O1.1]
        by_cases h2 : (z o : Int) ≤ a2
        · rw [if_pos h2, if_neg (by omega)]
        · rw [if_neg h2, if_pos (by omega)]
    have eR : ∀ n, R_isPage n m a1 a2 = if 0 ≤ a2 ∧ a2 < (z o : Int) then some (1, m) else some (0, m) := fun n => by
      have e6 : ay_w (6 + (o : Int)) = ((6 + o : Nat) : Int) := wadd (x := 6) (by omega)
      unfold R_isPage
      rw [bb_s (h2 n), if_neg (by decide)]
      subst ho
      rw [e6, if_pos ⟨by clear e6; omega, by clear e6; omega⟩, Int.toNat_natCast, O1.2.1, b1_s (R_isIn_ok n _ _ _), ay_wi (x := (z o : Int) - 1) (by clear e6; omega) (by clear e6; omega)]
      by_cases h : 0 ≤ a2 ∧ a2 < (z o : Int)
      · rw [if_pos (show 0 ≤ a2 ∧ a2 ≤ (z o : Int) - 1 by clear e6; omega), if_neg (by decide), if_pos h]
      · rw [if_neg (show ¬ (0 ≤ a2 ∧ a2 ≤ (z o : Int) - 1) by clear e6; omega), if_pos rfl, if_neg h]
    by_cases h : 0 ≤ a2 ∧ a2 < (z o : Int)
    · obtain ⟨p, hp⟩ : ∃ p : Nat, a2 = (p : Int) := ⟨a2.toNat, by omega⟩
      exact Or.inr ⟨o, p, ho, hp, ho4, by omega, by omega, fun n T => by rw [eP, if_pos h], fun n => by rw [eR, if_pos h]⟩
    · exact Or.inl ⟨fun n T => by rw [eP, if_neg h], fun n => by rw [eR, if_neg h]⟩
theorem bIA {y i v : Int} {l k j : Nat} (h : j ≠ k) : (bI (bA w k i v) l y).2 j = w.2 j := bA_2 h
theorem w6o {q : Nat} (h : q < 1000) : ay_w (6 + (q : Int)) = ((6 + q : Nat) : Int) := wadd (x := 6) (by omega)
/-- object -/
theorem object_ok (H : GI z zp B Kt c U m) (a1 : Int) : ∃ (v : Int) (c' : Nat → bS) (m' : bS) (z' : Nat → Nat), (∀ n T, P_object n (c, T) a1 = some (v, (c', T))) ∧ (∀ n, R_object n m a1 = some (v, m')) ∧ GI z' zp B Kt c' U m' ∧ (v = -1 ∨ 0 ≤ v) ∧ m'.2 2 = m.2 2 := by
  have H0 := H
  obtain ⟨⟨A1, A2, A3, A4⟩, ⟨B1, B2, B3, B4⟩, h1, h2, ⟨L, h3, h4⟩, h5, h6, h7⟩ := H
  obtain ⟨O1, q, q1, q2, q3, q4, q5⟩ := A2
  by_cases hc : (1 ≤ a1 ∧ a1 ≤ 32) ∧ q < 4
  · obtain ⟨s, hs⟩ : ∃ s : Nat, a1 = (s : Int) := ⟨a1.toNat, by omega⟩
    obtain ⟨a', ha'⟩ : ∃ a', a' = ay_u (ay_u (m.2 0) (6 + q) a1) 0 ((q + 1 : Nat) : Int) := ⟨_, rfl⟩
    have a'_n : ∀ i, i ≠ 0 → i ≠ 6 + q → a' i = m.2 0 i := fun i i1 i2 => by rw [ha', ay_ux i1, ay_ux i2]
    have a'_0 : a' 0 = ((q + 1 : Nat) : Int) := by rw [ha']; exact ay_ue
    have a'_6 : a' (6 + q) = a1 := by rw [ha', ay_ux (by omega)]; exact ay_ue
    obtain ⟨z', hz'⟩ : ∃ z' : Nat → Nat, z' = fun o => if o = q then s else z o := ⟨_, rfl⟩
    have z'_q : z' q = s := by rw [hz']; exact if_pos rfl
    have z'_n : ∀ o, o ≠ q → z' o = z o := fun o h => by rw [hz']; exact if_neg h
    have hz : ∀ o, o < 4 → z o ≤ z' o := fun o ho => by
      by_cases e : o = q
      · rw [e, z'_q, q5 q (by omega) (by omega)]; omega
      · rw [z'_n o e]; exact Nat.le_refl _
    refine ⟨(q : Int), bU c 1 (bI (bA (c 1) 0 (q : Int) a1) 4 ((q + 1 : Nat) : Int)), bC m 0 a', z', fun n T => ?_, fun n => ?_, ⟨⟨?_, ?_, ?_, ?_⟩, ⟨?_, ?_, ?_, ?_⟩, ?_, ?_, ?_, ?_, ?_, ?_⟩, Or.inr (by omega), rfl⟩
    · unfold P_object
      dsimp only
      rw [if_neg (by omega), if_neg (by omega), q2, if_pos (by omega), if_pos ⟨by omega, by omega⟩, wad1 (by omega), wm1' (by omega)]
    · have e0 : (bA m 0 ((6 + q : Nat) : Int) a1).2 0 0 = (q : Int) := by
        show ay_u (m.2 0) ((6 + q : Nat) : Int).toNat a1 0 = _
        rw [Int.toNat_natCast, ay_ux (by omega)]; exact q3
      unfold R_object
      rw [b1_s (R_isIn_ok n _ _ _), if_pos hc.1, if_neg (by decide), q3, if_neg (by omega), w6o (by omega), if_pos ⟨by omega, by omega⟩, e0, wad1 (by omega), wm1' (by omega), bA_C, bA_C, bC_C, Int.toNat_natCast, ha']
      rfl
    · rw [bU_n (by decide)]
      exact GB_a (fun i i1 i2 => a'_n i (by omega) (by omega)) (GB_z hz A1)
    · rw [bU_e]
      refine ⟨fun o ho => ?_, q + 1, by omega, rfl, a'_0, fun o ho => ?_, fun o ho h => ?_⟩
      · show ay_u ((c 1).2 0) (q : Int).toNat a1 o = _ ∧ a' (6 + o) = _ ∧ _
        rw [Int.toNat_natCast]
        by_cases e : o = q
        · rw [e, ay_ue, a'_6, z'_q]; omega
        · rw [ay_ux e, a'_n (6 + o) (by omega) (by omega), z'_n o e]; exact O1 o ho
      · by_cases e : o = q
        · rw [e, z'_q]; omega
        · rw [z'_n o e]; exact q4 o (by omega)
      · rw [z'_n o (by omega)]; exact q5 o ho (by omega)
    · exact ST_a (a'_n 3 (by omega) (by omega)) (a'_n 5 (by omega) (by omega)) (fun i hi => a'_n i (by omega) (by omega)) (ST_z hz (ST_c (bU_n (by decide)) A3))
    · rw [bU_e]
      exact TD_c A4 rfl rfl rfl (bIA (by decide)) (bIA (by decide)) (bIA (by decide)) (fun i hi => a'_n i (by omega) (by omega)) (fun _ _ h => h)
    · rw [bU_n (by decide)]; exact B1
    · rw [bU_n (by decide)]; exact B2
    · exact ST_c (bU_n (by decide)) B3
    · rw [bU_n (by decide)]; exact B4
    · show m.2 1 1 ≤ a' 1
      rw [a'_n 1 (by omega) (by omega)]; exact h1
    · exact HS_2 h2 (by rw [bU_n (by decide)]) (by rw [bU_n (by decide)])
    · rw [bU_n (by decide)]; exact ⟨L, h3, h4⟩
    · rw [bU_n (by decide), bU_n (by decide)]; exact h5
    · exact h6
    · rw [bU_n (by decide)]; exact h7
  · refine ⟨-1, c, m, z, fun n T => ?_, fun n => ?_, H0, Or.inl rfl, rfl⟩
    · unfold P_object
      dsimp only
      by_cases d1 : a1 < 1
      · rw [if_pos d1]
      · rw [if_neg d1]
        by_cases d2 : 32 < a1
        · rw [if_pos d2]
        · rw [if_neg d2, q2, if_neg (by omega)]
    · unfold R_object
      rw [b1_s (R_isIn_ok n _ _ _)]
      by_cases d1 : 1 ≤ a1 ∧ a1 ≤ 32
      · rw [if_pos d1, if_neg (by decide), q3, if_pos (by omega)]
      · rw [if_neg d1, if_pos rfl]
end
