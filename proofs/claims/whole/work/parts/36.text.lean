/-! Reading a text: what is made, and where it goes. -/
def cpO (f : Nat → Int) (L n : Nat) : Nat → Int := if n = L then f else ay_cpy f (fun _ => 0) 0 0 n
/-- a text's cells from an address on -/
def txC (a : Nat) (x : bS) : bH := [.inr (.inr (5, [rr (a + 3), rr (a + 4), .inl (x.1 2), .inl (x.1 3), .inl (x.1 4), .inl (x.1 5)])), .inl (0, (x.1 6).toNat, x.2 0), .inl (0, (x.1 7).toNat, x.2 1)]
def txO (s : bS) : bS := (fun k => bif Nat.beq k 2 then s.2 6 0 else bif Nat.beq k 3 then s.2 6 1 else bif Nat.beq k 4 then s.2 6 2 else bif Nat.beq k 5 then s.2 6 3 else bif Nat.beq k 6 then ay_w (s.1 12 * 4) else s.1 11, fun k => bif Nat.beq k 0 then cpO (s.2 5) 96 (ay_w (s.1 12 * 4)).toNat else cpO (s.2 4) 600 (s.1 11).toNat)
def D_made (s : bS) : Option (Int × bS) := if (0 ≤ ay_w (s.1 12 * 4) ∧ ay_w (s.1 12 * 4) ≤ 96) ∧ 0 ≤ s.1 11 ∧ s.1 11 ≤ 600 then some (1, s) else none
def eDr (q : bS) (a : Int × bS) : Option bV × bH := bif decide (a.1 = 0) then (some (rr 0), hD q a.2) else (some (rr 11), hD q a.2 ++ txC 9 (txO a.2))
theorem Ev.aln {X : Nat × (Nat → Int)} {d m pc : Nat} {ls st : List bV} {h : bH} {R : Option bV × bH} {a n t : Nat} {f : Nat → Int} (hf : ax_fetch m pc = some .arraylength) (ha : ax_at h a = some (.inl (t, n, f))) (P : Ev (rn X d m (pc + 1) ls (.inl (ay_w (n : Int)) :: st) h) R) : Ev (rn X d m pc ls (rr (a + 2) :: st) h) R :=
  Ev.step 1 (fun k => by show ay_run _ _ _ _ _ _ _ _ = _; simp only [ay_run, hf, ax_call, ay_step, ha]; rfl) P
theorem s_copyOf (X : Nat × (Nat → Int)) (d : Nat) {a L : Nat} {f : Nat → Int} {h : bH} {n : Int} (ha : ax_at h a = some (.inl (0, L, f))) (hL : (L : Int) < 1000000) (h0 : 0 ≤ n) (hn : n ≤ (L : Int)) : Ev (rn X d 311 0 [rr (a + 2), .inl n, b0] [] h) (some (rr (h.length + 2)), h ++ [.inl (0, n.toNat, cpO f L n.toNat)]) := by
  have hal := ay_at_lt ha
  refine Ev.step (G' := rn X d 311 2 [rr (a + 2), .inl n, b0] [rr (a + 2), .inl n] h) 2 (fun _ => rfl) (Ev.aln rfl ha ?_)
  rw [ay_wi (by omega) (by omega)]
  have e3 : ∀ k, rn X d 311 3 [rr (a + 2), .inl n, b0] [.inl (L : Int), .inl n] h (k + 1) = if n = (L : Int) then rn X d 311 6 [rr (a + 2), .inl n, b0] [] h k else rn X d 311 14 [rr (a + 2), .inl n, b0] [] h k := fun _ => rfl
  by_cases hc : n = (L : Int)
  · refine Ev.step (G' := rn X d 311 6 [rr (a + 2), .inl n, b0] [] h) 1 (fun k => by show rn X d 311 3 _ _ _ _ = _; rw [e3, if_pos hc]) ?_
    have hnL : n.toNat = L := by omega
    refine Ev.step (G' := rn X d 311 7 [rr (a + 2), .inl n, b0] [rr (a + 2)] h) 1 (fun _ => rfl) (Ev.step (G' := rn X d 311 10 [rr (a + 2), .inl n, b0] [rr (h.length + 2)] (h ++ [.inl (0, L, f)])) 1 (fun k => ?_) (Ev.step (G' := rn X d 311 13 [rr (a + 2), .inl n, b0] [rr (h.length + 2)] (h ++ [.inl (0, L, f)])) 1 (fun k => ?_) (Ev.ret 1 (fun k => ?_))))
    · show ay_prim 7 5 [rr (a + 2), .inl n, b0] [rr (a + 2)] h (ay_run X k d 311) = _
      simp only [ay_prim, ha]; rfl
    · have : rn X d 311 10 [rr (a + 2), .inl n, b0] [rr (h.length + 2)] (h ++ [.inl (0, L, f)]) (k + 1) = (match ax_at (h ++ [.inl (0, L, f)]) h.length with
        | some (.inl (0, _, _)) => rn X d 311 13 [rr (a + 2), .inl n, b0] [rr (h.length + 2)] (h ++ [.inl (0, L, f)]) k
        | _ => none) := rfl
      rw [this, ay_at_app_r]; rfl
    · show some (some (rr (h.length + 2)), h ++ [.inl (0, L, f)]) = _
      rw [hnL, show cpO f L L = f from if_pos rfl]
  · refine Ev.step (G' := rn X d 311 14 [rr (a + 2), .inl n, b0] [] h) 1 (fun k => by show rn X d 311 3 _ _ _ _ = _; rw [e3, if_neg hc]) ?_
    refine Ev.step (G' := rn X d 311 15 [rr (a + 2), .inl n, b0] [.inl n] h) 1 (fun _ => rfl) (Ev.step (G' := rn X d 311 17 [rr (a + 2), .inl n, b0] [rr (h.length + 2)] (h ++ [.inl (0, n.toNat, fun _ => 0)])) 1 (fun k => ?_) ?_)
    · have : rn X d 311 15 [rr (a + 2), .inl n, b0] [.inl n] h (k + 1) = if 0 ≤ n ∧ n < 1000000 then rn X d 311 17 [rr (a + 2), .inl n, b0] [rr (h.length + 2)] (h ++ [.inl (0, n.toNat, fun _ => 0)]) k else none := rfl
      rw [this, if_pos ⟨h0, by omega⟩]
    · refine Ev.step (G' := rn X d 311 23 [rr (a + 2), .inl n, rr (h.length + 2)] [rr (a + 2), .inl 0, rr (h.length + 2), .inl 0, rr (a + 2)] (h ++ [.inl (0, n.toNat, fun _ => 0)])) 6 (fun _ => rfl) (Ev.aln rfl (by rw [ay_at_app_l hal]; exact ha) ?_)
      rw [ay_wi (by omega) (by omega)]
      refine Ev.step (G' := rn X d 311 28 [rr (a + 2), .inl n, rr (h.length + 2)] [.inl n, .inl 0, rr (h.length + 2), .inl 0, rr (a + 2)] (h ++ [.inl (0, n.toNat, fun _ => 0)])) 2 (fun k => ?_) (Ev.step (G' := rn X d 311 31 [rr (a + 2), .inl n, rr (h.length + 2)] [] (h ++ [.inl (0, n.toNat, cpO f L n.toNat)])) 1 (fun k => ?_) (Ev.ret 2 (fun _ => rfl)))
      · have : rn X d 311 24 [rr (a + 2), .inl n, rr (h.length + 2)] [.inl (L : Int), .inl 0, rr (h.length + 2), .inl 0, rr (a + 2)] (h ++ [.inl (0, n.toNat, fun _ => 0)]) (k + 2) = rn X d 311 28 [rr (a + 2), .inl n, rr (h.length + 2)] [.inl (if n < (L : Int) then n else (L : Int)), .inl 0, rr (h.length + 2), .inl 0, rr (a + 2)] (h ++ [.inl (0, n.toNat, fun _ => 0)]) k := rfl
        rw [if_pos (by omega)] at this
        exact this
      · show ay_prim 28 1 [rr (a + 2), .inl n, rr (h.length + 2)] [.inl n, .inl 0, rr (h.length + 2), .inl 0, rr (a + 2)] (h ++ [.inl (0, n.toNat, fun _ => 0)]) (ay_run X k d 311) = _
        simp only [ay_prim, ay_at_app_l hal, ha, ay_at_app_r]
        rw [if_pos ⟨h0, by omega, by omega, by omega, by omega⟩, List.set_append_right _ _ (Nat.le_refl _), Nat.sub_self]
        have hne : ¬ n.toNat = L := by omega
        show rn X d 311 31 _ _ (h ++ [.inl (0, n.toNat, ay_cpy f (fun _ => 0) 0 0 n.toNat)]) k = _
        rw [show cpO f L n.toNat = ay_cpy f (fun _ => 0) 0 0 n.toNat from if_neg hne]
theorem s_D_made (X : Nat × (Nat → Int)) (d : Nat) (q s : bS) : Sim (eDr q) (D_made s) (rn X d 24 93 [rr 2, b0] [] (hD q s)) := fun b hb => by
  unfold D_made at hb
  split at hb
  · rename_i hc
    obtain ⟨⟨c1, c2⟩, c3, c4⟩ := hc
    cases hb
    have L1 := s_copyOf X d (a := 7) (L := 96) (f := s.2 5) (h := hD q s ++ [.inr (.inr (5, ay_f0 5))]) (n := ay_w (s.1 12 * 4)) rfl (by decide) c1 c2
    have L2 := s_copyOf X d (a := 6) (L := 600) (f := s.2 4) (h := hD q s ++ [.inr (.inr (5, ay_f0 5)), .inl (0, (ay_w (s.1 12 * 4)).toNat, cpO (s.2 5) 96 (ay_w (s.1 12 * 4)).toNat)]) (n := s.1 11) rfl (by decide) c3 c4
    refine Ev.step (G' := rn X d 24 107 [rr 2, b0] [.inl (ay_w (s.1 12 * 4)), rr 9, rr 11, rr 11] (hD q s ++ [.inr (.inr (5, ay_f0 5))])) 8 (fun _ => rfl) (Ev.call (c := 311) (d' := d) (ls' := [rr 9, .inl (ay_w (s.1 12 * 4)), b0]) (r := [rr 11, rr 11]) (fun _ => rfl) L1 ?_)
    refine Ev.step (G' := rn X d 24 118 [rr 2, b0] [.inl (s.1 11), rr 8, rr 12, rr 11, rr 11] (hD q s ++ [.inr (.inr (5, ay_f0 5)), .inl (0, (ay_w (s.1 12 * 4)).toNat, cpO (s.2 5) 96 (ay_w (s.1 12 * 4)).toNat)])) 4 (fun _ => rfl) (Ev.call (c := 311) (d' := d) (ls' := [rr 8, .inl (s.1 11), b0]) (r := [rr 12, rr 11, rr 11]) (fun _ => rfl) L2 ?_)
    refine Ev.step (G' := rn X d 24 125 [rr 2, b0] [rr 10, rr 13, rr 12, rr 11, rr 11] (hD q s ++ [.inr (.inr (5, ay_f0 5)), .inl (0, (ay_w (s.1 12 * 4)).toNat, cpO (s.2 5) 96 (ay_w (s.1 12 * 4)).toNat), .inl (0, (s.1 11).toNat, cpO (s.2 4) 600 (s.1 11).toNat)])) 2 (fun _ => rfl) (Ev.call (c := 58) (d' := d) (ls' := [rr 11, rr 12, rr 13, rr 10]) (r := [rr 11]) (v := none) (h1 := hD q s ++ txC 9 (txO s)) (fun _ => rfl) (Ev.ret 29 (fun _ => rfl)) (Ev.ret 1 (fun _ => rfl)))
  · cases hb
def D_read_84 (q : bS) (d : Nat) (n : Nat) (s : bS) : Option (Int × bS) := (if (s.1 13) = 0 then D_made s else some (0, s))
theorem s_D_read_84 (X : Nat × (Nat → Int)) (d : Nat) (q : bS) (n : Nat) (s : bS) : Sim (eDr q) (D_read_84 q d n s) (rn X d 24 84 [rr 2, b0] [] (hD q s)) := Sim.step (rn X d 24 88 [rr 2, b0] [.inl (s.1 13)] (hD q s)) 2 (fun _ => rfl) (Sim.zEq (t := 93) rfl (fun _ => rfl) (fun _ => s_D_made X d q s) (fun _ => Sim.ret 2 (fun _ => rfl)))
def D_read_54 (q : bS) (d : Nat) : Nat → bS → Int → Option (Int × bS)
  | 0, _, _ => none
  | n + 1, s, l1 => (if 24 < l1 then D_read_84 q d n s else (if (s.1 13) = 0 then (if (s.1 9) = 0 then D_read_84 q d n s else (bb (D_readClause q d n s ) fun v3 s3 => D_read_54 q d n s3 (ay_w (l1 + 1)))) else D_read_84 q d n s))
theorem s_D_read_54 (X : Nat × (Nat → Int)) (d : Nat) (q : bS) : ∀ (n : Nat) (s : bS) (l1 : Int), Sim (eDr q) (D_read_54 q d n s l1) (rn X d 24 54 [rr 2, .inl l1] [] (hD q s))
  | 0, _, _ => Sim.none
  | n + 1, s, l1 => Sim.step (rn X d 24 57 [rr 2, .inl l1] [.inl 24, .inl l1] (hD q s)) 2 (fun _ => rfl) (Sim.bGt (t := 84) rfl (fun _ => rfl) (fun _ => Sim.weak (ay_weak (lzi (lzo lz0))) (s_D_read_84 X d q n s)) (fun _ => Sim.step (rn X d 24 64 [rr 2, .inl l1] [.inl (s.1 13)] (hD q s)) 2 (fun _ => rfl) (Sim.zNe (t := 84) rfl (fun _ => rfl) (fun _ => Sim.step (rn X d 24 71 [rr 2, .inl l1] [.inl (s.1 9)] (hD q s)) 2 (fun _ => rfl) (Sim.zEq (t := 84) rfl (fun _ => rfl) (fun _ => Sim.weak (ay_weak (lzi (lzo lz0))) (s_D_read_84 X d q n s)) (fun _ => Sim.step (rn X d 24 75 [rr 2, .inl l1] [rr 2] (hD q s)) 1 (fun _ => rfl) (Sim.call (Ec := (eDv q)) (c := 37) (d' := d) (ls' := [rr 2, b0]) (r := []) _ (fun _ => rfl) (s_D_readClause X d q n s ) (fun v3 s3 => Sim.step (rn X d 24 54 [rr 2, .inl (ay_w (l1 + 1))] [] (hD q s3)) 2 (fun _ => rfl) (s_D_read_54 X d q n s3 (ay_w (l1 + 1)))))))) (fun _ => Sim.weak (ay_weak (lzi (lzo lz0))) (s_D_read_84 X d q n s)))))
def D_read (q : bS) (d : Nat) (n : Nat) (s : bS) : Option (Int × bS) := (bb (D_fill q n (bI (bI (bI (bI (bI s 15 1) 13 0) 14 (-1)) 11 0) 12 0) (-1)) fun v1 s1 => (bb (D_split q n s1 ) fun v2 s2 => D_read_54 q d n (bI (bI s2 8 0) 9 (s2.2 1 0)) 0))
theorem s_D_read (X : Nat × (Nat → Int)) (d : Nat) (q : bS) (n : Nat) (s : bS) : Sim (eDr q) (D_read q d n s) (rn X d 24 0 [rr 2, b0] [] (hD q s)) := Sim.step (rn X d 24 2 [rr 2, b0] [.inl 1, rr 2] (hD q s)) 2 (fun _ => rfl) (Sim.pf (a := 0) (fs := fD_0 q s) (hD q (bI s 15 1)) rfl rfl rfl rfl rfl (Or.inr (Or.inr rfl)) (hD_p0_15 q s 1) (Sim.step (rn X d 24 7 [rr 2, b0] [.inl 0, rr 2] (hD q (bI s 15 1))) 2 (fun _ => rfl) (Sim.pf (a := 0) (fs := fD_0 q (bI s 15 1)) (hD q (bI (bI s 15 1) 13 0)) rfl rfl rfl rfl rfl (Or.inl rfl) (hD_p0_13 q (bI s 15 1) 0) (Sim.step (rn X d 24 12 [rr 2, b0] [.inl (-1), rr 2] (hD q (bI (bI s 15 1) 13 0))) 2 (fun _ => rfl) (Sim.pf (a := 0) (fs := fD_0 q (bI (bI s 15 1) 13 0)) (hD q (bI (bI (bI s 15 1) 13 0) 14 (-1))) rfl rfl rfl rfl rfl (Or.inl rfl) (hD_p0_14 q (bI (bI s 15 1) 13 0) (-1)) (Sim.step (rn X d 24 17 [rr 2, b0] [.inl 0, rr 2] (hD q (bI (bI (bI s 15 1) 13 0) 14 (-1)))) 2 (fun _ => rfl) (Sim.pf (a := 0) (fs := fD_0 q (bI (bI (bI s 15 1) 13 0) 14 (-1))) (hD q (bI (bI (bI (bI s 15 1) 13 0) 14 (-1)) 11 0)) rfl rfl rfl rfl rfl (Or.inl rfl) (hD_p0_11 q (bI (bI (bI s 15 1) 13 0) 14 (-1)) 0) (Sim.step (rn X d 24 22 [rr 2, b0] [.inl 0, rr 2] (hD q (bI (bI (bI (bI s 15 1) 13 0) 14 (-1)) 11 0))) 2 (fun _ => rfl) (Sim.pf (a := 0) (fs := fD_0 q (bI (bI (bI (bI s 15 1) 13 0) 14 (-1)) 11 0)) (hD q (bI (bI (bI (bI (bI s 15 1) 13 0) 14 (-1)) 11 0) 12 0)) rfl rfl rfl rfl rfl (Or.inl rfl) (hD_p0_12 q (bI (bI (bI (bI s 15 1) 13 0) 14 (-1)) 11 0) 0) (Sim.step (rn X d 24 30 [rr 2, b0] [.inl (-1), rr 10] (hD q (bI (bI (bI (bI (bI s 15 1) 13 0) 14 (-1)) 11 0) 12 0))) 3 (fun _ => rfl) (Sim.call (Ec := (eDv q)) (c := 310) (d' := d) (ls' := [rr 10, .inl (-1), b0, b0]) (r := []) _ (fun _ => rfl) (s_D_fill X d q n (bI (bI (bI (bI (bI s 15 1) 13 0) 14 (-1)) 11 0) 12 0) (-1)) (fun v1 s1 => Sim.step (rn X d 24 34 [rr 2, b0] [rr 2] (hD q s1)) 1 (fun _ => rfl) (Sim.call (Ec := (eDv q)) (c := 25) (d' := d) (ls' := [rr 2, b0, b0, b0]) (r := []) _ (fun _ => rfl) (s_D_split X d q n s1 ) (fun v2 s2 => Sim.step (rn X d 24 39 [rr 2, b0] [.inl 0, rr 2] (hD q s2)) 2 (fun _ => rfl) (Sim.pf (a := 0) (fs := fD_0 q s2) (hD q (bI s2 8 0)) rfl rfl rfl rfl rfl (Or.inl rfl) (hD_p0_8 q s2 0) (Sim.step (rn X d 24 49 [rr 2, b0] [.inl (s2.2 1 0), rr 2] (hD q (bI s2 8 0))) 5 (fun _ => rfl) (Sim.pf (a := 0) (fs := fD_0 q (bI s2 8 0)) (hD q (bI (bI s2 8 0) 9 (s2.2 1 0))) rfl rfl rfl rfl rfl (Or.inl rfl) (hD_p0_9 q (bI s2 8 0) (s2.2 1 0)) (Sim.step (rn X d 24 54 [rr 2, .inl 0] [] (hD q (bI (bI s2 8 0) 9 (s2.2 1 0)))) 2 (fun _ => rfl) (s_D_read_54 X d q n (bI (bI s2 8 0) 9 (s2.2 1 0)) 0)))))))))))))))))))
theorem s_P_read (X : Nat × (Nat → Int)) (d n : Nat) (s : pS) {v : Int} {r : bS} (h : D_read (s.1 7) d n (s.1 12) = some (v, r)) : Ev (rn X d 24 0 [rr 66, b0] [] (hP s)) (bif decide (v = 0) then (some (rr 0), hP (bU s.1 12 r, s.2)) else (some (rr (s.2.length + 73)), hP (bU s.1 12 r, s.2 ++ txC (s.2.length + 71) (txO r)))) := by
  have P0 := s_D_read X d (s.1 7) n (s.1 12)
  rw [h] at P0
  have P1 := P0.ev
  unfold eDr at P1
  cases hv : decide (v = 0)
  · simp only [hv, cond_false] at P1 ⊢
    have L := Ev.lift (g := hP s) (h := hD (s.1 7) (s.1 12)) (ls := [rr 2, b0]) (lb := [rr 66, b0]) (sb := []) [64, 54, 55, 65, 66, 67, 68, 69, 70] (by decide) rfl (fun p hp => Nat.lt_of_lt_of_le ((by decide : ∀ p ∈ ([64, 54, 55, 65, 66, 67, 68, 69, 70] : List Nat), p < 71) p hp) (Nat.le_add_left 71 s.2.length)) (fun k e q => match k, q with | 0, q => hemc (f := ay_re _) q rfl | 1, q => hemc (f := ay_re _) q rfl | 2, q => hemc (f := ay_re _) q rfl | 3, q => hemc (f := ay_re _) q rfl | 4, q => hemc (f := ay_re _) q rfl | 5, q => hemc (f := ay_re _) q rfl | 6, q => hemc (f := ay_re _) q rfl | 7, q => hemc (f := ay_re _) q rfl | 8, q => hemc (f := ay_re _) q rfl | _ + 9, q => noe q) ⟨Or.inr rfl, Or.inl rfl, trivial⟩ rfl P1
    exact L
  · simp only [hv, cond_true] at P1 ⊢
    have L := Ev.lift (g := hP s) (h := hD (s.1 7) (s.1 12)) (ls := [rr 2, b0]) (lb := [rr 66, b0]) (sb := []) [64, 54, 55, 65, 66, 67, 68, 69, 70] (by decide) rfl (fun p hp => Nat.lt_of_lt_of_le ((by decide : ∀ p ∈ ([64, 54, 55, 65, 66, 67, 68, 69, 70] : List Nat), p < 71) p hp) (Nat.le_add_left 71 s.2.length)) (fun k e q => match k, q with | 0, q => hemc (f := ay_re _) q rfl | 1, q => hemc (f := ay_re _) q rfl | 2, q => hemc (f := ay_re _) q rfl | 3, q => hemc (f := ay_re _) q rfl | 4, q => hemc (f := ay_re _) q rfl | 5, q => hemc (f := ay_re _) q rfl | 6, q => hemc (f := ay_re _) q rfl | 7, q => hemc (f := ay_re _) q rfl | 8, q => hemc (f := ay_re _) q rfl | _ + 9, q => noe q) ⟨Or.inr rfl, Or.inl rfl, trivial⟩ rfl P1
    have e : ay_puts (hP s) [64, 54, 55, 65, 66, 67, 68, 69, 70] (((hD (s.1 7) r).take (hD (s.1 7) (s.1 12)).length).map (ay_re (ay_sg [64, 54, 55, 65, 66, 67, 68, 69, 70] (hP s).length))) ++ ((hD (s.1 7) r).drop (hD (s.1 7) (s.1 12)).length).map (ay_re (ay_sg [64, 54, 55, 65, 66, 67, 68, 69, 70] (hP s).length)) = hP (bU s.1 12 r, s.2) := List.append_nil _
    rw [e] at L
    exact L
theorem Ev.aas4 {X : Nat × (Nat → Int)} {d m pc : Nat} {ls st : List bV} {h : bH} {x : Int} {R : Option bV × bH} {a n q : Nat} {f : Nat → Nat} {fs : List bV} (hf : ax_fetch m pc = some .aastore) (ha : ax_at h a = some (.inr (.inl (4, n, f)))) (hq : ax_at h q = some (.inr (.inr (5, fs)))) (hx : 0 ≤ x ∧ x < (n : Int)) (P : Ev (rn X d m (pc + 1) ls st (h.set a (.inr (.inl (4, n, ay_u f x.toNat (q + 2)))))) R) : Ev (rn X d m pc ls (rr (q + 2) :: .inl x :: rr (a + 2) :: st) h) R :=
  Ev.step 1 (fun k => by show ay_run _ _ _ _ _ _ _ _ = _; simp only [ay_run, hf, ax_call, ay_step, ha, hq, if_pos hx]; rfl) P
def P_text (d n : Nat) (s : pS) : Option (Int × pS) := if (s.1 1).1 5 < 4 then (bb (D_read (s.1 7) d n (s.1 12)) fun v r => if v = 0 then some (-1, (bU (bU s.1 12 r) 7 (bI (s.1 7) 1 0), s.2)) else if 0 ≤ (s.1 1).1 5 ∧ (s.1 1).1 5 < 4 then some (ay_w (ay_w ((s.1 1).1 5 + 1) - 1), (bU (bU (bU s.1 12 r) 7 (bI (s.1 7) 1 0)) 1 (bI (bA (s.1 1) 1 ((s.1 1).1 5) ((s.2.length + 73 : Nat) : Int)) 5 (ay_w ((s.1 1).1 5 + 1))), s.2 ++ txC (s.2.length + 71) (txO r))) else none) else some (-1, s)
set_option maxRecDepth 20000 in
theorem s_P_text (X : Nat × (Nat → Int)) (d n : Nat) (s : pS) : Sim ePi (P_text d n s) (rn X d 94 0 [rr 2, b0] [] (hP s)) := by
  refine Sim.step (rn X d 94 8 [rr 2, b0] [.inl 4, .inl ((s.1 1).1 5)] (hP s)) 4 (fun _ => rfl) (Sim.bLt (t := 13) rfl (fun _ => rfl) (fun _ => ?_) (fun _ => Sim.ret 2 (fun _ => rfl)))
  refine Sim.ob fun q hq => ?_
  obtain ⟨v, r⟩ := q
  have L := s_P_read X d n s hq
  refine Sim.step (rn X d 94 17 [rr 2, b0] [rr 66] (hP s)) 2 (fun _ => rfl) ?_
  by_cases hv : v = 0
  · subst hv
    refine Sim.callE (c := 24) (d' := d) (ls' := [rr 66, b0]) (r := []) (v := some (rr 0)) (h1 := hP (bU s.1 12 r, s.2)) (fun _ => rfl) L ?_
    refine Sim.step (rn X d 94 26 [rr 2, rr 0] [.inl 0, rr 56] (hP (bU s.1 12 r, s.2))) 4 (fun _ => rfl) (Sim.pf (a := 54) (fs := fP_54 (bU s.1 12 r, s.2)) (hP (bU (bU s.1 12 r) 7 (bI (s.1 7) 1 0), s.2)) rfl rfl rfl rfl rfl (Or.inl rfl) rfl ?_)
    show Sim ePi (if (0 : Int) = 0 then _ else _) _
    rw [if_pos rfl]
    exact Sim.ret 4 (fun _ => rfl)
  · have hd : decide (v = 0) = false := decide_eq_false hv
    rw [hd] at L
    refine Sim.callE (c := 24) (d' := d) (ls' := [rr 66, b0]) (r := []) (v := some (rr (s.2.length + 73))) (h1 := hP (bU s.1 12 r, s.2 ++ txC (s.2.length + 71) (txO r))) (fun _ => rfl) L ?_
    refine Sim.step (rn X d 94 26 [rr 2, rr (s.2.length + 73)] [.inl 0, rr 56] (hP (bU s.1 12 r, s.2 ++ txC (s.2.length + 71) (txO r)))) 4 (fun _ => rfl) (Sim.pf (a := 54) (fs := fP_54 (bU s.1 12 r, s.2 ++ txC (s.2.length + 71) (txO r))) (hP (bU (bU s.1 12 r) 7 (bI (s.1 7) 1 0), s.2 ++ txC (s.2.length + 71) (txO r))) rfl rfl rfl rfl rfl (Or.inl rfl) rfl ?_)
    show Sim ePi (if v = 0 then _ else _) _
    rw [if_neg hv]
    intro a ha
    by_cases h4 : 0 ≤ (s.1 1).1 5 ∧ (s.1 1).1 5 < 4
    · rw [if_pos h4] at ha
      obtain rfl := Option.some.inj ha
      refine Ev.step (G' := rn X d 94 50 [rr 2, rr (s.2.length + 73)] [rr (s.2.length + 71 + 2), .inl ((s.1 1).1 5), rr 18] (hP (bU (bU s.1 12 r) 7 (bI (s.1 7) 1 0), s.2 ++ txC (s.2.length + 71) (txO r)))) 9 (fun _ => rfl) ?_
      refine Ev.aas4 (a := 16) (n := 4) (f := fun i => ((s.1 1).2 1 i).toNat) (q := s.2.length + 71) (fs := [rr (s.2.length + 71 + 3), rr (s.2.length + 71 + 4), .inl ((txO r).1 2), .inl ((txO r).1 3), .inl ((txO r).1 4), .inl ((txO r).1 5)]) rfl rfl (by
        rw [hP_at]
        show ax_at (s.2 ++ txC (s.2.length + 71) (txO r)) s.2.length = _
        rw [at_app, if_neg (Nat.lt_irrefl _), Nat.sub_self]; rfl) h4 ?_
      rw [show s.2.length + 71 + 2 = s.2.length + 73 from rfl, ay_u_nat]
      show Ev (rn X d 94 51 [rr 2, rr (s.2.length + 73)] [] (hP (bU (bU (bU s.1 12 r) 7 (bI (s.1 7) 1 0)) 1 (bA (s.1 1) 1 ((s.1 1).1 5) ((s.2.length + 73 : Nat) : Int)), s.2 ++ txC (s.2.length + 71) (txO r)))) _
      have Q : Sim ePi (some (ay_w (ay_w ((s.1 1).1 5 + 1) - 1), ((bU (bU (bU s.1 12 r) 7 (bI (s.1 7) 1 0)) 1 (bI (bA (s.1 1) 1 ((s.1 1).1 5) ((s.2.length + 73 : Nat) : Int)) 5 (ay_w ((s.1 1).1 5 + 1))), s.2 ++ txC (s.2.length + 71) (txO r)) : pS))) (rn X d 94 51 [rr 2, rr (s.2.length + 73)] [] (hP (bU (bU (bU s.1 12 r) 7 (bI (s.1 7) 1 0)) 1 (bA (s.1 1) 1 ((s.1 1).1 5) ((s.2.length + 73 : Nat) : Int)), s.2 ++ txC (s.2.length + 71) (txO r)))) := by
        refine Sim.step (rn X d 94 61 [rr 2, rr (s.2.length + 73)] [.inl (ay_w ((s.1 1).1 5 + 1)), rr 16] (hP (bU (bU (bU s.1 12 r) 7 (bI (s.1 7) 1 0)) 1 (bA (s.1 1) 1 ((s.1 1).1 5) ((s.2.length + 73 : Nat) : Int)), s.2 ++ txC (s.2.length + 71) (txO r)))) 6 (fun _ => rfl) (Sim.pf (a := 14) (fs := fP_14 (bU (bU (bU s.1 12 r) 7 (bI (s.1 7) 1 0)) 1 (bA (s.1 1) 1 ((s.1 1).1 5) ((s.2.length + 73 : Nat) : Int)), s.2 ++ txC (s.2.length + 71) (txO r))) (hP (bU (bU (bU s.1 12 r) 7 (bI (s.1 7) 1 0)) 1 (bI (bA (s.1 1) 1 ((s.1 1).1 5) ((s.2.length + 73 : Nat) : Int)) 5 (ay_w ((s.1 1).1 5 + 1))), s.2 ++ txC (s.2.length + 71) (txO r))) rfl rfl rfl rfl rfl (Or.inl rfl) rfl ?_)
        exact Sim.ret 6 (fun _ => rfl)
      exact Q.ev
    · rw [if_neg h4] at ha; cases ha
