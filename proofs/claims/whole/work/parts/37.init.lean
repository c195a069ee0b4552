/-! The constructors (by wip/whole/gen_law.py). -/
theorem s_W_new (X : Nat × (Nat → Int)) (d : Nat) (g : bH) : Ev (rn X d 64 0 [rr (g.length + 2)] [] (g ++ [nwE])) (none, g ++ wtC g.length w0) := by
  have hl : (g ++ [nwE]).length = g.length + 1 := by simp
  have L := Ev.lift (g := g ++ [nwE]) (h := [nwE]) (ls := [rr 2]) (lb := [rr (g.length + 2)]) (sb := []) [g.length] (by simp) rfl (fun p hp => by rw [hl]; simp at hp; omega) (fun k e q => match k, q with
    | 0, q => hemc (f := ay_re _) q (by
      show ax_at (g ++ [nwE]) g.length = _
      rw [ay_at_app_r]; rfl)
    | _ + 1, q => noe q) ⟨Or.inr rfl, trivial⟩ rfl (s_W_init X d)
  have e : ay_puts (g ++ [nwE]) [g.length] (((hW w0).take 1).map (ay_re (ay_sg [g.length] (g ++ [nwE]).length))) ++ ((hW w0).drop 1).map (ay_re (ay_sg [g.length] (g ++ [nwE]).length)) = g ++ wtC g.length w0 := by
    rw [hl]
    show (g ++ [nwE]).set g.length (.inr (.inr (7, (fW_0 w0).map (ay_rv (ay_sg [g.length] (g.length + 1)))))) ++ _ = _
    rw [List.set_append_right _ _ (Nat.le_refl _), Nat.sub_self, List.append_assoc]
    rfl
  rw [← e]; exact L
def z0 : bS := (fun _ => 0, fun _ _ => 0)
def p0 (k : Nat) : bS := bif Nat.beq k 0 then w0 else bif Nat.beq k 3 then w0 else bif Nat.beq k 6 then w0 else bif Nat.beq k 1 then bI z0 6 (-1) else bif Nat.beq k 4 then bI z0 6 (-1) else bif Nat.beq k 8 then bI z0 3 (-1) else bif Nat.beq k 10 then bI z0 3 (-1) else z0
/-- the class's object with the first of its fields set, and as many cells as they have -/
def pI (fs : List bV) (n : Nat) : bH := .inr (.inr (8, fs)) :: ((hP (p0, [])).take n).drop 1
set_option maxRecDepth 20000 in
theorem s_P_init (X : Nat × (Nat → Int)) (d : Nat) : Ev (rn X d 90 0 [rr 2] [] [.inr (.inr (8, ay_f0 8))]) (none, hP (p0, [])) := by
  refine Ev.step (G' := rn X d 90 4 [rr 2] [] (pI [rr 0, rr 0, rr 0, rr 0, rr 0, rr 0, rr 0, rr 0, rr 0, rr 0, rr 0] 1)) 2 (fun _ => rfl) ?_
  refine Ev.step (G' := rn X d 90 9 [rr 2] [rr 3, rr 3, rr 2] (pI [rr 0, rr 0, rr 0, rr 0, rr 0, rr 0, rr 0, rr 0, rr 0, rr 0, rr 0] 1 ++ [.inr (.inr (7, ay_f0 7))])) 3 (fun _ => rfl) (Ev.call (c := 64) (d' := d) (ls' := [rr 3]) (r := [rr 3, rr 2]) (v := none) (h1 := pI [rr 0, rr 0, rr 0, rr 0, rr 0, rr 0, rr 0, rr 0, rr 0, rr 0, rr 0] 14) (fun _ => rfl) ?_ ?_)
  · exact s_W_new X d (pI [rr 0, rr 0, rr 0, rr 0, rr 0, rr 0, rr 0, rr 0, rr 0, rr 0, rr 0] 1)
  refine Ev.step (G' := rn X d 90 15 [rr 2] [] (pI [rr 3, rr 0, rr 0, rr 0, rr 0, rr 0, rr 0, rr 0, rr 0, rr 0, rr 0] 14)) 1 (fun _ => rfl) ?_
  refine Ev.step (G' := rn X d 90 20 [rr 2] [rr 16, rr 16, rr 2] (pI [rr 3, rr 0, rr 0, rr 0, rr 0, rr 0, rr 0, rr 0, rr 0, rr 0, rr 0] 14 ++ [.inr (.inr (6, ay_f0 6))])) 3 (fun _ => rfl) (Ev.call (c := 61) (d' := d) (ls' := [rr 16]) (r := [rr 16, rr 2]) (v := none) (h1 := pI [rr 3, rr 0, rr 0, rr 0, rr 0, rr 0, rr 0, rr 0, rr 0, rr 0, rr 0] 19) (fun _ => rfl) ?_ ?_)
  · exact Ev.ret 22 (fun _ => rfl)
  refine Ev.step (G' := rn X d 90 26 [rr 2] [] (pI [rr 3, rr 16, rr 0, rr 0, rr 0, rr 0, rr 0, rr 0, rr 0, rr 0, rr 0] 19)) 1 (fun _ => rfl) ?_
  refine Ev.step (G' := rn X d 90 31 [rr 2] [rr 21, rr 21, rr 2] (pI [rr 3, rr 16, rr 0, rr 0, rr 0, rr 0, rr 0, rr 0, rr 0, rr 0, rr 0] 19 ++ [.inr (.inr (3, ay_f0 3))])) 3 (fun _ => rfl) (Ev.call (c := 50) (d' := d) (ls' := [rr 21]) (r := [rr 21, rr 2]) (v := none) (h1 := pI [rr 3, rr 16, rr 0, rr 0, rr 0, rr 0, rr 0, rr 0, rr 0, rr 0, rr 0] 21) (fun _ => rfl) ?_ ?_)
  · exact Ev.ret 7 (fun _ => rfl)
  refine Ev.step (G' := rn X d 90 37 [rr 2] [] (pI [rr 3, rr 16, rr 21, rr 0, rr 0, rr 0, rr 0, rr 0, rr 0, rr 0, rr 0] 21)) 1 (fun _ => rfl) ?_
  refine Ev.step (G' := rn X d 90 42 [rr 2] [rr 23, rr 23, rr 2] (pI [rr 3, rr 16, rr 21, rr 0, rr 0, rr 0, rr 0, rr 0, rr 0, rr 0, rr 0] 21 ++ [.inr (.inr (7, ay_f0 7))])) 3 (fun _ => rfl) (Ev.call (c := 64) (d' := d) (ls' := [rr 23]) (r := [rr 23, rr 2]) (v := none) (h1 := pI [rr 3, rr 16, rr 21, rr 0, rr 0, rr 0, rr 0, rr 0, rr 0, rr 0, rr 0] 34) (fun _ => rfl) ?_ ?_)
  · exact s_W_new X d (pI [rr 3, rr 16, rr 21, rr 0, rr 0, rr 0, rr 0, rr 0, rr 0, rr 0, rr 0] 21)
  refine Ev.step (G' := rn X d 90 48 [rr 2] [] (pI [rr 3, rr 16, rr 21, rr 23, rr 0, rr 0, rr 0, rr 0, rr 0, rr 0, rr 0] 34)) 1 (fun _ => rfl) ?_
  refine Ev.step (G' := rn X d 90 53 [rr 2] [rr 36, rr 36, rr 2] (pI [rr 3, rr 16, rr 21, rr 23, rr 0, rr 0, rr 0, rr 0, rr 0, rr 0, rr 0] 34 ++ [.inr (.inr (6, ay_f0 6))])) 3 (fun _ => rfl) (Ev.call (c := 61) (d' := d) (ls' := [rr 36]) (r := [rr 36, rr 2]) (v := none) (h1 := pI [rr 3, rr 16, rr 21, rr 23, rr 0, rr 0, rr 0, rr 0, rr 0, rr 0, rr 0] 39) (fun _ => rfl) ?_ ?_)
  · exact Ev.ret 22 (fun _ => rfl)
  refine Ev.step (G' := rn X d 90 59 [rr 2] [] (pI [rr 3, rr 16, rr 21, rr 23, rr 36, rr 0, rr 0, rr 0, rr 0, rr 0, rr 0] 39)) 1 (fun _ => rfl) ?_
  refine Ev.step (G' := rn X d 90 64 [rr 2] [rr 41, rr 41, rr 2] (pI [rr 3, rr 16, rr 21, rr 23, rr 36, rr 0, rr 0, rr 0, rr 0, rr 0, rr 0] 39 ++ [.inr (.inr (3, ay_f0 3))])) 3 (fun _ => rfl) (Ev.call (c := 50) (d' := d) (ls' := [rr 41]) (r := [rr 41, rr 2]) (v := none) (h1 := pI [rr 3, rr 16, rr 21, rr 23, rr 36, rr 0, rr 0, rr 0, rr 0, rr 0, rr 0] 41) (fun _ => rfl) ?_ ?_)
  · exact Ev.ret 7 (fun _ => rfl)
  refine Ev.step (G' := rn X d 90 70 [rr 2] [] (pI [rr 3, rr 16, rr 21, rr 23, rr 36, rr 41, rr 0, rr 0, rr 0, rr 0, rr 0] 41)) 1 (fun _ => rfl) ?_
  refine Ev.step (G' := rn X d 90 75 [rr 2] [rr 43, rr 43, rr 2] (pI [rr 3, rr 16, rr 21, rr 23, rr 36, rr 41, rr 0, rr 0, rr 0, rr 0, rr 0] 41 ++ [.inr (.inr (7, ay_f0 7))])) 3 (fun _ => rfl) (Ev.call (c := 64) (d' := d) (ls' := [rr 43]) (r := [rr 43, rr 2]) (v := none) (h1 := pI [rr 3, rr 16, rr 21, rr 23, rr 36, rr 41, rr 0, rr 0, rr 0, rr 0, rr 0] 54) (fun _ => rfl) ?_ ?_)
  · exact s_W_new X d (pI [rr 3, rr 16, rr 21, rr 23, rr 36, rr 41, rr 0, rr 0, rr 0, rr 0, rr 0] 41)
  refine Ev.step (G' := rn X d 90 81 [rr 2] [] (pI [rr 3, rr 16, rr 21, rr 23, rr 36, rr 41, rr 43, rr 0, rr 0, rr 0, rr 0] 54)) 1 (fun _ => rfl) ?_
  refine Ev.step (G' := rn X d 90 86 [rr 2] [rr 56, rr 56, rr 2] (pI [rr 3, rr 16, rr 21, rr 23, rr 36, rr 41, rr 43, rr 0, rr 0, rr 0, rr 0] 54 ++ [.inr (.inr (4, ay_f0 4))])) 3 (fun _ => rfl) (Ev.call (c := 56) (d' := d) (ls' := [rr 56]) (r := [rr 56, rr 2]) (v := none) (h1 := pI [rr 3, rr 16, rr 21, rr 23, rr 36, rr 41, rr 43, rr 0, rr 0, rr 0, rr 0] 56) (fun _ => rfl) ?_ ?_)
  · exact Ev.ret 7 (fun _ => rfl)
  refine Ev.step (G' := rn X d 90 92 [rr 2] [] (pI [rr 3, rr 16, rr 21, rr 23, rr 36, rr 41, rr 43, rr 0, rr 0, rr 56, rr 0] 56)) 1 (fun _ => rfl) ?_
  refine Ev.step (G' := rn X d 90 105 [rr 2] [rr 16, rr 3, rr 58, rr 58, rr 2] (pI [rr 3, rr 16, rr 21, rr 23, rr 36, rr 41, rr 43, rr 0, rr 0, rr 56, rr 0] 56 ++ [.inr (.inr (1, ay_f0 1))])) 7 (fun _ => rfl) (Ev.call (c := 3) (d' := d) (ls' := [rr 58, rr 3, rr 16]) (r := [rr 58, rr 2]) (v := none) (h1 := pI [rr 3, rr 16, rr 21, rr 23, rr 36, rr 41, rr 43, rr 0, rr 0, rr 56, rr 0] 60) (fun _ => rfl) ?_ ?_)
  · refine Ev.step (G' := rn X d 3 9 [rr 58, rr 3, rr 16] [rr 59, rr 59, rr 58] (pI [rr 3, rr 16, rr 21, rr 23, rr 36, rr 41, rr 43, rr 0, rr 0, rr 56, rr 0] 56 ++ [.inr (.inr (1, ay_f0 1)), .inr (.inr (0, ay_f0 0))])) 5 (fun _ => rfl) (Ev.call (c := 0) (d' := d) (ls' := [rr 59]) (r := [rr 59, rr 58]) (v := none) (h1 := pI [rr 3, rr 16, rr 21, rr 23, rr 36, rr 41, rr 43, rr 0, rr 0, rr 56, rr 0] 56 ++ [.inr (.inr (1, ay_f0 1)), .inr (.inr (0, [rr 60, rr 61])), .inl (0, 8, fun _ => 0), .inl (1, 64, fun _ => 0)]) (fun _ => rfl) (Ev.ret 11 (fun _ => rfl)) (Ev.ret 11 (fun _ => rfl)))
  refine Ev.step (G' := rn X d 90 111 [rr 2] [] (pI [rr 3, rr 16, rr 21, rr 23, rr 36, rr 41, rr 43, rr 58, rr 0, rr 56, rr 0] 60)) 1 (fun _ => rfl) ?_
  refine Ev.step (G' := rn X d 90 124 [rr 2] [rr 16, rr 43, rr 62, rr 62, rr 2] (pI [rr 3, rr 16, rr 21, rr 23, rr 36, rr 41, rr 43, rr 58, rr 0, rr 56, rr 0] 60 ++ [.inr (.inr (1, ay_f0 1))])) 7 (fun _ => rfl) (Ev.call (c := 3) (d' := d) (ls' := [rr 62, rr 43, rr 16]) (r := [rr 62, rr 2]) (v := none) (h1 := pI [rr 3, rr 16, rr 21, rr 23, rr 36, rr 41, rr 43, rr 58, rr 0, rr 56, rr 0] 64) (fun _ => rfl) ?_ ?_)
  · refine Ev.step (G' := rn X d 3 9 [rr 62, rr 43, rr 16] [rr 63, rr 63, rr 62] (pI [rr 3, rr 16, rr 21, rr 23, rr 36, rr 41, rr 43, rr 58, rr 0, rr 56, rr 0] 60 ++ [.inr (.inr (1, ay_f0 1)), .inr (.inr (0, ay_f0 0))])) 5 (fun _ => rfl) (Ev.call (c := 0) (d' := d) (ls' := [rr 63]) (r := [rr 63, rr 62]) (v := none) (h1 := pI [rr 3, rr 16, rr 21, rr 23, rr 36, rr 41, rr 43, rr 58, rr 0, rr 56, rr 0] 60 ++ [.inr (.inr (1, ay_f0 1)), .inr (.inr (0, [rr 64, rr 65])), .inl (0, 8, fun _ => 0), .inl (1, 64, fun _ => 0)]) (fun _ => rfl) (Ev.ret 11 (fun _ => rfl)) (Ev.ret 11 (fun _ => rfl)))
  refine Ev.step (G' := rn X d 90 130 [rr 2] [] (pI [rr 3, rr 16, rr 21, rr 23, rr 36, rr 41, rr 43, rr 58, rr 62, rr 56, rr 0] 64)) 1 (fun _ => rfl) ?_
  refine Ev.step (G' := rn X d 90 139 [rr 2] [rr 56, rr 66, rr 66, rr 2] (pI [rr 3, rr 16, rr 21, rr 23, rr 36, rr 41, rr 43, rr 58, rr 62, rr 56, rr 0] 64 ++ [.inr (.inr (2, ay_f0 2))])) 5 (fun _ => rfl) (Ev.call (c := 23) (d' := d) (ls' := [rr 66, rr 56]) (r := [rr 66, rr 2]) (v := none) (h1 := pI [rr 3, rr 16, rr 21, rr 23, rr 36, rr 41, rr 43, rr 58, rr 62, rr 56, rr 0] 71) (fun _ => rfl) ?_ ?_)
  · exact Ev.ret 30 (fun _ => rfl)
  refine Ev.step (G' := rn X d 90 145 [rr 2] [] (pI [rr 3, rr 16, rr 21, rr 23, rr 36, rr 41, rr 43, rr 58, rr 62, rr 56, rr 66] 71)) 1 (fun _ => rfl) ?_
  exact Ev.ret 1 (fun _ => rfl)
def R_init_162 : Nat → bS → Int → Option (Int × bS)
 | 0, _, _ => none
 | n + 1, s, l1 => (if 64 ≤ l1 then (bb (R_copyRow_3_4 n s ) fun v1 s1 => some (0, s1)) else (if 0 ≤ (ay_w ((ay_w (914 + (ay_w (5 * l1)))) + 0)) ∧ (ay_w ((ay_w (914 + (ay_w (5 * l1)))) + 0)) < 38745 then R_init_162 n (bA s 0 (ay_w ((ay_w (914 + (ay_w (5 * l1)))) + 0)) (-1)) (ay_w (l1 + 1)) else none))
theorem s_R_init_162 (X : Nat × (Nat → Int)) (d : Nat) : ∀ (n : Nat) (s : bS) (l1 : Int), Sim eMv (R_init_162 n s l1) (rn X d 145 162 [rr 2, .inl l1] [] (hM s))
 | 0, _, _ => Sim.none
 | n + 1, s, l1 => Sim.step (rn X d 145 165 [rr 2, .inl l1] [.inl 64, .inl l1] (hM s)) 2 (fun _ => rfl) (Sim.bGe (t := 189) rfl (fun _ => rfl) (fun _ => Sim.step (rn X d 145 197 [rr 2, .inl l1] [rr 4, rr 3] (hM s)) 4 (fun _ => rfl) (Sim.call (Ec := eMv) (c := 146) (d' := d) (ls' := [rr 3, rr 4, b0]) (r := []) _ (fun _ => rfl) (s_R_copyRow_3_4 X d n s ) (fun v1 s1 => Sim.ret 1 (fun _ => rfl)))) (fun _ => Sim.step (rn X d 145 182 [rr 2, .inl l1] [.inl (-1), .inl (ay_w ((ay_w (914 + (ay_w (5 * l1)))) + 0)), rr 3] (hM s)) 10 (fun _ => rfl) (Sim.ast (a := 1) (hM (bA s 0 (ay_w ((ay_w (914 + (ay_w (5 * l1)))) + 0)) (-1))) rfl rfl rfl (hM_a1 s (ay_w ((ay_w (914 + (ay_w (5 * l1)))) + 0)) (-1)) (fun _ => Sim.step (rn X d 145 162 [rr 2, .inl (ay_w (l1 + 1))] [] (hM (bA s 0 (ay_w ((ay_w (914 + (ay_w (5 * l1)))) + 0)) (-1)))) 2 (fun _ => rfl) (s_R_init_162 X d n (bA s 0 (ay_w ((ay_w (914 + (ay_w (5 * l1)))) + 0)) (-1)) (ay_w (l1 + 1)))))))
def R_init_116 : Nat → bS → Int → Option (Int × bS)
 | 0, _, _ => none
 | n + 1, s, l1 => (if 128 ≤ l1 then R_init_162 n s 0 else (if 0 ≤ (ay_w ((ay_w (18 + (ay_w (7 * l1)))) + 0)) ∧ (ay_w ((ay_w (18 + (ay_w (7 * l1)))) + 0)) < 38745 then (if 0 ≤ (ay_w ((ay_w (18 + (ay_w (7 * l1)))) + 6)) ∧ (ay_w ((ay_w (18 + (ay_w (7 * l1)))) + 6)) < 38745 then R_init_116 n (bA (bA s 0 (ay_w ((ay_w (18 + (ay_w (7 * l1)))) + 0)) (-1)) 0 (ay_w ((ay_w (18 + (ay_w (7 * l1)))) + 6)) (-1)) (ay_w (l1 + 1)) else none) else none))
theorem s_R_init_116 (X : Nat × (Nat → Int)) (d : Nat) : ∀ (n : Nat) (s : bS) (l1 : Int), Sim eMv (R_init_116 n s l1) (rn X d 145 116 [rr 2, .inl l1] [] (hM s))
 | 0, _, _ => Sim.none
 | n + 1, s, l1 => Sim.step (rn X d 145 120 [rr 2, .inl l1] [.inl 128, .inl l1] (hM s)) 2 (fun _ => rfl) (Sim.bGe (t := 160) rfl (fun _ => rfl) (fun _ => Sim.step (rn X d 145 162 [rr 2, .inl 0] [] (hM s)) 2 (fun _ => rfl) (s_R_init_162 X d n s 0)) (fun _ => Sim.step (rn X d 145 137 [rr 2, .inl l1] [.inl (-1), .inl (ay_w ((ay_w (18 + (ay_w (7 * l1)))) + 0)), rr 3] (hM s)) 10 (fun _ => rfl) (Sim.ast (a := 1) (hM (bA s 0 (ay_w ((ay_w (18 + (ay_w (7 * l1)))) + 0)) (-1))) rfl rfl rfl (hM_a1 s (ay_w ((ay_w (18 + (ay_w (7 * l1)))) + 0)) (-1)) (fun _ => Sim.step (rn X d 145 153 [rr 2, .inl l1] [.inl (-1), .inl (ay_w ((ay_w (18 + (ay_w (7 * l1)))) + 6)), rr 3] (hM (bA s 0 (ay_w ((ay_w (18 + (ay_w (7 * l1)))) + 0)) (-1)))) 10 (fun _ => rfl) (Sim.ast (a := 1) (hM (bA (bA s 0 (ay_w ((ay_w (18 + (ay_w (7 * l1)))) + 0)) (-1)) 0 (ay_w ((ay_w (18 + (ay_w (7 * l1)))) + 6)) (-1))) rfl rfl rfl (hM_a1 (bA s 0 (ay_w ((ay_w (18 + (ay_w (7 * l1)))) + 0)) (-1)) (ay_w ((ay_w (18 + (ay_w (7 * l1)))) + 6)) (-1)) (fun _ => Sim.step (rn X d 145 116 [rr 2, .inl (ay_w (l1 + 1))] [] (hM (bA (bA s 0 (ay_w ((ay_w (18 + (ay_w (7 * l1)))) + 0)) (-1)) 0 (ay_w ((ay_w (18 + (ay_w (7 * l1)))) + 6)) (-1)))) 2 (fun _ => rfl) (s_R_init_116 X d n (bA (bA s 0 (ay_w ((ay_w (18 + (ay_w (7 * l1)))) + 0)) (-1)) 0 (ay_w ((ay_w (18 + (ay_w (7 * l1)))) + 6)) (-1)) (ay_w (l1 + 1)))))))))
def R_init (n : Nat) (s : bS) : Option (Int × bS) := R_init_116 n (bA (bA s 0 11 499) 0 2 (-1)) 0
theorem s_R_init (X : Nat × (Nat → Int)) (d : Nat) (n : Nat) (s : bS) : Sim eMv (R_init n s) (rn X d 145 97 [rr 2, b0] [] (hM s)) := Sim.step (rn X d 145 106 [rr 2, b0] [.inl 499, .inl 11, rr 3] (hM s)) 4 (fun _ => rfl) (Sim.astk (a := 1) (hM (bA s 0 11 499)) rfl rfl (by decide) (hM_a1 s 11 499) (Sim.step (rn X d 145 113 [rr 2, b0] [.inl (-1), .inl 2, rr 3] (hM (bA s 0 11 499))) 4 (fun _ => rfl) (Sim.astk (a := 1) (hM (bA (bA s 0 11 499) 0 2 (-1))) rfl rfl (by decide) (hM_a1 (bA s 0 11 499) 2 (-1)) (Sim.step (rn X d 145 116 [rr 2, .inl 0] [] (hM (bA (bA s 0 11 499) 0 2 (-1)))) 2 (fun _ => rfl) (s_R_init_116 X d n (bA (bA s 0 11 499) 0 2 (-1)) 0)))))
def mz : bS := bI (bI (bI z0 5 (-1)) 6 (-1)) 23 (-1)
set_option maxRecDepth 20000 in
theorem s_R_alloc (X : Nat × (Nat → Int)) (d : Nat) {R : Option bV × bH} (P : Ev (rn X d 145 97 [rr 2, b0] [] (hM mz)) R) : Ev (rn X d 145 0 [rr 2, b0] [] [.inr (.inr (9, ay_f0 9))]) R :=
  Ev.step (G' := rn X d 145 97 [rr 2, b0] [] (hM mz)) 47 (fun _ => rfl) P
