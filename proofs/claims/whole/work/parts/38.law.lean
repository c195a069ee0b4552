/-! The law: what it asks of the functions (by wip/whole/gen_law2.py). -/
/-- the model's cells behind the class's own -/
def mC (s : bS) : bH := [.inr (.inr (9, [rr 74, rr 75, rr 76, rr 77, .inl (s.1 4), .inl (s.1 5), .inl (s.1 6), .inl (s.1 7), .inl (s.1 8), .inl (s.1 9), .inl (s.1 10), .inr (.inl (s.1 11)), .inl (s.1 12), .inl (s.1 13), .inl (s.1 14), rr 78, .inl (s.1 16), .inl (s.1 17), .inl (s.1 18), .inl (s.1 19), rr 79, rr 80, rr 81, .inl (s.1 23), .inl (s.1 24), rr 82])), .inl (0, 38745, s.2 0), .inl (0, 38745, s.2 1), .inl (0, 2916, s.2 2), .inl (0, 300, s.2 3), .inl (0, 160, s.2 15), .inl (0, 8, s.2 20), .inl (1, 330, s.2 21), .inl (2, 330, s.2 22), .inl (0, 1249, s.2 25)]
theorem lMi {F : Option (Int × bS)} {X : Nat × (Nat → Int)} {d mm : Nat} {ls lb : List bV} (c : Nat → bS) (U : bH) (m : bS) (hls : ay_LR (ay_sg [71, 72, 73, 74, 75, 76, 77, 78, 79, 80] (hP (c, mC m ++ U)).length) ls lb) (P : Sim eMi F (rn X d mm 0 ls [] (hM m))) : Sim (fun q => (some (.inl q.1), hP (c, mC q.2 ++ U))) F (rn X d mm 0 lb [] (hP (c, mC m ++ U))) :=
  Sim.lift (E := eMi) (E' := (fun q => (some (.inl q.1), hP (c, mC q.2 ++ U)))) (h := hM m) (g := (hP (c, mC m ++ U))) [71, 72, 73, 74, 75, 76, 77, 78, 79, 80] (by decide) rfl (fun p hp => Nat.lt_of_lt_of_le ((by decide : ∀ p ∈ ([71, 72, 73, 74, 75, 76, 77, 78, 79, 80] : List Nat), p < 81) p hp) (Nat.le_add_left 81 U.length)) (fun k e q => match k, q with | 0, q => hemc (f := ay_re _) q rfl | 1, q => hemc (f := ay_re _) q rfl | 2, q => hemc (f := ay_re _) q rfl | 3, q => hemc (f := ay_re _) q rfl | 4, q => hemc (f := ay_re _) q rfl | 5, q => hemc (f := ay_re _) q rfl | 6, q => hemc (f := ay_re _) q rfl | 7, q => hemc (f := ay_re _) q rfl | 8, q => hemc (f := ay_re _) q rfl | 9, q => hemc (f := ay_re _) q rfl | _ + 10, q => noe q) hls rfl (fun a => ⟨rfl, rfl⟩) P
theorem lMl {F : Option (Int × bS)} {X : Nat × (Nat → Int)} {d mm : Nat} {ls lb : List bV} (c : Nat → bS) (U : bH) (m : bS) (hls : ay_LR (ay_sg [71, 72, 73, 74, 75, 76, 77, 78, 79, 80] (hP (c, mC m ++ U)).length) ls lb) (P : Sim eMl F (rn X d mm 0 ls [] (hM m))) : Sim (fun q => (some (.inr (.inl q.1)), hP (c, mC q.2 ++ U))) F (rn X d mm 0 lb [] (hP (c, mC m ++ U))) :=
  Sim.lift (E := eMl) (E' := (fun q => (some (.inr (.inl q.1)), hP (c, mC q.2 ++ U)))) (h := hM m) (g := (hP (c, mC m ++ U))) [71, 72, 73, 74, 75, 76, 77, 78, 79, 80] (by decide) rfl (fun p hp => Nat.lt_of_lt_of_le ((by decide : ∀ p ∈ ([71, 72, 73, 74, 75, 76, 77, 78, 79, 80] : List Nat), p < 81) p hp) (Nat.le_add_left 81 U.length)) (fun k e q => match k, q with | 0, q => hemc (f := ay_re _) q rfl | 1, q => hemc (f := ay_re _) q rfl | 2, q => hemc (f := ay_re _) q rfl | 3, q => hemc (f := ay_re _) q rfl | 4, q => hemc (f := ay_re _) q rfl | 5, q => hemc (f := ay_re _) q rfl | 6, q => hemc (f := ay_re _) q rfl | 7, q => hemc (f := ay_re _) q rfl | 8, q => hemc (f := ay_re _) q rfl | 9, q => hemc (f := ay_re _) q rfl | _ + 10, q => noe q) hls rfl (fun a => ⟨rfl, rfl⟩) P
theorem lMv {F : Option (Int × bS)} {X : Nat × (Nat → Int)} {d mm : Nat} {ls lb : List bV} (c : Nat → bS) (U : bH) (m : bS) (hls : ay_LR (ay_sg [71, 72, 73, 74, 75, 76, 77, 78, 79, 80] (hP (c, mC m ++ U)).length) ls lb) (P : Sim eMv F (rn X d mm 0 ls [] (hM m))) : Sim (fun q => (none, hP (c, mC q.2 ++ U))) F (rn X d mm 0 lb [] (hP (c, mC m ++ U))) :=
  Sim.lift (E := eMv) (E' := (fun q => (none, hP (c, mC q.2 ++ U)))) (h := hM m) (g := (hP (c, mC m ++ U))) [71, 72, 73, 74, 75, 76, 77, 78, 79, 80] (by decide) rfl (fun p hp => Nat.lt_of_lt_of_le ((by decide : ∀ p ∈ ([71, 72, 73, 74, 75, 76, 77, 78, 79, 80] : List Nat), p < 81) p hp) (Nat.le_add_left 81 U.length)) (fun k e q => match k, q with | 0, q => hemc (f := ay_re _) q rfl | 1, q => hemc (f := ay_re _) q rfl | 2, q => hemc (f := ay_re _) q rfl | 3, q => hemc (f := ay_re _) q rfl | 4, q => hemc (f := ay_re _) q rfl | 5, q => hemc (f := ay_re _) q rfl | 6, q => hemc (f := ay_re _) q rfl | 7, q => hemc (f := ay_re _) q rfl | 8, q => hemc (f := ay_re _) q rfl | 9, q => hemc (f := ay_re _) q rfl | _ + 10, q => noe q) hls rfl (fun a => ⟨rfl, rfl⟩) P
theorem s_M_new (X : Nat × (Nat → Int)) (d : Nat) (c : Nat → bS) {m : bS} (P : Ev (rn X d 145 0 [rr 2, b0] [] [.inr (.inr (9, ay_f0 9))]) (none, hM m)) : Ev (rn X d 145 0 [rr 73, b0] [] (hP (c, [.inr (.inr (9, ay_f0 9))]))) (none, hP (c, mC m)) := by
  have L := Ev.lift (g := hP (c, [.inr (.inr (9, ay_f0 9))])) (h := [.inr (.inr (9, ay_f0 9))]) (ls := [rr 2, b0]) (lb := [rr 73, b0]) (sb := []) [71] (by decide) rfl (fun p hp => by simp at hp; subst hp; exact Nat.lt_succ_self 71) (fun k e q => match k, q with
    | 0, q => hemc (f := ay_re _) q rfl
    | _ + 1, q => noe q) ⟨Or.inr rfl, Or.inl rfl, trivial⟩ rfl P
  exact L
section
variable {X : Nat × (Nat → Int)} {pc i : Nat} {st : List bV} {h : bH} {R : Option bV × bH}
theorem Ev.arg (k : Nat) {z y : Int} (hz : z = (i : Int)) (hy : y = (k : Int)) (hL : X.1 ≤ 3072) (hi : i + 6 ≤ X.1) (hk : k < 6) (e : ∀ n, rn X 30 308 pc [rr 1, rr 2, rr 73, .inl z] st h (n + 5) = if 0 ≤ ay_w (z + y) ∧ ay_w (z + y) < (X.1 : Int) then rn X 30 308 (pc + 5) [rr 1, rr 2, rr 73, .inl z] (.inl (X.2 (ay_w (z + y)).toNat) :: st) h n else none) (P : Ev (rn X 30 308 (pc + 5) [rr 1, rr 2, rr 73, .inl z] (.inl (X.2 (i + k)) :: st) h) R) : Ev (rn X 30 308 pc [rr 1, rr 2, rr 73, .inl z] st h) R := by
  have hw : ay_w (z + y) = ((i + k : Nat) : Int) := by rw [ay_wi (by omega) (by omega)]; omega
  refine Ev.step 5 (fun n => ?_) P
  rw [e n, hw, if_pos ⟨by omega, by omega⟩, Int.toNat_natCast]
theorem Ev.next {z : Int} (hz : z = (i : Int)) (hL : X.1 ≤ 3072) (hi : i + 6 ≤ X.1) (P : Ev (rn X 30 308 18 [rr 1, rr 2, rr 73, .inl ((i + 6 : Nat) : Int)] [] h) R) : Ev (rn X 30 308 1442 [rr 1, rr 2, rr 73, .inl z] [] h) R := by
  refine Ev.step (G' := rn X 30 308 18 [rr 1, rr 2, rr 73, .inl (ay_w (z + 6))] [] h) 2 (fun _ => rfl) ?_
  rw [ay_wi (by omega) (by omega), show z + 6 = ((i + 6 : Nat) : Int) by omega]
  exact P
end
theorem lc_0 {X : Nat × (Nat → Int)} {i n n' : Nat} {c c' : Nat → bS} {U U' : bH} {m m' : bS} {v z : Int} {R : Option bV × bH} (hz : z = (i : Int)) (hL : X.1 ≤ 3072) (hi : i + 6 ≤ X.1) (hp : P_object n (c, mC m ++ U) (X.2 (i + 1)) = some (v, (c', mC m ++ U'))) (hr : R_object n' m (X.2 (i + 1)) = some (v, m')) (K : Ev (rn X 30 308 18 [rr 1, rr 2, rr 73, .inl ((i + 6 : Nat) : Int)] [] (hP (c', mC m' ++ U'))) R) : Ev (rn X 30 308 232 [rr 1, rr 2, rr 73, .inl z] [] (hP (c, mC m ++ U))) R := by
  refine Ev.step (G' := rn X 30 308 233 [rr 1, rr 2, rr 73, .inl z] [rr 2] (hP (c, mC m ++ U))) 1 (fun _ => rfl) ?_
  refine Ev.arg 1 (y := 1) hz rfl hL hi (by decide) (fun _ => rfl) ?_
  have A := s_P_object X 30 n (c, mC m ++ U) (X.2 (i + 1))
  rw [hp] at A
  refine Ev.call (c := 91) (d' := 30) (ls' := [rr 2, .inl (X.2 (i + 1))]) (r := []) (v := some (.inl v)) (h1 := hP (c', mC m ++ U')) (fun _ => rfl) A.ev ?_
  refine Ev.step (G' := rn X 30 308 242 [rr 1, rr 2, rr 73, .inl z] [rr 73, .inl v] (hP (c', mC m ++ U'))) 1 (fun _ => rfl) ?_
  refine Ev.arg 1 (y := 1) hz rfl hL hi (by decide) (fun _ => rfl) ?_
  have B := lMi (ls := [rr 2, .inl (X.2 (i + 1))]) (lb := [rr 73, .inl (X.2 (i + 1))]) c' U' m ⟨Or.inr rfl, ⟨Or.inr rfl, trivial⟩⟩ (s_R_object X 30 n' m (X.2 (i + 1)))
  rw [hr] at B
  refine Ev.call (c := 169) (d' := 30) (ls' := [rr 73, .inl (X.2 (i + 1))]) (r := [.inl v]) (v := some (.inl v)) (h1 := hP (c', mC m' ++ U')) (fun _ => rfl) B.ev ?_
  refine Ev.step (G' := rn X 30 308 1442 [rr 1, rr 2, rr 73, .inl z] [] (hP (c', mC m' ++ U'))) 1 (fun k => ?_) (Ev.next hz hL hi K)
  have : rn X 30 308 250 [rr 1, rr 2, rr 73, .inl z] [.inl v, .inl v] (hP (c', mC m' ++ U')) (k + 1) = if v = v then rn X 30 308 1442 [rr 1, rr 2, rr 73, .inl z] [] (hP (c', mC m' ++ U')) k else rn X 30 308 253 [rr 1, rr 2, rr 73, .inl z] [] (hP (c', mC m' ++ U')) k := rfl
  rw [if_pos rfl] at this
  exact this
theorem lc_1 {X : Nat × (Nat → Int)} {i n n' : Nat} {c c' : Nat → bS} {U U' : bH} {m m' : bS} {v z : Int} {R : Option bV × bH} (hz : z = (i : Int)) (hL : X.1 ≤ 3072) (hi : i + 6 ≤ X.1) (hp : P_feed n (c, mC m ++ U) (X.2 (i + 1)) (X.2 (i + 2)) (X.2 (i + 3)) (X.2 (i + 4)) (X.2 (i + 5)) = some (v, (c', mC m ++ U'))) (hr : R_feed n' m (X.2 (i + 1)) (X.2 (i + 2)) (X.2 (i + 3)) (X.2 (i + 4)) (X.2 (i + 5)) = some (v, m')) (K : Ev (rn X 30 308 18 [rr 1, rr 2, rr 73, .inl ((i + 6 : Nat) : Int)] [] (hP (c', mC m' ++ U'))) R) : Ev (rn X 30 308 255 [rr 1, rr 2, rr 73, .inl z] [] (hP (c, mC m ++ U))) R := by
  refine Ev.step (G' := rn X 30 308 256 [rr 1, rr 2, rr 73, .inl z] [rr 2] (hP (c, mC m ++ U))) 1 (fun _ => rfl) ?_
  refine Ev.arg 1 (y := 1) hz rfl hL hi (by decide) (fun _ => rfl) ?_
  refine Ev.arg 2 (y := 2) hz rfl hL hi (by decide) (fun _ => rfl) ?_
  refine Ev.arg 3 (y := 3) hz rfl hL hi (by decide) (fun _ => rfl) ?_
  refine Ev.arg 4 (y := 4) hz rfl hL hi (by decide) (fun _ => rfl) ?_
  refine Ev.arg 5 (y := 5) hz rfl hL hi (by decide) (fun _ => rfl) ?_
  have A := s_P_feed X 30 n (c, mC m ++ U) (X.2 (i + 1)) (X.2 (i + 2)) (X.2 (i + 3)) (X.2 (i + 4)) (X.2 (i + 5))
  rw [hp] at A
  refine Ev.call (c := 92) (d' := 30) (ls' := [rr 2, .inl (X.2 (i + 1)), .inl (X.2 (i + 2)), .inl (X.2 (i + 3)), .inl (X.2 (i + 4)), .inl (X.2 (i + 5))]) (r := []) (v := some (.inl v)) (h1 := hP (c', mC m ++ U')) (fun _ => rfl) A.ev ?_
  refine Ev.step (G' := rn X 30 308 285 [rr 1, rr 2, rr 73, .inl z] [rr 73, .inl v] (hP (c', mC m ++ U'))) 1 (fun _ => rfl) ?_
  refine Ev.arg 1 (y := 1) hz rfl hL hi (by decide) (fun _ => rfl) ?_
  refine Ev.arg 2 (y := 2) hz rfl hL hi (by decide) (fun _ => rfl) ?_
  refine Ev.arg 3 (y := 3) hz rfl hL hi (by decide) (fun _ => rfl) ?_
  refine Ev.arg 4 (y := 4) hz rfl hL hi (by decide) (fun _ => rfl) ?_
  refine Ev.arg 5 (y := 5) hz rfl hL hi (by decide) (fun _ => rfl) ?_
  have B := lMi (ls := [rr 2, .inl (X.2 (i + 1)), .inl (X.2 (i + 2)), .inl (X.2 (i + 3)), .inl (X.2 (i + 4)), .inl (X.2 (i + 5))]) (lb := [rr 73, .inl (X.2 (i + 1)), .inl (X.2 (i + 2)), .inl (X.2 (i + 3)), .inl (X.2 (i + 4)), .inl (X.2 (i + 5))]) c' U' m ⟨Or.inr rfl, ⟨Or.inr rfl, ⟨Or.inr rfl, ⟨Or.inr rfl, ⟨Or.inr rfl, ⟨Or.inr rfl, trivial⟩⟩⟩⟩⟩⟩ (s_R_feed X 30 n' m (X.2 (i + 1)) (X.2 (i + 2)) (X.2 (i + 3)) (X.2 (i + 4)) (X.2 (i + 5)))
  rw [hr] at B
  refine Ev.call (c := 171) (d' := 30) (ls' := [rr 73, .inl (X.2 (i + 1)), .inl (X.2 (i + 2)), .inl (X.2 (i + 3)), .inl (X.2 (i + 4)), .inl (X.2 (i + 5))]) (r := [.inl v]) (v := some (.inl v)) (h1 := hP (c', mC m' ++ U')) (fun _ => rfl) B.ev ?_
  refine Ev.step (G' := rn X 30 308 1442 [rr 1, rr 2, rr 73, .inl z] [] (hP (c', mC m' ++ U'))) 1 (fun k => ?_) (Ev.next hz hL hi K)
  have : rn X 30 308 313 [rr 1, rr 2, rr 73, .inl z] [.inl v, .inl v] (hP (c', mC m' ++ U')) (k + 1) = if v = v then rn X 30 308 1442 [rr 1, rr 2, rr 73, .inl z] [] (hP (c', mC m' ++ U')) k else rn X 30 308 316 [rr 1, rr 2, rr 73, .inl z] [] (hP (c', mC m' ++ U')) k := rfl
  rw [if_pos rfl] at this
  exact this
theorem lc_2 {X : Nat × (Nat → Int)} {i n n' : Nat} {c c' : Nat → bS} {U U' : bH} {m m' : bS} {v z : Int} {R : Option bV × bH} (hz : z = (i : Int)) (hL : X.1 ≤ 3072) (hi : i + 6 ≤ X.1) (hp : P_end n (c, mC m ++ U) (X.2 (i + 1)) = some (v, (c', mC m ++ U'))) (hr : R_end n' m (X.2 (i + 1)) = some (v, m')) (K : Ev (rn X 30 308 18 [rr 1, rr 2, rr 73, .inl ((i + 6 : Nat) : Int)] [] (hP (c', mC m' ++ U'))) R) : Ev (rn X 30 308 318 [rr 1, rr 2, rr 73, .inl z] [] (hP (c, mC m ++ U))) R := by
  refine Ev.step (G' := rn X 30 308 319 [rr 1, rr 2, rr 73, .inl z] [rr 2] (hP (c, mC m ++ U))) 1 (fun _ => rfl) ?_
  refine Ev.arg 1 (y := 1) hz rfl hL hi (by decide) (fun _ => rfl) ?_
  have A := s_P_end X 30 n (c, mC m ++ U) (X.2 (i + 1))
  rw [hp] at A
  refine Ev.call (c := 93) (d' := 30) (ls' := [rr 2, .inl (X.2 (i + 1))]) (r := []) (v := some (.inl v)) (h1 := hP (c', mC m ++ U')) (fun _ => rfl) A.ev ?_
  refine Ev.step (G' := rn X 30 308 328 [rr 1, rr 2, rr 73, .inl z] [rr 73, .inl v] (hP (c', mC m ++ U'))) 1 (fun _ => rfl) ?_
  refine Ev.arg 1 (y := 1) hz rfl hL hi (by decide) (fun _ => rfl) ?_
  have B := lMi (ls := [rr 2, .inl (X.2 (i + 1))]) (lb := [rr 73, .inl (X.2 (i + 1))]) c' U' m ⟨Or.inr rfl, ⟨Or.inr rfl, trivial⟩⟩ (s_R_end X 30 n' m (X.2 (i + 1)))
  rw [hr] at B
  refine Ev.call (c := 172) (d' := 30) (ls' := [rr 73, .inl (X.2 (i + 1))]) (r := [.inl v]) (v := some (.inl v)) (h1 := hP (c', mC m' ++ U')) (fun _ => rfl) B.ev ?_
  refine Ev.step (G' := rn X 30 308 1442 [rr 1, rr 2, rr 73, .inl z] [] (hP (c', mC m' ++ U'))) 1 (fun k => ?_) (Ev.next hz hL hi K)
  have : rn X 30 308 336 [rr 1, rr 2, rr 73, .inl z] [.inl v, .inl v] (hP (c', mC m' ++ U')) (k + 1) = if v = v then rn X 30 308 1442 [rr 1, rr 2, rr 73, .inl z] [] (hP (c', mC m' ++ U')) k else rn X 30 308 339 [rr 1, rr 2, rr 73, .inl z] [] (hP (c', mC m' ++ U')) k := rfl
  rw [if_pos rfl] at this
  exact this
theorem lc_3 {X : Nat × (Nat → Int)} {i n n' : Nat} {c c' : Nat → bS} {U U' : bH} {m m' : bS} {v z : Int} {R : Option bV × bH} (hz : z = (i : Int)) (hL : X.1 ≤ 3072) (hi : i + 6 ≤ X.1) (hp : P_text 30 n (c, mC m ++ U)  = some (v, (c', mC m ++ U'))) (hr : R_text n' m  = some (v, m')) (K : Ev (rn X 30 308 18 [rr 1, rr 2, rr 73, .inl ((i + 6 : Nat) : Int)] [] (hP (c', mC m' ++ U'))) R) : Ev (rn X 30 308 341 [rr 1, rr 2, rr 73, .inl z] [] (hP (c, mC m ++ U))) R := by
  refine Ev.step (G' := rn X 30 308 342 [rr 1, rr 2, rr 73, .inl z] [rr 2] (hP (c, mC m ++ U))) 1 (fun _ => rfl) ?_
  have A := s_P_text X 30 n (c, mC m ++ U) 
  rw [hp] at A
  refine Ev.call (c := 94) (d' := 30) (ls' := [rr 2, b0]) (r := []) (v := some (.inl v)) (h1 := hP (c', mC m ++ U')) (fun _ => rfl) A.ev ?_
  refine Ev.step (G' := rn X 30 308 346 [rr 1, rr 2, rr 73, .inl z] [rr 73, .inl v] (hP (c', mC m ++ U'))) 1 (fun _ => rfl) ?_
  have B := lMi (ls := [rr 2]) (lb := [rr 73]) c' U' m ⟨Or.inr rfl, trivial⟩ (s_R_text X 30 n' m )
  rw [hr] at B
  refine Ev.call (c := 209) (d' := 30) (ls' := [rr 73]) (r := [.inl v]) (v := some (.inl v)) (h1 := hP (c', mC m' ++ U')) (fun _ => rfl) B.ev ?_
  refine Ev.step (G' := rn X 30 308 1442 [rr 1, rr 2, rr 73, .inl z] [] (hP (c', mC m' ++ U'))) 1 (fun k => ?_) (Ev.next hz hL hi K)
  have : rn X 30 308 349 [rr 1, rr 2, rr 73, .inl z] [.inl v, .inl v] (hP (c', mC m' ++ U')) (k + 1) = if v = v then rn X 30 308 1442 [rr 1, rr 2, rr 73, .inl z] [] (hP (c', mC m' ++ U')) k else rn X 30 308 352 [rr 1, rr 2, rr 73, .inl z] [] (hP (c', mC m' ++ U')) k := rfl
  rw [if_pos rfl] at this
  exact this
theorem lc_4 {X : Nat × (Nat → Int)} {i n n' : Nat} {c c' : Nat → bS} {U U' : bH} {m m' : bS} {v z : Int} {R : Option bV × bH} (hz : z = (i : Int)) (hL : X.1 ≤ 3072) (hi : i + 6 ≤ X.1) (hp : P_fault n (c, mC m ++ U) (X.2 (i + 1)) = some (v, (c', mC m ++ U'))) (hr : R_fault n' m (X.2 (i + 1)) = some (v, m')) (K : Ev (rn X 30 308 18 [rr 1, rr 2, rr 73, .inl ((i + 6 : Nat) : Int)] [] (hP (c', mC m' ++ U'))) R) : Ev (rn X 30 308 354 [rr 1, rr 2, rr 73, .inl z] [] (hP (c, mC m ++ U))) R := by
  refine Ev.step (G' := rn X 30 308 355 [rr 1, rr 2, rr 73, .inl z] [rr 2] (hP (c, mC m ++ U))) 1 (fun _ => rfl) ?_
  refine Ev.arg 1 (y := 1) hz rfl hL hi (by decide) (fun _ => rfl) ?_
  have A := s_P_fault X 30 n (c, mC m ++ U) (X.2 (i + 1))
  rw [hp] at A
  refine Ev.call (c := 95) (d' := 30) (ls' := [rr 2, .inl (X.2 (i + 1))]) (r := []) (v := some (.inl v)) (h1 := hP (c', mC m ++ U')) (fun _ => rfl) A.ev ?_
  refine Ev.step (G' := rn X 30 308 364 [rr 1, rr 2, rr 73, .inl z] [rr 73, .inl v] (hP (c', mC m ++ U'))) 1 (fun _ => rfl) ?_
  refine Ev.arg 1 (y := 1) hz rfl hL hi (by decide) (fun _ => rfl) ?_
  have B := lMi (ls := [rr 2, .inl (X.2 (i + 1))]) (lb := [rr 73, .inl (X.2 (i + 1))]) c' U' m ⟨Or.inr rfl, ⟨Or.inr rfl, trivial⟩⟩ (s_R_fault X 30 n' m (X.2 (i + 1)))
  rw [hr] at B
  refine Ev.call (c := 210) (d' := 30) (ls' := [rr 73, .inl (X.2 (i + 1))]) (r := [.inl v]) (v := some (.inl v)) (h1 := hP (c', mC m' ++ U')) (fun _ => rfl) B.ev ?_
  refine Ev.step (G' := rn X 30 308 1442 [rr 1, rr 2, rr 73, .inl z] [] (hP (c', mC m' ++ U'))) 1 (fun k => ?_) (Ev.next hz hL hi K)
  have : rn X 30 308 372 [rr 1, rr 2, rr 73, .inl z] [.inl v, .inl v] (hP (c', mC m' ++ U')) (k + 1) = if v = v then rn X 30 308 1442 [rr 1, rr 2, rr 73, .inl z] [] (hP (c', mC m' ++ U')) k else rn X 30 308 375 [rr 1, rr 2, rr 73, .inl z] [] (hP (c', mC m' ++ U')) k := rfl
  rw [if_pos rfl] at this
  exact this
theorem lc_5 {X : Nat × (Nat → Int)} {i n n' : Nat} {c c' : Nat → bS} {U U' : bH} {m m' : bS} {v z : Int} {R : Option bV × bH} (hz : z = (i : Int)) (hL : X.1 ≤ 3072) (hi : i + 6 ≤ X.1) (hp : P_by n (c, mC m ++ U) (X.2 (i + 1)) = some (v, (c', mC m ++ U'))) (hr : R_by n' m (X.2 (i + 1)) = some (v, m')) (K : Ev (rn X 30 308 18 [rr 1, rr 2, rr 73, .inl ((i + 6 : Nat) : Int)] [] (hP (c', mC m' ++ U'))) R) : Ev (rn X 30 308 377 [rr 1, rr 2, rr 73, .inl z] [] (hP (c, mC m ++ U))) R := by
  refine Ev.step (G' := rn X 30 308 378 [rr 1, rr 2, rr 73, .inl z] [rr 2] (hP (c, mC m ++ U))) 1 (fun _ => rfl) ?_
  refine Ev.arg 1 (y := 1) hz rfl hL hi (by decide) (fun _ => rfl) ?_
  have A := s_P_by X 30 n (c, mC m ++ U) (X.2 (i + 1))
  rw [hp] at A
  refine Ev.call (c := 96) (d' := 30) (ls' := [rr 2, .inl (X.2 (i + 1))]) (r := []) (v := some (.inl v)) (h1 := hP (c', mC m ++ U')) (fun _ => rfl) A.ev ?_
  refine Ev.step (G' := rn X 30 308 387 [rr 1, rr 2, rr 73, .inl z] [rr 73, .inl v] (hP (c', mC m ++ U'))) 1 (fun _ => rfl) ?_
  refine Ev.arg 1 (y := 1) hz rfl hL hi (by decide) (fun _ => rfl) ?_
  have B := lMi (ls := [rr 2, .inl (X.2 (i + 1))]) (lb := [rr 73, .inl (X.2 (i + 1))]) c' U' m ⟨Or.inr rfl, ⟨Or.inr rfl, trivial⟩⟩ (s_R_by X 30 n' m (X.2 (i + 1)))
  rw [hr] at B
  refine Ev.call (c := 211) (d' := 30) (ls' := [rr 73, .inl (X.2 (i + 1))]) (r := [.inl v]) (v := some (.inl v)) (h1 := hP (c', mC m' ++ U')) (fun _ => rfl) B.ev ?_
  refine Ev.step (G' := rn X 30 308 1442 [rr 1, rr 2, rr 73, .inl z] [] (hP (c', mC m' ++ U'))) 1 (fun k => ?_) (Ev.next hz hL hi K)
  have : rn X 30 308 395 [rr 1, rr 2, rr 73, .inl z] [.inl v, .inl v] (hP (c', mC m' ++ U')) (k + 1) = if v = v then rn X 30 308 1442 [rr 1, rr 2, rr 73, .inl z] [] (hP (c', mC m' ++ U')) k else rn X 30 308 398 [rr 1, rr 2, rr 73, .inl z] [] (hP (c', mC m' ++ U')) k := rfl
  rw [if_pos rfl] at this
  exact this
theorem lc_6 {X : Nat × (Nat → Int)} {i n n' : Nat} {c c' : Nat → bS} {U U' : bH} {m m' : bS} {v z : Int} {R : Option bV × bH} (hz : z = (i : Int)) (hL : X.1 ≤ 3072) (hi : i + 6 ≤ X.1) (hp : P_touch n (c, mC m ++ U) (X.2 (i + 1)) (X.2 (i + 2)) = some (v, (c', mC m ++ U'))) (hr : R_touch n' m (X.2 (i + 1)) (X.2 (i + 2)) = some (v, m')) (K : Ev (rn X 30 308 18 [rr 1, rr 2, rr 73, .inl ((i + 6 : Nat) : Int)] [] (hP (c', mC m' ++ U'))) R) : Ev (rn X 30 308 400 [rr 1, rr 2, rr 73, .inl z] [] (hP (c, mC m ++ U))) R := by
  refine Ev.step (G' := rn X 30 308 401 [rr 1, rr 2, rr 73, .inl z] [rr 2] (hP (c, mC m ++ U))) 1 (fun _ => rfl) ?_
  refine Ev.arg 1 (y := 1) hz rfl hL hi (by decide) (fun _ => rfl) ?_
  refine Ev.arg 2 (y := 2) hz rfl hL hi (by decide) (fun _ => rfl) ?_
  have A := s_P_touch X 30 n (c, mC m ++ U) (X.2 (i + 1)) (X.2 (i + 2))
  rw [hp] at A
  refine Ev.call (c := 97) (d' := 30) (ls' := [rr 2, .inl (X.2 (i + 1)), .inl (X.2 (i + 2)), b0]) (r := []) (v := some (.inl v)) (h1 := hP (c', mC m ++ U')) (fun _ => rfl) A.ev ?_
  refine Ev.step (G' := rn X 30 308 415 [rr 1, rr 2, rr 73, .inl z] [rr 73, .inl v] (hP (c', mC m ++ U'))) 1 (fun _ => rfl) ?_
  refine Ev.arg 1 (y := 1) hz rfl hL hi (by decide) (fun _ => rfl) ?_
  refine Ev.arg 2 (y := 2) hz rfl hL hi (by decide) (fun _ => rfl) ?_
  have B := lMi (ls := [rr 2, .inl (X.2 (i + 1)), .inl (X.2 (i + 2))]) (lb := [rr 73, .inl (X.2 (i + 1)), .inl (X.2 (i + 2))]) c' U' m ⟨Or.inr rfl, ⟨Or.inr rfl, ⟨Or.inr rfl, trivial⟩⟩⟩ (s_R_touch X 30 n' m (X.2 (i + 1)) (X.2 (i + 2)))
  rw [hr] at B
  refine Ev.call (c := 257) (d' := 30) (ls' := [rr 73, .inl (X.2 (i + 1)), .inl (X.2 (i + 2))]) (r := [.inl v]) (v := some (.inl v)) (h1 := hP (c', mC m' ++ U')) (fun _ => rfl) B.ev ?_
  refine Ev.step (G' := rn X 30 308 1442 [rr 1, rr 2, rr 73, .inl z] [] (hP (c', mC m' ++ U'))) 1 (fun k => ?_) (Ev.next hz hL hi K)
  have : rn X 30 308 428 [rr 1, rr 2, rr 73, .inl z] [.inl v, .inl v] (hP (c', mC m' ++ U')) (k + 1) = if v = v then rn X 30 308 1442 [rr 1, rr 2, rr 73, .inl z] [] (hP (c', mC m' ++ U')) k else rn X 30 308 431 [rr 1, rr 2, rr 73, .inl z] [] (hP (c', mC m' ++ U')) k := rfl
  rw [if_pos rfl] at this
  exact this
theorem lc_7 {X : Nat × (Nat → Int)} {i n n' : Nat} {c c' : Nat → bS} {U U' : bH} {m m' : bS} {v z : Int} {R : Option bV × bH} (hz : z = (i : Int)) (hL : X.1 ≤ 3072) (hi : i + 6 ≤ X.1) (hp : P_write n (c, mC m ++ U) (X.2 (i + 1)) (X.2 (i + 2)) (X.2 (i + 3)) = some (v, (c', mC m ++ U'))) (hr : R_write n' m (X.2 (i + 1)) (X.2 (i + 2)) (X.2 (i + 3)) = some (v, m')) (K : Ev (rn X 30 308 18 [rr 1, rr 2, rr 73, .inl ((i + 6 : Nat) : Int)] [] (hP (c', mC m' ++ U'))) R) : Ev (rn X 30 308 433 [rr 1, rr 2, rr 73, .inl z] [] (hP (c, mC m ++ U))) R := by
  refine Ev.step (G' := rn X 30 308 434 [rr 1, rr 2, rr 73, .inl z] [rr 2] (hP (c, mC m ++ U))) 1 (fun _ => rfl) ?_
  refine Ev.arg 1 (y := 1) hz rfl hL hi (by decide) (fun _ => rfl) ?_
  refine Ev.arg 2 (y := 2) hz rfl hL hi (by decide) (fun _ => rfl) ?_
  refine Ev.arg 3 (y := 3) hz rfl hL hi (by decide) (fun _ => rfl) ?_
  have A := s_P_write X 30 n (c, mC m ++ U) (X.2 (i + 1)) (X.2 (i + 2)) (X.2 (i + 3))
  rw [hp] at A
  refine Ev.call (c := 98) (d' := 30) (ls' := [rr 2, .inl (X.2 (i + 1)), .inl (X.2 (i + 2)), .inl (X.2 (i + 3)), b0]) (r := []) (v := some (.inl v)) (h1 := hP (c', mC m ++ U')) (fun _ => rfl) A.ev ?_
  refine Ev.step (G' := rn X 30 308 453 [rr 1, rr 2, rr 73, .inl z] [rr 73, .inl v] (hP (c', mC m ++ U'))) 1 (fun _ => rfl) ?_
  refine Ev.arg 1 (y := 1) hz rfl hL hi (by decide) (fun _ => rfl) ?_
  refine Ev.arg 2 (y := 2) hz rfl hL hi (by decide) (fun _ => rfl) ?_
  refine Ev.arg 3 (y := 3) hz rfl hL hi (by decide) (fun _ => rfl) ?_
  have B := lMi (ls := [rr 2, .inl (X.2 (i + 1)), .inl (X.2 (i + 2)), .inl (X.2 (i + 3))]) (lb := [rr 73, .inl (X.2 (i + 1)), .inl (X.2 (i + 2)), .inl (X.2 (i + 3))]) c' U' m ⟨Or.inr rfl, ⟨Or.inr rfl, ⟨Or.inr rfl, ⟨Or.inr rfl, trivial⟩⟩⟩⟩ (s_R_write X 30 n' m (X.2 (i + 1)) (X.2 (i + 2)) (X.2 (i + 3)))
  rw [hr] at B
  refine Ev.call (c := 258) (d' := 30) (ls' := [rr 73, .inl (X.2 (i + 1)), .inl (X.2 (i + 2)), .inl (X.2 (i + 3))]) (r := [.inl v]) (v := some (.inl v)) (h1 := hP (c', mC m' ++ U')) (fun _ => rfl) B.ev ?_
  refine Ev.step (G' := rn X 30 308 1442 [rr 1, rr 2, rr 73, .inl z] [] (hP (c', mC m' ++ U'))) 1 (fun k => ?_) (Ev.next hz hL hi K)
  have : rn X 30 308 471 [rr 1, rr 2, rr 73, .inl z] [.inl v, .inl v] (hP (c', mC m' ++ U')) (k + 1) = if v = v then rn X 30 308 1442 [rr 1, rr 2, rr 73, .inl z] [] (hP (c', mC m' ++ U')) k else rn X 30 308 474 [rr 1, rr 2, rr 73, .inl z] [] (hP (c', mC m' ++ U')) k := rfl
  rw [if_pos rfl] at this
  exact this
theorem lc_8 {X : Nat × (Nat → Int)} {i n n' : Nat} {c c' : Nat → bS} {U U' : bH} {m m' : bS} {v z : Int} {R : Option bV × bH} (hz : z = (i : Int)) (hL : X.1 ≤ 3072) (hi : i + 6 ≤ X.1) (hp : P_copy n (c, mC m ++ U) (X.2 (i + 1)) (X.2 (i + 2)) (X.2 (i + 3)) (X.2 (i + 4)) = some (v, (c', mC m ++ U'))) (hr : R_copy n' m (X.2 (i + 1)) (X.2 (i + 2)) (X.2 (i + 3)) (X.2 (i + 4)) = some (v, m')) (K : Ev (rn X 30 308 18 [rr 1, rr 2, rr 73, .inl ((i + 6 : Nat) : Int)] [] (hP (c', mC m' ++ U'))) R) : Ev (rn X 30 308 476 [rr 1, rr 2, rr 73, .inl z] [] (hP (c, mC m ++ U))) R := by
  refine Ev.step (G' := rn X 30 308 477 [rr 1, rr 2, rr 73, .inl z] [rr 2] (hP (c, mC m ++ U))) 1 (fun _ => rfl) ?_
  refine Ev.arg 1 (y := 1) hz rfl hL hi (by decide) (fun _ => rfl) ?_
  refine Ev.arg 2 (y := 2) hz rfl hL hi (by decide) (fun _ => rfl) ?_
  refine Ev.arg 3 (y := 3) hz rfl hL hi (by decide) (fun _ => rfl) ?_
  refine Ev.arg 4 (y := 4) hz rfl hL hi (by decide) (fun _ => rfl) ?_
  have A := s_P_copy X 30 n (c, mC m ++ U) (X.2 (i + 1)) (X.2 (i + 2)) (X.2 (i + 3)) (X.2 (i + 4))
  rw [hp] at A
  refine Ev.call (c := 99) (d' := 30) (ls' := [rr 2, .inl (X.2 (i + 1)), .inl (X.2 (i + 2)), .inl (X.2 (i + 3)), .inl (X.2 (i + 4)), b0]) (r := []) (v := some (.inl v)) (h1 := hP (c', mC m ++ U')) (fun _ => rfl) A.ev ?_
  refine Ev.step (G' := rn X 30 308 501 [rr 1, rr 2, rr 73, .inl z] [rr 73, .inl v] (hP (c', mC m ++ U'))) 1 (fun _ => rfl) ?_
  refine Ev.arg 1 (y := 1) hz rfl hL hi (by decide) (fun _ => rfl) ?_
  refine Ev.arg 2 (y := 2) hz rfl hL hi (by decide) (fun _ => rfl) ?_
  refine Ev.arg 3 (y := 3) hz rfl hL hi (by decide) (fun _ => rfl) ?_
  refine Ev.arg 4 (y := 4) hz rfl hL hi (by decide) (fun _ => rfl) ?_
  have B := lMi (ls := [rr 2, .inl (X.2 (i + 1)), .inl (X.2 (i + 2)), .inl (X.2 (i + 3)), .inl (X.2 (i + 4))]) (lb := [rr 73, .inl (X.2 (i + 1)), .inl (X.2 (i + 2)), .inl (X.2 (i + 3)), .inl (X.2 (i + 4))]) c' U' m ⟨Or.inr rfl, ⟨Or.inr rfl, ⟨Or.inr rfl, ⟨Or.inr rfl, ⟨Or.inr rfl, trivial⟩⟩⟩⟩⟩ (s_R_copy X 30 n' m (X.2 (i + 1)) (X.2 (i + 2)) (X.2 (i + 3)) (X.2 (i + 4)))
  rw [hr] at B
  refine Ev.call (c := 259) (d' := 30) (ls' := [rr 73, .inl (X.2 (i + 1)), .inl (X.2 (i + 2)), .inl (X.2 (i + 3)), .inl (X.2 (i + 4))]) (r := [.inl v]) (v := some (.inl v)) (h1 := hP (c', mC m' ++ U')) (fun _ => rfl) B.ev ?_
  refine Ev.step (G' := rn X 30 308 1442 [rr 1, rr 2, rr 73, .inl z] [] (hP (c', mC m' ++ U'))) 1 (fun k => ?_) (Ev.next hz hL hi K)
  have : rn X 30 308 524 [rr 1, rr 2, rr 73, .inl z] [.inl v, .inl v] (hP (c', mC m' ++ U')) (k + 1) = if v = v then rn X 30 308 1442 [rr 1, rr 2, rr 73, .inl z] [] (hP (c', mC m' ++ U')) k else rn X 30 308 527 [rr 1, rr 2, rr 73, .inl z] [] (hP (c', mC m' ++ U')) k := rfl
  rw [if_pos rfl] at this
  exact this
theorem lc_9 {X : Nat × (Nat → Int)} {i n n' : Nat} {c c' : Nat → bS} {U U' : bH} {m m' : bS} {v z : Int} {R : Option bV × bH} (hz : z = (i : Int)) (hL : X.1 ≤ 3072) (hi : i + 6 ≤ X.1) (hp : P_sweep n (c, mC m ++ U) (X.2 (i + 1)) = some (v, (c', mC m ++ U'))) (hr : R_sweep n' m (X.2 (i + 1)) = some (v, m')) (K : Ev (rn X 30 308 18 [rr 1, rr 2, rr 73, .inl ((i + 6 : Nat) : Int)] [] (hP (c', mC m' ++ U'))) R) : Ev (rn X 30 308 529 [rr 1, rr 2, rr 73, .inl z] [] (hP (c, mC m ++ U))) R := by
  refine Ev.step (G' := rn X 30 308 530 [rr 1, rr 2, rr 73, .inl z] [rr 2] (hP (c, mC m ++ U))) 1 (fun _ => rfl) ?_
  refine Ev.arg 1 (y := 1) hz rfl hL hi (by decide) (fun _ => rfl) ?_
  have A := s_P_sweep X 30 n (c, mC m ++ U) (X.2 (i + 1))
  rw [hp] at A
  refine Ev.call (c := 100) (d' := 30) (ls' := [rr 2, .inl (X.2 (i + 1)), b0]) (r := []) (v := some (.inl v)) (h1 := hP (c', mC m ++ U')) (fun _ => rfl) A.ev ?_
  refine Ev.step (G' := rn X 30 308 539 [rr 1, rr 2, rr 73, .inl z] [rr 73, .inl v] (hP (c', mC m ++ U'))) 1 (fun _ => rfl) ?_
  refine Ev.arg 1 (y := 1) hz rfl hL hi (by decide) (fun _ => rfl) ?_
  have B := lMi (ls := [rr 2, .inl (X.2 (i + 1))]) (lb := [rr 73, .inl (X.2 (i + 1))]) c' U' m ⟨Or.inr rfl, ⟨Or.inr rfl, trivial⟩⟩ (s_R_sweep X 30 n' m (X.2 (i + 1)))
  rw [hr] at B
  refine Ev.call (c := 260) (d' := 30) (ls' := [rr 73, .inl (X.2 (i + 1))]) (r := [.inl v]) (v := some (.inl v)) (h1 := hP (c', mC m' ++ U')) (fun _ => rfl) B.ev ?_
  refine Ev.step (G' := rn X 30 308 1442 [rr 1, rr 2, rr 73, .inl z] [] (hP (c', mC m' ++ U'))) 1 (fun k => ?_) (Ev.next hz hL hi K)
  have : rn X 30 308 547 [rr 1, rr 2, rr 73, .inl z] [.inl v, .inl v] (hP (c', mC m' ++ U')) (k + 1) = if v = v then rn X 30 308 1442 [rr 1, rr 2, rr 73, .inl z] [] (hP (c', mC m' ++ U')) k else rn X 30 308 550 [rr 1, rr 2, rr 73, .inl z] [] (hP (c', mC m' ++ U')) k := rfl
  rw [if_pos rfl] at this
  exact this
theorem lc_10 {X : Nat × (Nat → Int)} {i n n' : Nat} {c c' : Nat → bS} {U U' : bH} {m m' : bS} {v z : Int} {R : Option bV × bH} (hz : z = (i : Int)) (hL : X.1 ≤ 3072) (hi : i + 6 ≤ X.1) (hp : P_empty n (c, mC m ++ U) (X.2 (i + 1)) = some (v, (c', mC m ++ U'))) (hr : R_empty n' m (X.2 (i + 1)) = some (v, m')) (K : Ev (rn X 30 308 18 [rr 1, rr 2, rr 73, .inl ((i + 6 : Nat) : Int)] [] (hP (c', mC m' ++ U'))) R) : Ev (rn X 30 308 552 [rr 1, rr 2, rr 73, .inl z] [] (hP (c, mC m ++ U))) R := by
  refine Ev.step (G' := rn X 30 308 553 [rr 1, rr 2, rr 73, .inl z] [rr 2] (hP (c, mC m ++ U))) 1 (fun _ => rfl) ?_
  refine Ev.arg 1 (y := 1) hz rfl hL hi (by decide) (fun _ => rfl) ?_
  have A := s_P_empty X 30 n (c, mC m ++ U) (X.2 (i + 1))
  rw [hp] at A
  refine Ev.call (c := 101) (d' := 30) (ls' := [rr 2, .inl (X.2 (i + 1)), b0]) (r := []) (v := some (.inl v)) (h1 := hP (c', mC m ++ U')) (fun _ => rfl) A.ev ?_
  refine Ev.step (G' := rn X 30 308 562 [rr 1, rr 2, rr 73, .inl z] [rr 73, .inl v] (hP (c', mC m ++ U'))) 1 (fun _ => rfl) ?_
  refine Ev.arg 1 (y := 1) hz rfl hL hi (by decide) (fun _ => rfl) ?_
  have B := lMi (ls := [rr 2, .inl (X.2 (i + 1))]) (lb := [rr 73, .inl (X.2 (i + 1))]) c' U' m ⟨Or.inr rfl, ⟨Or.inr rfl, trivial⟩⟩ (s_R_empty X 30 n' m (X.2 (i + 1)))
  rw [hr] at B
  refine Ev.call (c := 261) (d' := 30) (ls' := [rr 73, .inl (X.2 (i + 1))]) (r := [.inl v]) (v := some (.inl v)) (h1 := hP (c', mC m' ++ U')) (fun _ => rfl) B.ev ?_
  refine Ev.step (G' := rn X 30 308 1442 [rr 1, rr 2, rr 73, .inl z] [] (hP (c', mC m' ++ U'))) 1 (fun k => ?_) (Ev.next hz hL hi K)
  have : rn X 30 308 570 [rr 1, rr 2, rr 73, .inl z] [.inl v, .inl v] (hP (c', mC m' ++ U')) (k + 1) = if v = v then rn X 30 308 1442 [rr 1, rr 2, rr 73, .inl z] [] (hP (c', mC m' ++ U')) k else rn X 30 308 573 [rr 1, rr 2, rr 73, .inl z] [] (hP (c', mC m' ++ U')) k := rfl
  rw [if_pos rfl] at this
  exact this
theorem lc_11 {X : Nat × (Nat → Int)} {i n n' : Nat} {c c' : Nat → bS} {U U' : bH} {m m' : bS} {v z : Int} {R : Option bV × bH} (hz : z = (i : Int)) (hL : X.1 ≤ 3072) (hi : i + 6 ≤ X.1) (hp : P_drop n (c, mC m ++ U) (X.2 (i + 1)) = some (v, (c', mC m ++ U'))) (hr : R_drop n' m (X.2 (i + 1)) = some (v, m')) (K : Ev (rn X 30 308 18 [rr 1, rr 2, rr 73, .inl ((i + 6 : Nat) : Int)] [] (hP (c', mC m' ++ U'))) R) : Ev (rn X 30 308 575 [rr 1, rr 2, rr 73, .inl z] [] (hP (c, mC m ++ U))) R := by
  refine Ev.step (G' := rn X 30 308 576 [rr 1, rr 2, rr 73, .inl z] [rr 2] (hP (c, mC m ++ U))) 1 (fun _ => rfl) ?_
  refine Ev.arg 1 (y := 1) hz rfl hL hi (by decide) (fun _ => rfl) ?_
  have A := s_P_drop X 30 n (c, mC m ++ U) (X.2 (i + 1))
  rw [hp] at A
  refine Ev.call (c := 102) (d' := 30) (ls' := [rr 2, .inl (X.2 (i + 1))]) (r := []) (v := some (.inl v)) (h1 := hP (c', mC m ++ U')) (fun _ => rfl) A.ev ?_
  refine Ev.step (G' := rn X 30 308 585 [rr 1, rr 2, rr 73, .inl z] [rr 73, .inl v] (hP (c', mC m ++ U'))) 1 (fun _ => rfl) ?_
  refine Ev.arg 1 (y := 1) hz rfl hL hi (by decide) (fun _ => rfl) ?_
  have B := lMi (ls := [rr 2, .inl (X.2 (i + 1))]) (lb := [rr 73, .inl (X.2 (i + 1))]) c' U' m ⟨Or.inr rfl, ⟨Or.inr rfl, trivial⟩⟩ (s_R_drop X 30 n' m (X.2 (i + 1)))
  rw [hr] at B
  refine Ev.call (c := 262) (d' := 30) (ls' := [rr 73, .inl (X.2 (i + 1))]) (r := [.inl v]) (v := some (.inl v)) (h1 := hP (c', mC m' ++ U')) (fun _ => rfl) B.ev ?_
  refine Ev.step (G' := rn X 30 308 1442 [rr 1, rr 2, rr 73, .inl z] [] (hP (c', mC m' ++ U'))) 1 (fun k => ?_) (Ev.next hz hL hi K)
  have : rn X 30 308 593 [rr 1, rr 2, rr 73, .inl z] [.inl v, .inl v] (hP (c', mC m' ++ U')) (k + 1) = if v = v then rn X 30 308 1442 [rr 1, rr 2, rr 73, .inl z] [] (hP (c', mC m' ++ U')) k else rn X 30 308 596 [rr 1, rr 2, rr 73, .inl z] [] (hP (c', mC m' ++ U')) k := rfl
  rw [if_pos rfl] at this
  exact this
theorem lc_12 {X : Nat × (Nat → Int)} {i n n' : Nat} {c c' : Nat → bS} {U U' : bH} {m m' : bS} {v z : Int} {R : Option bV × bH} (hz : z = (i : Int)) (hL : X.1 ≤ 3072) (hi : i + 6 ≤ X.1) (hp : P_day n (c, mC m ++ U) (X.2 (i + 1)) = some (v, (c', mC m ++ U'))) (hr : R_day n' m (X.2 (i + 1)) = some (v, m')) (K : Ev (rn X 30 308 18 [rr 1, rr 2, rr 73, .inl ((i + 6 : Nat) : Int)] [] (hP (c', mC m' ++ U'))) R) : Ev (rn X 30 308 598 [rr 1, rr 2, rr 73, .inl z] [] (hP (c, mC m ++ U))) R := by
  refine Ev.step (G' := rn X 30 308 599 [rr 1, rr 2, rr 73, .inl z] [rr 2] (hP (c, mC m ++ U))) 1 (fun _ => rfl) ?_
  refine Ev.arg 1 (y := 1) hz rfl hL hi (by decide) (fun _ => rfl) ?_
  have A := s_P_day X 30 n (c, mC m ++ U) (X.2 (i + 1))
  rw [hp] at A
  refine Ev.call (c := 103) (d' := 30) (ls' := [rr 2, .inl (X.2 (i + 1))]) (r := []) (v := some (.inl v)) (h1 := hP (c', mC m ++ U')) (fun _ => rfl) A.ev ?_
  refine Ev.step (G' := rn X 30 308 608 [rr 1, rr 2, rr 73, .inl z] [rr 73, .inl v] (hP (c', mC m ++ U'))) 1 (fun _ => rfl) ?_
  refine Ev.arg 1 (y := 1) hz rfl hL hi (by decide) (fun _ => rfl) ?_
  have B := lMi (ls := [rr 2, .inl (X.2 (i + 1))]) (lb := [rr 73, .inl (X.2 (i + 1))]) c' U' m ⟨Or.inr rfl, ⟨Or.inr rfl, trivial⟩⟩ (s_R_day X 30 n' m (X.2 (i + 1)))
  rw [hr] at B
  refine Ev.call (c := 264) (d' := 30) (ls' := [rr 73, .inl (X.2 (i + 1))]) (r := [.inl v]) (v := some (.inl v)) (h1 := hP (c', mC m' ++ U')) (fun _ => rfl) B.ev ?_
  refine Ev.step (G' := rn X 30 308 1442 [rr 1, rr 2, rr 73, .inl z] [] (hP (c', mC m' ++ U'))) 1 (fun k => ?_) (Ev.next hz hL hi K)
  have : rn X 30 308 616 [rr 1, rr 2, rr 73, .inl z] [.inl v, .inl v] (hP (c', mC m' ++ U')) (k + 1) = if v = v then rn X 30 308 1442 [rr 1, rr 2, rr 73, .inl z] [] (hP (c', mC m' ++ U')) k else rn X 30 308 619 [rr 1, rr 2, rr 73, .inl z] [] (hP (c', mC m' ++ U')) k := rfl
  rw [if_pos rfl] at this
  exact this
theorem lc_13 {X : Nat × (Nat → Int)} {i n n' : Nat} {c c' : Nat → bS} {U U' : bH} {m m' : bS} {v z : Int} {R : Option bV × bH} (hz : z = (i : Int)) (hL : X.1 ≤ 3072) (hi : i + 6 ≤ X.1) (hp : P_played (0, z0) n (c, mC m ++ U) (X.2 (i + 1)) = some (v, (c', mC m ++ U'))) (hr : R_played n' m (X.2 (i + 1)) = some (v, m')) (K : Ev (rn X 30 308 18 [rr 1, rr 2, rr 73, .inl ((i + 6 : Nat) : Int)] [] (hP (c', mC m' ++ U'))) R) : Ev (rn X 30 308 621 [rr 1, rr 2, rr 73, .inl z] [] (hP (c, mC m ++ U))) R := by
  refine Ev.step (G' := rn X 30 308 622 [rr 1, rr 2, rr 73, .inl z] [rr 2] (hP (c, mC m ++ U))) 1 (fun _ => rfl) ?_
  refine Ev.arg 1 (y := 1) hz rfl hL hi (by decide) (fun _ => rfl) ?_
  have A := s_P_played X 30 (0, z0) n (c, mC m ++ U) (X.2 (i + 1))
  rw [hp] at A
  refine Ev.call (c := 104) (d' := 30) (ls' := [rr 2, .inl (X.2 (i + 1)), b0, b0, b0, b0, b0, b0]) (r := []) (v := some (.inl v)) (h1 := hP (c', mC m ++ U')) (fun _ => rfl) A.ev ?_
  refine Ev.step (G' := rn X 30 308 631 [rr 1, rr 2, rr 73, .inl z] [rr 73, .inl v] (hP (c', mC m ++ U'))) 1 (fun _ => rfl) ?_
  refine Ev.arg 1 (y := 1) hz rfl hL hi (by decide) (fun _ => rfl) ?_
  have B := lMi (ls := [rr 2, .inl (X.2 (i + 1)), b0]) (lb := [rr 73, .inl (X.2 (i + 1)), b0]) c' U' m ⟨Or.inr rfl, ⟨Or.inr rfl, ⟨Or.inl rfl, trivial⟩⟩⟩ (s_R_played X 30 n' m (X.2 (i + 1)))
  rw [hr] at B
  refine Ev.call (c := 266) (d' := 30) (ls' := [rr 73, .inl (X.2 (i + 1)), b0]) (r := [.inl v]) (v := some (.inl v)) (h1 := hP (c', mC m' ++ U')) (fun _ => rfl) B.ev ?_
  refine Ev.step (G' := rn X 30 308 1442 [rr 1, rr 2, rr 73, .inl z] [] (hP (c', mC m' ++ U'))) 1 (fun k => ?_) (Ev.next hz hL hi K)
  have : rn X 30 308 639 [rr 1, rr 2, rr 73, .inl z] [.inl v, .inl v] (hP (c', mC m' ++ U')) (k + 1) = if v = v then rn X 30 308 1442 [rr 1, rr 2, rr 73, .inl z] [] (hP (c', mC m' ++ U')) k else rn X 30 308 642 [rr 1, rr 2, rr 73, .inl z] [] (hP (c', mC m' ++ U')) k := rfl
  rw [if_pos rfl] at this
  exact this
theorem lc_14 {X : Nat × (Nat → Int)} {i n n' : Nat} {c c' : Nat → bS} {U U' : bH} {m m' : bS} {v z : Int} {R : Option bV × bH} (hz : z = (i : Int)) (hL : X.1 ≤ 3072) (hi : i + 6 ≤ X.1) (hp : P_years n (c, mC m ++ U) (X.2 (i + 1)) (X.2 (i + 2)) = some (v, (c', mC m ++ U'))) (hr : R_years n' m (X.2 (i + 1)) (X.2 (i + 2)) = some (v, m')) (K : Ev (rn X 30 308 18 [rr 1, rr 2, rr 73, .inl ((i + 6 : Nat) : Int)] [] (hP (c', mC m' ++ U'))) R) : Ev (rn X 30 308 644 [rr 1, rr 2, rr 73, .inl z] [] (hP (c, mC m ++ U))) R := by
  refine Ev.step (G' := rn X 30 308 645 [rr 1, rr 2, rr 73, .inl z] [rr 2] (hP (c, mC m ++ U))) 1 (fun _ => rfl) ?_
  refine Ev.arg 1 (y := 1) hz rfl hL hi (by decide) (fun _ => rfl) ?_
  refine Ev.arg 2 (y := 2) hz rfl hL hi (by decide) (fun _ => rfl) ?_
  have A := s_P_years X 30 n (c, mC m ++ U) (X.2 (i + 1)) (X.2 (i + 2))
  rw [hp] at A
  refine Ev.call (c := 105) (d' := 30) (ls' := [rr 2, .inl (X.2 (i + 1)), .inl (X.2 (i + 2)), b0]) (r := []) (v := some (.inl v)) (h1 := hP (c', mC m ++ U')) (fun _ => rfl) A.ev ?_
  refine Ev.step (G' := rn X 30 308 659 [rr 1, rr 2, rr 73, .inl z] [rr 73, .inl v] (hP (c', mC m ++ U'))) 1 (fun _ => rfl) ?_
  refine Ev.arg 1 (y := 1) hz rfl hL hi (by decide) (fun _ => rfl) ?_
  refine Ev.arg 2 (y := 2) hz rfl hL hi (by decide) (fun _ => rfl) ?_
  have B := lMi (ls := [rr 2, .inl (X.2 (i + 1)), .inl (X.2 (i + 2)), b0]) (lb := [rr 73, .inl (X.2 (i + 1)), .inl (X.2 (i + 2)), b0]) c' U' m ⟨Or.inr rfl, ⟨Or.inr rfl, ⟨Or.inr rfl, ⟨Or.inl rfl, trivial⟩⟩⟩⟩ (s_R_years X 30 n' m (X.2 (i + 1)) (X.2 (i + 2)))
  rw [hr] at B
  refine Ev.call (c := 267) (d' := 30) (ls' := [rr 73, .inl (X.2 (i + 1)), .inl (X.2 (i + 2)), b0]) (r := [.inl v]) (v := some (.inl v)) (h1 := hP (c', mC m' ++ U')) (fun _ => rfl) B.ev ?_
  refine Ev.step (G' := rn X 30 308 1442 [rr 1, rr 2, rr 73, .inl z] [] (hP (c', mC m' ++ U'))) 1 (fun k => ?_) (Ev.next hz hL hi K)
  have : rn X 30 308 672 [rr 1, rr 2, rr 73, .inl z] [.inl v, .inl v] (hP (c', mC m' ++ U')) (k + 1) = if v = v then rn X 30 308 1442 [rr 1, rr 2, rr 73, .inl z] [] (hP (c', mC m' ++ U')) k else rn X 30 308 675 [rr 1, rr 2, rr 73, .inl z] [] (hP (c', mC m' ++ U')) k := rfl
  rw [if_pos rfl] at this
  exact this
theorem lc_15 {X : Nat × (Nat → Int)} {i n n' : Nat} {c c' : Nat → bS} {U U' : bH} {m m' : bS} {v z : Int} {R : Option bV × bH} (hz : z = (i : Int)) (hL : X.1 ≤ 3072) (hi : i + 6 ≤ X.1) (hp : P_undo n (c, mC m ++ U)  = some (v, (c', mC m ++ U'))) (hr : R_undo n' m  = some (v, m')) (K : Ev (rn X 30 308 18 [rr 1, rr 2, rr 73, .inl ((i + 6 : Nat) : Int)] [] (hP (c', mC m' ++ U'))) R) : Ev (rn X 30 308 677 [rr 1, rr 2, rr 73, .inl z] [] (hP (c, mC m ++ U))) R := by
  refine Ev.step (G' := rn X 30 308 678 [rr 1, rr 2, rr 73, .inl z] [rr 2] (hP (c, mC m ++ U))) 1 (fun _ => rfl) ?_
  have A := s_P_undo X 30 n (c, mC m ++ U) 
  rw [hp] at A
  refine Ev.call (c := 106) (d' := 30) (ls' := [rr 2]) (r := []) (v := some (.inl v)) (h1 := hP (c', mC m ++ U')) (fun _ => rfl) A.ev ?_
  refine Ev.step (G' := rn X 30 308 682 [rr 1, rr 2, rr 73, .inl z] [rr 73, .inl v] (hP (c', mC m ++ U'))) 1 (fun _ => rfl) ?_
  have B := lMi (ls := [rr 2, b0, b0]) (lb := [rr 73, b0, b0]) c' U' m ⟨Or.inr rfl, ⟨Or.inl rfl, ⟨Or.inl rfl, trivial⟩⟩⟩ (s_R_undo X 30 n' m )
  rw [hr] at B
  refine Ev.call (c := 256) (d' := 30) (ls' := [rr 73, b0, b0]) (r := [.inl v]) (v := some (.inl v)) (h1 := hP (c', mC m' ++ U')) (fun _ => rfl) B.ev ?_
  refine Ev.step (G' := rn X 30 308 1442 [rr 1, rr 2, rr 73, .inl z] [] (hP (c', mC m' ++ U'))) 1 (fun k => ?_) (Ev.next hz hL hi K)
  have : rn X 30 308 685 [rr 1, rr 2, rr 73, .inl z] [.inl v, .inl v] (hP (c', mC m' ++ U')) (k + 1) = if v = v then rn X 30 308 1442 [rr 1, rr 2, rr 73, .inl z] [] (hP (c', mC m' ++ U')) k else rn X 30 308 688 [rr 1, rr 2, rr 73, .inl z] [] (hP (c', mC m' ++ U')) k := rfl
  rw [if_pos rfl] at this
  exact this
theorem lc_16 {X : Nat × (Nat → Int)} {i n n' : Nat} {c c' : Nat → bS} {U U' : bH} {m m' : bS} {v z : Int} {R : Option bV × bH} (hz : z = (i : Int)) (hL : X.1 ≤ 3072) (hi : i + 6 ≤ X.1) (hp : P_page n (c, mC m ++ U) (X.2 (i + 1)) (X.2 (i + 2)) (X.2 (i + 3)) = some (v, (c', mC m ++ U'))) (hr : R_page n' m (X.2 (i + 1)) (X.2 (i + 2)) (X.2 (i + 3)) = some (v, m')) (K : Ev (rn X 30 308 18 [rr 1, rr 2, rr 73, .inl ((i + 6 : Nat) : Int)] [] (hP (c', mC m' ++ U'))) R) : Ev (rn X 30 308 690 [rr 1, rr 2, rr 73, .inl z] [] (hP (c, mC m ++ U))) R := by
  refine Ev.step (G' := rn X 30 308 691 [rr 1, rr 2, rr 73, .inl z] [rr 2] (hP (c, mC m ++ U))) 1 (fun _ => rfl) ?_
  refine Ev.arg 1 (y := 1) hz rfl hL hi (by decide) (fun _ => rfl) ?_
  refine Ev.arg 2 (y := 2) hz rfl hL hi (by decide) (fun _ => rfl) ?_
  refine Ev.arg 3 (y := 3) hz rfl hL hi (by decide) (fun _ => rfl) ?_
  have A := s_P_page X 30 n (c, mC m ++ U) (X.2 (i + 1)) (X.2 (i + 2)) (X.2 (i + 3))
  rw [hp] at A
  refine Ev.call (c := 107) (d' := 30) (ls' := [rr 2, .inl (X.2 (i + 1)), .inl (X.2 (i + 2)), .inl (X.2 (i + 3)), b0]) (r := []) (v := some (.inl v)) (h1 := hP (c', mC m ++ U')) (fun _ => rfl) A.ev ?_
  refine Ev.step (G' := rn X 30 308 710 [rr 1, rr 2, rr 73, .inl z] [rr 73, .inl v] (hP (c', mC m ++ U'))) 1 (fun _ => rfl) ?_
  refine Ev.arg 1 (y := 1) hz rfl hL hi (by decide) (fun _ => rfl) ?_
  refine Ev.arg 2 (y := 2) hz rfl hL hi (by decide) (fun _ => rfl) ?_
  refine Ev.arg 3 (y := 3) hz rfl hL hi (by decide) (fun _ => rfl) ?_
  have B := lMi (ls := [rr 2, .inl (X.2 (i + 1)), .inl (X.2 (i + 2)), .inl (X.2 (i + 3))]) (lb := [rr 73, .inl (X.2 (i + 1)), .inl (X.2 (i + 2)), .inl (X.2 (i + 3))]) c' U' m ⟨Or.inr rfl, ⟨Or.inr rfl, ⟨Or.inr rfl, ⟨Or.inr rfl, trivial⟩⟩⟩⟩ (s_R_page X 30 n' m (X.2 (i + 1)) (X.2 (i + 2)) (X.2 (i + 3)))
  rw [hr] at B
  refine Ev.call (c := 268) (d' := 30) (ls' := [rr 73, .inl (X.2 (i + 1)), .inl (X.2 (i + 2)), .inl (X.2 (i + 3))]) (r := [.inl v]) (v := some (.inl v)) (h1 := hP (c', mC m' ++ U')) (fun _ => rfl) B.ev ?_
  refine Ev.step (G' := rn X 30 308 1442 [rr 1, rr 2, rr 73, .inl z] [] (hP (c', mC m' ++ U'))) 1 (fun k => ?_) (Ev.next hz hL hi K)
  have : rn X 30 308 728 [rr 1, rr 2, rr 73, .inl z] [.inl v, .inl v] (hP (c', mC m' ++ U')) (k + 1) = if v = v then rn X 30 308 1442 [rr 1, rr 2, rr 73, .inl z] [] (hP (c', mC m' ++ U')) k else rn X 30 308 731 [rr 1, rr 2, rr 73, .inl z] [] (hP (c', mC m' ++ U')) k := rfl
  rw [if_pos rfl] at this
  exact this
theorem lc_17 {X : Nat × (Nat → Int)} {i n n' : Nat} {c c' : Nat → bS} {U U' : bH} {m m' : bS} {v z : Int} {R : Option bV × bH} (hz : z = (i : Int)) (hL : X.1 ≤ 3072) (hi : i + 6 ≤ X.1) (hp : P_frame n (c, mC m ++ U) (X.2 (i + 1)) = some (v, (c', mC m ++ U'))) (hr : R_frame n' m (X.2 (i + 1)) = some (v, m')) (K : Ev (rn X 30 308 18 [rr 1, rr 2, rr 73, .inl ((i + 6 : Nat) : Int)] [] (hP (c', mC m' ++ U'))) R) : Ev (rn X 30 308 733 [rr 1, rr 2, rr 73, .inl z] [] (hP (c, mC m ++ U))) R := by
  refine Ev.step (G' := rn X 30 308 734 [rr 1, rr 2, rr 73, .inl z] [rr 2] (hP (c, mC m ++ U))) 1 (fun _ => rfl) ?_
  refine Ev.arg 1 (y := 1) hz rfl hL hi (by decide) (fun _ => rfl) ?_
  have A := s_P_frame X 30 n (c, mC m ++ U) (X.2 (i + 1))
  rw [hp] at A
  refine Ev.call (c := 108) (d' := 30) (ls' := [rr 2, .inl (X.2 (i + 1))]) (r := []) (v := some (.inl v)) (h1 := hP (c', mC m ++ U')) (fun _ => rfl) A.ev ?_
  refine Ev.step (G' := rn X 30 308 743 [rr 1, rr 2, rr 73, .inl z] [rr 73, .inl v] (hP (c', mC m ++ U'))) 1 (fun _ => rfl) ?_
  refine Ev.arg 1 (y := 1) hz rfl hL hi (by decide) (fun _ => rfl) ?_
  have B := lMi (ls := [rr 2, .inl (X.2 (i + 1))]) (lb := [rr 73, .inl (X.2 (i + 1))]) c' U' m ⟨Or.inr rfl, ⟨Or.inr rfl, trivial⟩⟩ (s_R_frame X 30 n' m (X.2 (i + 1)))
  rw [hr] at B
  refine Ev.call (c := 269) (d' := 30) (ls' := [rr 73, .inl (X.2 (i + 1))]) (r := [.inl v]) (v := some (.inl v)) (h1 := hP (c', mC m' ++ U')) (fun _ => rfl) B.ev ?_
  refine Ev.step (G' := rn X 30 308 1442 [rr 1, rr 2, rr 73, .inl z] [] (hP (c', mC m' ++ U'))) 1 (fun k => ?_) (Ev.next hz hL hi K)
  have : rn X 30 308 751 [rr 1, rr 2, rr 73, .inl z] [.inl v, .inl v] (hP (c', mC m' ++ U')) (k + 1) = if v = v then rn X 30 308 1442 [rr 1, rr 2, rr 73, .inl z] [] (hP (c', mC m' ++ U')) k else rn X 30 308 754 [rr 1, rr 2, rr 73, .inl z] [] (hP (c', mC m' ++ U')) k := rfl
  rw [if_pos rfl] at this
  exact this
theorem lc_18 {X : Nat × (Nat → Int)} {i n n' : Nat} {c c' : Nat → bS} {U U' : bH} {m m' : bS} {v z : Int} {R : Option bV × bH} (hz : z = (i : Int)) (hL : X.1 ≤ 3072) (hi : i + 6 ≤ X.1) (hp : P_reserved n (c, mC m ++ U) (X.2 (i + 1)) (X.2 (i + 2)) = some (v, (c', mC m ++ U'))) (hr : R_reserved n' m (X.2 (i + 1)) (X.2 (i + 2)) = some (v, m')) (K : Ev (rn X 30 308 18 [rr 1, rr 2, rr 73, .inl ((i + 6 : Nat) : Int)] [] (hP (c', mC m' ++ U'))) R) : Ev (rn X 30 308 756 [rr 1, rr 2, rr 73, .inl z] [] (hP (c, mC m ++ U))) R := by
  refine Ev.step (G' := rn X 30 308 757 [rr 1, rr 2, rr 73, .inl z] [rr 2] (hP (c, mC m ++ U))) 1 (fun _ => rfl) ?_
  refine Ev.arg 1 (y := 1) hz rfl hL hi (by decide) (fun _ => rfl) ?_
  refine Ev.arg 2 (y := 2) hz rfl hL hi (by decide) (fun _ => rfl) ?_
  have A := s_P_reserved X 30 n (c, mC m ++ U) (X.2 (i + 1)) (X.2 (i + 2))
  rw [hp] at A
  refine Ev.call (c := 109) (d' := 30) (ls' := [rr 2, .inl (X.2 (i + 1)), .inl (X.2 (i + 2)), b0]) (r := []) (v := some (.inl v)) (h1 := hP (c', mC m ++ U')) (fun _ => rfl) A.ev ?_
  refine Ev.step (G' := rn X 30 308 771 [rr 1, rr 2, rr 73, .inl z] [rr 73, .inl v] (hP (c', mC m ++ U'))) 1 (fun _ => rfl) ?_
  refine Ev.arg 1 (y := 1) hz rfl hL hi (by decide) (fun _ => rfl) ?_
  refine Ev.arg 2 (y := 2) hz rfl hL hi (by decide) (fun _ => rfl) ?_
  have B := lMi (ls := [rr 2, .inl (X.2 (i + 1)), .inl (X.2 (i + 2)), b0]) (lb := [rr 73, .inl (X.2 (i + 1)), .inl (X.2 (i + 2)), b0]) c' U' m ⟨Or.inr rfl, ⟨Or.inr rfl, ⟨Or.inr rfl, ⟨Or.inl rfl, trivial⟩⟩⟩⟩ (s_R_reserved X 30 n' m (X.2 (i + 1)) (X.2 (i + 2)))
  rw [hr] at B
  refine Ev.call (c := 272) (d' := 30) (ls' := [rr 73, .inl (X.2 (i + 1)), .inl (X.2 (i + 2)), b0]) (r := [.inl v]) (v := some (.inl v)) (h1 := hP (c', mC m' ++ U')) (fun _ => rfl) B.ev ?_
  refine Ev.step (G' := rn X 30 308 1442 [rr 1, rr 2, rr 73, .inl z] [] (hP (c', mC m' ++ U'))) 1 (fun k => ?_) (Ev.next hz hL hi K)
  have : rn X 30 308 784 [rr 1, rr 2, rr 73, .inl z] [.inl v, .inl v] (hP (c', mC m' ++ U')) (k + 1) = if v = v then rn X 30 308 1442 [rr 1, rr 2, rr 73, .inl z] [] (hP (c', mC m' ++ U')) k else rn X 30 308 787 [rr 1, rr 2, rr 73, .inl z] [] (hP (c', mC m' ++ U')) k := rfl
  rw [if_pos rfl] at this
  exact this
theorem lc_19 {X : Nat × (Nat → Int)} {i n n' : Nat} {c c' : Nat → bS} {U U' : bH} {m m' : bS} {v z : Int} {R : Option bV × bH} (hz : z = (i : Int)) (hL : X.1 ≤ 3072) (hi : i + 6 ≤ X.1) (hp : P_let n (c, mC m ++ U) (X.2 (i + 1)) = some (v, (c', mC m ++ U'))) (hr : R_let n' m (X.2 (i + 1)) = some (v, m')) (K : Ev (rn X 30 308 18 [rr 1, rr 2, rr 73, .inl ((i + 6 : Nat) : Int)] [] (hP (c', mC m' ++ U'))) R) : Ev (rn X 30 308 789 [rr 1, rr 2, rr 73, .inl z] [] (hP (c, mC m ++ U))) R := by
  refine Ev.step (G' := rn X 30 308 790 [rr 1, rr 2, rr 73, .inl z] [rr 2] (hP (c, mC m ++ U))) 1 (fun _ => rfl) ?_
  refine Ev.arg 1 (y := 1) hz rfl hL hi (by decide) (fun _ => rfl) ?_
  have A := s_P_let X 30 n (c, mC m ++ U) (X.2 (i + 1))
  rw [hp] at A
  refine Ev.call (c := 110) (d' := 30) (ls' := [rr 2, .inl (X.2 (i + 1))]) (r := []) (v := some (.inl v)) (h1 := hP (c', mC m ++ U')) (fun _ => rfl) A.ev ?_
  refine Ev.step (G' := rn X 30 308 799 [rr 1, rr 2, rr 73, .inl z] [rr 73, .inl v] (hP (c', mC m ++ U'))) 1 (fun _ => rfl) ?_
  refine Ev.arg 1 (y := 1) hz rfl hL hi (by decide) (fun _ => rfl) ?_
  have B := lMi (ls := [rr 2, .inl (X.2 (i + 1))]) (lb := [rr 73, .inl (X.2 (i + 1))]) c' U' m ⟨Or.inr rfl, ⟨Or.inr rfl, trivial⟩⟩ (s_R_let X 30 n' m (X.2 (i + 1)))
  rw [hr] at B
  refine Ev.call (c := 273) (d' := 30) (ls' := [rr 73, .inl (X.2 (i + 1))]) (r := [.inl v]) (v := some (.inl v)) (h1 := hP (c', mC m' ++ U')) (fun _ => rfl) B.ev ?_
  refine Ev.step (G' := rn X 30 308 1442 [rr 1, rr 2, rr 73, .inl z] [] (hP (c', mC m' ++ U'))) 1 (fun k => ?_) (Ev.next hz hL hi K)
  have : rn X 30 308 807 [rr 1, rr 2, rr 73, .inl z] [.inl v, .inl v] (hP (c', mC m' ++ U')) (k + 1) = if v = v then rn X 30 308 1442 [rr 1, rr 2, rr 73, .inl z] [] (hP (c', mC m' ++ U')) k else rn X 30 308 810 [rr 1, rr 2, rr 73, .inl z] [] (hP (c', mC m' ++ U')) k := rfl
  rw [if_pos rfl] at this
  exact this
theorem lc_20 {X : Nat × (Nat → Int)} {i n n' : Nat} {c c' : Nat → bS} {U U' : bH} {m m' : bS} {v z : Int} {R : Option bV × bH} (hz : z = (i : Int)) (hL : X.1 ≤ 3072) (hi : i + 6 ≤ X.1) (hp : P_is n (c, mC m ++ U) (X.2 (i + 1)) = some (v, (c', mC m ++ U'))) (hr : R_is n' m (X.2 (i + 1)) = some (v, m')) (K : Ev (rn X 30 308 18 [rr 1, rr 2, rr 73, .inl ((i + 6 : Nat) : Int)] [] (hP (c', mC m' ++ U'))) R) : Ev (rn X 30 308 812 [rr 1, rr 2, rr 73, .inl z] [] (hP (c, mC m ++ U))) R := by
  refine Ev.step (G' := rn X 30 308 813 [rr 1, rr 2, rr 73, .inl z] [rr 2] (hP (c, mC m ++ U))) 1 (fun _ => rfl) ?_
  refine Ev.arg 1 (y := 1) hz rfl hL hi (by decide) (fun _ => rfl) ?_
  have A := s_P_is X 30 n (c, mC m ++ U) (X.2 (i + 1))
  rw [hp] at A
  refine Ev.call (c := 111) (d' := 30) (ls' := [rr 2, .inl (X.2 (i + 1))]) (r := []) (v := some (.inl v)) (h1 := hP (c', mC m ++ U')) (fun _ => rfl) A.ev ?_
  refine Ev.step (G' := rn X 30 308 822 [rr 1, rr 2, rr 73, .inl z] [rr 73, .inl v] (hP (c', mC m ++ U'))) 1 (fun _ => rfl) ?_
  refine Ev.arg 1 (y := 1) hz rfl hL hi (by decide) (fun _ => rfl) ?_
  have B := lMi (ls := [rr 2, .inl (X.2 (i + 1))]) (lb := [rr 73, .inl (X.2 (i + 1))]) c' U' m ⟨Or.inr rfl, ⟨Or.inr rfl, trivial⟩⟩ (s_R_is X 30 n' m (X.2 (i + 1)))
  rw [hr] at B
  refine Ev.call (c := 274) (d' := 30) (ls' := [rr 73, .inl (X.2 (i + 1))]) (r := [.inl v]) (v := some (.inl v)) (h1 := hP (c', mC m' ++ U')) (fun _ => rfl) B.ev ?_
  refine Ev.step (G' := rn X 30 308 1442 [rr 1, rr 2, rr 73, .inl z] [] (hP (c', mC m' ++ U'))) 1 (fun k => ?_) (Ev.next hz hL hi K)
  have : rn X 30 308 830 [rr 1, rr 2, rr 73, .inl z] [.inl v, .inl v] (hP (c', mC m' ++ U')) (k + 1) = if v = v then rn X 30 308 1442 [rr 1, rr 2, rr 73, .inl z] [] (hP (c', mC m' ++ U')) k else rn X 30 308 833 [rr 1, rr 2, rr 73, .inl z] [] (hP (c', mC m' ++ U')) k := rfl
  rw [if_pos rfl] at this
  exact this
theorem lc_21 {X : Nat × (Nat → Int)} {i n n' : Nat} {c c' : Nat → bS} {U U' : bH} {m m' : bS} {v z : Int} {R : Option bV × bH} (hz : z = (i : Int)) (hL : X.1 ≤ 3072) (hi : i + 6 ≤ X.1) (hp : P_book n (c, mC m ++ U) (X.2 (i + 1)) (X.2 (i + 2)) = some (v, (c', mC m ++ U'))) (hr : R_book n' m (X.2 (i + 1)) (X.2 (i + 2)) = some (v, m')) (K : Ev (rn X 30 308 18 [rr 1, rr 2, rr 73, .inl ((i + 6 : Nat) : Int)] [] (hP (c', mC m' ++ U'))) R) : Ev (rn X 30 308 835 [rr 1, rr 2, rr 73, .inl z] [] (hP (c, mC m ++ U))) R := by
  refine Ev.step (G' := rn X 30 308 836 [rr 1, rr 2, rr 73, .inl z] [rr 2] (hP (c, mC m ++ U))) 1 (fun _ => rfl) ?_
  refine Ev.arg 1 (y := 1) hz rfl hL hi (by decide) (fun _ => rfl) ?_
  refine Ev.arg 2 (y := 2) hz rfl hL hi (by decide) (fun _ => rfl) ?_
  have A := s_P_book X 30 n (c, mC m ++ U) (X.2 (i + 1)) (X.2 (i + 2))
  rw [hp] at A
  refine Ev.call (c := 112) (d' := 30) (ls' := [rr 2, .inl (X.2 (i + 1)), .inl (X.2 (i + 2))]) (r := []) (v := some (.inl v)) (h1 := hP (c', mC m ++ U')) (fun _ => rfl) A.ev ?_
  refine Ev.step (G' := rn X 30 308 850 [rr 1, rr 2, rr 73, .inl z] [rr 73, .inl v] (hP (c', mC m ++ U'))) 1 (fun _ => rfl) ?_
  refine Ev.arg 1 (y := 1) hz rfl hL hi (by decide) (fun _ => rfl) ?_
  refine Ev.arg 2 (y := 2) hz rfl hL hi (by decide) (fun _ => rfl) ?_
  have B := lMi (ls := [rr 2, .inl (X.2 (i + 1)), .inl (X.2 (i + 2))]) (lb := [rr 73, .inl (X.2 (i + 1)), .inl (X.2 (i + 2))]) c' U' m ⟨Or.inr rfl, ⟨Or.inr rfl, ⟨Or.inr rfl, trivial⟩⟩⟩ (s_R_book X 30 n' m (X.2 (i + 1)) (X.2 (i + 2)))
  rw [hr] at B
  refine Ev.call (c := 276) (d' := 30) (ls' := [rr 73, .inl (X.2 (i + 1)), .inl (X.2 (i + 2))]) (r := [.inl v]) (v := some (.inl v)) (h1 := hP (c', mC m' ++ U')) (fun _ => rfl) B.ev ?_
  refine Ev.step (G' := rn X 30 308 1442 [rr 1, rr 2, rr 73, .inl z] [] (hP (c', mC m' ++ U'))) 1 (fun k => ?_) (Ev.next hz hL hi K)
  have : rn X 30 308 863 [rr 1, rr 2, rr 73, .inl z] [.inl v, .inl v] (hP (c', mC m' ++ U')) (k + 1) = if v = v then rn X 30 308 1442 [rr 1, rr 2, rr 73, .inl z] [] (hP (c', mC m' ++ U')) k else rn X 30 308 866 [rr 1, rr 2, rr 73, .inl z] [] (hP (c', mC m' ++ U')) k := rfl
  rw [if_pos rfl] at this
  exact this
theorem lc_22 {X : Nat × (Nat → Int)} {i n n' : Nat} {c c' : Nat → bS} {U U' : bH} {m m' : bS} {v z : Int} {R : Option bV × bH} (hz : z = (i : Int)) (hL : X.1 ≤ 3072) (hi : i + 6 ≤ X.1) (hp : P_foretold n (c, mC m ++ U) (X.2 (i + 1)) (X.2 (i + 2)) = some (v, (c', mC m ++ U'))) (hr : R_foretold n' m (X.2 (i + 1)) (X.2 (i + 2)) = some (v, m')) (K : Ev (rn X 30 308 18 [rr 1, rr 2, rr 73, .inl ((i + 6 : Nat) : Int)] [] (hP (c', mC m' ++ U'))) R) : Ev (rn X 30 308 868 [rr 1, rr 2, rr 73, .inl z] [] (hP (c, mC m ++ U))) R := by
  refine Ev.step (G' := rn X 30 308 869 [rr 1, rr 2, rr 73, .inl z] [rr 2] (hP (c, mC m ++ U))) 1 (fun _ => rfl) ?_
  refine Ev.arg 1 (y := 1) hz rfl hL hi (by decide) (fun _ => rfl) ?_
  refine Ev.arg 2 (y := 2) hz rfl hL hi (by decide) (fun _ => rfl) ?_
  have A := s_P_foretold X 30 n (c, mC m ++ U) (X.2 (i + 1)) (X.2 (i + 2))
  rw [hp] at A
  refine Ev.call (c := 113) (d' := 30) (ls' := [rr 2, .inl (X.2 (i + 1)), .inl (X.2 (i + 2)), b0, b0]) (r := []) (v := some (.inl v)) (h1 := hP (c', mC m ++ U')) (fun _ => rfl) A.ev ?_
  refine Ev.step (G' := rn X 30 308 883 [rr 1, rr 2, rr 73, .inl z] [rr 73, .inl v] (hP (c', mC m ++ U'))) 1 (fun _ => rfl) ?_
  refine Ev.arg 1 (y := 1) hz rfl hL hi (by decide) (fun _ => rfl) ?_
  refine Ev.arg 2 (y := 2) hz rfl hL hi (by decide) (fun _ => rfl) ?_
  have B := lMi (ls := [rr 2, .inl (X.2 (i + 1)), .inl (X.2 (i + 2)), b0, b0]) (lb := [rr 73, .inl (X.2 (i + 1)), .inl (X.2 (i + 2)), b0, b0]) c' U' m ⟨Or.inr rfl, ⟨Or.inr rfl, ⟨Or.inr rfl, ⟨Or.inl rfl, ⟨Or.inl rfl, trivial⟩⟩⟩⟩⟩ (s_R_foretold X 30 n' m (X.2 (i + 1)) (X.2 (i + 2)))
  rw [hr] at B
  refine Ev.call (c := 281) (d' := 30) (ls' := [rr 73, .inl (X.2 (i + 1)), .inl (X.2 (i + 2)), b0, b0]) (r := [.inl v]) (v := some (.inl v)) (h1 := hP (c', mC m' ++ U')) (fun _ => rfl) B.ev ?_
  refine Ev.step (G' := rn X 30 308 1442 [rr 1, rr 2, rr 73, .inl z] [] (hP (c', mC m' ++ U'))) 1 (fun k => ?_) (Ev.next hz hL hi K)
  have : rn X 30 308 896 [rr 1, rr 2, rr 73, .inl z] [.inl v, .inl v] (hP (c', mC m' ++ U')) (k + 1) = if v = v then rn X 30 308 1442 [rr 1, rr 2, rr 73, .inl z] [] (hP (c', mC m' ++ U')) k else rn X 30 308 899 [rr 1, rr 2, rr 73, .inl z] [] (hP (c', mC m' ++ U')) k := rfl
  rw [if_pos rfl] at this
  exact this
theorem lc_23 {X : Nat × (Nat → Int)} {i n n' : Nat} {c c' : Nat → bS} {U U' : bH} {m m' : bS} {v z : Int} {R : Option bV × bH} (hz : z = (i : Int)) (hL : X.1 ≤ 3072) (hi : i + 6 ≤ X.1) (hp : P_would n (c, mC m ++ U) (X.2 (i + 1)) (X.2 (i + 2)) (X.2 (i + 3)) = some (v, (c', mC m ++ U'))) (hr : R_would n' m (X.2 (i + 1)) (X.2 (i + 2)) (X.2 (i + 3)) = some (v, m')) (K : Ev (rn X 30 308 18 [rr 1, rr 2, rr 73, .inl ((i + 6 : Nat) : Int)] [] (hP (c', mC m' ++ U'))) R) : Ev (rn X 30 308 901 [rr 1, rr 2, rr 73, .inl z] [] (hP (c, mC m ++ U))) R := by
  refine Ev.step (G' := rn X 30 308 902 [rr 1, rr 2, rr 73, .inl z] [rr 2] (hP (c, mC m ++ U))) 1 (fun _ => rfl) ?_
  refine Ev.arg 1 (y := 1) hz rfl hL hi (by decide) (fun _ => rfl) ?_
  refine Ev.arg 2 (y := 2) hz rfl hL hi (by decide) (fun _ => rfl) ?_
  refine Ev.arg 3 (y := 3) hz rfl hL hi (by decide) (fun _ => rfl) ?_
  have A := s_P_would X 30 n (c, mC m ++ U) (X.2 (i + 1)) (X.2 (i + 2)) (X.2 (i + 3))
  rw [hp] at A
  refine Ev.call (c := 114) (d' := 30) (ls' := [rr 2, .inl (X.2 (i + 1)), .inl (X.2 (i + 2)), .inl (X.2 (i + 3))]) (r := []) (v := some (.inl v)) (h1 := hP (c', mC m ++ U')) (fun _ => rfl) A.ev ?_
  refine Ev.step (G' := rn X 30 308 921 [rr 1, rr 2, rr 73, .inl z] [rr 73, .inl v] (hP (c', mC m ++ U'))) 1 (fun _ => rfl) ?_
  refine Ev.arg 1 (y := 1) hz rfl hL hi (by decide) (fun _ => rfl) ?_
  refine Ev.arg 2 (y := 2) hz rfl hL hi (by decide) (fun _ => rfl) ?_
  refine Ev.arg 3 (y := 3) hz rfl hL hi (by decide) (fun _ => rfl) ?_
  have B := lMi (ls := [rr 2, .inl (X.2 (i + 1)), .inl (X.2 (i + 2)), .inl (X.2 (i + 3)), b0]) (lb := [rr 73, .inl (X.2 (i + 1)), .inl (X.2 (i + 2)), .inl (X.2 (i + 3)), b0]) c' U' m ⟨Or.inr rfl, ⟨Or.inr rfl, ⟨Or.inr rfl, ⟨Or.inr rfl, ⟨Or.inl rfl, trivial⟩⟩⟩⟩⟩ (s_R_would X 30 n' m (X.2 (i + 1)) (X.2 (i + 2)) (X.2 (i + 3)))
  rw [hr] at B
  refine Ev.call (c := 283) (d' := 30) (ls' := [rr 73, .inl (X.2 (i + 1)), .inl (X.2 (i + 2)), .inl (X.2 (i + 3)), b0]) (r := [.inl v]) (v := some (.inl v)) (h1 := hP (c', mC m' ++ U')) (fun _ => rfl) B.ev ?_
  refine Ev.step (G' := rn X 30 308 1442 [rr 1, rr 2, rr 73, .inl z] [] (hP (c', mC m' ++ U'))) 1 (fun k => ?_) (Ev.next hz hL hi K)
  have : rn X 30 308 939 [rr 1, rr 2, rr 73, .inl z] [.inl v, .inl v] (hP (c', mC m' ++ U')) (k + 1) = if v = v then rn X 30 308 1442 [rr 1, rr 2, rr 73, .inl z] [] (hP (c', mC m' ++ U')) k else rn X 30 308 942 [rr 1, rr 2, rr 73, .inl z] [] (hP (c', mC m' ++ U')) k := rfl
  rw [if_pos rfl] at this
  exact this
theorem lc_24 {X : Nat × (Nat → Int)} {i n n' : Nat} {c c' : Nat → bS} {U U' : bH} {m m' : bS} {v z : Int} {R : Option bV × bH} (hz : z = (i : Int)) (hL : X.1 ≤ 3072) (hi : i + 6 ≤ X.1) (hp : P_victim n (c, mC m ++ U) (X.2 (i + 1)) = some (v, (c', mC m ++ U'))) (hr : R_victim n' m (X.2 (i + 1)) = some (v, m')) (K : Ev (rn X 30 308 18 [rr 1, rr 2, rr 73, .inl ((i + 6 : Nat) : Int)] [] (hP (c', mC m' ++ U'))) R) : Ev (rn X 30 308 944 [rr 1, rr 2, rr 73, .inl z] [] (hP (c, mC m ++ U))) R := by
  refine Ev.step (G' := rn X 30 308 945 [rr 1, rr 2, rr 73, .inl z] [rr 2] (hP (c, mC m ++ U))) 1 (fun _ => rfl) ?_
  refine Ev.arg 1 (y := 1) hz rfl hL hi (by decide) (fun _ => rfl) ?_
  have A := s_P_victim X 30 n (c, mC m ++ U) (X.2 (i + 1))
  rw [hp] at A
  refine Ev.call (c := 115) (d' := 30) (ls' := [rr 2, .inl (X.2 (i + 1))]) (r := []) (v := some (.inl v)) (h1 := hP (c', mC m ++ U')) (fun _ => rfl) A.ev ?_
  refine Ev.step (G' := rn X 30 308 954 [rr 1, rr 2, rr 73, .inl z] [rr 73, .inl v] (hP (c', mC m ++ U'))) 1 (fun _ => rfl) ?_
  refine Ev.arg 1 (y := 1) hz rfl hL hi (by decide) (fun _ => rfl) ?_
  have B := lMi (ls := [rr 2, .inl (X.2 (i + 1))]) (lb := [rr 73, .inl (X.2 (i + 1))]) c' U' m ⟨Or.inr rfl, ⟨Or.inr rfl, trivial⟩⟩ (s_R_victim X 30 n' m (X.2 (i + 1)))
  rw [hr] at B
  refine Ev.call (c := 284) (d' := 30) (ls' := [rr 73, .inl (X.2 (i + 1))]) (r := [.inl v]) (v := some (.inl v)) (h1 := hP (c', mC m' ++ U')) (fun _ => rfl) B.ev ?_
  refine Ev.step (G' := rn X 30 308 1442 [rr 1, rr 2, rr 73, .inl z] [] (hP (c', mC m' ++ U'))) 1 (fun k => ?_) (Ev.next hz hL hi K)
  have : rn X 30 308 962 [rr 1, rr 2, rr 73, .inl z] [.inl v, .inl v] (hP (c', mC m' ++ U')) (k + 1) = if v = v then rn X 30 308 1442 [rr 1, rr 2, rr 73, .inl z] [] (hP (c', mC m' ++ U')) k else rn X 30 308 965 [rr 1, rr 2, rr 73, .inl z] [] (hP (c', mC m' ++ U')) k := rfl
  rw [if_pos rfl] at this
  exact this
theorem lc_25 {X : Nat × (Nat → Int)} {i n n' : Nat} {c c' : Nat → bS} {U U' : bH} {m m' : bS} {v z : Int} {R : Option bV × bH} (hz : z = (i : Int)) (hL : X.1 ≤ 3072) (hi : i + 6 ≤ X.1) (hp : P_next n (c, mC m ++ U) (X.2 (i + 1)) = some (v, (c', mC m ++ U'))) (hr : R_next n' m (X.2 (i + 1)) = some (v, m')) (K : Ev (rn X 30 308 18 [rr 1, rr 2, rr 73, .inl ((i + 6 : Nat) : Int)] [] (hP (c', mC m' ++ U'))) R) : Ev (rn X 30 308 967 [rr 1, rr 2, rr 73, .inl z] [] (hP (c, mC m ++ U))) R := by
  refine Ev.step (G' := rn X 30 308 968 [rr 1, rr 2, rr 73, .inl z] [rr 2] (hP (c, mC m ++ U))) 1 (fun _ => rfl) ?_
  refine Ev.arg 1 (y := 1) hz rfl hL hi (by decide) (fun _ => rfl) ?_
  have A := s_P_next X 30 n (c, mC m ++ U) (X.2 (i + 1))
  rw [hp] at A
  refine Ev.call (c := 116) (d' := 30) (ls' := [rr 2, .inl (X.2 (i + 1))]) (r := []) (v := some (.inl v)) (h1 := hP (c', mC m ++ U')) (fun _ => rfl) A.ev ?_
  refine Ev.step (G' := rn X 30 308 977 [rr 1, rr 2, rr 73, .inl z] [rr 73, .inl v] (hP (c', mC m ++ U'))) 1 (fun _ => rfl) ?_
  refine Ev.arg 1 (y := 1) hz rfl hL hi (by decide) (fun _ => rfl) ?_
  have B := lMi (ls := [rr 2, .inl (X.2 (i + 1))]) (lb := [rr 73, .inl (X.2 (i + 1))]) c' U' m ⟨Or.inr rfl, ⟨Or.inr rfl, trivial⟩⟩ (s_R_next X 30 n' m (X.2 (i + 1)))
  rw [hr] at B
  refine Ev.call (c := 285) (d' := 30) (ls' := [rr 73, .inl (X.2 (i + 1))]) (r := [.inl v]) (v := some (.inl v)) (h1 := hP (c', mC m' ++ U')) (fun _ => rfl) B.ev ?_
  refine Ev.step (G' := rn X 30 308 1442 [rr 1, rr 2, rr 73, .inl z] [] (hP (c', mC m' ++ U'))) 1 (fun k => ?_) (Ev.next hz hL hi K)
  have : rn X 30 308 985 [rr 1, rr 2, rr 73, .inl z] [.inl v, .inl v] (hP (c', mC m' ++ U')) (k + 1) = if v = v then rn X 30 308 1442 [rr 1, rr 2, rr 73, .inl z] [] (hP (c', mC m' ++ U')) k else rn X 30 308 988 [rr 1, rr 2, rr 73, .inl z] [] (hP (c', mC m' ++ U')) k := rfl
  rw [if_pos rfl] at this
  exact this
theorem lc_26 {X : Nat × (Nat → Int)} {i n n' : Nat} {c c' : Nat → bS} {U U' : bH} {m m' : bS} {v z : Int} {R : Option bV × bH} (hz : z = (i : Int)) (hL : X.1 ≤ 3072) (hi : i + 6 ≤ X.1) (hp : P_entries n (c, mC m ++ U) (X.2 (i + 1)) = some (v, (c', mC m ++ U'))) (hr : R_entries n' m (X.2 (i + 1)) = some (v, m')) (K : Ev (rn X 30 308 18 [rr 1, rr 2, rr 73, .inl ((i + 6 : Nat) : Int)] [] (hP (c', mC m' ++ U'))) R) : Ev (rn X 30 308 990 [rr 1, rr 2, rr 73, .inl z] [] (hP (c, mC m ++ U))) R := by
  refine Ev.step (G' := rn X 30 308 991 [rr 1, rr 2, rr 73, .inl z] [rr 2] (hP (c, mC m ++ U))) 1 (fun _ => rfl) ?_
  refine Ev.arg 1 (y := 1) hz rfl hL hi (by decide) (fun _ => rfl) ?_
  have A := s_P_entries X 30 n (c, mC m ++ U) (X.2 (i + 1))
  rw [hp] at A
  refine Ev.call (c := 117) (d' := 30) (ls' := [rr 2, .inl (X.2 (i + 1))]) (r := []) (v := some (.inl v)) (h1 := hP (c', mC m ++ U')) (fun _ => rfl) A.ev ?_
  refine Ev.step (G' := rn X 30 308 1000 [rr 1, rr 2, rr 73, .inl z] [rr 73, .inl v] (hP (c', mC m ++ U'))) 1 (fun _ => rfl) ?_
  refine Ev.arg 1 (y := 1) hz rfl hL hi (by decide) (fun _ => rfl) ?_
  have B := lMi (ls := [rr 2, .inl (X.2 (i + 1))]) (lb := [rr 73, .inl (X.2 (i + 1))]) c' U' m ⟨Or.inr rfl, ⟨Or.inr rfl, trivial⟩⟩ (s_R_entries X 30 n' m (X.2 (i + 1)))
  rw [hr] at B
  refine Ev.call (c := 280) (d' := 30) (ls' := [rr 73, .inl (X.2 (i + 1))]) (r := [.inl v]) (v := some (.inl v)) (h1 := hP (c', mC m' ++ U')) (fun _ => rfl) B.ev ?_
  refine Ev.step (G' := rn X 30 308 1442 [rr 1, rr 2, rr 73, .inl z] [] (hP (c', mC m' ++ U'))) 1 (fun k => ?_) (Ev.next hz hL hi K)
  have : rn X 30 308 1008 [rr 1, rr 2, rr 73, .inl z] [.inl v, .inl v] (hP (c', mC m' ++ U')) (k + 1) = if v = v then rn X 30 308 1442 [rr 1, rr 2, rr 73, .inl z] [] (hP (c', mC m' ++ U')) k else rn X 30 308 1011 [rr 1, rr 2, rr 73, .inl z] [] (hP (c', mC m' ++ U')) k := rfl
  rw [if_pos rfl] at this
  exact this
theorem lc_27 {X : Nat × (Nat → Int)} {i n n' : Nat} {c c' : Nat → bS} {U U' : bH} {m m' : bS} {v z : Int} {R : Option bV × bH} (hz : z = (i : Int)) (hL : X.1 ≤ 3072) (hi : i + 6 ≤ X.1) (hp : P_ideal n (c, mC m ++ U) (X.2 (i + 1)) = some (v, (c', mC m ++ U'))) (hr : R_ideal n' m (X.2 (i + 1)) = some (v, m')) (K : Ev (rn X 30 308 18 [rr 1, rr 2, rr 73, .inl ((i + 6 : Nat) : Int)] [] (hP (c', mC m' ++ U'))) R) : Ev (rn X 30 308 1013 [rr 1, rr 2, rr 73, .inl z] [] (hP (c, mC m ++ U))) R := by
  refine Ev.step (G' := rn X 30 308 1014 [rr 1, rr 2, rr 73, .inl z] [rr 2] (hP (c, mC m ++ U))) 1 (fun _ => rfl) ?_
  refine Ev.arg 1 (y := 1) hz rfl hL hi (by decide) (fun _ => rfl) ?_
  have A := s_P_ideal X 30 n (c, mC m ++ U) (X.2 (i + 1))
  rw [hp] at A
  refine Ev.call (c := 118) (d' := 30) (ls' := [rr 2, .inl (X.2 (i + 1)), b0]) (r := []) (v := some (.inl v)) (h1 := hP (c', mC m ++ U')) (fun _ => rfl) A.ev ?_
  refine Ev.step (G' := rn X 30 308 1023 [rr 1, rr 2, rr 73, .inl z] [rr 73, .inl v] (hP (c', mC m ++ U'))) 1 (fun _ => rfl) ?_
  refine Ev.arg 1 (y := 1) hz rfl hL hi (by decide) (fun _ => rfl) ?_
  have B := lMi (ls := [rr 2, .inl (X.2 (i + 1))]) (lb := [rr 73, .inl (X.2 (i + 1))]) c' U' m ⟨Or.inr rfl, ⟨Or.inr rfl, trivial⟩⟩ (s_R_ideal X 30 n' m (X.2 (i + 1)))
  rw [hr] at B
  refine Ev.call (c := 286) (d' := 30) (ls' := [rr 73, .inl (X.2 (i + 1))]) (r := [.inl v]) (v := some (.inl v)) (h1 := hP (c', mC m' ++ U')) (fun _ => rfl) B.ev ?_
  refine Ev.step (G' := rn X 30 308 1442 [rr 1, rr 2, rr 73, .inl z] [] (hP (c', mC m' ++ U'))) 1 (fun k => ?_) (Ev.next hz hL hi K)
  have : rn X 30 308 1031 [rr 1, rr 2, rr 73, .inl z] [.inl v, .inl v] (hP (c', mC m' ++ U')) (k + 1) = if v = v then rn X 30 308 1442 [rr 1, rr 2, rr 73, .inl z] [] (hP (c', mC m' ++ U')) k else rn X 30 308 1034 [rr 1, rr 2, rr 73, .inl z] [] (hP (c', mC m' ++ U')) k := rfl
  rw [if_pos rfl] at this
  exact this
theorem lc_28 {X : Nat × (Nat → Int)} {i n n' : Nat} {c c' : Nat → bS} {U U' : bH} {m m' : bS} {v z : Int} {R : Option bV × bH} (hz : z = (i : Int)) (hL : X.1 ≤ 3072) (hi : i + 6 ≤ X.1) (hp : P_pages n (c, mC m ++ U) (X.2 (i + 1)) (X.2 (i + 2)) (X.2 (i + 3)) = some (v, (c', mC m ++ U'))) (hr : R_pages n' m (X.2 (i + 1)) (X.2 (i + 2)) (X.2 (i + 3)) = some (v, m')) (K : Ev (rn X 30 308 18 [rr 1, rr 2, rr 73, .inl ((i + 6 : Nat) : Int)] [] (hP (c', mC m' ++ U'))) R) : Ev (rn X 30 308 1036 [rr 1, rr 2, rr 73, .inl z] [] (hP (c, mC m ++ U))) R := by
  refine Ev.step (G' := rn X 30 308 1037 [rr 1, rr 2, rr 73, .inl z] [rr 2] (hP (c, mC m ++ U))) 1 (fun _ => rfl) ?_
  refine Ev.arg 1 (y := 1) hz rfl hL hi (by decide) (fun _ => rfl) ?_
  refine Ev.arg 2 (y := 2) hz rfl hL hi (by decide) (fun _ => rfl) ?_
  refine Ev.arg 3 (y := 3) hz rfl hL hi (by decide) (fun _ => rfl) ?_
  have A := s_P_pages X 30 n (c, mC m ++ U) (X.2 (i + 1)) (X.2 (i + 2)) (X.2 (i + 3))
  rw [hp] at A
  refine Ev.call (c := 119) (d' := 30) (ls' := [rr 2, .inl (X.2 (i + 1)), .inl (X.2 (i + 2)), .inl (X.2 (i + 3))]) (r := []) (v := some (.inl v)) (h1 := hP (c', mC m ++ U')) (fun _ => rfl) A.ev ?_
  refine Ev.step (G' := rn X 30 308 1056 [rr 1, rr 2, rr 73, .inl z] [rr 73, .inl v] (hP (c', mC m ++ U'))) 1 (fun _ => rfl) ?_
  refine Ev.arg 1 (y := 1) hz rfl hL hi (by decide) (fun _ => rfl) ?_
  refine Ev.arg 2 (y := 2) hz rfl hL hi (by decide) (fun _ => rfl) ?_
  refine Ev.arg 3 (y := 3) hz rfl hL hi (by decide) (fun _ => rfl) ?_
  have B := lMi (ls := [rr 2, .inl (X.2 (i + 1)), .inl (X.2 (i + 2)), .inl (X.2 (i + 3)), b0, b0]) (lb := [rr 73, .inl (X.2 (i + 1)), .inl (X.2 (i + 2)), .inl (X.2 (i + 3)), b0, b0]) c' U' m ⟨Or.inr rfl, ⟨Or.inr rfl, ⟨Or.inr rfl, ⟨Or.inr rfl, ⟨Or.inl rfl, ⟨Or.inl rfl, trivial⟩⟩⟩⟩⟩⟩ (s_R_pages X 30 n' m (X.2 (i + 1)) (X.2 (i + 2)) (X.2 (i + 3)))
  rw [hr] at B
  refine Ev.call (c := 287) (d' := 30) (ls' := [rr 73, .inl (X.2 (i + 1)), .inl (X.2 (i + 2)), .inl (X.2 (i + 3)), b0, b0]) (r := [.inl v]) (v := some (.inl v)) (h1 := hP (c', mC m' ++ U')) (fun _ => rfl) B.ev ?_
  refine Ev.step (G' := rn X 30 308 1442 [rr 1, rr 2, rr 73, .inl z] [] (hP (c', mC m' ++ U'))) 1 (fun k => ?_) (Ev.next hz hL hi K)
  have : rn X 30 308 1074 [rr 1, rr 2, rr 73, .inl z] [.inl v, .inl v] (hP (c', mC m' ++ U')) (k + 1) = if v = v then rn X 30 308 1442 [rr 1, rr 2, rr 73, .inl z] [] (hP (c', mC m' ++ U')) k else rn X 30 308 1077 [rr 1, rr 2, rr 73, .inl z] [] (hP (c', mC m' ++ U')) k := rfl
  rw [if_pos rfl] at this
  exact this
theorem lc_29 {X : Nat × (Nat → Int)} {i n n' : Nat} {c c' : Nat → bS} {U U' : bH} {m m' : bS} {v z : Int} {R : Option bV × bH} (hz : z = (i : Int)) (hL : X.1 ≤ 3072) (hi : i + 6 ≤ X.1) (hp : P_holes n (c, mC m ++ U) (X.2 (i + 1)) = some (v, (c', mC m ++ U'))) (hr : R_holes n' m (X.2 (i + 1)) = some (v, m')) (K : Ev (rn X 30 308 18 [rr 1, rr 2, rr 73, .inl ((i + 6 : Nat) : Int)] [] (hP (c', mC m' ++ U'))) R) : Ev (rn X 30 308 1079 [rr 1, rr 2, rr 73, .inl z] [] (hP (c, mC m ++ U))) R := by
  refine Ev.step (G' := rn X 30 308 1080 [rr 1, rr 2, rr 73, .inl z] [rr 2] (hP (c, mC m ++ U))) 1 (fun _ => rfl) ?_
  refine Ev.arg 1 (y := 1) hz rfl hL hi (by decide) (fun _ => rfl) ?_
  have A := s_P_holes X 30 n (c, mC m ++ U) (X.2 (i + 1))
  rw [hp] at A
  refine Ev.call (c := 120) (d' := 30) (ls' := [rr 2, .inl (X.2 (i + 1))]) (r := []) (v := some (.inl v)) (h1 := hP (c', mC m ++ U')) (fun _ => rfl) A.ev ?_
  refine Ev.step (G' := rn X 30 308 1089 [rr 1, rr 2, rr 73, .inl z] [rr 73, .inl v] (hP (c', mC m ++ U'))) 1 (fun _ => rfl) ?_
  refine Ev.arg 1 (y := 1) hz rfl hL hi (by decide) (fun _ => rfl) ?_
  have B := lMi (ls := [rr 2, .inl (X.2 (i + 1))]) (lb := [rr 73, .inl (X.2 (i + 1))]) c' U' m ⟨Or.inr rfl, ⟨Or.inr rfl, trivial⟩⟩ (s_R_holes X 30 n' m (X.2 (i + 1)))
  rw [hr] at B
  refine Ev.call (c := 289) (d' := 30) (ls' := [rr 73, .inl (X.2 (i + 1))]) (r := [.inl v]) (v := some (.inl v)) (h1 := hP (c', mC m' ++ U')) (fun _ => rfl) B.ev ?_
  refine Ev.step (G' := rn X 30 308 1442 [rr 1, rr 2, rr 73, .inl z] [] (hP (c', mC m' ++ U'))) 1 (fun k => ?_) (Ev.next hz hL hi K)
  have : rn X 30 308 1097 [rr 1, rr 2, rr 73, .inl z] [.inl v, .inl v] (hP (c', mC m' ++ U')) (k + 1) = if v = v then rn X 30 308 1442 [rr 1, rr 2, rr 73, .inl z] [] (hP (c', mC m' ++ U')) k else rn X 30 308 1100 [rr 1, rr 2, rr 73, .inl z] [] (hP (c', mC m' ++ U')) k := rfl
  rw [if_pos rfl] at this
  exact this
theorem lc_30 {X : Nat × (Nat → Int)} {i n n' : Nat} {c c' : Nat → bS} {U U' : bH} {m m' : bS} {v z : Int} {R : Option bV × bH} (hz : z = (i : Int)) (hL : X.1 ≤ 3072) (hi : i + 6 ≤ X.1) (hp : P_reach n (c, mC m ++ U)  = some (v, (c', mC m ++ U'))) (hr : R_reach n' m  = some (v, m')) (K : Ev (rn X 30 308 18 [rr 1, rr 2, rr 73, .inl ((i + 6 : Nat) : Int)] [] (hP (c', mC m' ++ U'))) R) : Ev (rn X 30 308 1102 [rr 1, rr 2, rr 73, .inl z] [] (hP (c, mC m ++ U))) R := by
  refine Ev.step (G' := rn X 30 308 1103 [rr 1, rr 2, rr 73, .inl z] [rr 2] (hP (c, mC m ++ U))) 1 (fun _ => rfl) ?_
  have A := s_P_reach X 30 n (c, mC m ++ U) 
  rw [hp] at A
  refine Ev.call (c := 121) (d' := 30) (ls' := [rr 2, b0, b0]) (r := []) (v := some (.inl v)) (h1 := hP (c', mC m ++ U')) (fun _ => rfl) A.ev ?_
  refine Ev.step (G' := rn X 30 308 1107 [rr 1, rr 2, rr 73, .inl z] [rr 73, .inl v] (hP (c', mC m ++ U'))) 1 (fun _ => rfl) ?_
  have B := lMi (ls := [rr 2, b0, b0, b0]) (lb := [rr 73, b0, b0, b0]) c' U' m ⟨Or.inr rfl, ⟨Or.inl rfl, ⟨Or.inl rfl, ⟨Or.inl rfl, trivial⟩⟩⟩⟩ (s_R_reach X 30 n' m )
  rw [hr] at B
  refine Ev.call (c := 290) (d' := 30) (ls' := [rr 73, b0, b0, b0]) (r := [.inl v]) (v := some (.inl v)) (h1 := hP (c', mC m' ++ U')) (fun _ => rfl) B.ev ?_
  refine Ev.step (G' := rn X 30 308 1442 [rr 1, rr 2, rr 73, .inl z] [] (hP (c', mC m' ++ U'))) 1 (fun k => ?_) (Ev.next hz hL hi K)
  have : rn X 30 308 1110 [rr 1, rr 2, rr 73, .inl z] [.inl v, .inl v] (hP (c', mC m' ++ U')) (k + 1) = if v = v then rn X 30 308 1442 [rr 1, rr 2, rr 73, .inl z] [] (hP (c', mC m' ++ U')) k else rn X 30 308 1113 [rr 1, rr 2, rr 73, .inl z] [] (hP (c', mC m' ++ U')) k := rfl
  rw [if_pos rfl] at this
  exact this
theorem lc_31 {X : Nat × (Nat → Int)} {i n n' : Nat} {c c' : Nat → bS} {U U' : bH} {m m' : bS} {v z : Int} {R : Option bV × bH} (hz : z = (i : Int)) (hL : X.1 ≤ 3072) (hi : i + 6 ≤ X.1) (hp : P_spread n (c, mC m ++ U)  = some (v, (c', mC m ++ U'))) (hr : R_spread n' m  = some (v, m')) (K : Ev (rn X 30 308 18 [rr 1, rr 2, rr 73, .inl ((i + 6 : Nat) : Int)] [] (hP (c', mC m' ++ U'))) R) : Ev (rn X 30 308 1115 [rr 1, rr 2, rr 73, .inl z] [] (hP (c, mC m ++ U))) R := by
  refine Ev.step (G' := rn X 30 308 1116 [rr 1, rr 2, rr 73, .inl z] [rr 2] (hP (c, mC m ++ U))) 1 (fun _ => rfl) ?_
  have A := s_P_spread X 30 n (c, mC m ++ U) 
  rw [hp] at A
  refine Ev.call (c := 122) (d' := 30) (ls' := [rr 2, b0, b0, b0]) (r := []) (v := some (.inl v)) (h1 := hP (c', mC m ++ U')) (fun _ => rfl) A.ev ?_
  refine Ev.step (G' := rn X 30 308 1120 [rr 1, rr 2, rr 73, .inl z] [rr 73, .inl v] (hP (c', mC m ++ U'))) 1 (fun _ => rfl) ?_
  have B := lMi (ls := [rr 2, b0]) (lb := [rr 73, b0]) c' U' m ⟨Or.inr rfl, ⟨Or.inl rfl, trivial⟩⟩ (s_R_spread X 30 n' m )
  rw [hr] at B
  refine Ev.call (c := 291) (d' := 30) (ls' := [rr 73, b0]) (r := [.inl v]) (v := some (.inl v)) (h1 := hP (c', mC m' ++ U')) (fun _ => rfl) B.ev ?_
  refine Ev.step (G' := rn X 30 308 1442 [rr 1, rr 2, rr 73, .inl z] [] (hP (c', mC m' ++ U'))) 1 (fun k => ?_) (Ev.next hz hL hi K)
  have : rn X 30 308 1123 [rr 1, rr 2, rr 73, .inl z] [.inl v, .inl v] (hP (c', mC m' ++ U')) (k + 1) = if v = v then rn X 30 308 1442 [rr 1, rr 2, rr 73, .inl z] [] (hP (c', mC m' ++ U')) k else rn X 30 308 1126 [rr 1, rr 2, rr 73, .inl z] [] (hP (c', mC m' ++ U')) k := rfl
  rw [if_pos rfl] at this
  exact this
theorem lc_32 {X : Nat × (Nat → Int)} {i n n' : Nat} {c c' : Nat → bS} {U U' : bH} {m m' : bS} {v z : Int} {R : Option bV × bH} (hz : z = (i : Int)) (hL : X.1 ≤ 3072) (hi : i + 6 ≤ X.1) (hp : P_digest n (c, mC m ++ U) (X.2 (i + 1)) = some (v, (c', mC m ++ U'))) (hr : R_digest n' m (X.2 (i + 1)) = some (v, m')) (K : Ev (rn X 30 308 18 [rr 1, rr 2, rr 73, .inl ((i + 6 : Nat) : Int)] [] (hP (c', mC m' ++ U'))) R) : Ev (rn X 30 308 1128 [rr 1, rr 2, rr 73, .inl z] [] (hP (c, mC m ++ U))) R := by
  refine Ev.step (G' := rn X 30 308 1129 [rr 1, rr 2, rr 73, .inl z] [rr 2] (hP (c, mC m ++ U))) 1 (fun _ => rfl) ?_
  refine Ev.arg 1 (y := 1) hz rfl hL hi (by decide) (fun _ => rfl) ?_
  have A := s_P_digest X 30 n (c, mC m ++ U) (X.2 (i + 1))
  rw [hp] at A
  refine Ev.call (c := 123) (d' := 30) (ls' := [rr 2, .inl (X.2 (i + 1)), b0, b0]) (r := []) (v := some (.inl v)) (h1 := hP (c', mC m ++ U')) (fun _ => rfl) A.ev ?_
  refine Ev.step (G' := rn X 30 308 1138 [rr 1, rr 2, rr 73, .inl z] [rr 73, .inl v] (hP (c', mC m ++ U'))) 1 (fun _ => rfl) ?_
  refine Ev.arg 1 (y := 1) hz rfl hL hi (by decide) (fun _ => rfl) ?_
  have B := lMi (ls := [rr 2, .inl (X.2 (i + 1)), b0, b0]) (lb := [rr 73, .inl (X.2 (i + 1)), b0, b0]) c' U' m ⟨Or.inr rfl, ⟨Or.inr rfl, ⟨Or.inl rfl, ⟨Or.inl rfl, trivial⟩⟩⟩⟩ (s_R_digest X 30 n' m (X.2 (i + 1)))
  rw [hr] at B
  refine Ev.call (c := 292) (d' := 30) (ls' := [rr 73, .inl (X.2 (i + 1)), b0, b0]) (r := [.inl v]) (v := some (.inl v)) (h1 := hP (c', mC m' ++ U')) (fun _ => rfl) B.ev ?_
  refine Ev.step (G' := rn X 30 308 1442 [rr 1, rr 2, rr 73, .inl z] [] (hP (c', mC m' ++ U'))) 1 (fun k => ?_) (Ev.next hz hL hi K)
  have : rn X 30 308 1146 [rr 1, rr 2, rr 73, .inl z] [.inl v, .inl v] (hP (c', mC m' ++ U')) (k + 1) = if v = v then rn X 30 308 1442 [rr 1, rr 2, rr 73, .inl z] [] (hP (c', mC m' ++ U')) k else rn X 30 308 1149 [rr 1, rr 2, rr 73, .inl z] [] (hP (c', mC m' ++ U')) k := rfl
  rw [if_pos rfl] at this
  exact this
theorem lc_33 {X : Nat × (Nat → Int)} {i n n' : Nat} {c c' : Nat → bS} {U U' : bH} {m m' : bS} {v z : Int} {R : Option bV × bH} (hz : z = (i : Int)) (hL : X.1 ≤ 3072) (hi : i + 6 ≤ X.1) (hp : P_alike n (c, mC m ++ U) (X.2 (i + 1)) (X.2 (i + 2)) = some (v, (c', mC m ++ U'))) (hr : R_alike n' m (X.2 (i + 1)) (X.2 (i + 2)) = some (v, m')) (K : Ev (rn X 30 308 18 [rr 1, rr 2, rr 73, .inl ((i + 6 : Nat) : Int)] [] (hP (c', mC m' ++ U'))) R) : Ev (rn X 30 308 1151 [rr 1, rr 2, rr 73, .inl z] [] (hP (c, mC m ++ U))) R := by
  refine Ev.step (G' := rn X 30 308 1152 [rr 1, rr 2, rr 73, .inl z] [rr 2] (hP (c, mC m ++ U))) 1 (fun _ => rfl) ?_
  refine Ev.arg 1 (y := 1) hz rfl hL hi (by decide) (fun _ => rfl) ?_
  refine Ev.arg 2 (y := 2) hz rfl hL hi (by decide) (fun _ => rfl) ?_
  have A := s_P_alike X 30 n (c, mC m ++ U) (X.2 (i + 1)) (X.2 (i + 2))
  rw [hp] at A
  refine Ev.call (c := 124) (d' := 30) (ls' := [rr 2, .inl (X.2 (i + 1)), .inl (X.2 (i + 2)), b0, b0]) (r := []) (v := some (.inl v)) (h1 := hP (c', mC m ++ U')) (fun _ => rfl) A.ev ?_
  refine Ev.step (G' := rn X 30 308 1166 [rr 1, rr 2, rr 73, .inl z] [rr 73, .inl v] (hP (c', mC m ++ U'))) 1 (fun _ => rfl) ?_
  refine Ev.arg 1 (y := 1) hz rfl hL hi (by decide) (fun _ => rfl) ?_
  refine Ev.arg 2 (y := 2) hz rfl hL hi (by decide) (fun _ => rfl) ?_
  have B := lMi (ls := [rr 2, .inl (X.2 (i + 1)), .inl (X.2 (i + 2)), b0, b0]) (lb := [rr 73, .inl (X.2 (i + 1)), .inl (X.2 (i + 2)), b0, b0]) c' U' m ⟨Or.inr rfl, ⟨Or.inr rfl, ⟨Or.inr rfl, ⟨Or.inl rfl, ⟨Or.inl rfl, trivial⟩⟩⟩⟩⟩ (s_R_alike X 30 n' m (X.2 (i + 1)) (X.2 (i + 2)))
  rw [hr] at B
  refine Ev.call (c := 293) (d' := 30) (ls' := [rr 73, .inl (X.2 (i + 1)), .inl (X.2 (i + 2)), b0, b0]) (r := [.inl v]) (v := some (.inl v)) (h1 := hP (c', mC m' ++ U')) (fun _ => rfl) B.ev ?_
  refine Ev.step (G' := rn X 30 308 1442 [rr 1, rr 2, rr 73, .inl z] [] (hP (c', mC m' ++ U'))) 1 (fun k => ?_) (Ev.next hz hL hi K)
  have : rn X 30 308 1179 [rr 1, rr 2, rr 73, .inl z] [.inl v, .inl v] (hP (c', mC m' ++ U')) (k + 1) = if v = v then rn X 30 308 1442 [rr 1, rr 2, rr 73, .inl z] [] (hP (c', mC m' ++ U')) k else rn X 30 308 1182 [rr 1, rr 2, rr 73, .inl z] [] (hP (c', mC m' ++ U')) k := rfl
  rw [if_pos rfl] at this
  exact this
theorem lc_34 {X : Nat × (Nat → Int)} {i n n' : Nat} {c c' : Nat → bS} {U U' : bH} {m m' : bS} {v z : Int} {R : Option bV × bH} (hz : z = (i : Int)) (hL : X.1 ≤ 3072) (hi : i + 6 ≤ X.1) (hp : P_eldest n (c, mC m ++ U) (X.2 (i + 1)) = some (v, (c', mC m ++ U'))) (hr : R_eldest n' m (X.2 (i + 1)) = some (v, m')) (K : Ev (rn X 30 308 18 [rr 1, rr 2, rr 73, .inl ((i + 6 : Nat) : Int)] [] (hP (c', mC m' ++ U'))) R) : Ev (rn X 30 308 1184 [rr 1, rr 2, rr 73, .inl z] [] (hP (c, mC m ++ U))) R := by
  refine Ev.step (G' := rn X 30 308 1185 [rr 1, rr 2, rr 73, .inl z] [rr 2] (hP (c, mC m ++ U))) 1 (fun _ => rfl) ?_
  refine Ev.arg 1 (y := 1) hz rfl hL hi (by decide) (fun _ => rfl) ?_
  have A := s_P_eldest X 30 n (c, mC m ++ U) (X.2 (i + 1))
  rw [hp] at A
  refine Ev.call (c := 125) (d' := 30) (ls' := [rr 2, .inl (X.2 (i + 1)), b0, b0]) (r := []) (v := some (.inl v)) (h1 := hP (c', mC m ++ U')) (fun _ => rfl) A.ev ?_
  refine Ev.step (G' := rn X 30 308 1194 [rr 1, rr 2, rr 73, .inl z] [rr 73, .inl v] (hP (c', mC m ++ U'))) 1 (fun _ => rfl) ?_
  refine Ev.arg 1 (y := 1) hz rfl hL hi (by decide) (fun _ => rfl) ?_
  have B := lMi (ls := [rr 2, .inl (X.2 (i + 1)), b0, b0]) (lb := [rr 73, .inl (X.2 (i + 1)), b0, b0]) c' U' m ⟨Or.inr rfl, ⟨Or.inr rfl, ⟨Or.inl rfl, ⟨Or.inl rfl, trivial⟩⟩⟩⟩ (s_R_eldest X 30 n' m (X.2 (i + 1)))
  rw [hr] at B
  refine Ev.call (c := 294) (d' := 30) (ls' := [rr 73, .inl (X.2 (i + 1)), b0, b0]) (r := [.inl v]) (v := some (.inl v)) (h1 := hP (c', mC m' ++ U')) (fun _ => rfl) B.ev ?_
  refine Ev.step (G' := rn X 30 308 1442 [rr 1, rr 2, rr 73, .inl z] [] (hP (c', mC m' ++ U'))) 1 (fun k => ?_) (Ev.next hz hL hi K)
  have : rn X 30 308 1202 [rr 1, rr 2, rr 73, .inl z] [.inl v, .inl v] (hP (c', mC m' ++ U')) (k + 1) = if v = v then rn X 30 308 1442 [rr 1, rr 2, rr 73, .inl z] [] (hP (c', mC m' ++ U')) k else rn X 30 308 1205 [rr 1, rr 2, rr 73, .inl z] [] (hP (c', mC m' ++ U')) k := rfl
  rw [if_pos rfl] at this
  exact this
theorem lc_35 {X : Nat × (Nat → Int)} {i n n' : Nat} {c c' : Nat → bS} {U U' : bH} {m m' : bS} {v z : Int} {R : Option bV × bH} (hz : z = (i : Int)) (hL : X.1 ≤ 3072) (hi : i + 6 ≤ X.1) (hp : P_dirty n (c, mC m ++ U) (X.2 (i + 1)) = some (v, (c', mC m ++ U'))) (hr : R_dirty n' m (X.2 (i + 1)) = some (v, m')) (K : Ev (rn X 30 308 18 [rr 1, rr 2, rr 73, .inl ((i + 6 : Nat) : Int)] [] (hP (c', mC m' ++ U'))) R) : Ev (rn X 30 308 1207 [rr 1, rr 2, rr 73, .inl z] [] (hP (c, mC m ++ U))) R := by
  refine Ev.step (G' := rn X 30 308 1208 [rr 1, rr 2, rr 73, .inl z] [rr 2] (hP (c, mC m ++ U))) 1 (fun _ => rfl) ?_
  refine Ev.arg 1 (y := 1) hz rfl hL hi (by decide) (fun _ => rfl) ?_
  have A := s_P_dirty X 30 n (c, mC m ++ U) (X.2 (i + 1))
  rw [hp] at A
  refine Ev.call (c := 126) (d' := 30) (ls' := [rr 2, .inl (X.2 (i + 1))]) (r := []) (v := some (.inr (.inl v))) (h1 := hP (c', mC m ++ U')) (fun _ => rfl) A.ev ?_
  refine Ev.step (G' := rn X 30 308 1217 [rr 1, rr 2, rr 73, .inl z] [rr 73, .inr (.inl v)] (hP (c', mC m ++ U'))) 1 (fun _ => rfl) ?_
  refine Ev.arg 1 (y := 1) hz rfl hL hi (by decide) (fun _ => rfl) ?_
  have B := lMl (ls := [rr 2, .inl (X.2 (i + 1))]) (lb := [rr 73, .inl (X.2 (i + 1))]) c' U' m ⟨Or.inr rfl, ⟨Or.inr rfl, trivial⟩⟩ (s_R_dirty X 30 n' m (X.2 (i + 1)))
  rw [hr] at B
  refine Ev.call (c := 296) (d' := 30) (ls' := [rr 73, .inl (X.2 (i + 1))]) (r := [.inr (.inl v)]) (v := some (.inr (.inl v))) (h1 := hP (c', mC m' ++ U')) (fun _ => rfl) B.ev ?_
  refine Ev.step (G' := rn X 30 308 1226 [rr 1, rr 2, rr 73, .inl z] [.inl (ay_cmp v v)] (hP (c', mC m' ++ U'))) 1 (fun _ => rfl) ?_
  rw [show ay_cmp v v = 0 by unfold ay_cmp; rw [if_neg (Int.lt_irrefl v), if_pos rfl]]
  exact Ev.step (G' := rn X 30 308 1442 [rr 1, rr 2, rr 73, .inl z] [] (hP (c', mC m' ++ U'))) 1 (fun _ => rfl) (Ev.next hz hL hi K)
theorem lc_36 {X : Nat × (Nat → Int)} {i n n' : Nat} {c c' : Nat → bS} {U U' : bH} {m m' : bS} {v z : Int} {R : Option bV × bH} (hz : z = (i : Int)) (hL : X.1 ≤ 3072) (hi : i + 6 ≤ X.1) (hp : P_there n (c, mC m ++ U) (X.2 (i + 1)) = some (v, (c', mC m ++ U'))) (hr : R_there n' m (X.2 (i + 1)) = some (v, m')) (K : Ev (rn X 30 308 18 [rr 1, rr 2, rr 73, .inl ((i + 6 : Nat) : Int)] [] (hP (c', mC m' ++ U'))) R) : Ev (rn X 30 308 1231 [rr 1, rr 2, rr 73, .inl z] [] (hP (c, mC m ++ U))) R := by
  refine Ev.step (G' := rn X 30 308 1232 [rr 1, rr 2, rr 73, .inl z] [rr 2] (hP (c, mC m ++ U))) 1 (fun _ => rfl) ?_
  refine Ev.arg 1 (y := 1) hz rfl hL hi (by decide) (fun _ => rfl) ?_
  have A := s_P_there X 30 n (c, mC m ++ U) (X.2 (i + 1))
  rw [hp] at A
  refine Ev.call (c := 127) (d' := 30) (ls' := [rr 2, .inl (X.2 (i + 1))]) (r := []) (v := some (.inr (.inl v))) (h1 := hP (c', mC m ++ U')) (fun _ => rfl) A.ev ?_
  refine Ev.step (G' := rn X 30 308 1241 [rr 1, rr 2, rr 73, .inl z] [rr 73, .inr (.inl v)] (hP (c', mC m ++ U'))) 1 (fun _ => rfl) ?_
  refine Ev.arg 1 (y := 1) hz rfl hL hi (by decide) (fun _ => rfl) ?_
  have B := lMl (ls := [rr 2, .inl (X.2 (i + 1))]) (lb := [rr 73, .inl (X.2 (i + 1))]) c' U' m ⟨Or.inr rfl, ⟨Or.inr rfl, trivial⟩⟩ (s_R_there X 30 n' m (X.2 (i + 1)))
  rw [hr] at B
  refine Ev.call (c := 297) (d' := 30) (ls' := [rr 73, .inl (X.2 (i + 1))]) (r := [.inr (.inl v)]) (v := some (.inr (.inl v))) (h1 := hP (c', mC m' ++ U')) (fun _ => rfl) B.ev ?_
  refine Ev.step (G' := rn X 30 308 1250 [rr 1, rr 2, rr 73, .inl z] [.inl (ay_cmp v v)] (hP (c', mC m' ++ U'))) 1 (fun _ => rfl) ?_
  rw [show ay_cmp v v = 0 by unfold ay_cmp; rw [if_neg (Int.lt_irrefl v), if_pos rfl]]
  exact Ev.step (G' := rn X 30 308 1442 [rr 1, rr 2, rr 73, .inl z] [] (hP (c', mC m' ++ U'))) 1 (fun _ => rfl) (Ev.next hz hL hi K)
theorem lc_37 {X : Nat × (Nat → Int)} {i n n' : Nat} {c c' : Nat → bS} {U U' : bH} {m m' : bS} {v z : Int} {R : Option bV × bH} (hz : z = (i : Int)) (hL : X.1 ≤ 3072) (hi : i + 6 ≤ X.1) (hp : P_sound n (c, mC m ++ U)  = some (v, (c', mC m ++ U'))) (hr : R_sound n' m  = some (v, m')) (K : Ev (rn X 30 308 18 [rr 1, rr 2, rr 73, .inl ((i + 6 : Nat) : Int)] [] (hP (c', mC m' ++ U'))) R) : Ev (rn X 30 308 1255 [rr 1, rr 2, rr 73, .inl z] [] (hP (c, mC m ++ U))) R := by
  refine Ev.step (G' := rn X 30 308 1256 [rr 1, rr 2, rr 73, .inl z] [rr 2] (hP (c, mC m ++ U))) 1 (fun _ => rfl) ?_
  have A := s_P_sound X 30 n (c, mC m ++ U) 
  rw [hp] at A
  refine Ev.call (c := 128) (d' := 30) (ls' := [rr 2, b0, b0]) (r := []) (v := some (.inl v)) (h1 := hP (c', mC m ++ U')) (fun _ => rfl) A.ev ?_
  refine Ev.step (G' := rn X 30 308 1260 [rr 1, rr 2, rr 73, .inl z] [rr 73, .inl v] (hP (c', mC m ++ U'))) 1 (fun _ => rfl) ?_
  have B := lMi (ls := [rr 2, b0, b0]) (lb := [rr 73, b0, b0]) c' U' m ⟨Or.inr rfl, ⟨Or.inl rfl, ⟨Or.inl rfl, trivial⟩⟩⟩ (s_R_sound X 30 n' m )
  rw [hr] at B
  refine Ev.call (c := 300) (d' := 30) (ls' := [rr 73, b0, b0]) (r := [.inl v]) (v := some (.inl v)) (h1 := hP (c', mC m' ++ U')) (fun _ => rfl) B.ev ?_
  refine Ev.step (G' := rn X 30 308 1442 [rr 1, rr 2, rr 73, .inl z] [] (hP (c', mC m' ++ U'))) 1 (fun k => ?_) (Ev.next hz hL hi K)
  have : rn X 30 308 1263 [rr 1, rr 2, rr 73, .inl z] [.inl v, .inl v] (hP (c', mC m' ++ U')) (k + 1) = if v = v then rn X 30 308 1442 [rr 1, rr 2, rr 73, .inl z] [] (hP (c', mC m' ++ U')) k else rn X 30 308 1266 [rr 1, rr 2, rr 73, .inl z] [] (hP (c', mC m' ++ U')) k := rfl
  rw [if_pos rfl] at this
  exact this
theorem lc_38 {X : Nat × (Nat → Int)} {i n n' : Nat} {c c' : Nat → bS} {U U' : bH} {m m' : bS} {v z : Int} {R : Option bV × bH} (hz : z = (i : Int)) (hL : X.1 ≤ 3072) (hi : i + 6 ≤ X.1) (hp : P_wants n (c, mC m ++ U) (X.2 (i + 1)) (X.2 (i + 2)) = some (v, (c', mC m ++ U'))) (hr : R_wants n' m (X.2 (i + 1)) (X.2 (i + 2)) = some (v, m')) (K : Ev (rn X 30 308 18 [rr 1, rr 2, rr 73, .inl ((i + 6 : Nat) : Int)] [] (hP (c', mC m' ++ U'))) R) : Ev (rn X 30 308 1268 [rr 1, rr 2, rr 73, .inl z] [] (hP (c, mC m ++ U))) R := by
  refine Ev.step (G' := rn X 30 308 1269 [rr 1, rr 2, rr 73, .inl z] [rr 2] (hP (c, mC m ++ U))) 1 (fun _ => rfl) ?_
  refine Ev.arg 1 (y := 1) hz rfl hL hi (by decide) (fun _ => rfl) ?_
  refine Ev.arg 2 (y := 2) hz rfl hL hi (by decide) (fun _ => rfl) ?_
  have A := s_P_wants X 30 n (c, mC m ++ U) (X.2 (i + 1)) (X.2 (i + 2))
  rw [hp] at A
  refine Ev.call (c := 129) (d' := 30) (ls' := [rr 2, .inl (X.2 (i + 1)), .inl (X.2 (i + 2))]) (r := []) (v := some (.inl v)) (h1 := hP (c', mC m ++ U')) (fun _ => rfl) A.ev ?_
  refine Ev.step (G' := rn X 30 308 1283 [rr 1, rr 2, rr 73, .inl z] [rr 73, .inl v] (hP (c', mC m ++ U'))) 1 (fun _ => rfl) ?_
  refine Ev.arg 1 (y := 1) hz rfl hL hi (by decide) (fun _ => rfl) ?_
  refine Ev.arg 2 (y := 2) hz rfl hL hi (by decide) (fun _ => rfl) ?_
  have B := lMi (ls := [rr 2, .inl (X.2 (i + 1)), .inl (X.2 (i + 2))]) (lb := [rr 73, .inl (X.2 (i + 1)), .inl (X.2 (i + 2))]) c' U' m ⟨Or.inr rfl, ⟨Or.inr rfl, ⟨Or.inr rfl, trivial⟩⟩⟩ (s_R_wants X 30 n' m (X.2 (i + 1)) (X.2 (i + 2)))
  rw [hr] at B
  refine Ev.call (c := 301) (d' := 30) (ls' := [rr 73, .inl (X.2 (i + 1)), .inl (X.2 (i + 2))]) (r := [.inl v]) (v := some (.inl v)) (h1 := hP (c', mC m' ++ U')) (fun _ => rfl) B.ev ?_
  refine Ev.step (G' := rn X 30 308 1442 [rr 1, rr 2, rr 73, .inl z] [] (hP (c', mC m' ++ U'))) 1 (fun k => ?_) (Ev.next hz hL hi K)
  have : rn X 30 308 1296 [rr 1, rr 2, rr 73, .inl z] [.inl v, .inl v] (hP (c', mC m' ++ U')) (k + 1) = if v = v then rn X 30 308 1442 [rr 1, rr 2, rr 73, .inl z] [] (hP (c', mC m' ++ U')) k else rn X 30 308 1299 [rr 1, rr 2, rr 73, .inl z] [] (hP (c', mC m' ++ U')) k := rfl
  rw [if_pos rfl] at this
  exact this
theorem lc_39 {X : Nat × (Nat → Int)} {i n n' : Nat} {c c' : Nat → bS} {U U' : bH} {m m' : bS} {v z : Int} {R : Option bV × bH} (hz : z = (i : Int)) (hL : X.1 ≤ 3072) (hi : i + 6 ≤ X.1) (hp : P_spares n (c, mC m ++ U) (X.2 (i + 1)) = some (v, (c', mC m ++ U'))) (hr : R_spares n' m (X.2 (i + 1)) = some (v, m')) (K : Ev (rn X 30 308 18 [rr 1, rr 2, rr 73, .inl ((i + 6 : Nat) : Int)] [] (hP (c', mC m' ++ U'))) R) : Ev (rn X 30 308 1301 [rr 1, rr 2, rr 73, .inl z] [] (hP (c, mC m ++ U))) R := by
  refine Ev.step (G' := rn X 30 308 1302 [rr 1, rr 2, rr 73, .inl z] [rr 2] (hP (c, mC m ++ U))) 1 (fun _ => rfl) ?_
  refine Ev.arg 1 (y := 1) hz rfl hL hi (by decide) (fun _ => rfl) ?_
  have A := s_P_spares X 30 n (c, mC m ++ U) (X.2 (i + 1))
  rw [hp] at A
  refine Ev.call (c := 130) (d' := 30) (ls' := [rr 2, .inl (X.2 (i + 1)), b0]) (r := []) (v := some (.inl v)) (h1 := hP (c', mC m ++ U')) (fun _ => rfl) A.ev ?_
  refine Ev.step (G' := rn X 30 308 1311 [rr 1, rr 2, rr 73, .inl z] [rr 73, .inl v] (hP (c', mC m ++ U'))) 1 (fun _ => rfl) ?_
  refine Ev.arg 1 (y := 1) hz rfl hL hi (by decide) (fun _ => rfl) ?_
  have B := lMi (ls := [rr 2, .inl (X.2 (i + 1))]) (lb := [rr 73, .inl (X.2 (i + 1))]) c' U' m ⟨Or.inr rfl, ⟨Or.inr rfl, trivial⟩⟩ (s_R_spares X 30 n' m (X.2 (i + 1)))
  rw [hr] at B
  refine Ev.call (c := 302) (d' := 30) (ls' := [rr 73, .inl (X.2 (i + 1))]) (r := [.inl v]) (v := some (.inl v)) (h1 := hP (c', mC m' ++ U')) (fun _ => rfl) B.ev ?_
  refine Ev.step (G' := rn X 30 308 1442 [rr 1, rr 2, rr 73, .inl z] [] (hP (c', mC m' ++ U'))) 1 (fun k => ?_) (Ev.next hz hL hi K)
  have : rn X 30 308 1319 [rr 1, rr 2, rr 73, .inl z] [.inl v, .inl v] (hP (c', mC m' ++ U')) (k + 1) = if v = v then rn X 30 308 1442 [rr 1, rr 2, rr 73, .inl z] [] (hP (c', mC m' ++ U')) k else rn X 30 308 1322 [rr 1, rr 2, rr 73, .inl z] [] (hP (c', mC m' ++ U')) k := rfl
  rw [if_pos rfl] at this
  exact this
theorem lc_40 {X : Nat × (Nat → Int)} {i n n' : Nat} {c c' : Nat → bS} {U U' : bH} {m m' : bS} {v z : Int} {R : Option bV × bH} (hz : z = (i : Int)) (hL : X.1 ≤ 3072) (hi : i + 6 ≤ X.1) (hp : P_said n (c, mC m ++ U) (X.2 (i + 1)) (X.2 (i + 2)) = some (v, (c', mC m ++ U'))) (hr : R_said n' m (X.2 (i + 1)) (X.2 (i + 2)) = some (v, m')) (K : Ev (rn X 30 308 18 [rr 1, rr 2, rr 73, .inl ((i + 6 : Nat) : Int)] [] (hP (c', mC m' ++ U'))) R) : Ev (rn X 30 308 1324 [rr 1, rr 2, rr 73, .inl z] [] (hP (c, mC m ++ U))) R := by
  refine Ev.step (G' := rn X 30 308 1325 [rr 1, rr 2, rr 73, .inl z] [rr 2] (hP (c, mC m ++ U))) 1 (fun _ => rfl) ?_
  refine Ev.arg 1 (y := 1) hz rfl hL hi (by decide) (fun _ => rfl) ?_
  refine Ev.arg 2 (y := 2) hz rfl hL hi (by decide) (fun _ => rfl) ?_
  have A := s_P_said X 30 n (c, mC m ++ U) (X.2 (i + 1)) (X.2 (i + 2))
  rw [hp] at A
  refine Ev.call (c := 131) (d' := 30) (ls' := [rr 2, .inl (X.2 (i + 1)), .inl (X.2 (i + 2))]) (r := []) (v := some (.inl v)) (h1 := hP (c', mC m ++ U')) (fun _ => rfl) A.ev ?_
  refine Ev.step (G' := rn X 30 308 1339 [rr 1, rr 2, rr 73, .inl z] [rr 73, .inl v] (hP (c', mC m ++ U'))) 1 (fun _ => rfl) ?_
  refine Ev.arg 1 (y := 1) hz rfl hL hi (by decide) (fun _ => rfl) ?_
  refine Ev.arg 2 (y := 2) hz rfl hL hi (by decide) (fun _ => rfl) ?_
  have B := lMi (ls := [rr 2, .inl (X.2 (i + 1)), .inl (X.2 (i + 2))]) (lb := [rr 73, .inl (X.2 (i + 1)), .inl (X.2 (i + 2))]) c' U' m ⟨Or.inr rfl, ⟨Or.inr rfl, ⟨Or.inr rfl, trivial⟩⟩⟩ (s_R_said X 30 n' m (X.2 (i + 1)) (X.2 (i + 2)))
  rw [hr] at B
  refine Ev.call (c := 303) (d' := 30) (ls' := [rr 73, .inl (X.2 (i + 1)), .inl (X.2 (i + 2))]) (r := [.inl v]) (v := some (.inl v)) (h1 := hP (c', mC m' ++ U')) (fun _ => rfl) B.ev ?_
  refine Ev.step (G' := rn X 30 308 1442 [rr 1, rr 2, rr 73, .inl z] [] (hP (c', mC m' ++ U'))) 1 (fun k => ?_) (Ev.next hz hL hi K)
  have : rn X 30 308 1352 [rr 1, rr 2, rr 73, .inl z] [.inl v, .inl v] (hP (c', mC m' ++ U')) (k + 1) = if v = v then rn X 30 308 1442 [rr 1, rr 2, rr 73, .inl z] [] (hP (c', mC m' ++ U')) k else rn X 30 308 1355 [rr 1, rr 2, rr 73, .inl z] [] (hP (c', mC m' ++ U')) k := rfl
  rw [if_pos rfl] at this
  exact this
theorem lc_41 {X : Nat × (Nat → Int)} {i n n' : Nat} {c c' : Nat → bS} {U U' : bH} {m m' : bS} {v z : Int} {R : Option bV × bH} (hz : z = (i : Int)) (hL : X.1 ≤ 3072) (hi : i + 6 ≤ X.1) (hp : P_whose n (c, mC m ++ U)  = some (v, (c', mC m ++ U'))) (hr : R_whose n' m  = some (v, m')) (K : Ev (rn X 30 308 18 [rr 1, rr 2, rr 73, .inl ((i + 6 : Nat) : Int)] [] (hP (c', mC m' ++ U'))) R) : Ev (rn X 30 308 1357 [rr 1, rr 2, rr 73, .inl z] [] (hP (c, mC m ++ U))) R := by
  refine Ev.step (G' := rn X 30 308 1358 [rr 1, rr 2, rr 73, .inl z] [rr 2] (hP (c, mC m ++ U))) 1 (fun _ => rfl) ?_
  have A := s_P_whose X 30 n (c, mC m ++ U) 
  rw [hp] at A
  refine Ev.call (c := 132) (d' := 30) (ls' := [rr 2, b0, b0]) (r := []) (v := some (.inl v)) (h1 := hP (c', mC m ++ U')) (fun _ => rfl) A.ev ?_
  refine Ev.step (G' := rn X 30 308 1362 [rr 1, rr 2, rr 73, .inl z] [rr 73, .inl v] (hP (c', mC m ++ U'))) 1 (fun _ => rfl) ?_
  have B := lMi (ls := [rr 2, b0, b0, b0, b0]) (lb := [rr 73, b0, b0, b0, b0]) c' U' m ⟨Or.inr rfl, ⟨Or.inl rfl, ⟨Or.inl rfl, ⟨Or.inl rfl, ⟨Or.inl rfl, trivial⟩⟩⟩⟩⟩ (s_R_whose X 30 n' m )
  rw [hr] at B
  refine Ev.call (c := 304) (d' := 30) (ls' := [rr 73, b0, b0, b0, b0]) (r := [.inl v]) (v := some (.inl v)) (h1 := hP (c', mC m' ++ U')) (fun _ => rfl) B.ev ?_
  refine Ev.step (G' := rn X 30 308 1442 [rr 1, rr 2, rr 73, .inl z] [] (hP (c', mC m' ++ U'))) 1 (fun k => ?_) (Ev.next hz hL hi K)
  have : rn X 30 308 1365 [rr 1, rr 2, rr 73, .inl z] [.inl v, .inl v] (hP (c', mC m' ++ U')) (k + 1) = if v = v then rn X 30 308 1442 [rr 1, rr 2, rr 73, .inl z] [] (hP (c', mC m' ++ U')) k else rn X 30 308 1368 [rr 1, rr 2, rr 73, .inl z] [] (hP (c', mC m' ++ U')) k := rfl
  rw [if_pos rfl] at this
  exact this
theorem lc_42 {X : Nat × (Nat → Int)} {i n n' : Nat} {c c' : Nat → bS} {U U' : bH} {m m' : bS} {v z : Int} {R : Option bV × bH} (hz : z = (i : Int)) (hL : X.1 ≤ 3072) (hi : i + 6 ≤ X.1) (hp : P_ledger n (c, mC m ++ U) (X.2 (i + 1)) = some (v, (c', mC m ++ U'))) (hr : R_ledger n' m (X.2 (i + 1)) = some (v, m')) (K : Ev (rn X 30 308 18 [rr 1, rr 2, rr 73, .inl ((i + 6 : Nat) : Int)] [] (hP (c', mC m' ++ U'))) R) : Ev (rn X 30 308 1370 [rr 1, rr 2, rr 73, .inl z] [] (hP (c, mC m ++ U))) R := by
  refine Ev.step (G' := rn X 30 308 1371 [rr 1, rr 2, rr 73, .inl z] [rr 2] (hP (c, mC m ++ U))) 1 (fun _ => rfl) ?_
  refine Ev.arg 1 (y := 1) hz rfl hL hi (by decide) (fun _ => rfl) ?_
  have A := s_P_ledger X 30 n (c, mC m ++ U) (X.2 (i + 1))
  rw [hp] at A
  refine Ev.call (c := 133) (d' := 30) (ls' := [rr 2, .inl (X.2 (i + 1)), b0, b0]) (r := []) (v := some (.inl v)) (h1 := hP (c', mC m ++ U')) (fun _ => rfl) A.ev ?_
  refine Ev.step (G' := rn X 30 308 1380 [rr 1, rr 2, rr 73, .inl z] [rr 73, .inl v] (hP (c', mC m ++ U'))) 1 (fun _ => rfl) ?_
  refine Ev.arg 1 (y := 1) hz rfl hL hi (by decide) (fun _ => rfl) ?_
  have B := lMi (ls := [rr 2, .inl (X.2 (i + 1)), b0, b0]) (lb := [rr 73, .inl (X.2 (i + 1)), b0, b0]) c' U' m ⟨Or.inr rfl, ⟨Or.inr rfl, ⟨Or.inl rfl, ⟨Or.inl rfl, trivial⟩⟩⟩⟩ (s_R_ledger X 30 n' m (X.2 (i + 1)))
  rw [hr] at B
  refine Ev.call (c := 277) (d' := 30) (ls' := [rr 73, .inl (X.2 (i + 1)), b0, b0]) (r := [.inl v]) (v := some (.inl v)) (h1 := hP (c', mC m' ++ U')) (fun _ => rfl) B.ev ?_
  refine Ev.step (G' := rn X 30 308 1442 [rr 1, rr 2, rr 73, .inl z] [] (hP (c', mC m' ++ U'))) 1 (fun k => ?_) (Ev.next hz hL hi K)
  have : rn X 30 308 1388 [rr 1, rr 2, rr 73, .inl z] [.inl v, .inl v] (hP (c', mC m' ++ U')) (k + 1) = if v = v then rn X 30 308 1442 [rr 1, rr 2, rr 73, .inl z] [] (hP (c', mC m' ++ U')) k else rn X 30 308 1391 [rr 1, rr 2, rr 73, .inl z] [] (hP (c', mC m' ++ U')) k := rfl
  rw [if_pos rfl] at this
  exact this
theorem lc_43 {X : Nat × (Nat → Int)} {i n n' : Nat} {c c' : Nat → bS} {U U' : bH} {m m' : bS} {v z : Int} {R : Option bV × bH} (hz : z = (i : Int)) (hL : X.1 ≤ 3072) (hi : i + 6 ≤ X.1) (hp : P_image n (c, mC m ++ U)  = some (v, (c', mC m ++ U'))) (hr : R_image n' m  = some (v, m')) (K : Ev (rn X 30 308 18 [rr 1, rr 2, rr 73, .inl ((i + 6 : Nat) : Int)] [] (hP (c', mC m' ++ U'))) R) : Ev (rn X 30 308 1393 [rr 1, rr 2, rr 73, .inl z] [] (hP (c, mC m ++ U))) R := by
  refine Ev.step (G' := rn X 30 308 1394 [rr 1, rr 2, rr 73, .inl z] [rr 2] (hP (c, mC m ++ U))) 1 (fun _ => rfl) ?_
  have A := s_P_image X 30 n (c, mC m ++ U) 
  rw [hp] at A
  refine Ev.call (c := 134) (d' := 30) (ls' := [rr 2]) (r := []) (v := some (.inl v)) (h1 := hP (c', mC m ++ U')) (fun _ => rfl) A.ev ?_
  refine Ev.step (G' := rn X 30 308 1398 [rr 1, rr 2, rr 73, .inl z] [rr 73, .inl v] (hP (c', mC m ++ U'))) 1 (fun _ => rfl) ?_
  have B := lMi (ls := [rr 2]) (lb := [rr 73]) c' U' m ⟨Or.inr rfl, trivial⟩ (s_R_image X 30 n' m )
  rw [hr] at B
  refine Ev.call (c := 305) (d' := 30) (ls' := [rr 73]) (r := [.inl v]) (v := some (.inl v)) (h1 := hP (c', mC m' ++ U')) (fun _ => rfl) B.ev ?_
  refine Ev.step (G' := rn X 30 308 1442 [rr 1, rr 2, rr 73, .inl z] [] (hP (c', mC m' ++ U'))) 1 (fun k => ?_) (Ev.next hz hL hi K)
  have : rn X 30 308 1401 [rr 1, rr 2, rr 73, .inl z] [.inl v, .inl v] (hP (c', mC m' ++ U')) (k + 1) = if v = v then rn X 30 308 1442 [rr 1, rr 2, rr 73, .inl z] [] (hP (c', mC m' ++ U')) k else rn X 30 308 1404 [rr 1, rr 2, rr 73, .inl z] [] (hP (c', mC m' ++ U')) k := rfl
  rw [if_pos rfl] at this
  exact this
theorem lc_44 {X : Nat × (Nat → Int)} {i n n' : Nat} {c c' : Nat → bS} {U U' : bH} {m m' : bS} {v z : Int} {R : Option bV × bH} (hz : z = (i : Int)) (hL : X.1 ≤ 3072) (hi : i + 6 ≤ X.1) (hp : P_back n (c, mC m ++ U)  = some (v, (c', mC m ++ U'))) (hr : R_back n' m  = some (v, m')) (K : Ev (rn X 30 308 18 [rr 1, rr 2, rr 73, .inl ((i + 6 : Nat) : Int)] [] (hP (c', mC m' ++ U'))) R) : Ev (rn X 30 308 1406 [rr 1, rr 2, rr 73, .inl z] [] (hP (c, mC m ++ U))) R := by
  refine Ev.step (G' := rn X 30 308 1407 [rr 1, rr 2, rr 73, .inl z] [rr 2] (hP (c, mC m ++ U))) 1 (fun _ => rfl) ?_
  have A := s_P_back X 30 n (c, mC m ++ U) 
  rw [hp] at A
  refine Ev.call (c := 135) (d' := 30) (ls' := [rr 2]) (r := []) (v := some (.inl v)) (h1 := hP (c', mC m ++ U')) (fun _ => rfl) A.ev ?_
  refine Ev.step (G' := rn X 30 308 1411 [rr 1, rr 2, rr 73, .inl z] [rr 73, .inl v] (hP (c', mC m ++ U'))) 1 (fun _ => rfl) ?_
  have B := lMi (ls := [rr 2]) (lb := [rr 73]) c' U' m ⟨Or.inr rfl, trivial⟩ (s_R_back X 30 n' m )
  rw [hr] at B
  refine Ev.call (c := 306) (d' := 30) (ls' := [rr 73]) (r := [.inl v]) (v := some (.inl v)) (h1 := hP (c', mC m' ++ U')) (fun _ => rfl) B.ev ?_
  refine Ev.step (G' := rn X 30 308 1442 [rr 1, rr 2, rr 73, .inl z] [] (hP (c', mC m' ++ U'))) 1 (fun k => ?_) (Ev.next hz hL hi K)
  have : rn X 30 308 1414 [rr 1, rr 2, rr 73, .inl z] [.inl v, .inl v] (hP (c', mC m' ++ U')) (k + 1) = if v = v then rn X 30 308 1442 [rr 1, rr 2, rr 73, .inl z] [] (hP (c', mC m' ++ U')) k else rn X 30 308 1417 [rr 1, rr 2, rr 73, .inl z] [] (hP (c', mC m' ++ U')) k := rfl
  rw [if_pos rfl] at this
  exact this
theorem lc_45 {X : Nat × (Nat → Int)} {i n n' : Nat} {c c' : Nat → bS} {U U' : bH} {m m' : bS} {v z : Int} {R : Option bV × bH} (hz : z = (i : Int)) (hL : X.1 ≤ 3072) (hi : i + 6 ≤ X.1) (hp : P_about n (c, mC m ++ U) (X.2 (i + 1)) = some (v, (c', mC m ++ U'))) (hr : R_about n' m (X.2 (i + 1)) = some (v, m')) (K : Ev (rn X 30 308 18 [rr 1, rr 2, rr 73, .inl ((i + 6 : Nat) : Int)] [] (hP (c', mC m' ++ U'))) R) : Ev (rn X 30 308 1419 [rr 1, rr 2, rr 73, .inl z] [] (hP (c, mC m ++ U))) R := by
  refine Ev.step (G' := rn X 30 308 1420 [rr 1, rr 2, rr 73, .inl z] [rr 2] (hP (c, mC m ++ U))) 1 (fun _ => rfl) ?_
  refine Ev.arg 1 (y := 1) hz rfl hL hi (by decide) (fun _ => rfl) ?_
  have A := s_P_about X 30 n (c, mC m ++ U) (X.2 (i + 1))
  rw [hp] at A
  refine Ev.call (c := 136) (d' := 30) (ls' := [rr 2, .inl (X.2 (i + 1))]) (r := []) (v := some (.inl v)) (h1 := hP (c', mC m ++ U')) (fun _ => rfl) A.ev ?_
  refine Ev.step (G' := rn X 30 308 1429 [rr 1, rr 2, rr 73, .inl z] [rr 73, .inl v] (hP (c', mC m ++ U'))) 1 (fun _ => rfl) ?_
  refine Ev.arg 1 (y := 1) hz rfl hL hi (by decide) (fun _ => rfl) ?_
  have B := lMi (ls := [rr 2, .inl (X.2 (i + 1))]) (lb := [rr 73, .inl (X.2 (i + 1))]) c' U' m ⟨Or.inr rfl, ⟨Or.inr rfl, trivial⟩⟩ (s_R_about X 30 n' m (X.2 (i + 1)))
  rw [hr] at B
  refine Ev.call (c := 307) (d' := 30) (ls' := [rr 73, .inl (X.2 (i + 1))]) (r := [.inl v]) (v := some (.inl v)) (h1 := hP (c', mC m' ++ U')) (fun _ => rfl) B.ev ?_
  refine Ev.step (G' := rn X 30 308 1442 [rr 1, rr 2, rr 73, .inl z] [] (hP (c', mC m' ++ U'))) 1 (fun k => ?_) (Ev.next hz hL hi K)
  have : rn X 30 308 1437 [rr 1, rr 2, rr 73, .inl z] [.inl v, .inl v] (hP (c', mC m' ++ U')) (k + 1) = if v = v then rn X 30 308 1442 [rr 1, rr 2, rr 73, .inl z] [] (hP (c', mC m' ++ U')) k else rn X 30 308 1440 [rr 1, rr 2, rr 73, .inl z] [] (hP (c', mC m' ++ U')) k := rfl
  rw [if_pos rfl] at this
  exact this
/-- what one call must come to -/
def LStep (op : Nat) (c : Nat → bS) (U : bH) (m : bS) (a1 a2 a3 a4 a5 : Int) (c' : Nat → bS) (U' : bH) (m' : bS) : Prop := match op with
  | 0 => ∃ n n' v, P_object n (c, mC m ++ U) a1 = some (v, (c', mC m ++ U')) ∧ R_object n' m a1 = some (v, m')
  | 1 => ∃ n n' v, P_feed n (c, mC m ++ U) a1 a2 a3 a4 a5 = some (v, (c', mC m ++ U')) ∧ R_feed n' m a1 a2 a3 a4 a5 = some (v, m')
  | 2 => ∃ n n' v, P_end n (c, mC m ++ U) a1 = some (v, (c', mC m ++ U')) ∧ R_end n' m a1 = some (v, m')
  | 3 => ∃ n n' v, P_text 30 n (c, mC m ++ U)  = some (v, (c', mC m ++ U')) ∧ R_text n' m  = some (v, m')
  | 4 => ∃ n n' v, P_fault n (c, mC m ++ U) a1 = some (v, (c', mC m ++ U')) ∧ R_fault n' m a1 = some (v, m')
  | 5 => ∃ n n' v, P_by n (c, mC m ++ U) a1 = some (v, (c', mC m ++ U')) ∧ R_by n' m a1 = some (v, m')
  | 6 => ∃ n n' v, P_touch n (c, mC m ++ U) a1 a2 = some (v, (c', mC m ++ U')) ∧ R_touch n' m a1 a2 = some (v, m')
  | 7 => ∃ n n' v, P_write n (c, mC m ++ U) a1 a2 a3 = some (v, (c', mC m ++ U')) ∧ R_write n' m a1 a2 a3 = some (v, m')
  | 8 => ∃ n n' v, P_copy n (c, mC m ++ U) a1 a2 a3 a4 = some (v, (c', mC m ++ U')) ∧ R_copy n' m a1 a2 a3 a4 = some (v, m')
  | 9 => ∃ n n' v, P_sweep n (c, mC m ++ U) a1 = some (v, (c', mC m ++ U')) ∧ R_sweep n' m a1 = some (v, m')
  | 10 => ∃ n n' v, P_empty n (c, mC m ++ U) a1 = some (v, (c', mC m ++ U')) ∧ R_empty n' m a1 = some (v, m')
  | 11 => ∃ n n' v, P_drop n (c, mC m ++ U) a1 = some (v, (c', mC m ++ U')) ∧ R_drop n' m a1 = some (v, m')
  | 12 => ∃ n n' v, P_day n (c, mC m ++ U) a1 = some (v, (c', mC m ++ U')) ∧ R_day n' m a1 = some (v, m')
  | 13 => ∃ n n' v, P_played (0, z0) n (c, mC m ++ U) a1 = some (v, (c', mC m ++ U')) ∧ R_played n' m a1 = some (v, m')
  | 14 => ∃ n n' v, P_years n (c, mC m ++ U) a1 a2 = some (v, (c', mC m ++ U')) ∧ R_years n' m a1 a2 = some (v, m')
  | 15 => ∃ n n' v, P_undo n (c, mC m ++ U)  = some (v, (c', mC m ++ U')) ∧ R_undo n' m  = some (v, m')
  | 16 => ∃ n n' v, P_page n (c, mC m ++ U) a1 a2 a3 = some (v, (c', mC m ++ U')) ∧ R_page n' m a1 a2 a3 = some (v, m')
  | 17 => ∃ n n' v, P_frame n (c, mC m ++ U) a1 = some (v, (c', mC m ++ U')) ∧ R_frame n' m a1 = some (v, m')
  | 18 => ∃ n n' v, P_reserved n (c, mC m ++ U) a1 a2 = some (v, (c', mC m ++ U')) ∧ R_reserved n' m a1 a2 = some (v, m')
  | 19 => ∃ n n' v, P_let n (c, mC m ++ U) a1 = some (v, (c', mC m ++ U')) ∧ R_let n' m a1 = some (v, m')
  | 20 => ∃ n n' v, P_is n (c, mC m ++ U) a1 = some (v, (c', mC m ++ U')) ∧ R_is n' m a1 = some (v, m')
  | 21 => ∃ n n' v, P_book n (c, mC m ++ U) a1 a2 = some (v, (c', mC m ++ U')) ∧ R_book n' m a1 a2 = some (v, m')
  | 22 => ∃ n n' v, P_foretold n (c, mC m ++ U) a1 a2 = some (v, (c', mC m ++ U')) ∧ R_foretold n' m a1 a2 = some (v, m')
  | 23 => ∃ n n' v, P_would n (c, mC m ++ U) a1 a2 a3 = some (v, (c', mC m ++ U')) ∧ R_would n' m a1 a2 a3 = some (v, m')
  | 24 => ∃ n n' v, P_victim n (c, mC m ++ U) a1 = some (v, (c', mC m ++ U')) ∧ R_victim n' m a1 = some (v, m')
  | 25 => ∃ n n' v, P_next n (c, mC m ++ U) a1 = some (v, (c', mC m ++ U')) ∧ R_next n' m a1 = some (v, m')
  | 26 => ∃ n n' v, P_entries n (c, mC m ++ U) a1 = some (v, (c', mC m ++ U')) ∧ R_entries n' m a1 = some (v, m')
  | 27 => ∃ n n' v, P_ideal n (c, mC m ++ U) a1 = some (v, (c', mC m ++ U')) ∧ R_ideal n' m a1 = some (v, m')
  | 28 => ∃ n n' v, P_pages n (c, mC m ++ U) a1 a2 a3 = some (v, (c', mC m ++ U')) ∧ R_pages n' m a1 a2 a3 = some (v, m')
  | 29 => ∃ n n' v, P_holes n (c, mC m ++ U) a1 = some (v, (c', mC m ++ U')) ∧ R_holes n' m a1 = some (v, m')
  | 30 => ∃ n n' v, P_reach n (c, mC m ++ U)  = some (v, (c', mC m ++ U')) ∧ R_reach n' m  = some (v, m')
  | 31 => ∃ n n' v, P_spread n (c, mC m ++ U)  = some (v, (c', mC m ++ U')) ∧ R_spread n' m  = some (v, m')
  | 32 => ∃ n n' v, P_digest n (c, mC m ++ U) a1 = some (v, (c', mC m ++ U')) ∧ R_digest n' m a1 = some (v, m')
  | 33 => ∃ n n' v, P_alike n (c, mC m ++ U) a1 a2 = some (v, (c', mC m ++ U')) ∧ R_alike n' m a1 a2 = some (v, m')
  | 34 => ∃ n n' v, P_eldest n (c, mC m ++ U) a1 = some (v, (c', mC m ++ U')) ∧ R_eldest n' m a1 = some (v, m')
  | 35 => ∃ n n' v, P_dirty n (c, mC m ++ U) a1 = some (v, (c', mC m ++ U')) ∧ R_dirty n' m a1 = some (v, m')
  | 36 => ∃ n n' v, P_there n (c, mC m ++ U) a1 = some (v, (c', mC m ++ U')) ∧ R_there n' m a1 = some (v, m')
  | 37 => ∃ n n' v, P_sound n (c, mC m ++ U)  = some (v, (c', mC m ++ U')) ∧ R_sound n' m  = some (v, m')
  | 38 => ∃ n n' v, P_wants n (c, mC m ++ U) a1 a2 = some (v, (c', mC m ++ U')) ∧ R_wants n' m a1 a2 = some (v, m')
  | 39 => ∃ n n' v, P_spares n (c, mC m ++ U) a1 = some (v, (c', mC m ++ U')) ∧ R_spares n' m a1 = some (v, m')
  | 40 => ∃ n n' v, P_said n (c, mC m ++ U) a1 a2 = some (v, (c', mC m ++ U')) ∧ R_said n' m a1 a2 = some (v, m')
  | 41 => ∃ n n' v, P_whose n (c, mC m ++ U)  = some (v, (c', mC m ++ U')) ∧ R_whose n' m  = some (v, m')
  | 42 => ∃ n n' v, P_ledger n (c, mC m ++ U) a1 = some (v, (c', mC m ++ U')) ∧ R_ledger n' m a1 = some (v, m')
  | 43 => ∃ n n' v, P_image n (c, mC m ++ U)  = some (v, (c', mC m ++ U')) ∧ R_image n' m  = some (v, m')
  | 44 => ∃ n n' v, P_back n (c, mC m ++ U)  = some (v, (c', mC m ++ U')) ∧ R_back n' m  = some (v, m')
  | 45 => ∃ n n' v, P_about n (c, mC m ++ U) a1 = some (v, (c', mC m ++ U')) ∧ R_about n' m a1 = some (v, m')
  | _ => False
theorem law_step {X : Nat × (Nat → Int)} {i : Nat} {z : Int} (hz : z = (i : Int)) {c c' : Nat → bS} {U U' : bH} {m m' : bS} {R : Option bV × bH} (hL : X.1 ≤ 3072) (hi : i + 6 ≤ X.1) (op : Nat) (h : LStep op c U m (X.2 (i + 1)) (X.2 (i + 2)) (X.2 (i + 3)) (X.2 (i + 4)) (X.2 (i + 5)) c' U' m') (K : Ev (rn X 30 308 18 [rr 1, rr 2, rr 73, .inl ((i + 6 : Nat) : Int)] [] (hP (c', mC m' ++ U'))) R) : Ev (rn X 30 308 33 [rr 1, rr 2, rr 73, .inl z] [.inl (op : Int)] (hP (c, mC m ++ U))) R := by
  match op, h with
  | 0, h => obtain ⟨n, n', v, h1, h2⟩ := h; exact Ev.step (G' := rn X 30 308 232 [rr 1, rr 2, rr 73, .inl z] [] (hP (c, mC m ++ U))) 1 (fun _ => rfl) (lc_0 hz hL hi h1 h2 K)
  | 1, h => obtain ⟨n, n', v, h1, h2⟩ := h; exact Ev.step (G' := rn X 30 308 255 [rr 1, rr 2, rr 73, .inl z] [] (hP (c, mC m ++ U))) 1 (fun _ => rfl) (lc_1 hz hL hi h1 h2 K)
  | 2, h => obtain ⟨n, n', v, h1, h2⟩ := h; exact Ev.step (G' := rn X 30 308 318 [rr 1, rr 2, rr 73, .inl z] [] (hP (c, mC m ++ U))) 1 (fun _ => rfl) (lc_2 hz hL hi h1 h2 K)
  | 3, h => obtain ⟨n, n', v, h1, h2⟩ := h; exact Ev.step (G' := rn X 30 308 341 [rr 1, rr 2, rr 73, .inl z] [] (hP (c, mC m ++ U))) 1 (fun _ => rfl) (lc_3 hz hL hi h1 h2 K)
  | 4, h => obtain ⟨n, n', v, h1, h2⟩ := h; exact Ev.step (G' := rn X 30 308 354 [rr 1, rr 2, rr 73, .inl z] [] (hP (c, mC m ++ U))) 1 (fun _ => rfl) (lc_4 hz hL hi h1 h2 K)
  | 5, h => obtain ⟨n, n', v, h1, h2⟩ := h; exact Ev.step (G' := rn X 30 308 377 [rr 1, rr 2, rr 73, .inl z] [] (hP (c, mC m ++ U))) 1 (fun _ => rfl) (lc_5 hz hL hi h1 h2 K)
  | 6, h => obtain ⟨n, n', v, h1, h2⟩ := h; exact Ev.step (G' := rn X 30 308 400 [rr 1, rr 2, rr 73, .inl z] [] (hP (c, mC m ++ U))) 1 (fun _ => rfl) (lc_6 hz hL hi h1 h2 K)
  | 7, h => obtain ⟨n, n', v, h1, h2⟩ := h; exact Ev.step (G' := rn X 30 308 433 [rr 1, rr 2, rr 73, .inl z] [] (hP (c, mC m ++ U))) 1 (fun _ => rfl) (lc_7 hz hL hi h1 h2 K)
  | 8, h => obtain ⟨n, n', v, h1, h2⟩ := h; exact Ev.step (G' := rn X 30 308 476 [rr 1, rr 2, rr 73, .inl z] [] (hP (c, mC m ++ U))) 1 (fun _ => rfl) (lc_8 hz hL hi h1 h2 K)
  | 9, h => obtain ⟨n, n', v, h1, h2⟩ := h; exact Ev.step (G' := rn X 30 308 529 [rr 1, rr 2, rr 73, .inl z] [] (hP (c, mC m ++ U))) 1 (fun _ => rfl) (lc_9 hz hL hi h1 h2 K)
  | 10, h => obtain ⟨n, n', v, h1, h2⟩ := h; exact Ev.step (G' := rn X 30 308 552 [rr 1, rr 2, rr 73, .inl z] [] (hP (c, mC m ++ U))) 1 (fun _ => rfl) (lc_10 hz hL hi h1 h2 K)
  | 11, h => obtain ⟨n, n', v, h1, h2⟩ := h; exact Ev.step (G' := rn X 30 308 575 [rr 1, rr 2, rr 73, .inl z] [] (hP (c, mC m ++ U))) 1 (fun _ => rfl) (lc_11 hz hL hi h1 h2 K)
  | 12, h => obtain ⟨n, n', v, h1, h2⟩ := h; exact Ev.step (G' := rn X 30 308 598 [rr 1, rr 2, rr 73, .inl z] [] (hP (c, mC m ++ U))) 1 (fun _ => rfl) (lc_12 hz hL hi h1 h2 K)
  | 13, h => obtain ⟨n, n', v, h1, h2⟩ := h; exact Ev.step (G' := rn X 30 308 621 [rr 1, rr 2, rr 73, .inl z] [] (hP (c, mC m ++ U))) 1 (fun _ => rfl) (lc_13 hz hL hi h1 h2 K)
  | 14, h => obtain ⟨n, n', v, h1, h2⟩ := h; exact Ev.step (G' := rn X 30 308 644 [rr 1, rr 2, rr 73, .inl z] [] (hP (c, mC m ++ U))) 1 (fun _ => rfl) (lc_14 hz hL hi h1 h2 K)
  | 15, h => obtain ⟨n, n', v, h1, h2⟩ := h; exact Ev.step (G' := rn X 30 308 677 [rr 1, rr 2, rr 73, .inl z] [] (hP (c, mC m ++ U))) 1 (fun _ => rfl) (lc_15 hz hL hi h1 h2 K)
  | 16, h => obtain ⟨n, n', v, h1, h2⟩ := h; exact Ev.step (G' := rn X 30 308 690 [rr 1, rr 2, rr 73, .inl z] [] (hP (c, mC m ++ U))) 1 (fun _ => rfl) (lc_16 hz hL hi h1 h2 K)
  | 17, h => obtain ⟨n, n', v, h1, h2⟩ := h; exact Ev.step (G' := rn X 30 308 733 [rr 1, rr 2, rr 73, .inl z] [] (hP (c, mC m ++ U))) 1 (fun _ => rfl) (lc_17 hz hL hi h1 h2 K)
  | 18, h => obtain ⟨n, n', v, h1, h2⟩ := h; exact Ev.step (G' := rn X 30 308 756 [rr 1, rr 2, rr 73, .inl z] [] (hP (c, mC m ++ U))) 1 (fun _ => rfl) (lc_18 hz hL hi h1 h2 K)
  | 19, h => obtain ⟨n, n', v, h1, h2⟩ := h; exact Ev.step (G' := rn X 30 308 789 [rr 1, rr 2, rr 73, .inl z] [] (hP (c, mC m ++ U))) 1 (fun _ => rfl) (lc_19 hz hL hi h1 h2 K)
  | 20, h => obtain ⟨n, n', v, h1, h2⟩ := h; exact Ev.step (G' := rn X 30 308 812 [rr 1, rr 2, rr 73, .inl z] [] (hP (c, mC m ++ U))) 1 (fun _ => rfl) (lc_20 hz hL hi h1 h2 K)
  | 21, h => obtain ⟨n, n', v, h1, h2⟩ := h; exact Ev.step (G' := rn X 30 308 835 [rr 1, rr 2, rr 73, .inl z] [] (hP (c, mC m ++ U))) 1 (fun _ => rfl) (lc_21 hz hL hi h1 h2 K)
  | 22, h => obtain ⟨n, n', v, h1, h2⟩ := h; exact Ev.step (G' := rn X 30 308 868 [rr 1, rr 2, rr 73, .inl z] [] (hP (c, mC m ++ U))) 1 (fun _ => rfl) (lc_22 hz hL hi h1 h2 K)
  | 23, h => obtain ⟨n, n', v, h1, h2⟩ := h; exact Ev.step (G' := rn X 30 308 901 [rr 1, rr 2, rr 73, .inl z] [] (hP (c, mC m ++ U))) 1 (fun _ => rfl) (lc_23 hz hL hi h1 h2 K)
  | 24, h => obtain ⟨n, n', v, h1, h2⟩ := h; exact Ev.step (G' := rn X 30 308 944 [rr 1, rr 2, rr 73, .inl z] [] (hP (c, mC m ++ U))) 1 (fun _ => rfl) (lc_24 hz hL hi h1 h2 K)
  | 25, h => obtain ⟨n, n', v, h1, h2⟩ := h; exact Ev.step (G' := rn X 30 308 967 [rr 1, rr 2, rr 73, .inl z] [] (hP (c, mC m ++ U))) 1 (fun _ => rfl) (lc_25 hz hL hi h1 h2 K)
  | 26, h => obtain ⟨n, n', v, h1, h2⟩ := h; exact Ev.step (G' := rn X 30 308 990 [rr 1, rr 2, rr 73, .inl z] [] (hP (c, mC m ++ U))) 1 (fun _ => rfl) (lc_26 hz hL hi h1 h2 K)
  | 27, h => obtain ⟨n, n', v, h1, h2⟩ := h; exact Ev.step (G' := rn X 30 308 1013 [rr 1, rr 2, rr 73, .inl z] [] (hP (c, mC m ++ U))) 1 (fun _ => rfl) (lc_27 hz hL hi h1 h2 K)
  | 28, h => obtain ⟨n, n', v, h1, h2⟩ := h; exact Ev.step (G' := rn X 30 308 1036 [rr 1, rr 2, rr 73, .inl z] [] (hP (c, mC m ++ U))) 1 (fun _ => rfl) (lc_28 hz hL hi h1 h2 K)
  | 29, h => obtain ⟨n, n', v, h1, h2⟩ := h; exact Ev.step (G' := rn X 30 308 1079 [rr 1, rr 2, rr 73, .inl z] [] (hP (c, mC m ++ U))) 1 (fun _ => rfl) (lc_29 hz hL hi h1 h2 K)
  | 30, h => obtain ⟨n, n', v, h1, h2⟩ := h; exact Ev.step (G' := rn X 30 308 1102 [rr 1, rr 2, rr 73, .inl z] [] (hP (c, mC m ++ U))) 1 (fun _ => rfl) (lc_30 hz hL hi h1 h2 K)
  | 31, h => obtain ⟨n, n', v, h1, h2⟩ := h; exact Ev.step (G' := rn X 30 308 1115 [rr 1, rr 2, rr 73, .inl z] [] (hP (c, mC m ++ U))) 1 (fun _ => rfl) (lc_31 hz hL hi h1 h2 K)
  | 32, h => obtain ⟨n, n', v, h1, h2⟩ := h; exact Ev.step (G' := rn X 30 308 1128 [rr 1, rr 2, rr 73, .inl z] [] (hP (c, mC m ++ U))) 1 (fun _ => rfl) (lc_32 hz hL hi h1 h2 K)
  | 33, h => obtain ⟨n, n', v, h1, h2⟩ := h; exact Ev.step (G' := rn X 30 308 1151 [rr 1, rr 2, rr 73, .inl z] [] (hP (c, mC m ++ U))) 1 (fun _ => rfl) (lc_33 hz hL hi h1 h2 K)
  | 34, h => obtain ⟨n, n', v, h1, h2⟩ := h; exact Ev.step (G' := rn X 30 308 1184 [rr 1, rr 2, rr 73, .inl z] [] (hP (c, mC m ++ U))) 1 (fun _ => rfl) (lc_34 hz hL hi h1 h2 K)
  | 35, h => obtain ⟨n, n', v, h1, h2⟩ := h; exact Ev.step (G' := rn X 30 308 1207 [rr 1, rr 2, rr 73, .inl z] [] (hP (c, mC m ++ U))) 1 (fun _ => rfl) (lc_35 hz hL hi h1 h2 K)
  | 36, h => obtain ⟨n, n', v, h1, h2⟩ := h; exact Ev.step (G' := rn X 30 308 1231 [rr 1, rr 2, rr 73, .inl z] [] (hP (c, mC m ++ U))) 1 (fun _ => rfl) (lc_36 hz hL hi h1 h2 K)
  | 37, h => obtain ⟨n, n', v, h1, h2⟩ := h; exact Ev.step (G' := rn X 30 308 1255 [rr 1, rr 2, rr 73, .inl z] [] (hP (c, mC m ++ U))) 1 (fun _ => rfl) (lc_37 hz hL hi h1 h2 K)
  | 38, h => obtain ⟨n, n', v, h1, h2⟩ := h; exact Ev.step (G' := rn X 30 308 1268 [rr 1, rr 2, rr 73, .inl z] [] (hP (c, mC m ++ U))) 1 (fun _ => rfl) (lc_38 hz hL hi h1 h2 K)
  | 39, h => obtain ⟨n, n', v, h1, h2⟩ := h; exact Ev.step (G' := rn X 30 308 1301 [rr 1, rr 2, rr 73, .inl z] [] (hP (c, mC m ++ U))) 1 (fun _ => rfl) (lc_39 hz hL hi h1 h2 K)
  | 40, h => obtain ⟨n, n', v, h1, h2⟩ := h; exact Ev.step (G' := rn X 30 308 1324 [rr 1, rr 2, rr 73, .inl z] [] (hP (c, mC m ++ U))) 1 (fun _ => rfl) (lc_40 hz hL hi h1 h2 K)
  | 41, h => obtain ⟨n, n', v, h1, h2⟩ := h; exact Ev.step (G' := rn X 30 308 1357 [rr 1, rr 2, rr 73, .inl z] [] (hP (c, mC m ++ U))) 1 (fun _ => rfl) (lc_41 hz hL hi h1 h2 K)
  | 42, h => obtain ⟨n, n', v, h1, h2⟩ := h; exact Ev.step (G' := rn X 30 308 1370 [rr 1, rr 2, rr 73, .inl z] [] (hP (c, mC m ++ U))) 1 (fun _ => rfl) (lc_42 hz hL hi h1 h2 K)
  | 43, h => obtain ⟨n, n', v, h1, h2⟩ := h; exact Ev.step (G' := rn X 30 308 1393 [rr 1, rr 2, rr 73, .inl z] [] (hP (c, mC m ++ U))) 1 (fun _ => rfl) (lc_43 hz hL hi h1 h2 K)
  | 44, h => obtain ⟨n, n', v, h1, h2⟩ := h; exact Ev.step (G' := rn X 30 308 1406 [rr 1, rr 2, rr 73, .inl z] [] (hP (c, mC m ++ U))) 1 (fun _ => rfl) (lc_44 hz hL hi h1 h2 K)
  | 45, h => obtain ⟨n, n', v, h1, h2⟩ := h; exact Ev.step (G' := rn X 30 308 1419 [rr 1, rr 2, rr 73, .inl z] [] (hP (c, mC m ++ U))) 1 (fun _ => rfl) (lc_45 hz hL hi h1 h2 K)
  | _ + 46, h => exact h.elim
theorem law_other {X : Nat × (Nat → Int)} {i : Nat} {z : Int} (hz : z = (i : Int)) {h : bH} {R : Option bV × bH} (hL : X.1 ≤ 3072) (hi : i + 6 ≤ X.1) (x : Int) (hx : x < 0 ∨ 45 < x) (K : Ev (rn X 30 308 18 [rr 1, rr 2, rr 73, .inl ((i + 6 : Nat) : Int)] [] h) R) : Ev (rn X 30 308 33 [rr 1, rr 2, rr 73, .inl z] [.inl x] h) R := by
  have : ∀ k, rn X 30 308 33 [rr 1, rr 2, rr 73, .inl z] [.inl x] h (k + 1) = if x < 0 ∨ 45 < x then rn X 30 308 1442 [rr 1, rr 2, rr 73, .inl z] [] h k else (match (#[199, 222, 285, 308, 321, 344, 367, 400, 443, 496, 519, 542, 565, 588, 611, 644, 657, 700, 723, 756, 779, 802, 835, 868, 911, 934, 957, 980, 1003, 1046, 1069, 1082, 1095, 1118, 1151, 1174, 1198, 1222, 1235, 1268, 1291, 1324, 1337, 1360, 1373, 1386] : Array Int).toList[(x - 0).toNat]? with
    | some off => ax_jmp 33 off fun t => rn X 30 308 t [rr 1, rr 2, rr 73, .inl z] [] h k
    | none => none) := fun _ => rfl
  refine Ev.step 1 (fun k => ?_) (Ev.next hz hL hi K)
  rw [this, if_pos hx]
theorem law_loop {X : Nat × (Nat → Int)} (hL : X.1 ≤ 3072) (hX : ∀ i, -2147483648 ≤ X.2 i ∧ X.2 i < 2147483648) (G : (Nat → bS) → bH → bS → Nat → Prop) (hm : ∀ c U m t, G c U m t → G c U m (t + 1)) (hs : ∀ c U m t op a1 a2 a3 a4 a5, G c U m t → t < 512 → op < 46 → (-2147483648 ≤ a1 ∧ a1 < 2147483648) → (-2147483648 ≤ a2 ∧ a2 < 2147483648) → (-2147483648 ≤ a3 ∧ a3 < 2147483648) → (-2147483648 ≤ a4 ∧ a4 < 2147483648) → (-2147483648 ≤ a5 ∧ a5 < 2147483648) → ∃ c' U' m', LStep op c U m a1 a2 a3 a4 a5 c' U' m' ∧ G c' U' m' (t + 1)) : ∀ (k t : Nat) (c : Nat → bS) (U : bH) (m : bS), X.1 < 6 * t + 6 + 6 * k → 6 * t ≤ X.1 → G c U m t → ∃ c' U' m' t', t' ≤ 512 ∧ G c' U' m' t' ∧ Ev (rn X 30 308 18 [rr 1, rr 2, rr 73, .inl ((6 * t : Nat) : Int)] [] (hP (c, mC m ++ U))) (some (.inl 1), hP (c', mC m' ++ U')) := by
  have e : ∀ (z : Int) (h : bH) n, rn X 30 308 18 [rr 1, rr 2, rr 73, .inl z] [] h (n + 6) = if ay_w (ay_w (X.1 : Int) - 6) < z then rn X 30 308 1448 [rr 1, rr 2, rr 73, .inl z] [] h n else rn X 30 308 27 [rr 1, rr 2, rr 73, .inl z] [] h n := fun _ _ _ => rfl
  have hw : ay_w (ay_w (X.1 : Int) - 6) = (X.1 : Int) - 6 := by rw [ay_wi (x := (X.1 : Int)) (by omega) (by omega), ay_wi (by omega) (by omega)]
  have done : ∀ (i : Nat) (h : bH), X.1 < i + 6 → Ev (rn X 30 308 18 [rr 1, rr 2, rr 73, .inl (i : Int)] [] h) (some (.inl 1), h) := fun i h hi => ⟨6 + 2, fun j => by
    rw [show j + (6 + 2) = (j + 2) + 6 by omega, e, hw, if_pos (by omega)]; rfl⟩
  intro k
  induction k with
  | zero => intro t c U m h1 h2 hg; exact ⟨c, U, m, t, by omega, hg, done _ _ (by omega)⟩
  | succ k ih =>
    intro t c U m h1 h2 hg
    by_cases hlt : X.1 < 6 * t + 6
    · exact ⟨c, U, m, t, by omega, hg, done _ _ (by omega)⟩
    have ht : t < 512 := by omega
    have hi : 6 * t + 6 ≤ X.1 := by omega
    have e27 : ∀ (z : Int) (h : bH) n, rn X 30 308 27 [rr 1, rr 2, rr 73, .inl z] [] h (n + 5) = if 0 ≤ z ∧ z < (X.1 : Int) then rn X 30 308 33 [rr 1, rr 2, rr 73, .inl z] [.inl (ay_and (X.2 z.toNat) 63)] h n else none := fun _ _ _ => rfl
    have go : ∀ {h : bH} {R : Option bV × bH}, Ev (rn X 30 308 33 [rr 1, rr 2, rr 73, .inl ((6 * t : Nat) : Int)] [.inl (ay_and (X.2 (6 * t)) 63)] h) R → Ev (rn X 30 308 18 [rr 1, rr 2, rr 73, .inl ((6 * t : Nat) : Int)] [] h) R := fun {h R} P => by
      refine Ev.step 6 (fun n => by rw [e, hw, if_neg (by omega)]) (Ev.step 5 (fun n => ?_) P)
      rw [e27, if_pos ⟨by omega, by omega⟩, Int.toNat_natCast]
    by_cases hop : 0 ≤ ay_and (X.2 (6 * t)) 63 ∧ ay_and (X.2 (6 * t)) 63 < 46
    · obtain ⟨op, hop1⟩ := Int.eq_ofNat_of_zero_le hop.1
      obtain ⟨c', U', m', hLS, hg'⟩ := hs c U m t op _ _ _ _ _ hg ht (by omega) (hX (6 * t + 1)) (hX (6 * t + 2)) (hX (6 * t + 3)) (hX (6 * t + 4)) (hX (6 * t + 5))
      obtain ⟨c2, U2, m2, t2, h5, h6, h7⟩ := ih (t + 1) c' U' m' (by omega) (by omega) hg'
      refine ⟨c2, U2, m2, t2, h5, h6, go ?_⟩
      rw [hop1]
      refine law_step rfl hL hi op hLS ?_
      rw [show 6 * (t + 1) = 6 * t + 6 by omega] at h7
      exact h7
    · obtain ⟨c2, U2, m2, t2, h5, h6, h7⟩ := ih (t + 1) c U m (by omega) (by omega) (hm _ _ _ _ hg)
      refine ⟨c2, U2, m2, t2, h5, h6, go (law_other rfl hL hi _ (by omega) ?_)⟩
      rw [show 6 * (t + 1) = 6 * t + 6 by omega] at h7
      exact h7
set_option maxRecDepth 20000 in
theorem law_start {X : Nat × (Nat → Int)} {m : bS} {R : Option bV × bH} (hm : ∃ n, R_init n mz = some (0, m)) (P : Ev (rn X 30 308 18 [rr 1, rr 2, rr 73, .inl 0] [] (hP (p0, mC m ++ []))) R) : Ev (rn X 30 308 0 [rr 1, b0, b0, b0] [] []) R := by
  obtain ⟨n, hn⟩ := hm
  have A := s_R_init X 30 n mz
  rw [hn] at A
  have B := s_M_new X 30 p0 (s_R_alloc X 30 A.ev)
  rw [List.append_nil] at P
  refine Ev.step (G' := rn X 30 308 4 [rr 1, b0, b0, b0] [rr 2, rr 2] [.inr (.inr (8, ay_f0 8))]) 2 (fun _ => rfl) (Ev.call (c := 90) (d' := 30) (ls' := [rr 2]) (r := [rr 2]) (v := none) (h1 := hP (p0, [])) (fun _ => rfl) (s_P_init X 30) ?_)
  refine Ev.step (G' := rn X 30 308 12 [rr 1, rr 2, b0, b0] [rr 73, rr 73] (hP (p0, [.inr (.inr (9, ay_f0 9))]))) 3 (fun _ => rfl) (Ev.call (c := 145) (d' := 30) (ls' := [rr 73, b0]) (r := [rr 73]) (v := none) (h1 := hP (p0, mC m)) (fun _ => rfl) B ?_)
  exact Ev.step (G' := rn X 30 308 18 [rr 1, rr 2, rr 73, .inl 0] [] (hP (p0, mC m))) 3 (fun _ => rfl) P
/-- the claim out of an invariant of calls -/
theorem law_of (G : (Nat → bS) → bH → bS → Nat → Prop) {m0 : bS} (hm0 : ∃ n, R_init n mz = some (0, m0)) (h0 : G p0 [] m0 0) (hm : ∀ c U m t, G c U m t → G c U m (t + 1)) (hs : ∀ c U m t op a1 a2 a3 a4 a5, G c U m t → t < 512 → op < 46 → (-2147483648 ≤ a1 ∧ a1 < 2147483648) → (-2147483648 ≤ a2 ∧ a2 < 2147483648) → (-2147483648 ≤ a3 ∧ a3 < 2147483648) → (-2147483648 ≤ a4 ∧ a4 < 2147483648) → (-2147483648 ≤ a5 ∧ a5 < 2147483648) → ∃ c' U' m', LStep op c U m a1 a2 a3 a4 a5 c' U' m' ∧ G c' U' m' (t + 1)) (hb : ∀ c U m t, t ≤ 512 → G c U m t → (hP (c, mC m ++ U)).length ≤ 2500 ∧ ax_hsz ((hP (c, mC m ++ U)).map ay_ce) ≤ 500000) : ax_Law := by
  intro L xs hL
  obtain ⟨c, U, m, t, h1, h2, h3⟩ := law_loop (X := (L, fun i => (xs i).toInt)) hL (fun i => ⟨Int32.le_toInt _, Int32.toInt_lt _⟩) G hm hs (L / 6 + 1) 0 p0 [] m0 (by show L < _; omega) (by omega) h0
  obtain ⟨N, hN⟩ := law_start hm0 h3
  have hr := hN 0
  obtain ⟨h4, h5, h6⟩ := ay_run_ax (X := (L, xs)) _ _ _ _ _ _ _ _ _ (by intro v hv; simp at hv; rcases hv with rfl | rfl <;> trivial) (by intro v hv; cases hv) (by intro e he; cases he) hr
  obtain ⟨h7, h8⟩ := hb c U m t h1 h2
  exact ⟨0 + N, _, h4, by rw [List.length_map]; exact h7, h8⟩
