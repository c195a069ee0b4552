/-! The class's whole heap, and how the smaller ones lie in it (by wip/whole/gen_p.py). -/
abbrev pS : Type := (Nat → bS) × bH
def bU (c : Nat → bS) (k : Nat) (w : bS) : Nat → bS := fun j => bif Nat.beq j k then w else c j
noncomputable def gd (p : Prop) {γ : Type} (x : Option γ) : Option γ := @ite _ p (Classical.propDecidable p) x none
noncomputable def PX (T : bH) (r : Nat) : Option (Nat × bS) := @dite _ (∃ q : Nat × bS, r = q.1 + 73 ∧ txH T q.1 q.2) (Classical.propDecidable _) (fun h => some (Classical.choose h)) (fun _ => none)
noncomputable def PT (s : pS) : Option (Option (Nat × bS)) := match T_ru (s.1 1) with
  | none => none
  | some 0 => some none
  | some (r + 1) => match PX s.2 (r + 1) with
    | none => none
    | some q => some (some q)
def pt {γ : Type} (o : Option (Option (Nat × bS))) (k0 : Option γ) (k1 : Nat × bS → Option γ) : Option γ := match o with
  | none => none
  | some none => k0
  | some (some j) => k1 j
theorem gd_t {p : Prop} {γ : Type} {x : Option γ} (h : p) : gd p x = x := @if_pos p (Classical.propDecidable p) h _ _ _
theorem gd_f {p : Prop} {γ : Type} {x : Option γ} (h : ¬ p) : gd p x = none := @if_neg p (Classical.propDecidable p) h _ _ _
theorem PX_s {T : bH} {r : Nat} {q : Nat × bS} (h : PX T r = some q) : r = q.1 + 73 ∧ txH T q.1 q.2 := by
  unfold PX at h
  split at h
  · rename_i e; cases h; exact Classical.choose_spec e
  · cases h
theorem PT_s {s : pS} {o : Option (Nat × bS)} (h : PT s = some o) : (o = none ∧ T_ru (s.1 1) = some 0) ∨ ∃ q, o = some q ∧ T_ru (s.1 1) = some (q.1 + 73) ∧ txH s.2 q.1 q.2 := by
  unfold PT at h
  split at h
  · cases h
  · rename_i e; cases h; exact Or.inl ⟨rfl, e⟩
  · rename_i r e
    split at h
    · cases h
    · rename_i q e2; cases h
      have := PX_s e2
      exact Or.inr ⟨q, rfl, by rw [e]; exact congrArg some this.1, this.2⟩
theorem ay_cpy_nat (f g : Nat → Int) (a b n : Nat) : ay_cpy (fun i => (f i).toNat) (fun i => (g i).toNat) a b n = fun i => (ay_cpy f g a b n i).toNat := by
  funext i; unfold ay_cpy; split <;> rfl
section
variable {α β : Type} {E : α → Option bV × bH} {F : Option α} {X : Nat × (Nat → Int)} {d m pc : Nat} {ls st : List bV} {h : bH} {G : Nat → bO} {x : Int}
theorem Sim.gd {p : Prop} (P : p → Sim E F G) : Sim E (gd p F) G := fun a q => by
  by_cases hp : p
  · rw [gd_t hp] at q; exact P hp a q
  · rw [gd_f hp] at q; cases q
theorem Sim.ob {o : Option β} {K : β → Option α} (P : ∀ b, o = some b → Sim E (K b) G) : Sim E (b1 o K) G := fun a q => by
  cases ho : o with
  | none => rw [ho] at q; cases q
  | some b => rw [ho] at q; exact P b ho a q
theorem Sim.aad {a n t : Nat} {f : Nat → Nat} {N : Int} (hf : ax_fetch m pc = some .aaload) (ha : ax_at h a = some (.inr (.inl (t, n, f)))) (hN : (n : Int) = N) (P : 0 ≤ x ∧ x < N → Sim E F (rn X d m (pc + 1) ls (rr (f x.toNat) :: st) h)) : Sim E (if 0 ≤ x ∧ x < N then F else .none) (rn X d m pc ls (.inl x :: rr (a + 2) :: st) h) :=
  Sim.chk (fun k => by subst hN; show ay_run _ _ _ _ _ _ _ _ = _; simp only [ay_run, hf, ax_call, ay_step, ha]; rfl) P
theorem Sim.px {T : bH} {r : Nat} {K : Nat × bS → Option α} (P : ∀ j : Nat × bS, Sim E (K j) (rn X d m pc ls (rr (j.1 + 73) :: st) h)) : Sim E (b1 (PX T r) K) (rn X d m pc ls (rr r :: st) h) := Sim.ob fun b hb => by
  have := (PX_s hb).1
  subst this
  exact P b
theorem Sim.rcp {b n2 : Nat} {f g : Nat → Nat} {nn : Nat} {st' : List bV} (h' : bH) (e : ∀ k, rn X d m pc ls st' h (k + 1) = bif ay_elq h f 0 nn then rn X d m (pc + 3) ls st (h.set b (.inr (.inl (4, n2, ay_cpy f g 0 0 nn)))) k else .none) (hh : h.set b (.inr (.inl (4, n2, ay_cpy f g 0 0 nn))) = h') (P : ay_elq h f 0 nn = true → Sim E F (rn X d m (pc + 3) ls st h')) : Sim E (if ay_elq h f 0 nn = true then F else .none) (rn X d m pc ls st' h) := fun a q => by
  by_cases hc : ay_elq h f 0 nn = true
  · rw [if_pos hc] at q
    exact Sim.step _ 1 (fun k => by rw [e k, hc, cond_true, hh]) (P hc) a q
  · rw [if_neg hc] at q; cases q
end
def fP_0 (s : pS) : List bV := [rr 3, rr 16, rr 21, rr 23, rr 36, rr 41, rr 43, rr 58, rr 62, rr 56, rr 66]
def fP_1 (s : pS) : List bV := [rr 4, rr 5, rr 6, rr 7, rr 8, rr 9, rr 10, rr 11, rr 12, rr 13, rr 14, rr 15, .inl ((s.1 0).1 12), .inl ((s.1 0).1 13), .inl ((s.1 0).1 14), .inl ((s.1 0).1 15), .inl ((s.1 0).1 16), .inl ((s.1 0).1 17)]
def fP_14 (s : pS) : List bV := [rr 17, rr 18, rr 19, rr 20, .inl ((s.1 1).1 4), .inl ((s.1 1).1 5), .inl ((s.1 1).1 6), .inl ((s.1 1).1 7)]
def fP_19 (s : pS) : List bV := [rr 22, .inl ((s.1 2).1 1), .inl ((s.1 2).1 2)]
def fP_21 (s : pS) : List bV := [rr 24, rr 25, rr 26, rr 27, rr 28, rr 29, rr 30, rr 31, rr 32, rr 33, rr 34, rr 35, .inl ((s.1 3).1 12), .inl ((s.1 3).1 13), .inl ((s.1 3).1 14), .inl ((s.1 3).1 15), .inl ((s.1 3).1 16), .inl ((s.1 3).1 17)]
def fP_34 (s : pS) : List bV := [rr 37, rr 38, rr 39, rr 40, .inl ((s.1 4).1 4), .inl ((s.1 4).1 5), .inl ((s.1 4).1 6), .inl ((s.1 4).1 7)]
def fP_39 (s : pS) : List bV := [rr 42, .inl ((s.1 5).1 1), .inl ((s.1 5).1 2)]
def fP_41 (s : pS) : List bV := [rr 44, rr 45, rr 46, rr 47, rr 48, rr 49, rr 50, rr 51, rr 52, rr 53, rr 54, rr 55, .inl ((s.1 6).1 12), .inl ((s.1 6).1 13), .inl ((s.1 6).1 14), .inl ((s.1 6).1 15), .inl ((s.1 6).1 16), .inl ((s.1 6).1 17)]
def fP_54 (s : pS) : List bV := [rr 57, .inl ((s.1 7).1 1)]
def fP_56 (s : pS) : List bV := [rr 3, rr 16, rr 59, .inl ((s.1 8).1 3), .inl ((s.1 8).1 4), .inl ((s.1 8).1 5), .inl ((s.1 8).1 6), .inl ((s.1 8).1 7)]
def fP_57 (s : pS) : List bV := [rr 60, rr 61]
def fP_60 (s : pS) : List bV := [rr 43, rr 16, rr 63, .inl ((s.1 10).1 3), .inl ((s.1 10).1 4), .inl ((s.1 10).1 5), .inl ((s.1 10).1 6), .inl ((s.1 10).1 7)]
def fP_61 (s : pS) : List bV := [rr 64, rr 65]
def fP_64 (s : pS) : List bV := [rr 56, rr 67, rr 68, rr 69, rr 70, rr 71, rr 72, .inl ((s.1 12).1 7), .inl ((s.1 12).1 8), .inl ((s.1 12).1 9), .inl ((s.1 12).1 10), .inl ((s.1 12).1 11), .inl ((s.1 12).1 12), .inl ((s.1 12).1 13), .inl ((s.1 12).1 14), .inl ((s.1 12).1 15)]
def hP (s : pS) : bH := (.inr (.inr (8, fP_0 s))) :: (.inr (.inr (7, fP_1 s))) :: (.inl (0, 128, (s.1 0).2 0)) :: (.inl (0, 128, (s.1 0).2 1)) :: (.inl (0, 128, (s.1 0).2 2)) :: (.inl (0, 64, (s.1 0).2 3)) :: (.inl (0, 64, (s.1 0).2 4)) :: (.inl (0, 64, (s.1 0).2 5)) :: (.inl (0, 4, (s.1 0).2 6)) :: (.inl (0, 4, (s.1 0).2 7)) :: (.inl (0, 4, (s.1 0).2 8)) :: (.inl (0, 4, (s.1 0).2 9)) :: (.inl (0, 25, (s.1 0).2 10)) :: (.inl (0, 2, (s.1 0).2 11)) :: (.inr (.inr (6, fP_14 s))) :: (.inl (0, 4, (s.1 1).2 0)) :: (.inr (.inl (4, 4, fun i => ((s.1 1).2 1 i).toNat))) :: (.inl (0, 8, (s.1 1).2 2)) :: (.inl (0, 8, (s.1 1).2 3)) :: (.inr (.inr (3, fP_19 s))) :: (.inr (.inl (3, 31, fun i => ((s.1 2).2 0 i).toNat))) :: (.inr (.inr (7, fP_21 s))) :: (.inl (0, 128, (s.1 3).2 0)) :: (.inl (0, 128, (s.1 3).2 1)) :: (.inl (0, 128, (s.1 3).2 2)) :: (.inl (0, 64, (s.1 3).2 3)) :: (.inl (0, 64, (s.1 3).2 4)) :: (.inl (0, 64, (s.1 3).2 5)) :: (.inl (0, 4, (s.1 3).2 6)) :: (.inl (0, 4, (s.1 3).2 7)) :: (.inl (0, 4, (s.1 3).2 8)) :: (.inl (0, 4, (s.1 3).2 9)) :: (.inl (0, 25, (s.1 3).2 10)) :: (.inl (0, 2, (s.1 3).2 11)) :: (.inr (.inr (6, fP_34 s))) :: (.inl (0, 4, (s.1 4).2 0)) :: (.inr (.inl (4, 4, fun i => ((s.1 4).2 1 i).toNat))) :: (.inl (0, 8, (s.1 4).2 2)) :: (.inl (0, 8, (s.1 4).2 3)) :: (.inr (.inr (3, fP_39 s))) :: (.inr (.inl (3, 31, fun i => ((s.1 5).2 0 i).toNat))) :: (.inr (.inr (7, fP_41 s))) :: (.inl (0, 128, (s.1 6).2 0)) :: (.inl (0, 128, (s.1 6).2 1)) :: (.inl (0, 128, (s.1 6).2 2)) :: (.inl (0, 64, (s.1 6).2 3)) :: (.inl (0, 64, (s.1 6).2 4)) :: (.inl (0, 64, (s.1 6).2 5)) :: (.inl (0, 4, (s.1 6).2 6)) :: (.inl (0, 4, (s.1 6).2 7)) :: (.inl (0, 4, (s.1 6).2 8)) :: (.inl (0, 4, (s.1 6).2 9)) :: (.inl (0, 25, (s.1 6).2 10)) :: (.inl (0, 2, (s.1 6).2 11)) :: (.inr (.inr (4, fP_54 s))) :: (.inl (0, 300, (s.1 7).2 0)) :: (.inr (.inr (1, fP_56 s))) :: (.inr (.inr (0, fP_57 s))) :: (.inl (0, 8, (s.1 9).2 0)) :: (.inl (1, 64, (s.1 9).2 1)) :: (.inr (.inr (1, fP_60 s))) :: (.inr (.inr (0, fP_61 s))) :: (.inl (0, 8, (s.1 11).2 0)) :: (.inl (1, 64, (s.1 11).2 1)) :: (.inr (.inr (2, fP_64 s))) :: (.inl (0, 301, (s.1 12).2 1)) :: (.inl (0, 301, (s.1 12).2 2)) :: (.inl (0, 301, (s.1 12).2 3)) :: (.inl (0, 600, (s.1 12).2 4)) :: (.inl (0, 96, (s.1 12).2 5)) :: (.inl (0, 4, (s.1 12).2 6)) :: s.2
theorem hP_p1_12 (s : pS) (v : Int) : (hP s).set 1 (.inr (.inr (7, (fP_1 s).set 12 (.inl v)))) = hP ((bU s.1 0 (bI (s.1 0) 12 v), s.2)) := rfl
theorem hP_p1_13 (s : pS) (v : Int) : (hP s).set 1 (.inr (.inr (7, (fP_1 s).set 13 (.inl v)))) = hP ((bU s.1 0 (bI (s.1 0) 13 v), s.2)) := rfl
theorem hP_p1_14 (s : pS) (v : Int) : (hP s).set 1 (.inr (.inr (7, (fP_1 s).set 14 (.inl v)))) = hP ((bU s.1 0 (bI (s.1 0) 14 v), s.2)) := rfl
theorem hP_p1_15 (s : pS) (v : Int) : (hP s).set 1 (.inr (.inr (7, (fP_1 s).set 15 (.inl v)))) = hP ((bU s.1 0 (bI (s.1 0) 15 v), s.2)) := rfl
theorem hP_p1_16 (s : pS) (v : Int) : (hP s).set 1 (.inr (.inr (7, (fP_1 s).set 16 (.inl v)))) = hP ((bU s.1 0 (bI (s.1 0) 16 v), s.2)) := rfl
theorem hP_p1_17 (s : pS) (v : Int) : (hP s).set 1 (.inr (.inr (7, (fP_1 s).set 17 (.inl v)))) = hP ((bU s.1 0 (bI (s.1 0) 17 v), s.2)) := rfl
theorem hP_c2 (s : pS) (f : Nat → Int) : (hP s).set 2 (.inl (0, 128, f)) = hP ((bU s.1 0 (bC (s.1 0) 0 f), s.2)) := rfl
theorem hP_c3 (s : pS) (f : Nat → Int) : (hP s).set 3 (.inl (0, 128, f)) = hP ((bU s.1 0 (bC (s.1 0) 1 f), s.2)) := rfl
theorem hP_c4 (s : pS) (f : Nat → Int) : (hP s).set 4 (.inl (0, 128, f)) = hP ((bU s.1 0 (bC (s.1 0) 2 f), s.2)) := rfl
theorem hP_c5 (s : pS) (f : Nat → Int) : (hP s).set 5 (.inl (0, 64, f)) = hP ((bU s.1 0 (bC (s.1 0) 3 f), s.2)) := rfl
theorem hP_c6 (s : pS) (f : Nat → Int) : (hP s).set 6 (.inl (0, 64, f)) = hP ((bU s.1 0 (bC (s.1 0) 4 f), s.2)) := rfl
theorem hP_c7 (s : pS) (f : Nat → Int) : (hP s).set 7 (.inl (0, 64, f)) = hP ((bU s.1 0 (bC (s.1 0) 5 f), s.2)) := rfl
theorem hP_c8 (s : pS) (f : Nat → Int) : (hP s).set 8 (.inl (0, 4, f)) = hP ((bU s.1 0 (bC (s.1 0) 6 f), s.2)) := rfl
theorem hP_c9 (s : pS) (f : Nat → Int) : (hP s).set 9 (.inl (0, 4, f)) = hP ((bU s.1 0 (bC (s.1 0) 7 f), s.2)) := rfl
theorem hP_c10 (s : pS) (f : Nat → Int) : (hP s).set 10 (.inl (0, 4, f)) = hP ((bU s.1 0 (bC (s.1 0) 8 f), s.2)) := rfl
theorem hP_c11 (s : pS) (f : Nat → Int) : (hP s).set 11 (.inl (0, 4, f)) = hP ((bU s.1 0 (bC (s.1 0) 9 f), s.2)) := rfl
theorem hP_c12 (s : pS) (f : Nat → Int) : (hP s).set 12 (.inl (0, 25, f)) = hP ((bU s.1 0 (bC (s.1 0) 10 f), s.2)) := rfl
theorem hP_c13 (s : pS) (f : Nat → Int) : (hP s).set 13 (.inl (0, 2, f)) = hP ((bU s.1 0 (bC (s.1 0) 11 f), s.2)) := rfl
theorem hP_p14_4 (s : pS) (v : Int) : (hP s).set 14 (.inr (.inr (6, (fP_14 s).set 4 (.inl v)))) = hP ((bU s.1 1 (bI (s.1 1) 4 v), s.2)) := rfl
theorem hP_p14_5 (s : pS) (v : Int) : (hP s).set 14 (.inr (.inr (6, (fP_14 s).set 5 (.inl v)))) = hP ((bU s.1 1 (bI (s.1 1) 5 v), s.2)) := rfl
theorem hP_p14_6 (s : pS) (v : Int) : (hP s).set 14 (.inr (.inr (6, (fP_14 s).set 6 (.inl v)))) = hP ((bU s.1 1 (bI (s.1 1) 6 v), s.2)) := rfl
theorem hP_p14_7 (s : pS) (v : Int) : (hP s).set 14 (.inr (.inr (6, (fP_14 s).set 7 (.inl v)))) = hP ((bU s.1 1 (bI (s.1 1) 7 v), s.2)) := rfl
theorem hP_a15 (s : pS) (i v : Int) : (hP s).set 15 (.inl (0, 4, ay_u ((s.1 1).2 0) i.toNat v)) = hP ((bU s.1 1 (bA (s.1 1) 0 i v), s.2)) := rfl
theorem hP_c15 (s : pS) (f : Nat → Int) : (hP s).set 15 (.inl (0, 4, f)) = hP ((bU s.1 1 (bC (s.1 1) 0 f), s.2)) := rfl
theorem hP_a17 (s : pS) (i v : Int) : (hP s).set 17 (.inl (0, 8, ay_u ((s.1 1).2 2) i.toNat v)) = hP ((bU s.1 1 (bA (s.1 1) 2 i v), s.2)) := rfl
theorem hP_c17 (s : pS) (f : Nat → Int) : (hP s).set 17 (.inl (0, 8, f)) = hP ((bU s.1 1 (bC (s.1 1) 2 f), s.2)) := rfl
theorem hP_a18 (s : pS) (i v : Int) : (hP s).set 18 (.inl (0, 8, ay_u ((s.1 1).2 3) i.toNat v)) = hP ((bU s.1 1 (bA (s.1 1) 3 i v), s.2)) := rfl
theorem hP_c18 (s : pS) (f : Nat → Int) : (hP s).set 18 (.inl (0, 8, f)) = hP ((bU s.1 1 (bC (s.1 1) 3 f), s.2)) := rfl
theorem hP_p21_12 (s : pS) (v : Int) : (hP s).set 21 (.inr (.inr (7, (fP_21 s).set 12 (.inl v)))) = hP ((bU s.1 3 (bI (s.1 3) 12 v), s.2)) := rfl
theorem hP_p21_13 (s : pS) (v : Int) : (hP s).set 21 (.inr (.inr (7, (fP_21 s).set 13 (.inl v)))) = hP ((bU s.1 3 (bI (s.1 3) 13 v), s.2)) := rfl
theorem hP_p21_14 (s : pS) (v : Int) : (hP s).set 21 (.inr (.inr (7, (fP_21 s).set 14 (.inl v)))) = hP ((bU s.1 3 (bI (s.1 3) 14 v), s.2)) := rfl
theorem hP_p21_15 (s : pS) (v : Int) : (hP s).set 21 (.inr (.inr (7, (fP_21 s).set 15 (.inl v)))) = hP ((bU s.1 3 (bI (s.1 3) 15 v), s.2)) := rfl
theorem hP_p21_16 (s : pS) (v : Int) : (hP s).set 21 (.inr (.inr (7, (fP_21 s).set 16 (.inl v)))) = hP ((bU s.1 3 (bI (s.1 3) 16 v), s.2)) := rfl
theorem hP_p21_17 (s : pS) (v : Int) : (hP s).set 21 (.inr (.inr (7, (fP_21 s).set 17 (.inl v)))) = hP ((bU s.1 3 (bI (s.1 3) 17 v), s.2)) := rfl
theorem hP_c22 (s : pS) (f : Nat → Int) : (hP s).set 22 (.inl (0, 128, f)) = hP ((bU s.1 3 (bC (s.1 3) 0 f), s.2)) := rfl
theorem hP_c23 (s : pS) (f : Nat → Int) : (hP s).set 23 (.inl (0, 128, f)) = hP ((bU s.1 3 (bC (s.1 3) 1 f), s.2)) := rfl
theorem hP_c24 (s : pS) (f : Nat → Int) : (hP s).set 24 (.inl (0, 128, f)) = hP ((bU s.1 3 (bC (s.1 3) 2 f), s.2)) := rfl
theorem hP_c25 (s : pS) (f : Nat → Int) : (hP s).set 25 (.inl (0, 64, f)) = hP ((bU s.1 3 (bC (s.1 3) 3 f), s.2)) := rfl
theorem hP_c26 (s : pS) (f : Nat → Int) : (hP s).set 26 (.inl (0, 64, f)) = hP ((bU s.1 3 (bC (s.1 3) 4 f), s.2)) := rfl
theorem hP_c27 (s : pS) (f : Nat → Int) : (hP s).set 27 (.inl (0, 64, f)) = hP ((bU s.1 3 (bC (s.1 3) 5 f), s.2)) := rfl
theorem hP_c28 (s : pS) (f : Nat → Int) : (hP s).set 28 (.inl (0, 4, f)) = hP ((bU s.1 3 (bC (s.1 3) 6 f), s.2)) := rfl
theorem hP_c29 (s : pS) (f : Nat → Int) : (hP s).set 29 (.inl (0, 4, f)) = hP ((bU s.1 3 (bC (s.1 3) 7 f), s.2)) := rfl
theorem hP_c30 (s : pS) (f : Nat → Int) : (hP s).set 30 (.inl (0, 4, f)) = hP ((bU s.1 3 (bC (s.1 3) 8 f), s.2)) := rfl
theorem hP_c31 (s : pS) (f : Nat → Int) : (hP s).set 31 (.inl (0, 4, f)) = hP ((bU s.1 3 (bC (s.1 3) 9 f), s.2)) := rfl
theorem hP_c32 (s : pS) (f : Nat → Int) : (hP s).set 32 (.inl (0, 25, f)) = hP ((bU s.1 3 (bC (s.1 3) 10 f), s.2)) := rfl
theorem hP_c33 (s : pS) (f : Nat → Int) : (hP s).set 33 (.inl (0, 2, f)) = hP ((bU s.1 3 (bC (s.1 3) 11 f), s.2)) := rfl
theorem hP_p34_4 (s : pS) (v : Int) : (hP s).set 34 (.inr (.inr (6, (fP_34 s).set 4 (.inl v)))) = hP ((bU s.1 4 (bI (s.1 4) 4 v), s.2)) := rfl
theorem hP_p34_5 (s : pS) (v : Int) : (hP s).set 34 (.inr (.inr (6, (fP_34 s).set 5 (.inl v)))) = hP ((bU s.1 4 (bI (s.1 4) 5 v), s.2)) := rfl
theorem hP_p34_6 (s : pS) (v : Int) : (hP s).set 34 (.inr (.inr (6, (fP_34 s).set 6 (.inl v)))) = hP ((bU s.1 4 (bI (s.1 4) 6 v), s.2)) := rfl
theorem hP_p34_7 (s : pS) (v : Int) : (hP s).set 34 (.inr (.inr (6, (fP_34 s).set 7 (.inl v)))) = hP ((bU s.1 4 (bI (s.1 4) 7 v), s.2)) := rfl
theorem hP_a35 (s : pS) (i v : Int) : (hP s).set 35 (.inl (0, 4, ay_u ((s.1 4).2 0) i.toNat v)) = hP ((bU s.1 4 (bA (s.1 4) 0 i v), s.2)) := rfl
theorem hP_c35 (s : pS) (f : Nat → Int) : (hP s).set 35 (.inl (0, 4, f)) = hP ((bU s.1 4 (bC (s.1 4) 0 f), s.2)) := rfl
theorem hP_a37 (s : pS) (i v : Int) : (hP s).set 37 (.inl (0, 8, ay_u ((s.1 4).2 2) i.toNat v)) = hP ((bU s.1 4 (bA (s.1 4) 2 i v), s.2)) := rfl
theorem hP_c37 (s : pS) (f : Nat → Int) : (hP s).set 37 (.inl (0, 8, f)) = hP ((bU s.1 4 (bC (s.1 4) 2 f), s.2)) := rfl
theorem hP_a38 (s : pS) (i v : Int) : (hP s).set 38 (.inl (0, 8, ay_u ((s.1 4).2 3) i.toNat v)) = hP ((bU s.1 4 (bA (s.1 4) 3 i v), s.2)) := rfl
theorem hP_c38 (s : pS) (f : Nat → Int) : (hP s).set 38 (.inl (0, 8, f)) = hP ((bU s.1 4 (bC (s.1 4) 3 f), s.2)) := rfl
theorem hP_p41_12 (s : pS) (v : Int) : (hP s).set 41 (.inr (.inr (7, (fP_41 s).set 12 (.inl v)))) = hP ((bU s.1 6 (bI (s.1 6) 12 v), s.2)) := rfl
theorem hP_p41_13 (s : pS) (v : Int) : (hP s).set 41 (.inr (.inr (7, (fP_41 s).set 13 (.inl v)))) = hP ((bU s.1 6 (bI (s.1 6) 13 v), s.2)) := rfl
theorem hP_p41_14 (s : pS) (v : Int) : (hP s).set 41 (.inr (.inr (7, (fP_41 s).set 14 (.inl v)))) = hP ((bU s.1 6 (bI (s.1 6) 14 v), s.2)) := rfl
theorem hP_p41_15 (s : pS) (v : Int) : (hP s).set 41 (.inr (.inr (7, (fP_41 s).set 15 (.inl v)))) = hP ((bU s.1 6 (bI (s.1 6) 15 v), s.2)) := rfl
theorem hP_p41_16 (s : pS) (v : Int) : (hP s).set 41 (.inr (.inr (7, (fP_41 s).set 16 (.inl v)))) = hP ((bU s.1 6 (bI (s.1 6) 16 v), s.2)) := rfl
theorem hP_p41_17 (s : pS) (v : Int) : (hP s).set 41 (.inr (.inr (7, (fP_41 s).set 17 (.inl v)))) = hP ((bU s.1 6 (bI (s.1 6) 17 v), s.2)) := rfl
theorem hP_c42 (s : pS) (f : Nat → Int) : (hP s).set 42 (.inl (0, 128, f)) = hP ((bU s.1 6 (bC (s.1 6) 0 f), s.2)) := rfl
theorem hP_c43 (s : pS) (f : Nat → Int) : (hP s).set 43 (.inl (0, 128, f)) = hP ((bU s.1 6 (bC (s.1 6) 1 f), s.2)) := rfl
theorem hP_c44 (s : pS) (f : Nat → Int) : (hP s).set 44 (.inl (0, 128, f)) = hP ((bU s.1 6 (bC (s.1 6) 2 f), s.2)) := rfl
theorem hP_c45 (s : pS) (f : Nat → Int) : (hP s).set 45 (.inl (0, 64, f)) = hP ((bU s.1 6 (bC (s.1 6) 3 f), s.2)) := rfl
theorem hP_c46 (s : pS) (f : Nat → Int) : (hP s).set 46 (.inl (0, 64, f)) = hP ((bU s.1 6 (bC (s.1 6) 4 f), s.2)) := rfl
theorem hP_c47 (s : pS) (f : Nat → Int) : (hP s).set 47 (.inl (0, 64, f)) = hP ((bU s.1 6 (bC (s.1 6) 5 f), s.2)) := rfl
theorem hP_c48 (s : pS) (f : Nat → Int) : (hP s).set 48 (.inl (0, 4, f)) = hP ((bU s.1 6 (bC (s.1 6) 6 f), s.2)) := rfl
theorem hP_c49 (s : pS) (f : Nat → Int) : (hP s).set 49 (.inl (0, 4, f)) = hP ((bU s.1 6 (bC (s.1 6) 7 f), s.2)) := rfl
theorem hP_c50 (s : pS) (f : Nat → Int) : (hP s).set 50 (.inl (0, 4, f)) = hP ((bU s.1 6 (bC (s.1 6) 8 f), s.2)) := rfl
theorem hP_c51 (s : pS) (f : Nat → Int) : (hP s).set 51 (.inl (0, 4, f)) = hP ((bU s.1 6 (bC (s.1 6) 9 f), s.2)) := rfl
theorem hP_c52 (s : pS) (f : Nat → Int) : (hP s).set 52 (.inl (0, 25, f)) = hP ((bU s.1 6 (bC (s.1 6) 10 f), s.2)) := rfl
theorem hP_c53 (s : pS) (f : Nat → Int) : (hP s).set 53 (.inl (0, 2, f)) = hP ((bU s.1 6 (bC (s.1 6) 11 f), s.2)) := rfl
theorem hP_p54_1 (s : pS) (v : Int) : (hP s).set 54 (.inr (.inr (4, (fP_54 s).set 1 (.inl v)))) = hP ((bU s.1 7 (bI (s.1 7) 1 v), s.2)) := rfl
theorem hP_a55 (s : pS) (i v : Int) : (hP s).set 55 (.inl (0, 300, ay_u ((s.1 7).2 0) i.toNat v)) = hP ((bU s.1 7 (bA (s.1 7) 0 i v), s.2)) := rfl
theorem hP_c55 (s : pS) (f : Nat → Int) : (hP s).set 55 (.inl (0, 300, f)) = hP ((bU s.1 7 (bC (s.1 7) 0 f), s.2)) := rfl
def ePi (a : Int × pS) : Option bV × bH := (some (.inl a.1), hP a.2)
def ePl (a : Int × pS) : Option bV × bH := (some (.inr (.inl a.1)), hP a.2)
def ePv (a : Int × pS) : Option bV × bH := (none, hP a.2)
theorem lW0Pi {F : Option (Int × bS)} {X : Nat × (Nat → Int)} {d m : Nat} {ls lb : List bV} (s : pS) (hls : ay_LR (ay_sg [1, 2, 3, 4, 5, 6, 7, 8, 9, 10, 11, 12, 13] (hP s).length) ls lb) (P : Sim (eWi) F (rn X d m 0 ls [] (hW (s.1 0)))) : Sim (fun q => (some (.inl q.1), hP (bU s.1 0 q.2, s.2))) F (rn X d m 0 lb [] (hP s)) :=
  Sim.lift (E := (eWi)) (E' := (fun q => (some (.inl q.1), hP (bU s.1 0 q.2, s.2)))) (h := (hW (s.1 0))) (g := (hP s)) [1, 2, 3, 4, 5, 6, 7, 8, 9, 10, 11, 12, 13] (by decide) rfl (fun p hp => Nat.lt_of_lt_of_le ((by decide : ∀ p ∈ ([1, 2, 3, 4, 5, 6, 7, 8, 9, 10, 11, 12, 13] : List Nat), p < 71) p hp) (Nat.le_add_left 71 s.2.length)) (fun k e q => match k, q with | 0, q => hemc (f := ay_re _) q rfl | 1, q => hemc (f := ay_re _) q rfl | 2, q => hemc (f := ay_re _) q rfl | 3, q => hemc (f := ay_re _) q rfl | 4, q => hemc (f := ay_re _) q rfl | 5, q => hemc (f := ay_re _) q rfl | 6, q => hemc (f := ay_re _) q rfl | 7, q => hemc (f := ay_re _) q rfl | 8, q => hemc (f := ay_re _) q rfl | 9, q => hemc (f := ay_re _) q rfl | 10, q => hemc (f := ay_re _) q rfl | 11, q => hemc (f := ay_re _) q rfl | 12, q => hemc (f := ay_re _) q rfl | _ + 13, q => noe q) hls rfl (fun a => ⟨rfl, rfl⟩) P
theorem lW0Pl {F : Option (Int × bS)} {X : Nat × (Nat → Int)} {d m : Nat} {ls lb : List bV} (s : pS) (hls : ay_LR (ay_sg [1, 2, 3, 4, 5, 6, 7, 8, 9, 10, 11, 12, 13] (hP s).length) ls lb) (P : Sim (eWl) F (rn X d m 0 ls [] (hW (s.1 0)))) : Sim (fun q => (some (.inr (.inl q.1)), hP (bU s.1 0 q.2, s.2))) F (rn X d m 0 lb [] (hP s)) :=
  Sim.lift (E := (eWl)) (E' := (fun q => (some (.inr (.inl q.1)), hP (bU s.1 0 q.2, s.2)))) (h := (hW (s.1 0))) (g := (hP s)) [1, 2, 3, 4, 5, 6, 7, 8, 9, 10, 11, 12, 13] (by decide) rfl (fun p hp => Nat.lt_of_lt_of_le ((by decide : ∀ p ∈ ([1, 2, 3, 4, 5, 6, 7, 8, 9, 10, 11, 12, 13] : List Nat), p < 71) p hp) (Nat.le_add_left 71 s.2.length)) (fun k e q => match k, q with | 0, q => hemc (f := ay_re _) q rfl | 1, q => hemc (f := ay_re _) q rfl | 2, q => hemc (f := ay_re _) q rfl | 3, q => hemc (f := ay_re _) q rfl | 4, q => hemc (f := ay_re _) q rfl | 5, q => hemc (f := ay_re _) q rfl | 6, q => hemc (f := ay_re _) q rfl | 7, q => hemc (f := ay_re _) q rfl | 8, q => hemc (f := ay_re _) q rfl | 9, q => hemc (f := ay_re _) q rfl | 10, q => hemc (f := ay_re _) q rfl | 11, q => hemc (f := ay_re _) q rfl | 12, q => hemc (f := ay_re _) q rfl | _ + 13, q => noe q) hls rfl (fun a => ⟨rfl, rfl⟩) P
theorem lW0Pv {F : Option (Int × bS)} {X : Nat × (Nat → Int)} {d m : Nat} {ls lb : List bV} (s : pS) (hls : ay_LR (ay_sg [1, 2, 3, 4, 5, 6, 7, 8, 9, 10, 11, 12, 13] (hP s).length) ls lb) (P : Sim (eWv) F (rn X d m 0 ls [] (hW (s.1 0)))) : Sim (fun q => (none, hP (bU s.1 0 q.2, s.2))) F (rn X d m 0 lb [] (hP s)) :=
  Sim.lift (E := (eWv)) (E' := (fun q => (none, hP (bU s.1 0 q.2, s.2)))) (h := (hW (s.1 0))) (g := (hP s)) [1, 2, 3, 4, 5, 6, 7, 8, 9, 10, 11, 12, 13] (by decide) rfl (fun p hp => Nat.lt_of_lt_of_le ((by decide : ∀ p ∈ ([1, 2, 3, 4, 5, 6, 7, 8, 9, 10, 11, 12, 13] : List Nat), p < 71) p hp) (Nat.le_add_left 71 s.2.length)) (fun k e q => match k, q with | 0, q => hemc (f := ay_re _) q rfl | 1, q => hemc (f := ay_re _) q rfl | 2, q => hemc (f := ay_re _) q rfl | 3, q => hemc (f := ay_re _) q rfl | 4, q => hemc (f := ay_re _) q rfl | 5, q => hemc (f := ay_re _) q rfl | 6, q => hemc (f := ay_re _) q rfl | 7, q => hemc (f := ay_re _) q rfl | 8, q => hemc (f := ay_re _) q rfl | 9, q => hemc (f := ay_re _) q rfl | 10, q => hemc (f := ay_re _) q rfl | 11, q => hemc (f := ay_re _) q rfl | 12, q => hemc (f := ay_re _) q rfl | _ + 13, q => noe q) hls rfl (fun a => ⟨rfl, rfl⟩) P
theorem lW6Pi {F : Option (Int × bS)} {X : Nat × (Nat → Int)} {d m : Nat} {ls lb : List bV} (s : pS) (hls : ay_LR (ay_sg [41, 42, 43, 44, 45, 46, 47, 48, 49, 50, 51, 52, 53] (hP s).length) ls lb) (P : Sim (eWi) F (rn X d m 0 ls [] (hW (s.1 6)))) : Sim (fun q => (some (.inl q.1), hP (bU s.1 6 q.2, s.2))) F (rn X d m 0 lb [] (hP s)) :=
  Sim.lift (E := (eWi)) (E' := (fun q => (some (.inl q.1), hP (bU s.1 6 q.2, s.2)))) (h := (hW (s.1 6))) (g := (hP s)) [41, 42, 43, 44, 45, 46, 47, 48, 49, 50, 51, 52, 53] (by decide) rfl (fun p hp => Nat.lt_of_lt_of_le ((by decide : ∀ p ∈ ([41, 42, 43, 44, 45, 46, 47, 48, 49, 50, 51, 52, 53] : List Nat), p < 71) p hp) (Nat.le_add_left 71 s.2.length)) (fun k e q => match k, q with | 0, q => hemc (f := ay_re _) q rfl | 1, q => hemc (f := ay_re _) q rfl | 2, q => hemc (f := ay_re _) q rfl | 3, q => hemc (f := ay_re _) q rfl | 4, q => hemc (f := ay_re _) q rfl | 5, q => hemc (f := ay_re _) q rfl | 6, q => hemc (f := ay_re _) q rfl | 7, q => hemc (f := ay_re _) q rfl | 8, q => hemc (f := ay_re _) q rfl | 9, q => hemc (f := ay_re _) q rfl | 10, q => hemc (f := ay_re _) q rfl | 11, q => hemc (f := ay_re _) q rfl | 12, q => hemc (f := ay_re _) q rfl | _ + 13, q => noe q) hls rfl (fun a => ⟨rfl, rfl⟩) P
theorem lW6Pl {F : Option (Int × bS)} {X : Nat × (Nat → Int)} {d m : Nat} {ls lb : List bV} (s : pS) (hls : ay_LR (ay_sg [41, 42, 43, 44, 45, 46, 47, 48, 49, 50, 51, 52, 53] (hP s).length) ls lb) (P : Sim (eWl) F (rn X d m 0 ls [] (hW (s.1 6)))) : Sim (fun q => (some (.inr (.inl q.1)), hP (bU s.1 6 q.2, s.2))) F (rn X d m 0 lb [] (hP s)) :=
  Sim.lift (E := (eWl)) (E' := (fun q => (some (.inr (.inl q.1)), hP (bU s.1 6 q.2, s.2)))) (h := (hW (s.1 6))) (g := (hP s)) [41, 42, 43, 44, 45, 46, 47, 48, 49, 50, 51, 52, 53] (by decide) rfl (fun p hp => Nat.lt_of_lt_of_le ((by decide : ∀ p ∈ ([41, 42, 43, 44, 45, 46, 47, 48, 49, 50, 51, 52, 53] : List Nat), p < 71) p hp) (Nat.le_add_left 71 s.2.length)) (fun k e q => match k, q with | 0, q => hemc (f := ay_re _) q rfl | 1, q => hemc (f := ay_re _) q rfl | 2, q => hemc (f := ay_re _) q rfl | 3, q => hemc (f := ay_re _) q rfl | 4, q => hemc (f := ay_re _) q rfl | 5, q => hemc (f := ay_re _) q rfl | 6, q => hemc (f := ay_re _) q rfl | 7, q => hemc (f := ay_re _) q rfl | 8, q => hemc (f := ay_re _) q rfl | 9, q => hemc (f := ay_re _) q rfl | 10, q => hemc (f := ay_re _) q rfl | 11, q => hemc (f := ay_re _) q rfl | 12, q => hemc (f := ay_re _) q rfl | _ + 13, q => noe q) hls rfl (fun a => ⟨rfl, rfl⟩) P
theorem lW6Pv {F : Option (Int × bS)} {X : Nat × (Nat → Int)} {d m : Nat} {ls lb : List bV} (s : pS) (hls : ay_LR (ay_sg [41, 42, 43, 44, 45, 46, 47, 48, 49, 50, 51, 52, 53] (hP s).length) ls lb) (P : Sim (eWv) F (rn X d m 0 ls [] (hW (s.1 6)))) : Sim (fun q => (none, hP (bU s.1 6 q.2, s.2))) F (rn X d m 0 lb [] (hP s)) :=
  Sim.lift (E := (eWv)) (E' := (fun q => (none, hP (bU s.1 6 q.2, s.2)))) (h := (hW (s.1 6))) (g := (hP s)) [41, 42, 43, 44, 45, 46, 47, 48, 49, 50, 51, 52, 53] (by decide) rfl (fun p hp => Nat.lt_of_lt_of_le ((by decide : ∀ p ∈ ([41, 42, 43, 44, 45, 46, 47, 48, 49, 50, 51, 52, 53] : List Nat), p < 71) p hp) (Nat.le_add_left 71 s.2.length)) (fun k e q => match k, q with | 0, q => hemc (f := ay_re _) q rfl | 1, q => hemc (f := ay_re _) q rfl | 2, q => hemc (f := ay_re _) q rfl | 3, q => hemc (f := ay_re _) q rfl | 4, q => hemc (f := ay_re _) q rfl | 5, q => hemc (f := ay_re _) q rfl | 6, q => hemc (f := ay_re _) q rfl | 7, q => hemc (f := ay_re _) q rfl | 8, q => hemc (f := ay_re _) q rfl | 9, q => hemc (f := ay_re _) q rfl | 10, q => hemc (f := ay_re _) q rfl | 11, q => hemc (f := ay_re _) q rfl | 12, q => hemc (f := ay_re _) q rfl | _ + 13, q => noe q) hls rfl (fun a => ⟨rfl, rfl⟩) P
def fQ_0 (s : bS) : List bV := [rr 3, .inl (s.1 1)]
def hQ (s : bS) : bH := [.inr (.inr (4, fQ_0 s)), .inl (0, 300, s.2 0)]
theorem hQ_p0_1 (s : bS) (v : Int) : (hQ s).set 0 (.inr (.inr (4, (fQ_0 s).set 1 (.inl v)))) = hQ (bI s 1 v) := rfl
theorem hQ_a1 (s : bS) (i v : Int) : (hQ s).set 1 (.inl (0, 300, ay_u (s.2 0) i.toNat v)) = hQ (bA s 0 i v) := rfl
theorem hQ_c1 (s : bS) (f : Nat → Int) : (hQ s).set 1 (.inl (0, 300, f)) = hQ (bC s 0 f) := rfl
def eQi (a : Int × bS) : Option bV × bH := (some (.inl a.1), hQ a.2)
def eQl (a : Int × bS) : Option bV × bH := (some (.inr (.inl a.1)), hQ a.2)
def eQv (a : Int × bS) : Option bV × bH := (none, hQ a.2)
def Q_add_3 : Nat → bS → Int → Int → Option (Int × bS)
  | 0, _, _, _ => none
  | n + 1, s, l1, l2 => (if l2 < 0 then some (0, s) else (if 300 ≤ (s.1 1) then some (0, s) else (if 0 ≤ (s.1 1) ∧ (s.1 1) < 300 then Q_add_3 n (bI (bA s 0 (s.1 1) (ay_and (ay_ushr l1 l2) 255)) 1 (ay_w ((s.1 1) + 1))) l1 (ay_w (l2 + (-8))) else none)))
theorem s_Q_add_3 (X : Nat × (Nat → Int)) (d : Nat) : ∀ (n : Nat) (s : bS) (l1 l2 : Int), Sim (eQv) (Q_add_3 n s l1 l2) (rn X d 57 3 [rr 2, .inl l1, .inl l2] [] (hQ s))
  | 0, _, _, _ => Sim.none
  | n + 1, s, l1, l2 => Sim.step (rn X d 57 4 [rr 2, .inl l1, .inl l2] [.inl l2] (hQ s)) 1 (fun _ => rfl) (Sim.zLt (t := 49) rfl (fun _ => rfl) (fun _ => Sim.ret 1 (fun _ => rfl)) (fun _ => Sim.step (rn X d 57 14 [rr 2, .inl l1, .inl l2] [.inl 300, .inl (s.1 1)] (hQ s)) 3 (fun _ => rfl) (Sim.bGe (t := 49) rfl (fun _ => rfl) (fun _ => Sim.ret 1 (fun _ => rfl)) (fun _ => Sim.step (rn X d 57 32 [rr 2, .inl l1, .inl l2] [.inl (ay_and (ay_ushr l1 l2) 255), .inl (s.1 1), rr 3] (hQ s)) 9 (fun _ => rfl) (Sim.ast (a := 1) (hQ (bA s 0 (s.1 1) (ay_and (ay_ushr l1 l2) 255))) rfl rfl rfl (hQ_a1 s (s.1 1) (ay_and (ay_ushr l1 l2) 255)) (fun _ => Sim.step (rn X d 57 40 [rr 2, .inl l1, .inl l2] [.inl (ay_w ((s.1 1) + 1)), rr 2] (hQ (bA s 0 (s.1 1) (ay_and (ay_ushr l1 l2) 255)))) 5 (fun _ => rfl) (Sim.pf (a := 0) (fs := fQ_0 (bA s 0 (s.1 1) (ay_and (ay_ushr l1 l2) 255))) (hQ (bI (bA s 0 (s.1 1) (ay_and (ay_ushr l1 l2) 255)) 1 (ay_w ((s.1 1) + 1)))) rfl rfl rfl rfl rfl (Or.inl rfl) (hQ_p0_1 (bA s 0 (s.1 1) (ay_and (ay_ushr l1 l2) 255)) (ay_w ((s.1 1) + 1))) (Sim.step (rn X d 57 3 [rr 2, .inl l1, .inl (ay_w (l2 + (-8)))] [] (hQ (bI (bA s 0 (s.1 1) (ay_and (ay_ushr l1 l2) 255)) 1 (ay_w ((s.1 1) + 1))))) 2 (fun _ => rfl) (s_Q_add_3 X d n (bI (bA s 0 (s.1 1) (ay_and (ay_ushr l1 l2) 255)) 1 (ay_w ((s.1 1) + 1))) l1 (ay_w (l2 + (-8))))))))))))
def Q_add (n : Nat) (s : bS) (l1 : Int) : Option (Int × bS) := Q_add_3 n s l1 24
theorem s_Q_add (X : Nat × (Nat → Int)) (d : Nat) (n : Nat) (s : bS) (l1 : Int) : Sim (eQv) (Q_add n s l1) (rn X d 57 0 [rr 2, .inl l1, b0] [] (hQ s)) := Sim.step (rn X d 57 3 [rr 2, .inl l1, .inl 24] [] (hQ s)) 2 (fun _ => rfl) (s_Q_add_3 X d n s l1 24)
theorem lQP {F : Option (Int × bS)} {X : Nat × (Nat → Int)} {d m : Nat} {ls lb : List bV} (s : pS) (hls : ay_LR (ay_sg [54, 55] (hP s).length) ls lb) (P : Sim (eQv) F (rn X d m 0 ls [] (hQ (s.1 7)))) : Sim (fun q => (none, hP (bU s.1 7 q.2, s.2))) F (rn X d m 0 lb [] (hP s)) :=
  Sim.lift (E := (eQv)) (E' := (fun q => (none, hP (bU s.1 7 q.2, s.2)))) (h := (hQ (s.1 7))) (g := (hP s)) [54, 55] (by decide) rfl (fun p hp => Nat.lt_of_lt_of_le ((by decide : ∀ p ∈ ([54, 55] : List Nat), p < 71) p hp) (Nat.le_add_left 71 s.2.length)) (fun k e q => match k, q with | 0, q => hemc (f := ay_re _) q rfl | 1, q => hemc (f := ay_re _) q rfl | _ + 2, q => noe q) hls rfl (fun a => ⟨rfl, rfl⟩) P
def Kx_use (t : bS) (o : Option (Nat × bS)) (n : Nat) (s : bS × bS × bS) (l1 l2 : Int) : Option (Int × (bS × bS × bS)) := match o with
  | none => K0_use t n s l1 l2
  | some j => K1_use t j.2 n s l1 l2
theorem s_N_Kx_use (X : Nat × (Nat → Int)) (d : Nat) (c : Nat → bS) (T : bH) (o : Option (Nat × bS)) (ho : PT (c, T) = some o) (n : Nat) (s : bS × bS × bS) (l1 l2 : Int) : Sim (eNi c T) (Kx_use (c 1) o n s l1 l2) (rn X d 4 0 [rr 58, .inl l1, .inl l2] [] (hN c T s)) := by
  rcases PT_s ho with ⟨rfl, hr⟩ | ⟨jx, rfl, hr, hx⟩
  · exact s_N_K0_use X d c T hr n s l1 l2
  · exact s_N_K1_use X d c T jx.2 jx.1 hx hr n s l1 l2
theorem s_F_Kx_use (X : Nat × (Nat → Int)) (d : Nat) (c : Nat → bS) (T : bH) (o : Option (Nat × bS)) (ho : PT (c, T) = some o) (n : Nat) (s : bS × bS × bS) (l1 l2 : Int) : Sim (eFi c T) (Kx_use (c 1) o n s l1 l2) (rn X d 4 0 [rr 62, .inl l1, .inl l2] [] (hF c T s)) := by
  rcases PT_s ho with ⟨rfl, hr⟩ | ⟨jx, rfl, hr, hx⟩
  · exact s_F_K0_use X d c T hr n s l1 l2
  · exact s_F_K1_use X d c T jx.2 jx.1 hx hr n s l1 l2
def Kx_duplicate (t : bS) (o : Option (Nat × bS)) (n : Nat) (s : bS × bS × bS) (l1 l2 l3 l4 : Int) : Option (Int × (bS × bS × bS)) := match o with
  | none => K0_duplicate t n s l1 l2 l3 l4
  | some j => K1_duplicate t j.2 n s l1 l2 l3 l4
theorem s_N_Kx_duplicate (X : Nat × (Nat → Int)) (d : Nat) (c : Nat → bS) (T : bH) (o : Option (Nat × bS)) (ho : PT (c, T) = some o) (n : Nat) (s : bS × bS × bS) (l1 l2 l3 l4 : Int) : Sim (eNi c T) (Kx_duplicate (c 1) o n s l1 l2 l3 l4) (rn X d 6 0 [rr 58, .inl l1, .inl l2, .inl l3, .inl l4, b0] [] (hN c T s)) := by
  rcases PT_s ho with ⟨rfl, hr⟩ | ⟨jx, rfl, hr, hx⟩
  · exact s_N_K0_duplicate X d c T hr n s l1 l2 l3 l4
  · exact s_N_K1_duplicate X d c T jx.2 jx.1 hx hr n s l1 l2 l3 l4
theorem s_F_Kx_duplicate (X : Nat × (Nat → Int)) (d : Nat) (c : Nat → bS) (T : bH) (o : Option (Nat × bS)) (ho : PT (c, T) = some o) (n : Nat) (s : bS × bS × bS) (l1 l2 l3 l4 : Int) : Sim (eFi c T) (Kx_duplicate (c 1) o n s l1 l2 l3 l4) (rn X d 6 0 [rr 62, .inl l1, .inl l2, .inl l3, .inl l4, b0] [] (hF c T s)) := by
  rcases PT_s ho with ⟨rfl, hr⟩ | ⟨jx, rfl, hr, hx⟩
  · exact s_F_K0_duplicate X d c T hr n s l1 l2 l3 l4
  · exact s_F_K1_duplicate X d c T jx.2 jx.1 hx hr n s l1 l2 l3 l4
def Kx_passDay (t : bS) (o : Option (Nat × bS)) (n : Nat) (s : bS × bS × bS) : Option (Int × (bS × bS × bS)) := match o with
  | none => K0_passDay t n s
  | some j => K1_passDay t j.2 n s
theorem s_N_Kx_passDay (X : Nat × (Nat → Int)) (d : Nat) (c : Nat → bS) (T : bH) (o : Option (Nat × bS)) (ho : PT (c, T) = some o) (n : Nat) (s : bS × bS × bS) : Sim (eNi c T) (Kx_passDay (c 1) o n s ) (rn X d 12 0 [rr 58, b0, b0, b0, b0] [] (hN c T s)) := by
  rcases PT_s ho with ⟨rfl, hr⟩ | ⟨jx, rfl, hr, hx⟩
  · exact s_N_K0_passDay X d c T hr n s
  · exact s_N_K1_passDay X d c T jx.2 jx.1 hx hr n s
theorem s_F_Kx_passDay (X : Nat × (Nat → Int)) (d : Nat) (c : Nat → bS) (T : bH) (o : Option (Nat × bS)) (ho : PT (c, T) = some o) (n : Nat) (s : bS × bS × bS) : Sim (eFi c T) (Kx_passDay (c 1) o n s ) (rn X d 12 0 [rr 62, b0, b0, b0, b0] [] (hF c T s)) := by
  rcases PT_s ho with ⟨rfl, hr⟩ | ⟨jx, rfl, hr, hx⟩
  · exact s_F_K0_passDay X d c T hr n s
  · exact s_F_K1_passDay X d c T jx.2 jx.1 hx hr n s
def Kx_findRoom (t : bS) (o : Option (Nat × bS)) (n : Nat) (s : bS × bS × bS) (l1 l2 : Int) : Option (Int × (bS × bS × bS)) := match o with
  | none => K0_findRoom t n s l1 l2
  | some j => K1_findRoom t j.2 n s l1 l2
theorem s_N_Kx_findRoom (X : Nat × (Nat → Int)) (d : Nat) (c : Nat → bS) (T : bH) (o : Option (Nat × bS)) (ho : PT (c, T) = some o) (n : Nat) (s : bS × bS × bS) (l1 l2 : Int) : Sim (eNi c T) (Kx_findRoom (c 1) o n s l1 l2) (rn X d 14 0 [rr 58, .inl l1, .inl l2, b0, b0, b0] [] (hN c T s)) := by
  rcases PT_s ho with ⟨rfl, hr⟩ | ⟨jx, rfl, hr, hx⟩
  · exact s_N_K0_findRoom X d c T hr n s l1 l2
  · exact s_N_K1_findRoom X d c T jx.2 jx.1 hx hr n s l1 l2
theorem s_F_Kx_findRoom (X : Nat × (Nat → Int)) (d : Nat) (c : Nat → bS) (T : bH) (o : Option (Nat × bS)) (ho : PT (c, T) = some o) (n : Nat) (s : bS × bS × bS) (l1 l2 : Int) : Sim (eFi c T) (Kx_findRoom (c 1) o n s l1 l2) (rn X d 14 0 [rr 62, .inl l1, .inl l2, b0, b0, b0] [] (hF c T s)) := by
  rcases PT_s ho with ⟨rfl, hr⟩ | ⟨jx, rfl, hr, hx⟩
  · exact s_F_K0_findRoom X d c T hr n s l1 l2
  · exact s_F_K1_findRoom X d c T jx.2 jx.1 hx hr n s l1 l2
def Kx_victimFor (t : bS) (o : Option (Nat × bS)) (n : Nat) (s : bS × bS × bS) (l1 : Int) : Option (Int × (bS × bS × bS)) := match o with
  | none => K0_victimFor t n s l1
  | some j => K1_victimFor t j.2 n s l1
theorem s_N_Kx_victimFor (X : Nat × (Nat → Int)) (d : Nat) (c : Nat → bS) (T : bH) (o : Option (Nat × bS)) (ho : PT (c, T) = some o) (n : Nat) (s : bS × bS × bS) (l1 : Int) : Sim (eNi c T) (Kx_victimFor (c 1) o n s l1) (rn X d 16 0 [rr 58, .inl l1, b0, b0, b0] [] (hN c T s)) := by
  rcases PT_s ho with ⟨rfl, hr⟩ | ⟨jx, rfl, hr, hx⟩
  · exact s_N_K0_victimFor X d c T hr n s l1
  · exact s_N_K1_victimFor X d c T jx.2 jx.1 hx hr n s l1
theorem s_F_Kx_victimFor (X : Nat × (Nat → Int)) (d : Nat) (c : Nat → bS) (T : bH) (o : Option (Nat × bS)) (ho : PT (c, T) = some o) (n : Nat) (s : bS × bS × bS) (l1 : Int) : Sim (eFi c T) (Kx_victimFor (c 1) o n s l1) (rn X d 16 0 [rr 62, .inl l1, b0, b0, b0] [] (hF c T s)) := by
  rcases PT_s ho with ⟨rfl, hr⟩ | ⟨jx, rfl, hr, hx⟩
  · exact s_F_K0_victimFor X d c T hr n s l1
  · exact s_F_K1_victimFor X d c T jx.2 jx.1 hx hr n s l1
def Kx_letsGo (t : bS) (o : Option (Nat × bS)) (n : Nat) (s : bS × bS × bS) (l1 : Int) : Option (Int × (bS × bS × bS)) := match o with
  | none => K0_letsGo t n s l1
  | some j => K1_letsGo t j.2 n s l1
theorem s_N_Kx_letsGo (X : Nat × (Nat → Int)) (d : Nat) (c : Nat → bS) (T : bH) (o : Option (Nat × bS)) (ho : PT (c, T) = some o) (n : Nat) (s : bS × bS × bS) (l1 : Int) : Sim (eNi c T) (Kx_letsGo (c 1) o n s l1) (rn X d 22 0 [rr 58, .inl l1, b0, b0] [] (hN c T s)) := by
  rcases PT_s ho with ⟨rfl, hr⟩ | ⟨jx, rfl, hr, hx⟩
  · exact s_N_K0_letsGo X d c T hr n s l1
  · exact s_N_K1_letsGo X d c T jx.2 jx.1 hx hr n s l1
theorem s_F_Kx_letsGo (X : Nat × (Nat → Int)) (d : Nat) (c : Nat → bS) (T : bH) (o : Option (Nat × bS)) (ho : PT (c, T) = some o) (n : Nat) (s : bS × bS × bS) (l1 : Int) : Sim (eFi c T) (Kx_letsGo (c 1) o n s l1) (rn X d 22 0 [rr 62, .inl l1, b0, b0] [] (hF c T s)) := by
  rcases PT_s ho with ⟨rfl, hr⟩ | ⟨jx, rfl, hr, hx⟩
  · exact s_F_K0_letsGo X d c T hr n s l1
  · exact s_F_K1_letsGo X d c T jx.2 jx.1 hx hr n s l1
theorem Sim.pt {α : Type} {E : α → Option bV × bH} {X : Nat × (Nat → Int)} {d m pc : Nat} {ls st r : List bV} {K0 : Option α} {K1 : Nat × bS → Option α} (s : pS) (e : ∀ n, rn X d m pc ls st (hP s) (n + 1) = ay_cont (rn X d 63 0 [rr 16] [] (hP s) n) (fun v h => rn X d m (pc + 3) ls (v.toList ++ r) h n)) (P0 : Sim E K0 (rn X d m (pc + 3) ls (rr 0 :: r) (hP s))) (P1 : ∀ j : Nat × bS, Sim E (K1 j) (rn X d m (pc + 3) ls (rr (j.1 + 73) :: r) (hP s))) : Sim E (pt (PT s) K0 K1) (rn X d m pc ls st (hP s)) := fun a q => by
  cases ho : PT s with
  | none => rw [ho] at q; cases q
  | some o =>
    rw [ho] at q
    rcases PT_s ho with ⟨rfl, hr⟩ | ⟨jx, rfl, hr, hx⟩
    · exact Sim.callE e (s_N_ruler X d s.1 s.2 (s.1 8, s.1 0, s.1 9) hr) P0 a q
    · exact Sim.callE e (s_N_ruler X d s.1 s.2 (s.1 8, s.1 0, s.1 9) hr) (P1 jx) a q
