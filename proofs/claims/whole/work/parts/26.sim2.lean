/-! More rules of runs against functions; heaps with a tail. -/
section
variable {α : Type} {E : α → Option bV × bH} {F : Option α} {X : Nat × (Nat → Int)} {d m pc t : Nat} {off : Int} {ls st : List bV} {h : bH} {x : Int}
theorem Sim.acp {b n2 : Nat} {f : Nat → Int} {st' : List bV} (h' : bH) (e : ∀ k, rn X d m pc ls st' h (k + 1) = rn X d m (pc + 3) ls st (h.set b (.inl (0, n2, f))) k) (hh : h.set b (.inl (0, n2, f)) = h') (P : Sim E F (rn X d m (pc + 3) ls st h')) : Sim E F (rn X d m pc ls st' h) :=
  Sim.step _ 1 (fun k => by rw [e k, hh]) P
theorem Sim.swl {ps : Array (Int × Int)} (hf : ax_fetch m pc = some (.lookupswitch off ps)) (hs : (ps.toList.zip (ps.toList.drop 1)).all (fun (a, next) => a.1 < next.1) = true) (ho : Jvm.Op.lookupswitch.offset ps.toList off x = off) (ht : ∀ k : Nat → bO, ax_jmp pc off k = k t) (P : Sim E F (rn X d m t ls st h)) : Sim E F (rn X d m pc ls (.inl x :: st) h) :=
  Sim.step (rn X d m t ls st h) 1 (fun n => by show ay_run _ _ _ _ _ _ _ _ = _; simp only [ay_run, hf, ax_call, ay_step, ay_i1, hs, cond_true, ho, ht]; rfl) P
theorem Sim.callE {c d' : Nat} {ls' r st : List bV} {v : Option bV} {h1 : bH} (e : ∀ n, rn X d m pc ls st h (n + 1) = ay_cont (rn X d' c 0 ls' [] h n) (fun v h => rn X d m (pc + 3) ls (v.toList ++ r) h n)) (Pc : Ev (rn X d' c 0 ls' [] h) (v, h1)) (P : Sim E F (rn X d m (pc + 3) ls (v.toList ++ r) h1)) : Sim E F (rn X d m pc ls st h) := fun a q => by
  obtain ⟨N, hN⟩ := Pc
  obtain ⟨M, hM⟩ := P a q
  refine ⟨(N + M) + 1, fun j => ?_⟩
  have e1 := hN (j + M)
  have e2 := hM (j + N)
  rw [← Nat.add_assoc, e, show j + (N + M) = j + M + N by omega, e1]
  show rn X d m (pc + 3) ls (v.toList ++ r) h1 (j + M + N) = _
  rw [show j + M + N = j + N + M by omega, e2]
theorem hemc {g : bH} {p : Nat} {f : bE → bE} {x e : bE} (q : some x = some e) (h : ax_at g p = some (f x)) : ax_at g p = some (f e) := by cases q; exact h
theorem noe {α : Type} {e : α} {p : Prop} (q : (none : Option α) = some e) : p := by cases q
end
