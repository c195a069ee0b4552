/-! Runs against functions: what a function answers, the run comes to. -/
abbrev bS : Type := (Nat → Int) × (Nat → Nat → Int)
abbrev rr (k : Nat) : bV := .inr (.inr (.inl k))
abbrev b0 : bV := .inr (.inr (.inr 0))
def bI (s : bS) (k : Nat) (v : Int) : bS := (fun j => bif Nat.beq j k then v else s.1 j, s.2)
def bA (s : bS) (k : Nat) (i v : Int) : bS := (s.1, fun j => bif Nat.beq j k then ay_u (s.2 k) i.toNat v else s.2 j)
def bC (s : bS) (k : Nat) (f : Nat → Int) : bS := (s.1, fun j => bif Nat.beq j k then f else s.2 j)
def rn (X : Nat × (Nat → Int)) (d m pc : Nat) (ls st : List bV) (h : bH) (n : Nat) : bO := ay_run X n d m pc ls st h
def b1 {α γ : Type} (x : Option α) (k : α → Option γ) : Option γ := match x with
  | none => none
  | some v => k v
def bb {α β γ : Type} (x : Option (α × β)) (k : α → β → Option γ) : Option γ := b1 x fun a => k a.1 a.2
def Ev (G : Nat → bO) (r : Option bV × bH) : Prop := ∃ N, ∀ j, G (j + N) = some r
def Sim {α : Type} (E : α → Option bV × bH) (F : Option α) (G : Nat → bO) : Prop := ∀ a, F = some a → Ev G (E a)
section
variable {α : Type} {E : α → Option bV × bH} {F Fa Fb : Option α} {G G' : Nat → bO} {X : Nat × (Nat → Int)} {d m pc t : Nat} {off : Int} {ls st : List bV} {h : bH} {x y : Int}
theorem Sim.none : Sim E none G := fun _ q => by cases q
theorem Sim.step (G' : Nat → bO) (k : Nat) (e : ∀ n, G (n + k) = G' n) (P : Sim E F G') : Sim E F G := fun a q => by
  obtain ⟨N, hN⟩ := P a q
  exact ⟨N + k, fun j => by rw [← Nat.add_assoc, e, hN]⟩
theorem Sim.ret {a : α} (k : Nat) (e : ∀ n, G (n + k) = some (E a)) : Sim E (some a) G := fun b q => by
  cases q
  exact ⟨k, e⟩
theorem Sim.ite {c : Prop} [Decidable c] {Ga Gb : Nat → bO} (e : ∀ n, G (n + 1) = if c then Ga n else Gb n) (Pa : c → Sim E Fa Ga) (Pb : ¬ c → Sim E Fb Gb) : Sim E (if c then Fa else Fb) G := fun a q => by
  by_cases hc : c
  · rw [if_pos hc] at q
    obtain ⟨N, hN⟩ := Pa hc a q
    exact ⟨N + 1, fun j => by rw [← Nat.add_assoc, e, if_pos hc, hN]⟩
  · rw [if_neg hc] at q
    obtain ⟨N, hN⟩ := Pb hc a q
    exact ⟨N + 1, fun j => by rw [← Nat.add_assoc, e, if_neg hc, hN]⟩
theorem Sim.chk {c : Prop} [Decidable c] {Ga : Nat → bO} (e : ∀ n, G (n + 1) = if c then Ga n else .none) (Pa : c → Sim E Fa Ga) : Sim E (if c then Fa else .none) G := Sim.ite (Gb := fun _ => .none) e Pa fun _ => Sim.none
theorem Sim.chn {c : Prop} [Decidable c] {Ga : Nat → bO} (e : ∀ n, G (n + 1) = if c then .none else Ga n) (Pa : ¬ c → Sim E Fa Ga) : Sim E (if c then .none else Fa) G := Sim.ite (Ga := fun _ => .none) e (fun _ => Sim.none) Pa
/-- branches; the place that is jumped to is given -/
theorem Sim.bEq (hf : ax_fetch m pc = some (.if_icmp .eq off)) (ht : ∀ k : Nat → bO, ax_jmp pc off k = k t) (Pa : x = y → Sim E Fa (rn X d m t ls st h)) (Pb : ¬ x = y → Sim E Fb (rn X d m (pc + 3) ls st h)) : Sim E (if x = y then Fa else Fb) (rn X d m pc ls (.inl y :: .inl x :: st) h) :=
  Sim.ite (fun n => by show ay_run _ _ _ _ _ _ _ _ = _; simp only [ay_run, hf, ax_call, ay_step, ay_i2, ay_icmp, ht]; rfl) Pa Pb
theorem Sim.bNe (hf : ax_fetch m pc = some (.if_icmp .ne off)) (ht : ∀ k : Nat → bO, ax_jmp pc off k = k t) (Pa : x = y → Sim E Fa (rn X d m (pc + 3) ls st h)) (Pb : ¬ x = y → Sim E Fb (rn X d m t ls st h)) : Sim E (if x = y then Fa else Fb) (rn X d m pc ls (.inl y :: .inl x :: st) h) :=
  Sim.ite (fun n => by show ay_run _ _ _ _ _ _ _ _ = _; simp only [ay_run, hf, ax_call, ay_step, ay_i2, ay_icmp, ht]; rfl) Pa Pb
theorem Sim.bLt (hf : ax_fetch m pc = some (.if_icmp .lt off)) (ht : ∀ k : Nat → bO, ax_jmp pc off k = k t) (Pa : x < y → Sim E Fa (rn X d m t ls st h)) (Pb : ¬ x < y → Sim E Fb (rn X d m (pc + 3) ls st h)) : Sim E (if x < y then Fa else Fb) (rn X d m pc ls (.inl y :: .inl x :: st) h) :=
  Sim.ite (fun n => by show ay_run _ _ _ _ _ _ _ _ = _; simp only [ay_run, hf, ax_call, ay_step, ay_i2, ay_icmp, ht]; rfl) Pa Pb
theorem Sim.bGe (hf : ax_fetch m pc = some (.if_icmp .ge off)) (ht : ∀ k : Nat → bO, ax_jmp pc off k = k t) (Pa : y ≤ x → Sim E Fa (rn X d m t ls st h)) (Pb : ¬ y ≤ x → Sim E Fb (rn X d m (pc + 3) ls st h)) : Sim E (if y ≤ x then Fa else Fb) (rn X d m pc ls (.inl y :: .inl x :: st) h) :=
  Sim.ite (fun n => by show ay_run _ _ _ _ _ _ _ _ = _; simp only [ay_run, hf, ax_call, ay_step, ay_i2, ay_icmp, ht]; rfl) Pa Pb
theorem Sim.bGt (hf : ax_fetch m pc = some (.if_icmp .gt off)) (ht : ∀ k : Nat → bO, ax_jmp pc off k = k t) (Pa : y < x → Sim E Fa (rn X d m t ls st h)) (Pb : ¬ y < x → Sim E Fb (rn X d m (pc + 3) ls st h)) : Sim E (if y < x then Fa else Fb) (rn X d m pc ls (.inl y :: .inl x :: st) h) :=
  Sim.ite (fun n => by show ay_run _ _ _ _ _ _ _ _ = _; simp only [ay_run, hf, ax_call, ay_step, ay_i2, ay_icmp, ht]; rfl) Pa Pb
theorem Sim.bLe (hf : ax_fetch m pc = some (.if_icmp .le off)) (ht : ∀ k : Nat → bO, ax_jmp pc off k = k t) (Pa : x ≤ y → Sim E Fa (rn X d m t ls st h)) (Pb : ¬ x ≤ y → Sim E Fb (rn X d m (pc + 3) ls st h)) : Sim E (if x ≤ y then Fa else Fb) (rn X d m pc ls (.inl y :: .inl x :: st) h) :=
  Sim.ite (fun n => by show ay_run _ _ _ _ _ _ _ _ = _; simp only [ay_run, hf, ax_call, ay_step, ay_i2, ay_icmp, ht]; rfl) Pa Pb
theorem Sim.zEq (hf : ax_fetch m pc = some (.ifCond .eq off)) (ht : ∀ k : Nat → bO, ax_jmp pc off k = k t) (Pa : x = 0 → Sim E Fa (rn X d m t ls st h)) (Pb : ¬ x = 0 → Sim E Fb (rn X d m (pc + 3) ls st h)) : Sim E (if x = 0 then Fa else Fb) (rn X d m pc ls (.inl x :: st) h) :=
  Sim.ite (fun n => by show ay_run _ _ _ _ _ _ _ _ = _; simp only [ay_run, hf, ax_call, ay_step, ay_i1, ay_icmp, ht]; rfl) Pa Pb
theorem Sim.zNe (hf : ax_fetch m pc = some (.ifCond .ne off)) (ht : ∀ k : Nat → bO, ax_jmp pc off k = k t) (Pa : x = 0 → Sim E Fa (rn X d m (pc + 3) ls st h)) (Pb : ¬ x = 0 → Sim E Fb (rn X d m t ls st h)) : Sim E (if x = 0 then Fa else Fb) (rn X d m pc ls (.inl x :: st) h) :=
  Sim.ite (fun n => by show ay_run _ _ _ _ _ _ _ _ = _; simp only [ay_run, hf, ax_call, ay_step, ay_i1, ay_icmp, ht]; rfl) Pa Pb
theorem Sim.zLt (hf : ax_fetch m pc = some (.ifCond .lt off)) (ht : ∀ k : Nat → bO, ax_jmp pc off k = k t) (Pa : x < 0 → Sim E Fa (rn X d m t ls st h)) (Pb : ¬ x < 0 → Sim E Fb (rn X d m (pc + 3) ls st h)) : Sim E (if x < 0 then Fa else Fb) (rn X d m pc ls (.inl x :: st) h) :=
  Sim.ite (fun n => by show ay_run _ _ _ _ _ _ _ _ = _; simp only [ay_run, hf, ax_call, ay_step, ay_i1, ay_icmp, ht]; rfl) Pa Pb
theorem Sim.zGe (hf : ax_fetch m pc = some (.ifCond .ge off)) (ht : ∀ k : Nat → bO, ax_jmp pc off k = k t) (Pa : 0 ≤ x → Sim E Fa (rn X d m t ls st h)) (Pb : ¬ 0 ≤ x → Sim E Fb (rn X d m (pc + 3) ls st h)) : Sim E (if 0 ≤ x then Fa else Fb) (rn X d m pc ls (.inl x :: st) h) :=
  Sim.ite (fun n => by show ay_run _ _ _ _ _ _ _ _ = _; simp only [ay_run, hf, ax_call, ay_step, ay_i1, ay_icmp, ht]; rfl) Pa Pb
theorem Sim.zGt (hf : ax_fetch m pc = some (.ifCond .gt off)) (ht : ∀ k : Nat → bO, ax_jmp pc off k = k t) (Pa : 0 < x → Sim E Fa (rn X d m t ls st h)) (Pb : ¬ 0 < x → Sim E Fb (rn X d m (pc + 3) ls st h)) : Sim E (if 0 < x then Fa else Fb) (rn X d m pc ls (.inl x :: st) h) :=
  Sim.ite (fun n => by show ay_run _ _ _ _ _ _ _ _ = _; simp only [ay_run, hf, ax_call, ay_step, ay_i1, ay_icmp, ht]; rfl) Pa Pb
theorem Sim.zLe (hf : ax_fetch m pc = some (.ifCond .le off)) (ht : ∀ k : Nat → bO, ax_jmp pc off k = k t) (Pa : x ≤ 0 → Sim E Fa (rn X d m t ls st h)) (Pb : ¬ x ≤ 0 → Sim E Fb (rn X d m (pc + 3) ls st h)) : Sim E (if x ≤ 0 then Fa else Fb) (rn X d m pc ls (.inl x :: st) h) :=
  Sim.ite (fun n => by show ay_run _ _ _ _ _ _ _ _ = _; simp only [ay_run, hf, ax_call, ay_step, ay_i1, ay_icmp, ht]; rfl) Pa Pb
/-- a switch: place by place -/
theorem Sim.sw (G : Int → Nat → bO) (x c : Int) (Pa : Sim E Fa (G c)) (Pb : ¬ x = c → Sim E Fb (G x)) : Sim E (if x = c then Fa else Fb) (G x) := fun a q => by
  by_cases hc : x = c
  · subst hc
    rw [if_pos rfl] at q
    exact Pa a q
  · rw [if_neg hc] at q
    exact Pb hc a q
theorem Sim.swd {lo hi : Int} {offs : Array Int} (hf : ax_fetch m pc = some (.tableswitch off lo hi offs)) (ht : ∀ k : Nat → bO, ax_jmp pc off k = k t) (hx : x < lo ∨ hi < x) (P : Sim E F (rn X d m t ls st h)) : Sim E F (rn X d m pc ls (.inl x :: st) h) :=
  Sim.step (rn X d m t ls st h) 1 (fun n => by show ay_run _ _ _ _ _ _ _ _ = _; simp only [ay_run, hf, ax_call, ay_step, ay_i1, if_pos hx, ht]; rfl) P
/-- a call -/
theorem Sim.call1 {β : Type} {Ec : β → Option bV × bH} {Fc : Option β} {c d' : Nat} {ls' r : List bV} {st : List bV} (K : β → Option α) (e : ∀ n, rn X d m pc ls st h (n + 1) = ay_cont (rn X d' c 0 ls' [] h n) (fun v h => rn X d m (pc + 3) ls (v.toList ++ r) h n)) (Pc : Sim Ec Fc (rn X d' c 0 ls' [] h)) (P : ∀ a, Sim E (K a) (rn X d m (pc + 3) ls ((Ec a).1.toList ++ r) (Ec a).2)) : Sim E (b1 Fc K) (rn X d m pc ls st h) := fun a q => by
  cases hc : Fc with
  | none => rw [hc] at q; cases q
  | some b =>
    rw [hc] at q
    obtain ⟨N, hN⟩ := Pc b hc
    obtain ⟨M, hM⟩ := P b a q
    refine ⟨(N + M) + 1, fun j => ?_⟩
    have e1 := hN (j + M)
    have e2 := hM (j + N)
    rw [← Nat.add_assoc, e, show j + (N + M) = j + M + N by omega, e1]
    show rn X d m (pc + 3) ls ((Ec b).1.toList ++ r) (Ec b).2 (j + M + N) = _
    rw [show j + M + N = j + N + M by omega, e2]
theorem Sim.call {β γ : Type} {Ec : β × γ → Option bV × bH} {Fc : Option (β × γ)} {c d' : Nat} {ls' r : List bV} {st : List bV} (K : β → γ → Option α) (e : ∀ n, rn X d m pc ls st h (n + 1) = ay_cont (rn X d' c 0 ls' [] h n) (fun v h => rn X d m (pc + 3) ls (v.toList ++ r) h n)) (Pc : Sim Ec Fc (rn X d' c 0 ls' [] h)) (P : ∀ v s, Sim E (K v s) (rn X d m (pc + 3) ls ((Ec (v, s)).1.toList ++ r) (Ec (v, s)).2)) : Sim E (bb Fc K) (rn X d m pc ls st h) := Sim.call1 (fun a => K a.1 a.2) e Pc (fun a => P a.1 a.2)
/-- rows -/
theorem Sim.ald {a n : Nat} {f : Nat → Int} {N : Int} (hf : ax_fetch m pc = some .iaload) (ha : ax_at h a = some (.inl (0, n, f))) (hN : (n : Int) = N) (P : 0 ≤ x ∧ x < N → Sim E F (rn X d m (pc + 1) ls (.inl (f x.toNat) :: st) h)) : Sim E (if 0 ≤ x ∧ x < N then F else .none) (rn X d m pc ls (.inl x :: rr (a + 2) :: st) h) :=
  Sim.chk (fun k => by subst hN; show ay_run _ _ _ _ _ _ _ _ = _; simp only [ay_run, hf, ax_call, ay_step, ay_ar, ha]; rfl) P
theorem Sim.ast {a n : Nat} {f : Nat → Int} {N : Int} (h' : bH) (hf : ax_fetch m pc = some .iastore) (ha : ax_at h a = some (.inl (0, n, f))) (hN : (n : Int) = N) (hh : h.set a (.inl (0, n, ay_u f x.toNat y)) = h') (P : 0 ≤ x ∧ x < N → Sim E F (rn X d m (pc + 1) ls st h')) : Sim E (if 0 ≤ x ∧ x < N then F else .none) (rn X d m pc ls (.inl y :: .inl x :: rr (a + 2) :: st) h) :=
  Sim.chk (fun k => by subst hN hh; show ay_run _ _ _ _ _ _ _ _ = _; simp only [ay_run, hf, ax_call, ay_step, ay_i1, ay_ar, ha]; rfl) P
theorem Sim.lld {a n : Nat} {f : Nat → Int} {N : Int} (hf : ax_fetch m pc = some .laload) (ha : ax_at h a = some (.inl (1, n, f))) (hN : (n : Int) = N) (P : 0 ≤ x ∧ x < N → Sim E F (rn X d m (pc + 1) ls (.inr (.inl (f x.toNat)) :: st) h)) : Sim E (if 0 ≤ x ∧ x < N then F else .none) (rn X d m pc ls (.inl x :: rr (a + 2) :: st) h) :=
  Sim.chk (fun k => by subst hN; show ay_run _ _ _ _ _ _ _ _ = _; simp only [ay_run, hf, ax_call, ay_step, ay_ar, ha]; rfl) P
theorem Sim.lst {a n : Nat} {f : Nat → Int} {N : Int} (h' : bH) (hf : ax_fetch m pc = some .lastore) (ha : ax_at h a = some (.inl (1, n, f))) (hN : (n : Int) = N) (hh : h.set a (.inl (1, n, ay_u f x.toNat y)) = h') (P : 0 ≤ x ∧ x < N → Sim E F (rn X d m (pc + 1) ls st h')) : Sim E (if 0 ≤ x ∧ x < N then F else .none) (rn X d m pc ls (.inr (.inl y) :: .inl x :: rr (a + 2) :: st) h) :=
  Sim.chk (fun k => by subst hN hh; show ay_run _ _ _ _ _ _ _ _ = _; simp only [ay_run, hf, ax_call, ay_step, ay_l1, ay_ar, ha]; rfl) P
theorem Sim.bld {a n : Nat} {f : Nat → Int} {N : Int} (hf : ax_fetch m pc = some .baload) (ha : ax_at h a = some (.inl (2, n, f))) (hN : (n : Int) = N) (P : 0 ≤ x ∧ x < N → Sim E F (rn X d m (pc + 1) ls (.inl (f x.toNat) :: st) h)) : Sim E (if 0 ≤ x ∧ x < N then F else .none) (rn X d m pc ls (.inl x :: rr (a + 2) :: st) h) :=
  Sim.chk (fun k => by subst hN; show ay_run _ _ _ _ _ _ _ _ = _; simp only [ay_run, hf, ax_call, ay_step, ay_ar, ha]; rfl) P
theorem Sim.bst {a n : Nat} {f : Nat → Int} {N : Int} (h' : bH) (hf : ax_fetch m pc = some .bastore) (ha : ax_at h a = some (.inl (2, n, f))) (hN : (n : Int) = N) (hh : h.set a (.inl (2, n, ay_u f x.toNat y)) = h') (P : 0 ≤ x ∧ x < N → (y = 0 ∨ y = 1) → Sim E F (rn X d m (pc + 1) ls st h')) : Sim E (if 0 ≤ x ∧ x < N then (if y = 0 ∨ y = 1 then F else .none) else .none) (rn X d m pc ls (.inl y :: .inl x :: rr (a + 2) :: st) h) := fun b q => by
  subst hN hh
  by_cases hc : 0 ≤ x ∧ x < (n : Int)
  · rw [if_pos hc] at q
    by_cases hy : y = 0 ∨ y = 1
    · rw [if_pos hy] at q
      exact Sim.step _ 1 (fun k => by show ay_run _ _ _ _ _ _ _ _ = _; simp only [ay_run, hf, ax_call, ay_step, ay_i1, ay_ar, ha, if_pos hc, if_pos hy]; rfl) (P hc hy) b q
    · rw [if_neg hy] at q; cases q
  · rw [if_neg hc] at q; cases q
theorem Sim.astk {a n : Nat} {f : Nat → Int} (h' : bH) (hf : ax_fetch m pc = some .iastore) (ha : ax_at h a = some (.inl (0, n, f))) (hx : 0 ≤ x ∧ x < (n : Int)) (hh : h.set a (.inl (0, n, ay_u f x.toNat y)) = h') (P : Sim E F (rn X d m (pc + 1) ls st h')) : Sim E F (rn X d m pc ls (.inl y :: .inl x :: rr (a + 2) :: st) h) :=
  Sim.step _ 1 (fun k => by subst hh; show ay_run _ _ _ _ _ _ _ _ = _; simp only [ay_run, hf, ax_call, ay_step, ay_i1, ay_ar, ha, if_pos hx]; rfl) P
theorem Sim.pf {j ci q a : Nat} {fs : List bV} {v : bV} (h' : bH) (hf : ax_fetch m pc = some (.putfield j)) (hj : ax_fd (ax_own m) j = (ci, q)) (ha : ax_at h a = some (.inr (.inr (ci, fs)))) (hw : (ax_at fs q).isSome = true) (hk : (ax_fk m ci q && ay_fit (ax_get (ax_f0 ci) q) v) = true) (hz : ax_fz ci q = false ∨ v = .inl 0 ∨ v = .inl 1) (hh : h.set a (.inr (.inr (ci, fs.set q v))) = h') (P : Sim E F (rn X d m (pc + 3) ls st h')) : Sim E F (rn X d m pc ls (v :: rr (a + 2) :: st) h) := by
  refine Sim.step _ 1 (fun k => ?_) P
  subst hh
  show ay_run _ _ _ _ _ _ _ _ = _
  simp only [ay_run, hf, ax_call, ay_step, ay_ob, ha, hj]
  cases hv : ax_at fs q with
  | none => rw [hv] at hw; cases hw
  | some w =>
    simp only [Nat.beq_refl, cond_true, hk, ay_store]
    rcases hz with hz | hz | hz
    · simp only [hz, cond_false]; rfl
    · subst hz; cases ax_fz ci q <;> rfl
    · subst hz; cases ax_fz ci q <;> rfl
/-- divisions -/
theorem Sim.dv (hf : ax_fetch m pc = some .idiv) (P : ¬ y = 0 → Sim E F (rn X d m (pc + 1) ls (.inl (ay_w (Int.tdiv x y)) :: st) h)) : Sim E (if y = 0 then .none else F) (rn X d m pc ls (.inl y :: .inl x :: st) h) :=
  Sim.chn (fun k => by show ay_run _ _ _ _ _ _ _ _ = _; simp only [ay_run, hf, ax_call, ay_step, ay_i2]; rfl) P
theorem Sim.rm (hf : ax_fetch m pc = some .irem) (P : ¬ y = 0 → Sim E F (rn X d m (pc + 1) ls (.inl (ay_rem x y) :: st) h)) : Sim E (if y = 0 then .none else F) (rn X d m pc ls (.inl y :: .inl x :: st) h) :=
  Sim.chn (fun k => by show ay_run _ _ _ _ _ _ _ _ = _; simp only [ay_run, hf, ax_call, ay_step, ay_i2]; rfl) P
theorem Sim.ldv (hf : ax_fetch m pc = some .ldiv) (P : ¬ y = 0 → Sim E F (rn X d m (pc + 1) ls (.inr (.inl (ay_W (Int.tdiv x y))) :: st) h)) : Sim E (if y = 0 then .none else F) (rn X d m pc ls (.inr (.inl y) :: .inr (.inl x) :: st) h) :=
  Sim.chn (fun k => by show ay_run _ _ _ _ _ _ _ _ = _; simp only [ay_run, hf, ax_call, ay_step, ay_l2]; rfl) P
/-- an answer of the two kinds, not known -/
theorem Sim.retb {a : α} (hf : ax_fetch m pc = some .ireturn) (hk : ax_rk m = 2) (he : E a = (some (.inl x), h)) : Sim E (if x = 0 ∨ x = 1 then some a else .none) (rn X d m pc ls [.inl x] h) :=
  Sim.chk (Ga := fun _ => some (E a)) (fun k => by show ay_run _ _ _ _ _ _ _ _ = _; simp only [ay_run, hf, ax_call, ay_end, hk, he]) (fun _ => Sim.ret 0 fun _ => rfl)
/-- fewer locals known -/
def lsLe : List bV → List bV → Prop
  | [], [] => True
  | a :: s, b :: t => (a = b0 ∨ a = b) ∧ lsLe s t
  | _, _ => False
theorem lz0 : lsLe [] [] := trivial
theorem lzi {a : bV} {s t : List bV} (q : lsLe s t) : lsLe (a :: s) (a :: t) := ⟨Or.inr rfl, q⟩
theorem lzo {a : bV} {s t : List bV} (q : lsLe s t) : lsLe (b0 :: s) (a :: t) := ⟨Or.inl rfl, q⟩
theorem Sim.weak {ls' : List bV} (W : ∀ n r, ay_run X n d m pc ls st h = some r → ay_run X n d m pc ls' st h = some r) (P : Sim E F (rn X d m pc ls st h)) : Sim E F (rn X d m pc ls' st h) := fun a q => by
  obtain ⟨N, hN⟩ := P a q
  exact ⟨N, fun j => W _ _ (hN j)⟩
end
