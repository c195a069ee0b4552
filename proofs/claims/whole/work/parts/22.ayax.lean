/-! The machine over whole numbers is the machine: what it comes to, the machine over 32 and 64 bits comes to. -/
def ay_ok : bV → Prop
  | .inl x => -2147483648 ≤ x ∧ x < 2147483648
  | .inr (.inl x) => -9223372036854775808 ≤ x ∧ x < 9223372036854775808
  | _ => True
def ay_cv : bV → Value
  | .inl x => .int (Int32.ofInt x)
  | .inr (.inl x) => .long (Int64.ofInt x)
  | .inr (.inr (.inl 0)) => .null
  | .inr (.inr (.inl (k + 1))) => .ref k
  | .inr (.inr (.inr 0)) => .float 0
  | .inr (.inr (.inr (q + 1))) => .retAddr q
def ay_rc : Nat → Option Nat
  | 0 => none
  | k + 1 => some k
def ay_ce : bE → va_E
  | .inl (1, n, f) => .inl (1, n, .inr (.inl fun i => Int64.ofInt (f i)))
  | .inl (t, n, f) => .inl (t, n, .inl fun i => Int32.ofInt (f i))
  | .inr (.inl (t, n, f)) => .inl (t, n, .inr (.inr (.inr (.inr fun i => ay_rc (f i)))))
  | .inr (.inr (ci, fs)) => .inr (ci, fs.map ay_cv)
def ay_oe : bE → Prop
  | .inl (t, n, f) => t ≤ 2 ∧ ∀ i, ay_ok (bif Nat.beq t 1 then .inr (.inl (f i)) else .inl (f i))
  | .inr (.inl (t, _, _)) => t = 3 ∨ t = 4
  | .inr (.inr (_, fs)) => ∀ v ∈ fs, ay_ok v
def ay_ol (l : List bV) : Prop := ∀ v ∈ l, ay_ok v
def ay_oh (h : bH) : Prop := ∀ e ∈ h, ay_oe e
def ay_ret (a : Nat) (b c : List bV) (e : bH) : Option (Nat × List bV × List bV × bH) := some (a, b, c, e)
def ay_un {ρ : Type} (k : Nat → List bV → List bV → bH → Option ρ) (q : Nat × List bV × List bV × bH) : Option ρ := k q.1 q.2.1 q.2.2.1 q.2.2.2
theorem ay_w_ok (x : Int) : ay_ok (.inl (ay_w x)) := by
  have h1 := Int.le_bmod (x := x) (m := 4294967296) (by decide)
  have h2 := Int.bmod_lt (x := x) (m := 4294967296) (by decide)
  exact ⟨by unfold ay_w; omega, by unfold ay_w; omega⟩
theorem ay_W_ok (x : Int) : ay_ok (.inr (.inl (ay_W x))) := by
  have h1 := Int.le_bmod (x := x) (m := 18446744073709551616) (by decide)
  have h2 := Int.bmod_lt (x := x) (m := 18446744073709551616) (by decide)
  exact ⟨by unfold ay_W; omega, by unfold ay_W; omega⟩
theorem ay_i_ok (x : Int32) : ay_ok (.inl x.toInt) := ⟨Int32.le_toInt x, Int32.toInt_lt x⟩
theorem ay_l_ok (x : Int64) : ay_ok (.inr (.inl x.toInt)) := ⟨Int64.le_toInt x, Int64.toInt_lt x⟩
theorem ay_w_of (x : Int) : Int32.ofInt (ay_w x) = Int32.ofInt x := Int32.toInt_inj.1 (by simp [ay_w])
theorem ay_W_of (x : Int) : Int64.ofInt (ay_W x) = Int64.ofInt x := Int64.toInt_inj.1 (by simp [ay_W])
theorem ay_to {x : Int} (h : ay_ok (.inl x)) : (Int32.ofInt x).toInt = x := Int32.toInt_ofInt_of_le h.1 h.2
theorem ay_toL {x : Int} (h : ay_ok (.inr (.inl x))) : (Int64.ofInt x).toInt = x := Int64.toInt_ofInt_of_le h.1 h.2
theorem ay_lt {x y : Int} (h : ay_ok (.inl x)) (g : ay_ok (.inl y)) : (Int32.ofInt x < Int32.ofInt y) ↔ x < y := by rw [Int32.lt_iff_toInt_lt, ay_to h, ay_to g]
theorem ay_le {x y : Int} (h : ay_ok (.inl x)) (g : ay_ok (.inl y)) : (Int32.ofInt x ≤ Int32.ofInt y) ↔ x ≤ y := by rw [Int32.le_iff_toInt_le, ay_to h, ay_to g]
theorem ay_eq {x y : Int} (h : ay_ok (.inl x)) (g : ay_ok (.inl y)) : (Int32.ofInt x = Int32.ofInt y) ↔ x = y := ⟨fun q => by rw [← ay_to h, ← ay_to g, q], fun q => by rw [q]⟩
theorem ay_ltL {x y : Int} (h : ay_ok (.inr (.inl x))) (g : ay_ok (.inr (.inl y))) : (Int64.ofInt x < Int64.ofInt y) ↔ x < y := by rw [Int64.lt_iff_toInt_lt, ay_toL h, ay_toL g]
theorem ay_eqL {x y : Int} (h : ay_ok (.inr (.inl x))) (g : ay_ok (.inr (.inl y))) : (Int64.ofInt x = Int64.ofInt y) ↔ x = y := ⟨fun q => by rw [← ay_toL h, ← ay_toL g, q], fun q => by rw [q]⟩
theorem ay_in {i : Int} {n : Nat} (h : ay_ok (.inl i)) (q : 0 ≤ i ∧ i < (n : Int)) : ¬ (Int32.ofInt i < 0 ∨ n ≤ (Int32.ofInt i).toNatClampNeg) ∧ (Int32.ofInt i).toNatClampNeg = i.toNat := by
  have e : (Int32.ofInt i).toNatClampNeg = i.toNat := by show (Int32.ofInt i).toInt.toNat = _; rw [ay_to h]
  refine ⟨fun z => ?_, e⟩
  rcases z with z | z
  · rw [Int32.lt_iff_toInt_lt, ay_to h] at z
    have : (0 : Int32).toInt = 0 := rfl
    omega
  · rw [e] at z; omega
section
variable {ρ : Type} {q : ρ}
theorem ay_i1_s {st : List bV} {k : Int → List bV → Option ρ} (h : ay_i1 st k = some q) : ∃ x r, st = .inl x :: r ∧ k x r = some q := by
  unfold ay_i1 at h; split at h
  · exact ⟨_, _, rfl, h⟩
  · cases h
theorem ay_i2_s {st : List bV} {k : Int → Int → List bV → Option ρ} (h : ay_i2 st k = some q) : ∃ x y r, st = .inl y :: .inl x :: r ∧ k x y r = some q := by
  unfold ay_i2 at h; split at h
  · exact ⟨_, _, _, rfl, h⟩
  · cases h
theorem ay_l1_s {st : List bV} {k : Int → List bV → Option ρ} (h : ay_l1 st k = some q) : ∃ x r, st = .inr (.inl x) :: r ∧ k x r = some q := by
  unfold ay_l1 at h; split at h
  · exact ⟨_, _, rfl, h⟩
  · cases h
theorem ay_l2_s {st : List bV} {k : Int → Int → List bV → Option ρ} (h : ay_l2 st k = some q) : ∃ x y r, st = .inr (.inl y) :: .inr (.inl x) :: r ∧ k x y r = some q := by
  unfold ay_l2 at h; split at h
  · exact ⟨_, _, _, rfl, h⟩
  · cases h
theorem ay_li_s {st : List bV} {k : Int → Int → List bV → Option ρ} (h : ay_li st k = some q) : ∃ x y r, st = .inl y :: .inr (.inl x) :: r ∧ k x y r = some q := by
  unfold ay_li at h; split at h
  · exact ⟨_, _, _, rfl, h⟩
  · cases h
theorem ay_ldi_s {ls : List bV} {i : Nat} {k : Int → Option ρ} (h : ay_ldi ls i k = some q) : ∃ x, ay_get ls i = .inl x ∧ k x = some q := by
  unfold ay_ldi at h; split at h
  · rename_i x e; exact ⟨x, e, h⟩
  · cases h
theorem ay_ldl_s {ls : List bV} {i : Nat} {k : Int → Option ρ} (h : ay_ldl ls i k = some q) : ∃ x, ay_get ls i = .inr (.inl x) ∧ k x = some q := by
  unfold ay_ldl at h; split at h
  · rename_i x e; exact ⟨x, e, h⟩
  · cases h
theorem ay_lda_s {ls : List bV} {i : Nat} {k : Nat → Option ρ} (h : ay_lda ls i k = some q) : ∃ x, ay_get ls i = rr x ∧ k x = some q := by
  unfold ay_lda at h; split at h
  · rename_i x e; exact ⟨x, e, h⟩
  · cases h
theorem ay_sta_s {st : List bV} {k : Nat → List bV → Option ρ} (h : ay_sta st k = some q) : ∃ x r, st = rr x :: r ∧ k x r = some q := by
  unfold ay_sta at h; split at h
  · exact ⟨_, _, rfl, h⟩
  · cases h
theorem ay_ar_s {t : Nat} {h : bH} {st : List bV} {k : Nat → (Nat → Int) → Nat → Int → List bV → Option ρ} (hh : ay_ar t h st k = some q) : ∃ n f a i r, st = .inl i :: rr (a + 2) :: r ∧ ax_at h a = some (.inl (t, n, f)) ∧ (0 ≤ i ∧ i < (n : Int)) ∧ k n f a i r = some q := by
  unfold ay_ar at hh; split at hh
  · split at hh
    · rename_i e
      rcases ax_bif_s hh with ⟨hb, hk⟩ | ⟨_, hk⟩
      · split at hk
        · rename_i hc
          have := Nat.eq_of_beq_eq_true hb; subst this
          exact ⟨_, _, _, _, _, rfl, e, hc, hk⟩
        · cases hk
      · cases hk
    · cases hh
  · cases hh
theorem ay_ob_s {h : bH} {st : List bV} {k : Nat → List bV → Nat → List bV → Option ρ} (hh : ay_ob h st k = some q) : ∃ ci fs a r, st = rr (a + 2) :: r ∧ ax_at h a = some (.inr (.inr (ci, fs))) ∧ k ci fs a r = some q := by
  unfold ay_ob at hh; split at hh
  · split at hh
    · rename_i e; exact ⟨_, _, _, _, rfl, e, hh⟩
    · cases hh
  · cases hh
end
theorem ay_ol.tl {v : bV} {r : List bV} (h : ay_ol (v :: r)) : ay_ol r := fun x hx => h x (List.mem_cons_of_mem _ hx)
theorem ay_ol.hd {v : bV} {r : List bV} (h : ay_ol (v :: r)) : ay_ok v := h v (List.mem_cons_self ..)
theorem ay_ol.cons {v : bV} {r : List bV} (a : ay_ok v) (h : ay_ol r) : ay_ol (v :: r) := fun x hx => by
  rcases List.mem_cons.mp hx with rfl | hx
  · exact a
  · exact h x hx
theorem ay_get_mem : ∀ (l : List bV) (i : Nat), ay_ol l → ay_ok (ay_get l i)
  | [], _, _ => trivial
  | v :: t, 0, h => h.hd
  | v :: t, i + 1, h => ay_get_mem t i h.tl
theorem ay_get_cv : ∀ (l : List bV) (i : Nat), ax_get (l.map ay_cv) i = ay_cv (ay_get l i)
  | [], _ => rfl
  | _ :: _, 0 => rfl
  | _ :: t, i + 1 => ay_get_cv t i
theorem ay_at_map {α β : Type} (f : α → β) : ∀ (l : List α) (i : Nat), ax_at (l.map f) i = (ax_at l i).map f
  | [], _ => rfl
  | _ :: _, 0 => rfl
  | _ :: t, i + 1 => ay_at_map f t i
theorem ay_at_mem {α : Type} : ∀ {l : List α} {i : Nat} {x : α}, ax_at l i = some x → x ∈ l
  | [], _, _, h => by cases h
  | y :: t, 0, x, h => by cases h; exact List.mem_cons_self ..
  | y :: t, i + 1, x, h => List.mem_cons_of_mem _ (ay_at_mem (l := t) (i := i) h)
theorem ay_set_mem {α : Type} {P : α → Prop} {l : List α} {i : Nat} {x : α} (h : ∀ v ∈ l, P v) (hx : P x) : ∀ v ∈ l.set i x, P v := fun v hv => by
  rcases List.mem_or_eq_of_mem_set hv with q | rfl
  · exact h v q
  · exact hx
theorem ay_isl_cv (v : bV) : ax_islong (ay_cv v) = ay_isl v := by
  rcases v with x | x | x | x
  · rfl
  · rfl
  · cases x <;> rfl
  · cases x <;> rfl
theorem ay_kill_cv (ls : List bV) (i : Nat) : ax_kill (ls.map ay_cv) i = (ay_kill ls i).map ay_cv := by
  cases i with
  | zero => rfl
  | succ i =>
    show (bif ax_islong (ax_get (ls.map ay_cv) i) then (ls.map ay_cv).set i (.float 0) else ls.map ay_cv) = (bif ay_isl (ay_get ls i) then ls.set i b0 else ls).map ay_cv
    rw [ay_get_cv, ay_isl_cv]
    cases ay_isl (ay_get ls i)
    · rfl
    · show _ = (ls.set i b0).map ay_cv
      rw [List.map_set]; rfl
theorem ay_set1_cv (ls : List bV) (i : Nat) (v : bV) : ax_set1 (ls.map ay_cv) i (ay_cv v) = (ay_set1 ls i v).map ay_cv := by
  unfold ax_set1 ay_set1; rw [ay_kill_cv, List.map_set]
theorem ay_set2_cv (ls : List bV) (i : Nat) (v : bV) : ax_set2 (ls.map ay_cv) i (ay_cv v) = (ay_set2 ls i v).map ay_cv := by
  unfold ax_set2 ay_set2; rw [ay_kill_cv, List.map_set, List.map_set]; rfl
theorem ay_kill_ok {ls : List bV} (h : ay_ol ls) (i : Nat) : ay_ol (ay_kill ls i) := by
  cases i with
  | zero => exact h
  | succ i =>
    show ay_ol (bif ay_isl (ay_get ls i) then ls.set i b0 else ls)
    cases ay_isl (ay_get ls i)
    · exact h
    · exact ay_set_mem h trivial
theorem ay_set1_ok {ls : List bV} {i : Nat} {v : bV} (h : ay_ol ls) (hv : ay_ok v) : ay_ol (ay_set1 ls i v) := ay_set_mem (ay_kill_ok h i) hv
theorem ay_set2_ok {ls : List bV} {i : Nat} {v : bV} (h : ay_ol ls) (hv : ay_ok v) : ay_ol (ay_set2 ls i v) := ay_set_mem (P := ay_ok) (ay_set_mem (ay_kill_ok h i) hv) trivial
theorem ay_app (h : bH) (e : bE) : (h ++ [e]).map ay_ce = h.map ay_ce ++ [ay_ce e] := by rw [List.map_append]; rfl
theorem ay_nref (h : bH) : ay_cv (rr (h.length + 2)) = .ref ((h.map ay_ce).length + 1) := by rw [List.length_map]; rfl
theorem ay_set_ce {h : bH} {a : Nat} {e : bE} : (h.set a e).map ay_ce = (h.map ay_ce).set a (ay_ce e) := List.map_set
theorem ay_upd (f : Nat → Int) (i : Nat) (x : Int) : upd (fun j => Int32.ofInt (f j)) i (Int32.ofInt x) = fun j => Int32.ofInt (ay_u f i x j) := by
  funext j; unfold upd ay_u; split <;> rfl
theorem ay_updL (f : Nat → Int) (i : Nat) (x : Int) : vp_updL (fun j => Int64.ofInt (f j)) i (Int64.ofInt x) = fun j => Int64.ofInt (ay_u f i x j) := by
  funext j; unfold vp_updL ay_u; split <;> rfl
theorem ay_updR (f : Nat → Nat) (i : Nat) (x : Nat) : va_up (fun j => ay_rc (f j)) i (ay_rc x) = fun j => ay_rc (ay_u f i x j) := by
  funext j; unfold va_up ay_u; split <;> rfl

section
variable {X : Nat × (Nat → Int32)} {m pc pc' : Nat} {ls st ls' st' : List bV} {h h1 : bH}
/-- the answer's form -/
abbrev ay_A (r : Option (Nat × List Value × List Value × ax_H)) (pc' : Nat) (ls' st' : List bV) (h1 : bH) : Prop := r = some (pc', ls'.map ay_cv, st'.map ay_cv, h1.map ay_ce) ∧ ay_ol ls' ∧ ay_ol st' ∧ ay_oh h1
theorem ay_fin {a : Nat} {b c : List bV} (hl : ay_ol b) (hs : ay_ol c) (hh : ay_oh h) (q : ay_ret a b c h = some (pc', ls', st', h1)) : ay_A (ax_ret a (b.map ay_cv) (c.map ay_cv) (h.map ay_ce)) pc' ls' st' h1 := by
  cases q; exact ⟨rfl, hl, hs, hh⟩
theorem ay_c2 {f : Int → Int → Int} {g : Int32 → Int32 → Int32} (hl : ay_ol ls) (hs : ay_ol st) (hh : ay_oh h) (hf : ∀ x y, ay_ok (.inl x) → ay_ok (.inl y) → Int32.ofInt (f x y) = g (Int32.ofInt x) (Int32.ofInt y) ∧ ay_ok (.inl (f x y))) (q : ay_i2 st (fun x y r => ay_ret (pc + 1) ls (.inl (f x y) :: r) h) = some (pc', ls', st', h1)) : ay_A (ax_i2 (st.map ay_cv) fun x y r => ax_ret (pc + 1) (ls.map ay_cv) (.int (g x y) :: r) (h.map ay_ce)) pc' ls' st' h1 := by
  obtain ⟨x, y, r, rfl, hk⟩ := ay_i2_s q
  obtain ⟨e1, e2⟩ := hf x y hs.tl.hd hs.hd
  have := ay_fin hl (ay_ol.cons e2 hs.tl.tl) hh hk
  show ay_A (ax_ret (pc + 1) (ls.map ay_cv) (.int (g (Int32.ofInt x) (Int32.ofInt y)) :: r.map ay_cv) (h.map ay_ce)) pc' ls' st' h1
  rw [← e1]; exact this
theorem ay_cL {f : Int → Int → Int} {g : Int64 → Int64 → Int64} (hl : ay_ol ls) (hs : ay_ol st) (hh : ay_oh h) (hf : ∀ x y, ay_ok (.inr (.inl x)) → ay_ok (.inr (.inl y)) → Int64.ofInt (f x y) = g (Int64.ofInt x) (Int64.ofInt y) ∧ ay_ok (.inr (.inl (f x y)))) (q : ay_l2 st (fun x y r => ay_ret (pc + 1) ls (.inr (.inl (f x y)) :: r) h) = some (pc', ls', st', h1)) : ay_A (ax_l2 (st.map ay_cv) fun x y r => ax_ret (pc + 1) (ls.map ay_cv) (.long (g x y) :: r) (h.map ay_ce)) pc' ls' st' h1 := by
  obtain ⟨x, y, r, rfl, hk⟩ := ay_l2_s q
  obtain ⟨e1, e2⟩ := hf x y hs.tl.hd hs.hd
  have := ay_fin hl (ay_ol.cons e2 hs.tl.tl) hh hk
  show ay_A (ax_ret (pc + 1) (ls.map ay_cv) (.long (g (Int64.ofInt x) (Int64.ofInt y)) :: r.map ay_cv) (h.map ay_ce)) pc' ls' st' h1
  rw [← e1]; exact this
theorem ay_cS {f : Int → Int → Int} {g : Int64 → Int32 → Int64} (hl : ay_ol ls) (hs : ay_ol st) (hh : ay_oh h) (hf : ∀ x y, ay_ok (.inr (.inl x)) → ay_ok (.inl y) → Int64.ofInt (f x y) = g (Int64.ofInt x) (Int32.ofInt y) ∧ ay_ok (.inr (.inl (f x y)))) (q : ay_li st (fun x y r => ay_ret (pc + 1) ls (.inr (.inl (f x y)) :: r) h) = some (pc', ls', st', h1)) : ay_A (ax_li (st.map ay_cv) fun x y r => ax_ret (pc + 1) (ls.map ay_cv) (.long (g x y) :: r) (h.map ay_ce)) pc' ls' st' h1 := by
  obtain ⟨x, y, r, rfl, hk⟩ := ay_li_s q
  obtain ⟨e1, e2⟩ := hf x y hs.tl.hd hs.hd
  have := ay_fin hl (ay_ol.cons e2 hs.tl.tl) hh hk
  show ay_A (ax_ret (pc + 1) (ls.map ay_cv) (.long (g (Int64.ofInt x) (Int32.ofInt y)) :: r.map ay_cv) (h.map ay_ce)) pc' ls' st' h1
  rw [← e1]; exact this
theorem ay_lit_of {v : Int} : ax_lit v = Int32.ofInt v := by
  cases v with
  | ofNat n => exact (Int32.ofInt_eq_ofNat).symm
  | negSucc n =>
    show -(Int32.ofNat (n + 1)) = Int32.ofInt (Int.negSucc n)
    rw [show Int.negSucc n = -((n + 1 : Nat) : Int) from rfl, Int32.ofInt_neg, Int32.ofInt_eq_ofNat]
theorem ay_at_ce {a : Nat} {e : bE} (q : ax_at h a = some e) : ax_at (h.map ay_ce) a = some (ay_ce e) := by rw [ay_at_map, q]; rfl
theorem ay_oe_of (hh : ay_oh h) {a : Nat} {e : bE} (q : ax_at h a = some e) : ay_oe e := hh e (ay_at_mem q)
theorem ay_oh_set (hh : ay_oh h) {a : Nat} {e : bE} (q : ay_oe e) : ay_oh (h.set a e) := ay_set_mem hh q
theorem ay_oh_app (hh : ay_oh h) {e : bE} (q : ay_oe e) : ay_oh (h ++ [e]) := fun x hx => by
  rcases List.mem_append.mp hx with hx | hx
  · exact hh x hx
  · cases List.mem_singleton.mp hx; exact q
theorem ay_u_ok {f : Nat → Int} {t n i : Nat} {x : Int} (q : ay_oe (.inl (t, n, f))) (hx : ay_ok (bif Nat.beq t 1 then .inr (.inl x) else .inl x)) : ay_oe (.inl (t, n, ay_u f i x)) := ⟨q.1, fun j => by
  unfold ay_u; split
  · exact hx
  · exact q.2 j⟩
theorem ay_f0_ok : ∀ l : List Value, ay_ol (l.map ay_v0)
  | [] => fun v hv => by cases hv
  | v :: t => ay_ol.cons (by cases v <;> first | exact ⟨by decide, by decide⟩ | trivial) (ay_f0_ok t)
theorem ay_f0_cv : ∀ ci, (ay_f0 ci).map ay_cv = ax_f0 ci := by
  intro ci
  unfold ay_f0
  have bc : ∀ (b : Bool) (x y : List Value), (x.map ay_v0).map ay_cv = x → (y.map ay_v0).map ay_cv = y → ((bif b then x else y).map ay_v0).map ay_cv = (bif b then x else y) := by
    intro b x y hx hy; cases b <;> assumption
  unfold ax_f0
  repeat' apply bc
  all_goals rfl

theorem ay_char : ∀ k, k < 65536 → ((Int32.ofNat k).toUInt32 % 65536).toInt32 = Int32.ofNat k := by
  intro k hk
  apply Int32.toBitVec_inj.1
  simp only [UInt32.toBitVec_toInt32, UInt32.toBitVec_mod, Int32.toBitVec_toUInt32]
  apply BitVec.eq_of_toNat_eq
  simp [Int32.toBitVec_ofNat, BitVec.toNat_umod]
  omega
theorem ay_fit_cv (d : Value) (v : bV) : ax_fit d (ay_cv v) = ay_fit d v := by
  rcases v with x | x | x | x
  · cases d <;> rfl
  · cases d <;> rfl
  · cases x <;> cases d <;> rfl
  · cases x <;> cases d <;> rfl
theorem ax_jmp_s' {pc : Nat} {off : Int} {ρ : Type} {q : ρ} {k : Nat → Option ρ} (h : ax_jmp pc off k = some q) : ∃ t : Nat, (∀ {ρ' : Type} (k' : Nat → Option ρ'), ax_jmp pc off k' = k' t) ∧ k t = some q := by
  cases off with
  | ofNat n => exact ⟨pc + n, fun _ => rfl, h⟩
  | negSucc n =>
    rcases ax_bif_s (h : (bif Nat.ble (n + 1) pc then k (pc - (n + 1)) else none) = some q) with ⟨hb, hk⟩ | ⟨_, hk⟩
    · exact ⟨pc - (n + 1), fun k' => by show (bif Nat.ble (n + 1) pc then k' (pc - (n + 1)) else none) = _; rw [hb]; rfl, hk⟩
    · cases hk
set_option maxHeartbeats 16000000 in
theorem ay_step_ax {i : Instr} (hl : ay_ol ls) (hs : ay_ol st) (hh : ay_oh h) (q : ay_step (X.1, fun i => (X.2 i).toInt) m pc i ls st h ay_ret = some (pc', ls', st', h1)) : ay_A (ax_step X m pc i (ls.map ay_cv) (st.map ay_cv) (h.map ay_ce) ax_ret) pc' ls' st' h1 := by
  cases i
  all_goals first
    | (cases q; done)
    | skip
  case iadd =>
    exact ay_c2 hl hs hh (fun x y _ _ => ⟨by rw [ay_w_of, Int32.ofInt_add], ay_w_ok _⟩) q
  case isub =>
    exact ay_c2 hl hs hh (fun x y _ _ => ⟨by rw [ay_w_of, Int32.ofInt_sub], ay_w_ok _⟩) q
  case imul =>
    exact ay_c2 hl hs hh (fun x y _ _ => ⟨by rw [ay_w_of, Int32.ofInt_mul], ay_w_ok _⟩) q
  case iand =>
    exact ay_c2 hl hs hh (fun x y _ _ => ⟨Int32.ofInt_toInt _, ay_i_ok _⟩) q
  case ior =>
    exact ay_c2 hl hs hh (fun x y _ _ => ⟨Int32.ofInt_toInt _, ay_i_ok _⟩) q
  case ixor =>
    exact ay_c2 hl hs hh (fun x y _ _ => ⟨Int32.ofInt_toInt _, ay_i_ok _⟩) q
  case ishl =>
    exact ay_c2 hl hs hh (fun x y _ _ => ⟨Int32.ofInt_toInt _, ay_i_ok _⟩) q
  case ishr =>
    exact ay_c2 hl hs hh (fun x y _ _ => ⟨Int32.ofInt_toInt _, ay_i_ok _⟩) q
  case iushr =>
    exact ay_c2 hl hs hh (fun x y _ _ => ⟨Int32.ofInt_toInt _, ay_i_ok _⟩) q
  case ladd =>
    exact ay_cL hl hs hh (fun x y _ _ => ⟨by rw [ay_W_of, Int64.ofInt_add], ay_W_ok _⟩) q
  case lsub =>
    exact ay_cL hl hs hh (fun x y _ _ => ⟨by rw [ay_W_of, Int64.ofInt_sub], ay_W_ok _⟩) q
  case lmul =>
    exact ay_cL hl hs hh (fun x y _ _ => ⟨by rw [ay_W_of, Int64.ofInt_mul], ay_W_ok _⟩) q
  case land =>
    exact ay_cL hl hs hh (fun x y _ _ => ⟨Int64.ofInt_toInt _, ay_l_ok _⟩) q
  case lor =>
    exact ay_cL hl hs hh (fun x y _ _ => ⟨Int64.ofInt_toInt _, ay_l_ok _⟩) q
  case lxor =>
    exact ay_cL hl hs hh (fun x y _ _ => ⟨Int64.ofInt_toInt _, ay_l_ok _⟩) q
  case lshl =>
    exact ay_cS hl hs hh (fun x y _ _ => ⟨Int64.ofInt_toInt _, ay_l_ok _⟩) q
  case lshr =>
    exact ay_cS hl hs hh (fun x y _ _ => ⟨Int64.ofInt_toInt _, ay_l_ok _⟩) q
  case lushr =>
    exact ay_cS hl hs hh (fun x y _ _ => ⟨Int64.ofInt_toInt _, ay_l_ok _⟩) q
  case aconst_null =>
    exact ay_fin hl (ay_ol.cons (v := rr 0) trivial hs) hh q
  case lconst v =>
    have := ay_fin hl (ay_ol.cons (ay_l_ok (Int64.ofNat v.val)) hs) hh q
    rw [List.map_cons, show ay_cv (.inr (.inl (Int64.ofNat v.val).toInt)) = .long (Int64.ofNat v.val) from by show Value.long (Int64.ofInt _) = _; rw [Int64.ofInt_toInt]] at this
    exact this
  case iconst v =>
    have q : (if _ then _ else _) = _ := q
    split at q
    · rename_i hv
      have := ay_fin hl (ay_ol.cons (v := .inl v) ⟨by omega, by omega⟩ hs) hh q
      show ay_A (ax_ret (pc + 1) (ls.map ay_cv) (.int (ax_lit v) :: st.map ay_cv) (h.map ay_ce)) _ _ _ _
      rw [ay_lit_of]; exact this
    · cases q
  case bipush v =>
    have q : (if _ then _ else _) = _ := q
    split at q
    · rename_i hv
      have := ay_fin hl (ay_ol.cons (v := .inl v) ⟨by omega, by omega⟩ hs) hh q
      show ay_A (if _ then _ else _) _ _ _ _; rw [if_pos hv]; show ay_A (ax_ret (pc + 2) (ls.map ay_cv) (.int (ax_lit v) :: st.map ay_cv) (h.map ay_ce)) _ _ _ _
      rw [ay_lit_of]; exact this
    · cases q
  case sipush v =>
    have q : (if _ then _ else _) = _ := q
    split at q
    · rename_i hv
      have := ay_fin hl (ay_ol.cons (v := .inl v) ⟨by omega, by omega⟩ hs) hh q
      show ay_A (if _ then _ else _) _ _ _ _; rw [if_pos hv]; show ay_A (ax_ret (pc + 3) (ls.map ay_cv) (.int (ax_lit v) :: st.map ay_cv) (h.map ay_ce)) _ _ _ _
      rw [ay_lit_of]; exact this
    · cases q
  case ldc j =>
    show ay_A (match ax_k (ax_own m) j with | some v => _ | none => _) _ _ _ _
    have q : (match ax_k (ax_own m) j with | some v => _ | none => _) = _ := q
    cases hv : ax_k (ax_own m) j with
    | some v =>
      rw [hv] at q
      have := ay_fin hl (ay_ol.cons (ay_i_ok v) hs) hh q
      rw [List.map_cons, show ay_cv (.inl v.toInt) = .int v from by show Value.int (Int32.ofInt _) = _; rw [Int32.ofInt_toInt]] at this
      exact this
    | none =>
      rw [hv] at q
      have q : (match ax_ks (ax_own m) j with | some q => _ | none => _) = _ := q
      show ay_A (match ax_ks (ax_own m) j with | some q => _ | none => _) _ _ _ _
      cases hw : ax_ks (ax_own m) j with
      | some w => rw [hw] at q; exact ay_fin hl (ay_ol.cons (v := .inr (.inr (.inr (w + 1)))) trivial hs) hh q
      | none => rw [hw] at q; cases q
  case ldc_w j =>
    show ay_A (match ax_k (ax_own m) j with | some v => _ | none => _) _ _ _ _
    have q : (match ax_k (ax_own m) j with | some v => _ | none => _) = _ := q
    cases hv : ax_k (ax_own m) j with
    | some v =>
      rw [hv] at q
      have := ay_fin hl (ay_ol.cons (ay_i_ok v) hs) hh q
      rw [List.map_cons, show ay_cv (.inl v.toInt) = .int v from by show Value.int (Int32.ofInt _) = _; rw [Int32.ofInt_toInt]] at this
      exact this
    | none => rw [hv] at q; cases q
  case ldc2_w j =>
    show ay_A (match ax_kl (ax_own m) j with | some v => _ | none => _) _ _ _ _
    have q : (match ax_kl (ax_own m) j with | some v => _ | none => _) = _ := q
    cases hv : ax_kl (ax_own m) j with
    | some v =>
      rw [hv] at q
      have := ay_fin hl (ay_ol.cons (ay_l_ok v) hs) hh q
      rw [List.map_cons, show ay_cv (.inr (.inl v.toInt)) = .long v from by show Value.long (Int64.ofInt _) = _; rw [Int64.ofInt_toInt]] at this
      exact this
    | none => rw [hv] at q; cases q
  case iload j =>
    obtain ⟨x, hg, hk⟩ := ay_ldi_s q
    have hx := ay_get_mem ls j hl
    rw [hg] at hx
    show ay_A (ax_ldi (ls.map ay_cv) j _) _ _ _ _
    unfold ax_ldi
    rw [ay_get_cv, hg]
    exact ay_fin hl (ay_ol.cons hx hs) hh hk
  case iload_n j =>
    obtain ⟨x, hg, hk⟩ := ay_ldi_s q
    have hx := ay_get_mem ls j.val hl
    rw [hg] at hx
    show ay_A (ax_ldi (ls.map ay_cv) j.val _) _ _ _ _
    unfold ax_ldi
    rw [ay_get_cv, hg]
    exact ay_fin hl (ay_ol.cons hx hs) hh hk
  case lload j =>
    obtain ⟨x, hg, hk⟩ := ay_ldl_s q
    have hx := ay_get_mem ls j hl
    rw [hg] at hx
    show ay_A (ax_ldl (ls.map ay_cv) j _) _ _ _ _
    unfold ax_ldl
    rw [ay_get_cv, hg]
    exact ay_fin hl (ay_ol.cons hx hs) hh hk
  case lload_n j =>
    obtain ⟨x, hg, hk⟩ := ay_ldl_s q
    have hx := ay_get_mem ls j.val hl
    rw [hg] at hx
    show ay_A (ax_ldl (ls.map ay_cv) j.val _) _ _ _ _
    unfold ax_ldl
    rw [ay_get_cv, hg]
    exact ay_fin hl (ay_ol.cons hx hs) hh hk
  case aload j =>
    obtain ⟨x, hg, hk⟩ := ay_lda_s q
    unfold ax_step; dsimp only
    unfold ax_lda
    rw [ay_get_cv, hg]
    cases x <;> exact ay_fin hl (ay_ol.cons (v := rr _) trivial hs) hh hk
  case aload_n j =>
    obtain ⟨x, hg, hk⟩ := ay_lda_s q
    unfold ax_step; dsimp only
    unfold ax_lda
    rw [ay_get_cv, hg]
    cases x <;> exact ay_fin hl (ay_ol.cons (v := rr _) trivial hs) hh hk
  case istore j =>
    obtain ⟨x, r, rfl, hk⟩ := ay_i1_s q
    have := ay_fin (ay_set1_ok hl hs.hd) hs.tl hh hk
    rw [← ay_set1_cv] at this
    exact this
  case istore_n j =>
    obtain ⟨x, r, rfl, hk⟩ := ay_i1_s q
    have := ay_fin (ay_set1_ok hl hs.hd) hs.tl hh hk
    rw [← ay_set1_cv] at this
    exact this
  case lstore j =>
    obtain ⟨x, r, rfl, hk⟩ := ay_l1_s q
    have := ay_fin (ay_set2_ok hl hs.hd) hs.tl hh hk
    rw [← ay_set2_cv] at this
    exact this
  case lstore_n j =>
    obtain ⟨x, r, rfl, hk⟩ := ay_l1_s q
    have := ay_fin (ay_set2_ok hl hs.hd) hs.tl hh hk
    rw [← ay_set2_cv] at this
    exact this
  case astore j =>
    obtain ⟨x, r, rfl, hk⟩ := ay_sta_s q
    have := ay_fin (ay_set1_ok hl hs.hd) hs.tl hh hk
    rw [← ay_set1_cv] at this
    cases x <;> exact this
  case astore_n j =>
    obtain ⟨x, r, rfl, hk⟩ := ay_sta_s q
    have := ay_fin (ay_set1_ok hl hs.hd) hs.tl hh hk
    rw [← ay_set1_cv] at this
    cases x <;> exact this
  case iinc j v =>
    obtain ⟨x, hg, hk⟩ := ay_ldi_s q
    split at hk
    · have := ay_fin (ay_set1_ok hl (ay_w_ok (x + v))) hs hh hk
      rw [← ay_set1_cv, show ay_cv (.inl (ay_w (x + v))) = .int (Int32.ofInt x + ax_lit v) from by show Value.int (Int32.ofInt _) = _; rw [ay_w_of, Int32.ofInt_add, ay_lit_of]] at this
      show ay_A (ax_ldi (ls.map ay_cv) j _) _ _ _ _
      unfold ax_ldi
      rw [ay_get_cv, hg]
      exact this
    · cases hk
  case idiv =>
    obtain ⟨x, y, r, rfl, hk⟩ := ay_i2_s q
    have hy := hs.hd; have hx := hs.tl.hd
    split at hk
    · cases hk
    · rename_i hy0
      have := ay_fin hl (ay_ol.cons (ay_w_ok (Int.tdiv x y)) hs.tl.tl) hh hk
      show ay_A (if Int32.ofInt y = 0 then _ else _) _ _ _ _
      rw [if_neg (show ¬ Int32.ofInt y = 0 from fun z => hy0 ((ay_eq (y := 0) hy ⟨by decide, by decide⟩).mp z))]
      rw [List.map_cons, show ay_cv (.inl (ay_w (Int.tdiv x y))) = .int (Int32.ofInt x / Int32.ofInt y) from by show Value.int (Int32.ofInt _) = _; congr 1; exact Int32.toInt_inj.1 (by rw [ay_w_of, Int32.toInt_div, Int32.toInt_ofInt, ay_to hx, ay_to hy])] at this
      exact this
  case irem =>
    obtain ⟨x, y, r, rfl, hk⟩ := ay_i2_s q
    have hy := hs.hd; have hx := hs.tl.hd
    split at hk
    · cases hk
    · rename_i hy0
      have := ay_fin hl (ay_ol.cons (v := .inl (ay_rem x y)) (ay_w_ok _) hs.tl.tl) hh hk
      show ay_A (if Int32.ofInt y = 0 then _ else _) _ _ _ _
      rw [if_neg (show ¬ Int32.ofInt y = 0 from fun z => hy0 ((ay_eq (y := 0) hy ⟨by decide, by decide⟩).mp z))]
      have hd : Int32.ofInt (Int.tdiv x y) = Int32.ofInt x / Int32.ofInt y := Int32.toInt_inj.1 (by rw [Int32.toInt_div, Int32.toInt_ofInt, ay_to hx, ay_to hy])
      rw [List.map_cons, show ay_cv (.inl (ay_rem x y)) = .int (Int32.ofInt x - Int32.ofInt x / Int32.ofInt y * Int32.ofInt y) from by show Value.int (Int32.ofInt (ay_w _)) = _; rw [ay_w_of, Int32.ofInt_sub, ay_w_of, Int32.ofInt_mul, ay_w_of, hd]] at this
      exact this
  case ldiv =>
    obtain ⟨x, y, r, rfl, hk⟩ := ay_l2_s q
    have hy := hs.hd; have hx := hs.tl.hd
    split at hk
    · cases hk
    · rename_i hy0
      have := ay_fin hl (ay_ol.cons (ay_W_ok (Int.tdiv x y)) hs.tl.tl) hh hk
      show ay_A (if Int64.ofInt y = 0 then _ else _) _ _ _ _
      rw [if_neg (show ¬ Int64.ofInt y = 0 from fun z => hy0 ((ay_eqL (y := 0) hy ⟨by decide, by decide⟩).mp z))]
      rw [List.map_cons, show ay_cv (.inr (.inl (ay_W (Int.tdiv x y)))) = .long (Int64.ofInt x / Int64.ofInt y) from by show Value.long (Int64.ofInt _) = _; congr 1; exact Int64.toInt_inj.1 (by rw [ay_W_of, Int64.toInt_div, Int64.toInt_ofInt, ay_toL hx, ay_toL hy])] at this
      exact this
  case lrem =>
    obtain ⟨x, y, r, rfl, hk⟩ := ay_l2_s q
    have hy := hs.hd; have hx := hs.tl.hd
    split at hk
    · cases hk
    · rename_i hy0
      have := ay_fin hl (ay_ol.cons (v := .inr (.inl (ay_lrem x y))) (ay_W_ok _) hs.tl.tl) hh hk
      show ay_A (if Int64.ofInt y = 0 then _ else _) _ _ _ _
      rw [if_neg (show ¬ Int64.ofInt y = 0 from fun z => hy0 ((ay_eqL (y := 0) hy ⟨by decide, by decide⟩).mp z))]
      have hd : Int64.ofInt (Int.tdiv x y) = Int64.ofInt x / Int64.ofInt y := Int64.toInt_inj.1 (by rw [Int64.toInt_div, Int64.toInt_ofInt, ay_toL hx, ay_toL hy])
      rw [List.map_cons, show ay_cv (.inr (.inl (ay_lrem x y))) = .long (Int64.ofInt x - Int64.ofInt x / Int64.ofInt y * Int64.ofInt y) from by show Value.long (Int64.ofInt (ay_W _)) = _; rw [ay_W_of, Int64.ofInt_sub, ay_W_of, Int64.ofInt_mul, ay_W_of, hd]] at this
      exact this
  case ineg =>
    obtain ⟨x, r, rfl, hk⟩ := ay_i1_s q
    have := ay_fin hl (ay_ol.cons (ay_w_ok (-x)) hs.tl) hh hk
    rw [List.map_cons, show ay_cv (.inl (ay_w (-x))) = .int (-(Int32.ofInt x)) from by show Value.int (Int32.ofInt _) = _; rw [ay_w_of, Int32.ofInt_neg]] at this
    exact this
  case lneg =>
    obtain ⟨x, r, rfl, hk⟩ := ay_l1_s q
    have := ay_fin hl (ay_ol.cons (ay_W_ok (-x)) hs.tl) hh hk
    rw [List.map_cons, show ay_cv (.inr (.inl (ay_W (-x)))) = .long (-(Int64.ofInt x)) from by show Value.long (Int64.ofInt _) = _; rw [ay_W_of, Int64.ofInt_neg]] at this
    exact this
  case lcmp =>
    obtain ⟨x, y, r, rfl, hk⟩ := ay_l2_s q
    have hy := hs.hd; have hx := hs.tl.hd
    have ok : ay_ok (.inl (ay_cmp x y)) := by
      unfold ay_cmp
      split
      · exact ⟨by decide, by decide⟩
      · split <;> exact ⟨by decide, by decide⟩
    have := ay_fin hl (ay_ol.cons ok hs.tl.tl) hh hk
    rw [List.map_cons, show ay_cv (.inl (ay_cmp x y)) = .int (lg_cmp (Int64.ofInt x) (Int64.ofInt y)) from by
      show Value.int (Int32.ofInt _) = _
      congr 1
      unfold ay_cmp lg_cmp
      by_cases h1 : x < y
      · have h2 : ¬ Int64.ofInt y < Int64.ofInt x := by rw [ay_ltL hy hx]; omega
        have h3 : ¬ Int64.ofInt x = Int64.ofInt y := by rw [ay_eqL hx hy]; omega
        have h4 : Int64.ofInt x < Int64.ofInt y := (ay_ltL hx hy).mpr h1
        simp [h1, h2, h3, h4]
      · by_cases h0 : x = y
        · subst h0; simp [h1, Int64.lt_irrefl]
        · have h2 : Int64.ofInt y < Int64.ofInt x := by rw [ay_ltL hy hx]; omega
          have h3 : ¬ Int64.ofInt x = Int64.ofInt y := by rw [ay_eqL hx hy]; omega
          have h4 : ¬ Int64.ofInt x < Int64.ofInt y := by rw [ay_ltL hx hy]; exact h1
          simp [h1, h0, h2, h3, h4]] at this
    exact this
  case i2l =>
    obtain ⟨x, r, rfl, hk⟩ := ay_i1_s q
    have hx := hs.hd
    have := ay_fin hl (ay_ol.cons (v := .inr (.inl x)) ⟨by have := hx.1; omega, by have := hx.2; omega⟩ hs.tl) hh hk
    rw [List.map_cons, show ay_cv (.inr (.inl x)) = .long (Int32.ofInt x).toInt64 from by
      show Value.long (Int64.ofInt _) = _; congr 1; exact Int64.toInt_inj.1 (by rw [Int32.toInt_toInt64, ay_to hx]; exact ay_toL ⟨by have := hx.1; omega, by have := hx.2; omega⟩)] at this
    exact this
  case l2i =>
    obtain ⟨x, r, rfl, hk⟩ := ay_l1_s q
    have hx := hs.hd
    have := ay_fin hl (ay_ol.cons (ay_w_ok x) hs.tl) hh hk
    rw [List.map_cons, show ay_cv (.inl (ay_w x)) = .int (Int64.ofInt x).toInt32 from by
      show Value.int (Int32.ofInt _) = _; congr 1; exact Int32.toInt_inj.1 (by rw [ay_w_of, Int32.toInt_ofInt, Int64.toInt_toInt32, ay_toL hx])] at this
    exact this
  case i2c =>
    obtain ⟨x, r, rfl, hk⟩ := ay_i1_s q
    split at hk
    · rename_i hx
      have := ay_fin hl hs hh hk
      show ay_A (ax_ret (pc + 1) (ls.map ay_cv) (.int ((Int32.ofInt x).toUInt32 % 65536).toInt32 :: r.map ay_cv) (h.map ay_ce)) _ _ _ _
      rw [show ((Int32.ofInt x).toUInt32 % 65536).toInt32 = Int32.ofInt x from by
        obtain ⟨k, rfl⟩ := Int.eq_ofNat_of_zero_le hx.1
        have hk : k < 65536 := by omega
        rw [Int32.ofInt_eq_ofNat]
        exact ay_char k hk]
      exact this
    · cases hk
  case dup =>
    unfold ay_step at q
    dsimp only at q
    split at q
    · exact ay_fin hl (ay_ol.cons hs.hd hs) hh q
    · rename_i x r
      rcases ax_bif_s q with ⟨_, hk⟩ | ⟨hb, hk⟩
      · cases hk
      · cases x with
        | zero => cases hb
        | succ x => exact ay_fin hl (ay_ol.cons hs.hd hs) hh hk
    · cases q
  case pop =>
    unfold ay_step at q
    dsimp only at q
    split at q
    · exact ay_fin hl hs.tl hh q
    · rename_i x r
      rcases ax_bif_s q with ⟨_, hk⟩ | ⟨hb, hk⟩
      · cases hk
      · cases x with
        | zero => cases hb
        | succ x => exact ay_fin hl hs.tl hh hk
    · cases q
  case dup2 =>
    unfold ay_step at q
    dsimp only at q
    split at q
    · rename_i x y r
      rcases ax_bif_s q with ⟨_, hk⟩ | ⟨hb, hk⟩
      · cases hk
      · cases y with
        | zero => cases hb
        | succ y => exact ay_fin hl (ay_ol.cons hs.hd (ay_ol.cons hs.tl.hd hs)) hh hk
    · exact ay_fin hl (ay_ol.cons hs.hd (ay_ol.cons hs.tl.hd hs)) hh q
    · cases q
  case dup_x1 =>
    unfold ay_step at q
    dsimp only at q
    split at q
    · rename_i x y r
      rcases ax_bif_s q with ⟨_, hk⟩ | ⟨hb, hk⟩
      · cases hk
      · cases y with
        | zero => cases hb
        | succ y => exact ay_fin hl (ay_ol.cons hs.hd (ay_ol.cons hs.tl.hd (ay_ol.cons hs.hd hs.tl.tl))) hh hk
    · exact ay_fin hl (ay_ol.cons hs.hd (ay_ol.cons hs.tl.hd (ay_ol.cons hs.hd hs.tl.tl))) hh q
    · cases q
  case goto off =>
    unfold ay_step at q; dsimp only at q
    obtain ⟨t, ht, hk⟩ := ax_jmp_s' q
    unfold ax_step; dsimp only
    rw [ht]; exact ay_fin hl hs hh hk
  case ifCond cd off =>
    obtain ⟨x, r, rfl, hk⟩ := ay_i1_s q
    have hx : ay_ok (.inl x) := hs.hd
    
    have hy : ay_ok (.inl 0) := ⟨by decide, by decide⟩
    have hr : ay_ol r := hs.tl
    have fin : ∀ {t : Nat}, ay_ret t ls r h = some (pc', ls', st', h1) → ay_A (ax_ret t (ls.map ay_cv) (r.map ay_cv) (h.map ay_ce)) pc' ls' st' h1 := fun z => ay_fin hl hr hh z
    have jmp : (ax_jmp pc off fun t => ay_ret t ls r h) = some (pc', ls', st', h1) → ay_A (ax_jmp pc off fun t => ax_ret t (ls.map ay_cv) (r.map ay_cv) (h.map ay_ce)) pc' ls' st' h1 := fun z => by
      obtain ⟨t, ht, hk⟩ := ax_jmp_s' z
      rw [ht]; exact fin hk
    have yy : Int32.ofInt 0 = Int32.ofInt 0 := rfl
    cases cd
    · have hk : (if x = 0 then _ else _) = _ := hk
      show ay_A (if Int32.ofInt x = Int32.ofInt 0 then _ else _) _ _ _ _
      by_cases hc : x = 0
      · rw [if_pos hc] at hk; rw [if_pos ((ay_eq hx hy).mpr hc)]; exact jmp hk
      · rw [if_neg hc] at hk; rw [if_neg (fun z => hc ((ay_eq hx hy).mp z))]; exact fin hk
    · have hk : (if x = 0 then _ else _) = _ := hk
      show ay_A (if Int32.ofInt x = Int32.ofInt 0 then _ else _) _ _ _ _
      by_cases hc : x = 0
      · rw [if_pos hc] at hk; rw [if_pos ((ay_eq hx hy).mpr hc)]; exact fin hk
      · rw [if_neg hc] at hk; rw [if_neg (fun z => hc ((ay_eq hx hy).mp z))]; exact jmp hk
    · have hk : (if x < 0 then _ else _) = _ := hk
      show ay_A (if Int32.ofInt x < Int32.ofInt 0 then _ else _) _ _ _ _
      by_cases hc : x < 0
      · rw [if_pos hc] at hk; rw [if_pos ((ay_lt hx hy).mpr hc)]; exact jmp hk
      · rw [if_neg hc] at hk; rw [if_neg (fun z => hc ((ay_lt hx hy).mp z))]; exact fin hk
    · have hk : (if 0 ≤ x then _ else _) = _ := hk
      show ay_A (if Int32.ofInt 0 ≤ Int32.ofInt x then _ else _) _ _ _ _
      by_cases hc : 0 ≤ x
      · rw [if_pos hc] at hk; rw [if_pos ((ay_le hy hx).mpr hc)]; exact jmp hk
      · rw [if_neg hc] at hk; rw [if_neg (fun z => hc ((ay_le hy hx).mp z))]; exact fin hk
    · have hk : (if 0 < x then _ else _) = _ := hk
      show ay_A (if Int32.ofInt 0 < Int32.ofInt x then _ else _) _ _ _ _
      by_cases hc : 0 < x
      · rw [if_pos hc] at hk; rw [if_pos ((ay_lt hy hx).mpr hc)]; exact jmp hk
      · rw [if_neg hc] at hk; rw [if_neg (fun z => hc ((ay_lt hy hx).mp z))]; exact fin hk
    · have hk : (if x ≤ 0 then _ else _) = _ := hk
      show ay_A (if Int32.ofInt x ≤ Int32.ofInt 0 then _ else _) _ _ _ _
      by_cases hc : x ≤ 0
      · rw [if_pos hc] at hk; rw [if_pos ((ay_le hx hy).mpr hc)]; exact jmp hk
      · rw [if_neg hc] at hk; rw [if_neg (fun z => hc ((ay_le hx hy).mp z))]; exact fin hk
  case if_icmp cd off =>
    obtain ⟨x, y, r, rfl, hk⟩ := ay_i2_s q
    have hx : ay_ok (.inl x) := hs.tl.hd
    have hy : ay_ok (.inl y) := hs.hd
    
    have hr : ay_ol r := hs.tl.tl
    have fin : ∀ {t : Nat}, ay_ret t ls r h = some (pc', ls', st', h1) → ay_A (ax_ret t (ls.map ay_cv) (r.map ay_cv) (h.map ay_ce)) pc' ls' st' h1 := fun z => ay_fin hl hr hh z
    have jmp : (ax_jmp pc off fun t => ay_ret t ls r h) = some (pc', ls', st', h1) → ay_A (ax_jmp pc off fun t => ax_ret t (ls.map ay_cv) (r.map ay_cv) (h.map ay_ce)) pc' ls' st' h1 := fun z => by
      obtain ⟨t, ht, hk⟩ := ax_jmp_s' z
      rw [ht]; exact fin hk
    have yy : Int32.ofInt y = Int32.ofInt y := rfl
    cases cd
    · have hk : (if x = y then _ else _) = _ := hk
      show ay_A (if Int32.ofInt x = Int32.ofInt y then _ else _) _ _ _ _
      by_cases hc : x = y
      · rw [if_pos hc] at hk; rw [if_pos ((ay_eq hx hy).mpr hc)]; exact jmp hk
      · rw [if_neg hc] at hk; rw [if_neg (fun z => hc ((ay_eq hx hy).mp z))]; exact fin hk
    · have hk : (if x = y then _ else _) = _ := hk
      show ay_A (if Int32.ofInt x = Int32.ofInt y then _ else _) _ _ _ _
      by_cases hc : x = y
      · rw [if_pos hc] at hk; rw [if_pos ((ay_eq hx hy).mpr hc)]; exact fin hk
      · rw [if_neg hc] at hk; rw [if_neg (fun z => hc ((ay_eq hx hy).mp z))]; exact jmp hk
    · have hk : (if x < y then _ else _) = _ := hk
      show ay_A (if Int32.ofInt x < Int32.ofInt y then _ else _) _ _ _ _
      by_cases hc : x < y
      · rw [if_pos hc] at hk; rw [if_pos ((ay_lt hx hy).mpr hc)]; exact jmp hk
      · rw [if_neg hc] at hk; rw [if_neg (fun z => hc ((ay_lt hx hy).mp z))]; exact fin hk
    · have hk : (if y ≤ x then _ else _) = _ := hk
      show ay_A (if Int32.ofInt y ≤ Int32.ofInt x then _ else _) _ _ _ _
      by_cases hc : y ≤ x
      · rw [if_pos hc] at hk; rw [if_pos ((ay_le hy hx).mpr hc)]; exact jmp hk
      · rw [if_neg hc] at hk; rw [if_neg (fun z => hc ((ay_le hy hx).mp z))]; exact fin hk
    · have hk : (if y < x then _ else _) = _ := hk
      show ay_A (if Int32.ofInt y < Int32.ofInt x then _ else _) _ _ _ _
      by_cases hc : y < x
      · rw [if_pos hc] at hk; rw [if_pos ((ay_lt hy hx).mpr hc)]; exact jmp hk
      · rw [if_neg hc] at hk; rw [if_neg (fun z => hc ((ay_lt hy hx).mp z))]; exact fin hk
    · have hk : (if x ≤ y then _ else _) = _ := hk
      show ay_A (if Int32.ofInt x ≤ Int32.ofInt y then _ else _) _ _ _ _
      by_cases hc : x ≤ y
      · rw [if_pos hc] at hk; rw [if_pos ((ay_le hx hy).mpr hc)]; exact jmp hk
      · rw [if_neg hc] at hk; rw [if_neg (fun z => hc ((ay_le hx hy).mp z))]; exact fin hk
  case ifnull off =>
    obtain ⟨x, r, rfl, hk⟩ := ay_sta_s q
    have fin : ∀ {t : Nat}, ay_ret t ls r h = some (pc', ls', st', h1) → ay_A (ax_ret t (ls.map ay_cv) (r.map ay_cv) (h.map ay_ce)) pc' ls' st' h1 := fun z => ay_fin hl hs.tl hh z
    have jmp : (ax_jmp pc off fun t => ay_ret t ls r h) = some (pc', ls', st', h1) → ay_A (ax_jmp pc off fun t => ax_ret t (ls.map ay_cv) (r.map ay_cv) (h.map ay_ce)) pc' ls' st' h1 := fun z => by
      obtain ⟨t, ht, hk⟩ := ax_jmp_s' z
      rw [ht]; exact fin hk
    cases x with
    | zero => rw [if_pos rfl] at hk; exact jmp hk
    | succ x => rw [if_neg (by omega)] at hk; exact fin hk
  case ifnonnull off =>
    obtain ⟨x, r, rfl, hk⟩ := ay_sta_s q
    have fin : ∀ {t : Nat}, ay_ret t ls r h = some (pc', ls', st', h1) → ay_A (ax_ret t (ls.map ay_cv) (r.map ay_cv) (h.map ay_ce)) pc' ls' st' h1 := fun z => ay_fin hl hs.tl hh z
    have jmp : (ax_jmp pc off fun t => ay_ret t ls r h) = some (pc', ls', st', h1) → ay_A (ax_jmp pc off fun t => ax_ret t (ls.map ay_cv) (r.map ay_cv) (h.map ay_ce)) pc' ls' st' h1 := fun z => by
      obtain ⟨t, ht, hk⟩ := ax_jmp_s' z
      rw [ht]; exact fin hk
    cases x with
    | zero => rw [if_pos rfl] at hk; exact fin hk
    | succ x => rw [if_neg (by omega)] at hk; exact jmp hk
  case tableswitch df lo hi offs =>
    obtain ⟨x, r, rfl, hk⟩ := ay_i1_s q
    have jmp : ∀ {off : Int}, (ax_jmp pc off fun t => ay_ret t ls r h) = some (pc', ls', st', h1) → ay_A (ax_jmp pc off fun t => ax_ret t (ls.map ay_cv) (r.map ay_cv) (h.map ay_ce)) pc' ls' st' h1 := fun z => by
      obtain ⟨t, ht, hk⟩ := ax_jmp_s' z
      rw [ht]; exact ay_fin hl hs.tl hh hk
    show ay_A (if (Int32.ofInt x).toInt < lo ∨ hi < (Int32.ofInt x).toInt then _ else (match offs.toList[((Int32.ofInt x).toInt - lo).toNat]? with | some off => _ | none => none)) _ _ _ _
    rw [ay_to hs.hd]
    by_cases hc : x < lo ∨ hi < x
    · rw [if_pos hc] at hk ⊢; exact jmp hk
    · rw [if_neg hc] at hk ⊢
      split at hk
      · rename_i off ho; rw [ho]; exact jmp hk
      · cases hk
  case lookupswitch df ps =>
    obtain ⟨x, r, rfl, hk⟩ := ay_i1_s q
    show ay_A (bif _ then (ax_jmp pc (Op.lookupswitch.offset ps.toList df (Int32.ofInt x).toInt) _) else none) _ _ _ _
    rw [ay_to hs.hd]
    rcases ax_bif_s hk with ⟨hb, hk⟩ | ⟨_, hk⟩
    · rw [hb, cond_true]
      obtain ⟨t, ht, hk⟩ := ax_jmp_s' hk
      rw [ht]; exact ay_fin hl hs.tl hh hk
    · cases hk
  case getfield j =>
    obtain ⟨ci, fs, a, r, rfl, ha, hk⟩ := ay_ob_s q
    have ho := ay_oe_of hh ha
    show ay_A (match ax_at (h.map ay_ce) a with | some (.inr (ci, fs)) => _ | _ => none) _ _ _ _
    rw [ay_at_ce ha]
    show ay_A (bif Nat.beq ci (ax_fd (ax_own m) j).1 then (match ax_at (fs.map ay_cv) (ax_fd (ax_own m) j).2 with | some v => _ | none => none) else none) _ _ _ _
    rcases ax_bif_s hk with ⟨hb, hk⟩ | ⟨_, hk⟩
    · rw [hb, ay_at_map]
      split at hk
      · rename_i v hv
        rw [hv]
        exact ay_fin hl (ay_ol.cons (ho v (ay_at_mem hv)) hs.tl) hh hk
      · cases hk
    · cases hk
  case putfield j =>
    cases st with
    | nil => cases q
    | cons v st =>
    obtain ⟨ci, fs, a, r, rfl, ha, hk⟩ := ay_ob_s q
    have ho := ay_oe_of hh ha
    have hv : ay_ok v := hs.hd
    show ay_A (match ax_at (h.map ay_ce) a with | some (.inr (ci, fs)) => _ | _ => none) _ _ _ _
    rw [ay_at_ce ha]
    show ay_A (bif Nat.beq ci (ax_fd (ax_own m) j).1 then (match ax_at (fs.map ay_cv) (ax_fd (ax_own m) j).2 with | some v => _ | none => none) else none) _ _ _ _
    rcases ax_bif_s hk with ⟨hb, hk⟩ | ⟨_, hk⟩
    · rw [hb, ay_at_map]
      split at hk
      · rename_i w hw
        rw [hw]
        rcases ax_bif_s hk with ⟨hb, hk⟩ | ⟨_, hk⟩
        · have hb' : (ax_fk m ci (ax_fd (ax_own m) j).2 && ax_fit (ax_get (ax_f0 ci) (ax_fd (ax_own m) j).2) (ay_cv v)) = true := by rw [ay_fit_cv]; exact hb
          show ay_A (bif _ then ax_store ci (ax_fd (ax_own m) j).2 (ay_cv v) _ else none) _ _ _ _
          rw [hb']
          have key : ay_ret (pc + 3) ls r (h.set a (.inr (.inr (ci, fs.set (ax_fd (ax_own m) j).2 v)))) = some (pc', ls', st', h1) → ay_A (ax_ret (pc + 3) (ls.map ay_cv) (r.map ay_cv) ((h.map ay_ce).set a (.inr (ci, (fs.map ay_cv).set (ax_fd (ax_own m) j).2 (ay_cv v))))) pc' ls' st' h1 := fun z => by
            have := ay_fin hl hs.tl.tl (ay_oh_set (a := a) (e := .inr (.inr (ci, fs.set (ax_fd (ax_own m) j).2 v))) hh (ay_set_mem (P := ay_ok) ho hv)) z
            rw [ay_set_ce] at this
            rw [show (Sum.inr (ci, (fs.map ay_cv).set (ax_fd (ax_own m) j).2 (ay_cv v)) : va_E) = ay_ce (.inr (.inr (ci, fs.set (ax_fd (ax_own m) j).2 v))) from by show _ = Sum.inr (ci, (fs.set _ v).map ay_cv); rw [List.map_set]]
            exact this
          show ay_A (ax_store ci (ax_fd (ax_own m) j).2 (ay_cv v) _) _ _ _ _
          unfold ay_store at hk
          unfold ax_store
          rcases ax_bif_s hk with ⟨hz, hk⟩ | ⟨hz, hk⟩
          · rw [hz]
            rcases v with x | v
            · have hk : (if x = 0 ∨ x = 1 then _ else _) = _ := hk
              split at hk
              · rename_i hx
                show ay_A (if Int32.ofInt x = 0 ∨ Int32.ofInt x = 1 then _ else _) _ _ _ _
                rw [if_pos (by rcases hx with rfl | rfl; exact Or.inl rfl; exact Or.inr rfl)]
                exact key hk
              · cases hk
            · cases hk
          · rw [hz]; exact key hk
        · cases hk
      · cases hk
    · cases hk
  case baload =>
    obtain ⟨n, f, a, i, r, rfl, ha, hc, hk⟩ := ay_ar_s q
    have ho := ay_oe_of hh ha
    obtain ⟨e1, e2⟩ := ay_in (n := n) hs.hd hc
    have := ay_fin hl (ay_ol.cons (ho.2 i.toNat) hs.tl.tl) hh hk
    show ay_A (match ax_at (h.map ay_ce) a with | some (.inl (t, n, c)) => _ | _ => none) _ _ _ _
    rw [ay_at_ce ha]
    show ay_A (if Int32.ofInt i < 0 ∨ n ≤ (Int32.ofInt i).toNatClampNeg then _ else _) _ _ _ _
    rw [if_neg e1]
    show ay_A (ax_ret (pc + 1) (ls.map ay_cv) (.int (Int32.ofInt (f (Int32.ofInt i).toNatClampNeg)) :: r.map ay_cv) (h.map ay_ce)) _ _ _ _
    rw [e2]; exact this
  case laload =>
    obtain ⟨n, f, a, i, r, rfl, ha, hc, hk⟩ := ay_ar_s q
    have ho := ay_oe_of hh ha
    obtain ⟨e1, e2⟩ := ay_in (n := n) hs.hd hc
    have := ay_fin hl (ay_ol.cons (ho.2 i.toNat) hs.tl.tl) hh hk
    show ay_A (match ax_at (h.map ay_ce) a with | some (.inl (t, n, c)) => _ | _ => none) _ _ _ _
    rw [ay_at_ce ha]
    show ay_A (if Int32.ofInt i < 0 ∨ n ≤ (Int32.ofInt i).toNatClampNeg then _ else _) _ _ _ _
    rw [if_neg e1]
    show ay_A (ax_ret (pc + 1) (ls.map ay_cv) (.long (Int64.ofInt (f (Int32.ofInt i).toNatClampNeg)) :: r.map ay_cv) (h.map ay_ce)) _ _ _ _
    rw [e2]; exact this
  case iaload =>
    unfold ay_step at q
    dsimp only at q
    split at q
    · rename_i i r
      split at q
      · rename_i hc
        obtain ⟨e1, e2⟩ := ay_in (n := X.1) hs.hd hc
        have := ay_fin hl (ay_ol.cons (ay_i_ok (X.2 i.toNat)) hs.tl.tl) hh q
        show ay_A (if Int32.ofInt i < 0 ∨ X.1 ≤ (Int32.ofInt i).toNatClampNeg then none else ax_ret (pc + 1) (ls.map ay_cv) (.int (X.2 (Int32.ofInt i).toNatClampNeg) :: r.map ay_cv) (h.map ay_ce)) _ _ _ _
        rw [if_neg e1, e2]
        rw [List.map_cons, show ay_cv (.inl (X.2 i.toNat).toInt) = .int (X.2 i.toNat) from by show Value.int (Int32.ofInt _) = _; rw [Int32.ofInt_toInt]] at this
        exact this
      · cases q
    · obtain ⟨n, f, a, i, r, rfl, ha, hc, hk⟩ := ay_ar_s q
      have ho := ay_oe_of hh ha
      obtain ⟨e1, e2⟩ := ay_in (n := n) hs.hd hc
      have := ay_fin hl (ay_ol.cons (ho.2 i.toNat) hs.tl.tl) hh hk
      show ay_A (match ax_at (h.map ay_ce) a with | some (.inl (t, n, c)) => _ | _ => none) _ _ _ _
      rw [ay_at_ce ha]
      show ay_A (if Int32.ofInt i < 0 ∨ n ≤ (Int32.ofInt i).toNatClampNeg then _ else _) _ _ _ _
      rw [if_neg e1]
      show ay_A (ax_ret (pc + 1) (ls.map ay_cv) (.int (Int32.ofInt (f (Int32.ofInt i).toNatClampNeg)) :: r.map ay_cv) (h.map ay_ce)) _ _ _ _
      rw [e2]; exact this
  case aaload =>
    unfold ay_step at q
    dsimp only at q
    split at q
    · split at q
      · rename_i i a r _ t n f ha
        have ho := ay_oe_of hh ha
        split at q
        · rename_i hc
          obtain ⟨e1, e2⟩ := ay_in (n := n) hs.hd hc
          have := ay_fin hl (ay_ol.cons (v := rr (f i.toNat)) trivial hs.tl.tl) hh q
          show ay_A (match ax_at (h.map ay_ce) a with | some (.inl (t, n, c)) => _ | _ => none) _ _ _ _
          rw [ay_at_ce ha]
          show ay_A (if Int32.ofInt i < 0 ∨ n ≤ (Int32.ofInt i).toNatClampNeg then _ else _) _ _ _ _
          rw [if_neg e1]
          have hv : va_rf (ay_rc (f i.toNat)) = ay_cv (rr (f i.toNat)) := by cases f i.toNat <;> rfl
          rcases ho with rfl | rfl
          all_goals
            show ay_A (ax_ret (pc + 1) (ls.map ay_cv) (va_rf (ay_rc (f (Int32.ofInt i).toNatClampNeg)) :: r.map ay_cv) (h.map ay_ce)) _ _ _ _
            rw [e2, hv]; exact this
        · cases q
      · cases q
    · cases q
  case iastore =>
    obtain ⟨x, st0, rfl, hk⟩ := ay_i1_s q
    obtain ⟨n, f, a, i, r, rfl, ha, hc, hk⟩ := ay_ar_s hk
    have ho := ay_oe_of hh ha
    have hx := hs.hd
    obtain ⟨e1, e2⟩ := ay_in (n := n) hs.tl.hd hc
    have := ay_fin hl hs.tl.tl.tl (ay_oh_set (a := a) hh (ay_u_ok (i := i.toNat) ho hx)) hk
    rw [ay_set_ce] at this
    show ay_A (match ax_at (h.map ay_ce) a with | some (.inl (t, n, c)) => _ | _ => none) _ _ _ _
    rw [ay_at_ce ha]
    show ay_A (if Int32.ofInt i < 0 ∨ n ≤ (Int32.ofInt i).toNatClampNeg then _ else _) _ _ _ _
    rw [if_neg e1]
    show ay_A (ax_ret (pc + 1) (ls.map ay_cv) (r.map ay_cv) ((h.map ay_ce).set a (.inl (0, n, .inl (upd (fun j => Int32.ofInt (f j)) (Int32.ofInt i).toNatClampNeg (Int32.ofInt x)))))) _ _ _ _
    rw [e2, ay_upd]; exact this
  case lastore =>
    obtain ⟨x, st0, rfl, hk⟩ := ay_l1_s q
    obtain ⟨n, f, a, i, r, rfl, ha, hc, hk⟩ := ay_ar_s hk
    have ho := ay_oe_of hh ha
    have hx := hs.hd
    obtain ⟨e1, e2⟩ := ay_in (n := n) hs.tl.hd hc
    have := ay_fin hl hs.tl.tl.tl (ay_oh_set (a := a) hh (ay_u_ok (i := i.toNat) ho hx)) hk
    rw [ay_set_ce] at this
    show ay_A (match ax_at (h.map ay_ce) a with | some (.inl (t, n, c)) => _ | _ => none) _ _ _ _
    rw [ay_at_ce ha]
    show ay_A (if Int32.ofInt i < 0 ∨ n ≤ (Int32.ofInt i).toNatClampNeg then _ else _) _ _ _ _
    rw [if_neg e1]
    show ay_A (ax_ret (pc + 1) (ls.map ay_cv) (r.map ay_cv) ((h.map ay_ce).set a (.inl (1, n, .inr (.inl (vp_updL (fun j => Int64.ofInt (f j)) (Int32.ofInt i).toNatClampNeg (Int64.ofInt x))))))) _ _ _ _
    rw [e2, ay_updL]; exact this
  case bastore =>
    obtain ⟨x, st0, rfl, hk⟩ := ay_i1_s q
    obtain ⟨n, f, a, i, r, rfl, ha, hc, hk⟩ := ay_ar_s hk
    have ho := ay_oe_of hh ha
    have hx := hs.hd
    split at hk
    · rename_i hz
      obtain ⟨e1, e2⟩ := ay_in (n := n) hs.tl.hd hc
      have := ay_fin hl hs.tl.tl.tl (ay_oh_set (a := a) hh (ay_u_ok (i := i.toNat) ho hx)) hk
      rw [ay_set_ce] at this
      show ay_A (match ax_at (h.map ay_ce) a with | some (.inl (t, n, c)) => _ | _ => none) _ _ _ _
      rw [ay_at_ce ha]
      show ay_A (if Int32.ofInt i < 0 ∨ n ≤ (Int32.ofInt i).toNatClampNeg then _ else _) _ _ _ _
      rw [if_neg e1]
      show ay_A (ax_ret (pc + 1) (ls.map ay_cv) (r.map ay_cv) ((h.map ay_ce).set a (.inl (2, n, .inl (upd (fun j => Int32.ofInt (f j)) (Int32.ofInt i).toNatClampNeg (vp_nar .boolean (Int32.ofInt x))))))) _ _ _ _
      rw [e2, show vp_nar .boolean (Int32.ofInt x) = Int32.ofInt x from by rcases hz with rfl | rfl <;> decide, ay_upd]; exact this
    · cases hk
  case aastore =>
    unfold ay_step at q
    dsimp only at q
    split at q
    · rename_i qq i a r
      split at q
      · rename_i n f _ ha hq
        split at q
        · rename_i hc
          obtain ⟨e1, e2⟩ := ay_in (n := n) hs.tl.hd hc
          have := ay_fin hl hs.tl.tl.tl (ay_oh_set (a := a) (e := .inr (.inl (3, n, ay_u f i.toNat (qq + 2)))) hh (Or.inl rfl)) q
          rw [ay_set_ce] at this
          show ay_A (match ax_at (h.map ay_ce) a with | some (.inl (t, n, c)) => _ | _ => none) _ _ _ _
          rw [ay_at_ce ha]
          show ay_A (if Int32.ofInt i < 0 ∨ n ≤ (Int32.ofInt i).toNatClampNeg then _ else (match 3, (Sum.inr (Sum.inr (Sum.inr (Sum.inr fun i => ay_rc (f i)))) : ax_Ct), ax_at (h.map ay_ce) qq with | 3, .inr (.inr (.inr (.inr f))), some (.inr (7, _)) => _ | 4, .inr (.inr (.inr (.inr f))), some (.inr (5, _)) => _ | _, _, _ => none)) _ _ _ _
          rw [if_neg e1, ay_at_ce hq]
          show ay_A (ax_ret (pc + 1) (ls.map ay_cv) (r.map ay_cv) ((h.map ay_ce).set a (.inl (3, n, .inr (.inr (.inr (.inr (va_up (fun j => ay_rc (f j)) (Int32.ofInt i).toNatClampNeg (ay_rc (qq + 2)))))))))) _ _ _ _
          rw [e2, ay_updR]; exact this
        · cases q
      · rename_i n f _ ha hq
        split at q
        · rename_i hc
          obtain ⟨e1, e2⟩ := ay_in (n := n) hs.tl.hd hc
          have := ay_fin hl hs.tl.tl.tl (ay_oh_set (a := a) (e := .inr (.inl (4, n, ay_u f i.toNat (qq + 2)))) hh (Or.inr rfl)) q
          rw [ay_set_ce] at this
          show ay_A (match ax_at (h.map ay_ce) a with | some (.inl (t, n, c)) => _ | _ => none) _ _ _ _
          rw [ay_at_ce ha]
          show ay_A (if Int32.ofInt i < 0 ∨ n ≤ (Int32.ofInt i).toNatClampNeg then _ else (match 4, (Sum.inr (Sum.inr (Sum.inr (Sum.inr fun i => ay_rc (f i)))) : ax_Ct), ax_at (h.map ay_ce) qq with | 3, .inr (.inr (.inr (.inr f))), some (.inr (7, _)) => _ | 4, .inr (.inr (.inr (.inr f))), some (.inr (5, _)) => _ | _, _, _ => none)) _ _ _ _
          rw [if_neg e1, ay_at_ce hq]
          show ay_A (ax_ret (pc + 1) (ls.map ay_cv) (r.map ay_cv) ((h.map ay_ce).set a (.inl (4, n, .inr (.inr (.inr (.inr (va_up (fun j => ay_rc (f j)) (Int32.ofInt i).toNatClampNeg (ay_rc (qq + 2)))))))))) _ _ _ _
          rw [e2, ay_updR]; exact this
        · cases q
      · cases q
    · rename_i i a r
      split at q
      · rename_i n f ha
        split at q
        · rename_i hc
          obtain ⟨e1, e2⟩ := ay_in (n := n) hs.tl.hd hc
          have := ay_fin hl hs.tl.tl.tl (ay_oh_set (a := a) (e := .inr (.inl (4, n, ay_u f i.toNat 0))) hh (Or.inr rfl)) q
          rw [ay_set_ce] at this
          show ay_A (match ax_at (h.map ay_ce) a with | some (.inl (t, n, c)) => _ | _ => none) _ _ _ _
          rw [ay_at_ce ha]
          show ay_A (if Int32.ofInt i < 0 ∨ n ≤ (Int32.ofInt i).toNatClampNeg then _ else _) _ _ _ _
          rw [if_neg e1]
          show ay_A (ax_ret (pc + 1) (ls.map ay_cv) (r.map ay_cv) ((h.map ay_ce).set a (.inl (4, n, .inr (.inr (.inr (.inr (va_up (fun j => ay_rc (f j)) (Int32.ofInt i).toNatClampNeg (ay_rc 0))))))))) _ _ _ _
          rw [e2, ay_updR]; exact this
        · cases q
      · cases q
    · cases q
  case arraylength =>
    unfold ay_step at q
    dsimp only at q
    have nat : ∀ n : Nat, ay_cv (.inl (ay_w (n : Int))) = .int (Int32.ofNat n) := fun n => by show Value.int (Int32.ofInt _) = _; rw [ay_w_of, Int32.ofInt_eq_ofNat]
    split at q
    · have := ay_fin hl (ay_ol.cons (ay_w_ok (X.1 : Int)) hs.tl) hh q
      rw [List.map_cons, nat] at this
      exact this
    · rename_i a r
      split at q
      · rename_i t n f ha
        have ho := ay_oe_of hh ha
        have := ay_fin hl (ay_ol.cons (ay_w_ok (n : Int)) hs.tl) hh q
        rw [List.map_cons, nat] at this
        show ay_A (match ax_at (h.map ay_ce) a with | some (.inl (t, n, _)) => _ | _ => none) _ _ _ _
        rw [ay_at_ce ha]
        have ht : t = 0 ∨ t = 1 ∨ t = 2 := by have := ho.1; omega
        rcases ht with rfl | rfl | rfl <;> exact this
      · rename_i t n f ha
        have ho := ay_oe_of hh ha
        have := ay_fin hl (ay_ol.cons (ay_w_ok (n : Int)) hs.tl) hh q
        rw [List.map_cons, nat] at this
        show ay_A (match ax_at (h.map ay_ce) a with | some (.inl (t, n, _)) => _ | _ => none) _ _ _ _
        rw [ay_at_ce ha]
        rcases ho with rfl | rfl <;> exact this
      · cases q
    · cases q
  case new j =>
    rcases ax_bif_s q with ⟨hb, hk⟩ | ⟨_, hk⟩
    · have := ay_fin hl (ay_ol.cons (v := rr (h.length + 2)) trivial hs) (ay_oh_app (e := .inr (.inr (ax_cl (ax_own m) j, ay_f0 (ax_cl (ax_own m) j)))) hh (ay_f0_ok _)) hk
      show ay_A (bif Nat.ble (ax_cl (ax_own m) j) 9 then _ else none) _ _ _ _
      rw [hb]
      rw [ay_app, List.map_cons, ay_nref, show ay_ce (.inr (.inr (ax_cl (ax_own m) j, ay_f0 (ax_cl (ax_own m) j)))) = .inr (ax_cl (ax_own m) j, ax_f0 (ax_cl (ax_own m) j)) from by show Sum.inr _ = _; rw [ay_f0_cv]] at this
      exact this
    · cases hk
  case newarray t =>
    obtain ⟨x, r, rfl, hk⟩ := ay_i1_s q
    have hx := hs.hd
    split at hk
    · rename_i hc
      have e : (Int32.ofInt x).toNatClampNeg = x.toNat := by show (Int32.ofInt x).toInt.toNat = _; rw [ay_to hx]
      have e1 : ¬ (Int32.ofInt x < 0 ∨ 1000000 ≤ (Int32.ofInt x).toNatClampNeg) := (ay_in (n := 1000000) hx hc).1
      show ay_A (if Int32.ofInt x < 0 ∨ 1000000 ≤ (Int32.ofInt x).toNatClampNeg then none else _) _ _ _ _
      rw [if_neg e1, e]
      have hz : ∀ (t : Nat), t ≤ 2 → ay_oe (.inl (t, x.toNat, fun _ => 0)) := fun t ht => ⟨ht, fun _ => by cases Nat.beq t 1 <;> exact ⟨by show (-_ : Int) ≤ 0; decide, by show (0 : Int) < _; decide⟩⟩
      cases t <;> first
        | (have := ay_fin hl (ay_ol.cons (v := rr (h.length + 2)) trivial hs.tl) (ay_oh_app hh (hz _ (by decide))) hk
           rw [ay_app, List.map_cons, ay_nref] at this
           exact this)
        | cases hk
    · cases hk
  case anewarray j =>
    obtain ⟨x, r, rfl, hk⟩ := ay_i1_s q
    have hx := hs.hd
    split at hk
    · rename_i hc
      have e : (Int32.ofInt x).toNatClampNeg = x.toNat := by show (Int32.ofInt x).toInt.toNat = _; rw [ay_to hx]
      have e1 : ¬ (Int32.ofInt x < 0 ∨ 1000000 ≤ (Int32.ofInt x).toNatClampNeg) := (ay_in (n := 1000000) hx hc).1
      show ay_A (if Int32.ofInt x < 0 ∨ 1000000 ≤ (Int32.ofInt x).toNatClampNeg then none else _) _ _ _ _
      rw [if_neg e1, e]
      split at hk
      · rename_i hcl
        have := ay_fin hl (ay_ol.cons (v := rr (h.length + 2)) trivial hs.tl) (ay_oh_app (e := .inr (.inl (3, x.toNat, fun _ => 0))) hh (Or.inl rfl)) hk
        rw [ay_app, List.map_cons, ay_nref] at this
        rw [hcl]; exact this
      · rename_i hcl
        have := ay_fin hl (ay_ol.cons (v := rr (h.length + 2)) trivial hs.tl) (ay_oh_app (e := .inr (.inl (4, x.toNat, fun _ => 0))) hh (Or.inr rfl)) hk
        rw [ay_app, List.map_cons, ay_nref] at this
        rw [hcl]; exact this
      · cases hk
    · cases hk
  case checkcast j =>
    rcases ax_bif_s q with ⟨hb, hk⟩ | ⟨_, hk⟩
    · show ay_A (bif Nat.beq (ax_cl (ax_own m) j) 98 then _ else none) _ _ _ _
      rw [hb]
      split at hk
      · split at hk
        · rename_i a r _ n f ha
          have := ay_fin hl hs hh hk
          show ay_A (match ax_at (h.map ay_ce) a with | some (.inl (0, _, _)) => _ | _ => none) _ _ _ _
          rw [ay_at_ce ha]; exact this
        · cases hk
      · cases hk
    · cases hk
end
