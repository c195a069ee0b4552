/-! A run over a few cells is a run over any heap that has them (references renamed), and over locals of which more is known. -/
def ay_rn (σ : Nat → Nat) : Nat → Nat
  | 0 => 0
  | 1 => 1
  | k + 2 => σ k + 2
def ay_rv (σ : Nat → Nat) : bV → bV
  | .inr (.inr (.inl k)) => .inr (.inr (.inl (ay_rn σ k)))
  | v => v
def ay_re (σ : Nat → Nat) : bE → bE
  | .inl e => .inl e
  | .inr (.inl (t, n, f)) => .inr (.inl (t, n, fun j => ay_rn σ (f j)))
  | .inr (.inr (ci, fs)) => .inr (.inr (ci, fs.map (ay_rv σ)))
def ay_Em (σ : Nat → Nat) (B : Nat) (h g : bH) : Prop := (∀ k e, ax_at h k = some e → ax_at g (σ k) = some (ay_re σ e)) ∧ (∀ i j, i < B → j < B → σ i = σ j → i = j) ∧ ∀ k, h.length ≤ k → k < B → σ k = g.length + (k - h.length)
def ay_Fr (σ : Nat → Nat) (h g h1 g1 : bH) : Prop := h.length ≤ h1.length ∧ g1.length = g.length + (h1.length - h.length) ∧ ∀ j, j < g.length → (∀ k, k < h.length → σ k ≠ j) → ax_at g1 j = ax_at g j
def ay_LR (σ : Nat → Nat) : List bV → List bV → Prop
  | [], [] => True
  | a :: s, b :: t => (a = b0 ∨ b = ay_rv σ a) ∧ ay_LR σ s t
  | _, _ => False
theorem ay_Fr.rf {σ : Nat → Nat} {h g : bH} : ay_Fr σ h g h g := ⟨Nat.le_refl _, by omega, fun _ _ _ => rfl⟩
theorem ay_at_lt {α : Type} {l : List α} {k : Nat} {x : α} (h : ax_at l k = some x) : k < l.length := by
  rw [ax_at_eq] at h
  exact (List.getElem?_eq_some_iff.mp h).1
theorem ay_at_set_eq {α : Type} {l : List α} {k : Nat} {x y : α} (h : ax_at l k = some y) : ax_at (l.set k x) k = some x := by
  rw [ax_at_eq] at h ⊢
  exact List.getElem?_set_self (List.getElem?_eq_some_iff.mp h).1
theorem ay_at_set_ne {α : Type} {l : List α} {k j : Nat} {x : α} (h : j ≠ k) : ax_at (l.set k x) j = ax_at l j := by
  rw [ax_at_eq, ax_at_eq, List.getElem?_set_ne (Ne.symm h)]
theorem ay_at_app_l {α : Type} {l : List α} {j : Nat} {x : α} (h : j < l.length) : ax_at (l ++ [x]) j = ax_at l j := by
  rw [ax_at_eq, ax_at_eq, List.getElem?_append_left h]
theorem ay_at_app_r {α : Type} {l : List α} {x : α} : ax_at (l ++ [x]) l.length = some x := by
  rw [ax_at_eq]; simp
section
variable {σ : Nat → Nat} {B : Nat} {h g h1 g1 h2 g2 : bH}
theorem ay_Fr.tr (a : ay_Fr σ h g h1 g1) (b : ay_Fr σ h1 g1 h2 g2) (hE : ay_Em σ B h g) (hB : h1.length ≤ B) : ay_Fr σ h g h2 g2 := by
  obtain ⟨a1, a2, a3⟩ := a
  obtain ⟨b1, b2, b3⟩ := b
  refine ⟨by omega, by omega, fun j hj hk => ?_⟩
  rw [b3 j (by omega) (fun k hk1 e => ?_), a3 j hj hk]
  by_cases hlt : k < h.length
  · exact hk k hlt e
  · have := hE.2.2 k (by omega) (by omega)
    omega
theorem ay_Em.put (hE : ay_Em σ B h g) {k : Nat} {e e' : bE} (hB : h.length ≤ B) (he : ax_at h k = some e) : ay_Em σ B (h.set k e') (g.set (σ k) (ay_re σ e')) ∧ ay_Fr σ h g (h.set k e') (g.set (σ k) (ay_re σ e')) := by
  have hk := ay_at_lt he
  refine ⟨⟨fun j x hj => ?_, hE.2.1, fun j hj => ?_⟩, by simp, by simp, fun j _ hk2 => ay_at_set_ne (fun q => hk2 k hk q.symm)⟩
  · by_cases hjk : j = k
    · subst hjk
      rw [ay_at_set_eq he] at hj
      cases hj
      exact ay_at_set_eq (hE.1 j e he)
    · rw [ay_at_set_ne hjk] at hj
      have hlt := ay_at_lt hj
      rw [ay_at_set_ne (fun q => hjk (hE.2.1 _ _ (by omega) (by omega) q))]
      exact hE.1 j x hj
  · rw [List.length_set] at hj ⊢
    rw [List.length_set]
    exact hE.2.2 j hj
theorem ay_Em.push (hE : ay_Em σ B h g) (hB : h.length < B) (e : bE) : ay_Em σ B (h ++ [e]) (g ++ [ay_re σ e]) ∧ ay_Fr σ h g (h ++ [e]) (g ++ [ay_re σ e]) := by
  have hl : σ h.length = g.length := by rw [hE.2.2 _ (Nat.le_refl _) hB]; omega
  refine ⟨⟨fun j x hj => ?_, hE.2.1, fun j hj hj2 => ?_⟩, by simp, by simp, fun j hj _ => ay_at_app_l hj⟩
  · have hlt := ay_at_lt hj
    simp only [List.length_append, List.length_cons, List.length_nil] at hlt
    by_cases hjl : j < h.length
    · rw [ay_at_app_l hjl] at hj
      have h2 := hE.1 j x hj
      rw [ay_at_app_l (ay_at_lt h2)]
      exact h2
    · have : j = h.length := by omega
      subst this
      rw [ay_at_app_r] at hj
      cases hj
      rw [hl]; exact ay_at_app_r
  · simp only [List.length_append, List.length_cons, List.length_nil] at hj ⊢
    rw [hE.2.2 j (by omega) hj2]
    omega
theorem ay_rn_len (hE : ay_Em σ B h g) (hB : h.length < B) : ay_rn σ (h.length + 2) = g.length + 2 := by
  show σ h.length + 2 = _
  rw [hE.2.2 _ (Nat.le_refl _) hB]
  omega
theorem ay_LR_len : ∀ {ls ls' : List bV}, ay_LR σ ls ls' → ls.length = ls'.length
  | [], [], _ => rfl
  | _ :: s, _ :: t, h => by simp only [List.length_cons]; rw [ay_LR_len h.2]
  | [], _ :: _, h => h.elim
  | _ :: _, [], h => h.elim
theorem ay_LR_get : ∀ {ls ls' : List bV} (i : Nat), ay_LR σ ls ls' → ay_get ls i = b0 ∨ ay_get ls' i = ay_rv σ (ay_get ls i)
  | [], [], _, _ => Or.inl rfl
  | _ :: _, _ :: _, 0, h => h.1
  | _ :: s, _ :: t, i + 1, h => ay_LR_get (ls := s) (ls' := t) i h.2
  | [], _ :: _, _, h => h.elim
  | _ :: _, [], _, h => h.elim
theorem ay_LR_set : ∀ {ls ls' : List bV} (i : Nat) (v w : bV), (v = b0 ∨ w = ay_rv σ v) → ay_LR σ ls ls' → ay_LR σ (ls.set i v) (ls'.set i w)
  | [], [], _, _, _, _, h => h
  | _ :: _, _ :: _, 0, _, _, q, h => ⟨q, h.2⟩
  | _ :: s, _ :: t, i + 1, v, w, q, h => ⟨h.1, ay_LR_set (ls := s) (ls' := t) i v w q h.2⟩
  | [], _ :: _, _, _, _, _, h => h.elim
  | _ :: _, [], _, _, _, _, h => h.elim
theorem ay_LR_setb : ∀ {ls ls' : List bV} (i : Nat), ay_get ls i = b0 → ay_LR σ ls ls' → ∀ w, ay_LR σ ls (ls'.set i w)
  | [], [], _, _, h, _ => h
  | a :: _, _ :: _, 0, q, h, w => ⟨Or.inl q, h.2⟩
  | _ :: s, _ :: t, i + 1, q, h, w => ⟨h.1, ay_LR_setb (ls := s) (ls' := t) i q h.2 w⟩
  | [], _ :: _, _, _, h, _ => h.elim
  | _ :: _, [], _, _, h, _ => h.elim
theorem ay_isl_rv (v : bV) : ay_isl (ay_rv σ v) = ay_isl v := by rcases v with x | x | x | x <;> rfl
theorem ay_LR_kill {ls ls' : List bV} (i : Nat) (q : ay_LR σ ls ls') : ay_LR σ (ay_kill ls i) (ay_kill ls' i) := by
  cases i with
  | zero => exact q
  | succ i =>
    show ay_LR σ (bif ay_isl (ay_get ls i) then ls.set i b0 else ls) (bif ay_isl (ay_get ls' i) then ls'.set i b0 else ls')
    rcases ay_LR_get i q with e | e
    · rw [e]
      show ay_LR σ ls _
      cases ay_isl (ay_get ls' i)
      · exact q
      · exact ay_LR_setb i e q b0
    · rw [e, ay_isl_rv]
      cases ay_isl (ay_get ls i)
      · exact q
      · exact ay_LR_set i b0 b0 (Or.inl rfl) q
theorem ay_LR_set1 {ls ls' : List bV} (i : Nat) (v : bV) (q : ay_LR σ ls ls') : ay_LR σ (ay_set1 ls i v) (ay_set1 ls' i (ay_rv σ v)) := ay_LR_set i v _ (Or.inr rfl) (ay_LR_kill i q)
theorem ay_LR_set2 {ls ls' : List bV} (i : Nat) (v : bV) (q : ay_LR σ ls ls') : ay_LR σ (ay_set2 ls i v) (ay_set2 ls' i (ay_rv σ v)) := ay_LR_set (i + 1) b0 b0 (Or.inl rfl) (ay_LR_set i v _ (Or.inr rfl) (ay_LR_kill i q))
theorem ay_rn0 {k : Nat} : ay_rn σ k = 0 ↔ k = 0 := by
  match k with
  | 0 => simp [ay_rn]
  | 1 => simp [ay_rn]
  | k + 2 => simp [ay_rn]
/-- the answer's form -/
abbrev ay_Q (r : Option (Nat × List bV × List bV × bH)) (σ : Nat → Nat) (B : Nat) (h g : bH) (pc' : Nat) (ls1 st1 : List bV) (h1 : bH) : Prop := ∃ ls2 g1, r = some (pc', ls2, st1.map (ay_rv σ), g1) ∧ ay_LR σ ls1 ls2 ∧ ay_Em σ B h1 g1 ∧ ay_Fr σ h g h1 g1
variable {X : Nat × (Nat → Int)} {m pc pc' : Nat} {ls lb st ls1 st1 : List bV}
theorem ay_qf {a : Nat} {b b' c c' : List bV} (hl : ay_LR σ b b') (hE : ay_Em σ B h g) (hc : c' = c.map (ay_rv σ)) (q : ay_ret a b c h = some (pc', ls1, st1, h1)) : ay_Q (ay_ret a b' c' g) σ B h g pc' ls1 st1 h1 := by
  cases q; subst hc; exact ⟨b', g, rfl, hl, hE, ay_Fr.rf⟩
theorem ay_qs {a : Nat} {b b' c c' : List bV} {k : Nat} {e e' : bE} (hl : ay_LR σ b b') (hE : ay_Em σ B h g) (hc : c' = c.map (ay_rv σ)) (hB : h1.length ≤ B) (he : ax_at h k = some e) (q : ay_ret a b c (h.set k e') = some (pc', ls1, st1, h1)) : ay_Q (ay_ret a b' c' (g.set (σ k) (ay_re σ e'))) σ B h g pc' ls1 st1 h1 := by
  cases q; subst hc
  rw [List.length_set] at hB
  obtain ⟨p1, p2⟩ := ay_Em.put (e' := e') hE hB he
  exact ⟨b', _, rfl, hl, p1, p2⟩
theorem ay_qp {a : Nat} {b b' c c' : List bV} {e' : bE} (hl : ay_LR σ b b') (hE : ay_Em σ B h g) (hc : c' = c.map (ay_rv σ)) (hB : h1.length ≤ B) (q : ay_ret a b c (h ++ [e']) = some (pc', ls1, st1, h1)) : ay_Q (ay_ret a b' c' (g ++ [ay_re σ e'])) σ B h g pc' ls1 st1 h1 := by
  cases q; subst hc
  simp only [List.length_append, List.length_cons, List.length_nil] at hB
  obtain ⟨p1, p2⟩ := ay_Em.push hE (by omega) e'
  exact ⟨b', _, rfl, hl, p1, p2⟩
theorem ay_gl {i : Nat} {x : Int} (q : ay_LR σ ls lb) (e : ay_get ls i = .inl x) : ay_get lb i = .inl x := by
  rcases ay_LR_get i q with z | z
  · rw [z] at e; cases e
  · rw [z, e]; rfl
theorem ay_gL {i : Nat} {x : Int} (q : ay_LR σ ls lb) (e : ay_get ls i = .inr (.inl x)) : ay_get lb i = .inr (.inl x) := by
  rcases ay_LR_get i q with z | z
  · rw [z] at e; cases e
  · rw [z, e]; rfl
theorem ay_gr {i : Nat} {x : Nat} (q : ay_LR σ ls lb) (e : ay_get ls i = rr x) : ay_get lb i = rr (ay_rn σ x) := by
  rcases ay_LR_get i q with z | z
  · rw [z] at e; cases e
  · rw [z, e]; rfl

theorem ay_fit_rv (d : Value) (v : bV) : ay_fit d (ay_rv σ v) = ay_fit d v := by rcases v with x | x | x | x <;> cases d <;> rfl
theorem ay_f0_rv (ci : Nat) : (ay_f0 ci).map (ay_rv σ) = ay_f0 ci := by
  unfold ay_f0
  rw [List.map_map]
  apply List.map_congr_left
  intro v _
  cases v <;> rfl
set_option maxHeartbeats 16000000 in
theorem ay_step_em {i : Instr} (hE : ay_Em σ B h g) (hl : ay_LR σ ls lb) (hB : h1.length ≤ B) (q : ay_step X m pc i ls st h ay_ret = some (pc', ls1, st1, h1)) : ay_Q (ay_step X m pc i lb (st.map (ay_rv σ)) g ay_ret) σ B h g pc' ls1 st1 h1 := by
  cases i
  all_goals first
    | (cases q; done)
    | skip
  case iadd =>
    obtain ⟨x, y, r, rfl, hk⟩ := ay_i2_s q; exact ay_qf hl hE rfl hk
  case isub =>
    obtain ⟨x, y, r, rfl, hk⟩ := ay_i2_s q; exact ay_qf hl hE rfl hk
  case imul =>
    obtain ⟨x, y, r, rfl, hk⟩ := ay_i2_s q; exact ay_qf hl hE rfl hk
  case iand =>
    obtain ⟨x, y, r, rfl, hk⟩ := ay_i2_s q; exact ay_qf hl hE rfl hk
  case ior =>
    obtain ⟨x, y, r, rfl, hk⟩ := ay_i2_s q; exact ay_qf hl hE rfl hk
  case ixor =>
    obtain ⟨x, y, r, rfl, hk⟩ := ay_i2_s q; exact ay_qf hl hE rfl hk
  case ishl =>
    obtain ⟨x, y, r, rfl, hk⟩ := ay_i2_s q; exact ay_qf hl hE rfl hk
  case ishr =>
    obtain ⟨x, y, r, rfl, hk⟩ := ay_i2_s q; exact ay_qf hl hE rfl hk
  case iushr =>
    obtain ⟨x, y, r, rfl, hk⟩ := ay_i2_s q; exact ay_qf hl hE rfl hk
  case ladd =>
    obtain ⟨x, y, r, rfl, hk⟩ := ay_l2_s q; exact ay_qf hl hE rfl hk
  case lsub =>
    obtain ⟨x, y, r, rfl, hk⟩ := ay_l2_s q; exact ay_qf hl hE rfl hk
  case lmul =>
    obtain ⟨x, y, r, rfl, hk⟩ := ay_l2_s q; exact ay_qf hl hE rfl hk
  case land =>
    obtain ⟨x, y, r, rfl, hk⟩ := ay_l2_s q; exact ay_qf hl hE rfl hk
  case lor =>
    obtain ⟨x, y, r, rfl, hk⟩ := ay_l2_s q; exact ay_qf hl hE rfl hk
  case lxor =>
    obtain ⟨x, y, r, rfl, hk⟩ := ay_l2_s q; exact ay_qf hl hE rfl hk
  case lcmp =>
    obtain ⟨x, y, r, rfl, hk⟩ := ay_l2_s q; exact ay_qf hl hE rfl hk
  case lshl =>
    obtain ⟨x, y, r, rfl, hk⟩ := ay_li_s q; exact ay_qf hl hE rfl hk
  case lshr =>
    obtain ⟨x, y, r, rfl, hk⟩ := ay_li_s q; exact ay_qf hl hE rfl hk
  case lushr =>
    obtain ⟨x, y, r, rfl, hk⟩ := ay_li_s q; exact ay_qf hl hE rfl hk
  case ineg =>
    obtain ⟨x, r, rfl, hk⟩ := ay_i1_s q; exact ay_qf hl hE rfl hk
  case i2l =>
    obtain ⟨x, r, rfl, hk⟩ := ay_i1_s q; exact ay_qf hl hE rfl hk
  case lneg =>
    obtain ⟨x, r, rfl, hk⟩ := ay_l1_s q; exact ay_qf hl hE rfl hk
  case l2i =>
    obtain ⟨x, r, rfl, hk⟩ := ay_l1_s q; exact ay_qf hl hE rfl hk
  case idiv =>
    obtain ⟨x, y, r, rfl, hk⟩ := ay_i2_s q
    split at hk
    · cases hk
    · rename_i hy
      show ay_Q (if y = 0 then _ else _) _ _ _ _ _ _ _ _
      rw [if_neg hy]; exact ay_qf hl hE rfl hk
  case irem =>
    obtain ⟨x, y, r, rfl, hk⟩ := ay_i2_s q
    split at hk
    · cases hk
    · rename_i hy
      show ay_Q (if y = 0 then _ else _) _ _ _ _ _ _ _ _
      rw [if_neg hy]; exact ay_qf hl hE rfl hk
  case ldiv =>
    obtain ⟨x, y, r, rfl, hk⟩ := ay_l2_s q
    split at hk
    · cases hk
    · rename_i hy
      show ay_Q (if y = 0 then _ else _) _ _ _ _ _ _ _ _
      rw [if_neg hy]; exact ay_qf hl hE rfl hk
  case lrem =>
    obtain ⟨x, y, r, rfl, hk⟩ := ay_l2_s q
    split at hk
    · cases hk
    · rename_i hy
      show ay_Q (if y = 0 then _ else _) _ _ _ _ _ _ _ _
      rw [if_neg hy]; exact ay_qf hl hE rfl hk
  case i2c =>
    obtain ⟨x, r, rfl, hk⟩ := ay_i1_s q
    split at hk
    · rename_i hy
      show ay_Q (if 0 ≤ x ∧ x < 65536 then _ else _) _ _ _ _ _ _ _ _
      rw [if_pos hy]; exact ay_qf hl hE rfl hk
    · cases hk
  case aconst_null =>
    exact ay_qf hl hE rfl q
  case lconst v =>
    exact ay_qf hl hE rfl q
  case iconst v =>
    have q : (if _ then _ else _) = _ := q
    split at q
    · rename_i hv
      show ay_Q (if _ then _ else _) _ _ _ _ _ _ _ _
      rw [if_pos hv]; exact ay_qf hl hE rfl q
    · cases q
  case bipush v =>
    have q : (if _ then _ else _) = _ := q
    split at q
    · rename_i hv
      show ay_Q (if _ then _ else _) _ _ _ _ _ _ _ _
      rw [if_pos hv]; exact ay_qf hl hE rfl q
    · cases q
  case sipush v =>
    have q : (if _ then _ else _) = _ := q
    split at q
    · rename_i hv
      show ay_Q (if _ then _ else _) _ _ _ _ _ _ _ _
      rw [if_pos hv]; exact ay_qf hl hE rfl q
    · cases q
  case ldc j =>
    have q : (match ax_k (ax_own m) j with | some v => _ | none => _) = _ := q
    show ay_Q (match ax_k (ax_own m) j with | some v => _ | none => _) _ _ _ _ _ _ _ _
    cases hv : ax_k (ax_own m) j with
    | some v => rw [hv] at q; exact ay_qf hl hE rfl q
    | none =>
      rw [hv] at q
      have q : (match ax_ks (ax_own m) j with | some q => _ | none => _) = _ := q
      show ay_Q (match ax_ks (ax_own m) j with | some q => _ | none => _) _ _ _ _ _ _ _ _
      cases hw : ax_ks (ax_own m) j with
      | some w => rw [hw] at q; exact ay_qf hl hE rfl q
      | none => rw [hw] at q; cases q
  case ldc_w j =>
    have q : (match ax_k (ax_own m) j with | some v => _ | none => _) = _ := q
    show ay_Q (match ax_k (ax_own m) j with | some v => _ | none => _) _ _ _ _ _ _ _ _
    cases hv : ax_k (ax_own m) j with
    | some v => rw [hv] at q; exact ay_qf hl hE rfl q
    | none => rw [hv] at q; cases q
  case ldc2_w j =>
    have q : (match ax_kl (ax_own m) j with | some v => _ | none => _) = _ := q
    show ay_Q (match ax_kl (ax_own m) j with | some v => _ | none => _) _ _ _ _ _ _ _ _
    cases hv : ax_kl (ax_own m) j with
    | some v => rw [hv] at q; exact ay_qf hl hE rfl q
    | none => rw [hv] at q; cases q
  case iload j =>
    obtain ⟨x, hg, hk⟩ := ay_ldi_s q
    unfold ay_step; dsimp only
    unfold ay_ldi
    rw [ay_gl hl hg]; exact ay_qf hl hE rfl hk
  case iload_n j =>
    obtain ⟨x, hg, hk⟩ := ay_ldi_s q
    unfold ay_step; dsimp only
    unfold ay_ldi
    rw [ay_gl hl hg]; exact ay_qf hl hE rfl hk
  case lload j =>
    obtain ⟨x, hg, hk⟩ := ay_ldl_s q
    unfold ay_step; dsimp only
    unfold ay_ldl
    rw [ay_gL hl hg]; exact ay_qf hl hE rfl hk
  case lload_n j =>
    obtain ⟨x, hg, hk⟩ := ay_ldl_s q
    unfold ay_step; dsimp only
    unfold ay_ldl
    rw [ay_gL hl hg]; exact ay_qf hl hE rfl hk
  case aload j =>
    obtain ⟨x, hg, hk⟩ := ay_lda_s q
    unfold ay_step; dsimp only
    unfold ay_lda
    rw [ay_gr hl hg]; exact ay_qf hl hE rfl hk
  case aload_n j =>
    obtain ⟨x, hg, hk⟩ := ay_lda_s q
    unfold ay_step; dsimp only
    unfold ay_lda
    rw [ay_gr hl hg]; exact ay_qf hl hE rfl hk
  case istore j =>
    obtain ⟨x, r, rfl, hk⟩ := ay_i1_s q
    exact ay_qf (ay_LR_set1 _ _ hl) hE rfl hk
  case istore_n j =>
    obtain ⟨x, r, rfl, hk⟩ := ay_i1_s q
    exact ay_qf (ay_LR_set1 _ _ hl) hE rfl hk
  case lstore j =>
    obtain ⟨x, r, rfl, hk⟩ := ay_l1_s q
    exact ay_qf (ay_LR_set2 _ _ hl) hE rfl hk
  case lstore_n j =>
    obtain ⟨x, r, rfl, hk⟩ := ay_l1_s q
    exact ay_qf (ay_LR_set2 _ _ hl) hE rfl hk
  case astore j =>
    obtain ⟨x, r, rfl, hk⟩ := ay_sta_s q
    exact ay_qf (ay_LR_set1 _ _ hl) hE rfl hk
  case astore_n j =>
    obtain ⟨x, r, rfl, hk⟩ := ay_sta_s q
    exact ay_qf (ay_LR_set1 _ _ hl) hE rfl hk
  case iinc j v =>
    obtain ⟨x, hg, hk⟩ := ay_ldi_s q
    split at hk
    · rename_i hv
      show ay_Q (ay_ldi lb j _) _ _ _ _ _ _ _ _
      unfold ay_ldi
      rw [ay_gl hl hg]
      show ay_Q (if _ then _ else _) _ _ _ _ _ _ _ _
      rw [if_pos hv]
      exact ay_qf (ay_LR_set1 _ _ hl) hE rfl hk
    · cases hk
  case dup =>
    unfold ay_step at q; dsimp only at q
    split at q
    · exact ay_qf hl hE rfl q
    · rename_i x r
      rcases ax_bif_s q with ⟨_, hk⟩ | ⟨hb, hk⟩
      · cases hk
      · have hb2 : Nat.beq (ay_rn σ x) 0 = false := by
          cases hz : Nat.beq (ay_rn σ x) 0 with
          | false => rfl
          | true => have := ay_rn0.mp (Nat.eq_of_beq_eq_true hz); subst this; cases hb
        show ay_Q (bif Nat.beq (ay_rn σ x) 0 then _ else _) _ _ _ _ _ _ _ _
        rw [hb2]; exact ay_qf hl hE rfl hk
    · cases q
  case pop =>
    unfold ay_step at q; dsimp only at q
    split at q
    · exact ay_qf hl hE rfl q
    · rename_i x r
      rcases ax_bif_s q with ⟨_, hk⟩ | ⟨hb, hk⟩
      · cases hk
      · have hb2 : Nat.beq (ay_rn σ x) 0 = false := by
          cases hz : Nat.beq (ay_rn σ x) 0 with
          | false => rfl
          | true => have := ay_rn0.mp (Nat.eq_of_beq_eq_true hz); subst this; cases hb
        show ay_Q (bif Nat.beq (ay_rn σ x) 0 then _ else _) _ _ _ _ _ _ _ _
        rw [hb2]; exact ay_qf hl hE rfl hk
    · cases q
  case dup2 =>
    unfold ay_step at q; dsimp only at q
    split at q
    · rename_i y x r
      rcases ax_bif_s q with ⟨_, hk⟩ | ⟨hb, hk⟩
      · cases hk
      · have hb2 : Nat.beq (ay_rn σ x) 0 = false := by
          cases hz : Nat.beq (ay_rn σ x) 0 with
          | false => rfl
          | true => have := ay_rn0.mp (Nat.eq_of_beq_eq_true hz); subst this; cases hb
        show ay_Q (bif Nat.beq (ay_rn σ x) 0 then _ else _) _ _ _ _ _ _ _ _
        rw [hb2]; exact ay_qf hl hE rfl hk
    · exact ay_qf hl hE rfl q
    · cases q
  case dup_x1 =>
    unfold ay_step at q; dsimp only at q
    split at q
    · rename_i y x r
      rcases ax_bif_s q with ⟨_, hk⟩ | ⟨hb, hk⟩
      · cases hk
      · have hb2 : Nat.beq (ay_rn σ x) 0 = false := by
          cases hz : Nat.beq (ay_rn σ x) 0 with
          | false => rfl
          | true => have := ay_rn0.mp (Nat.eq_of_beq_eq_true hz); subst this; cases hb
        show ay_Q (bif Nat.beq (ay_rn σ x) 0 then _ else _) _ _ _ _ _ _ _ _
        rw [hb2]; exact ay_qf hl hE rfl hk
    · exact ay_qf hl hE rfl q
    · cases q
  case goto off =>
    unfold ay_step at q ⊢; dsimp only at q ⊢
    obtain ⟨t, ht, hk⟩ := ax_jmp_s' q
    rw [ht]; exact ay_qf hl hE rfl hk
  case ifCond cd off =>
    obtain ⟨x, r, rfl, hk⟩ := ay_i1_s q
    have fin : ∀ {t : Nat}, ay_ret t ls r h = some (pc', ls1, st1, h1) → ay_Q (ay_ret t lb (r.map (ay_rv σ)) g) σ B h g pc' ls1 st1 h1 := fun z => ay_qf hl hE rfl z
    have jmp : (ax_jmp pc off fun t => ay_ret t ls r h) = some (pc', ls1, st1, h1) → ay_Q (ax_jmp pc off fun t => ay_ret t lb (r.map (ay_rv σ)) g) σ B h g pc' ls1 st1 h1 := fun z => by
      obtain ⟨t, ht, hk⟩ := ax_jmp_s' z
      rw [ht]; exact fin hk
    show ay_Q (ay_icmp cd x 0 (ax_jmp pc off fun t => ay_ret t lb (r.map (ay_rv σ)) g) (ay_ret (pc + 3) lb (r.map (ay_rv σ)) g)) _ _ _ _ _ _ _ _
    cases cd <;> simp only [ay_icmp] at hk ⊢ <;> split at hk <;> rename_i hc <;> first
      | (rw [if_pos hc]; first | exact fin hk | exact jmp hk)
      | (rw [if_neg hc]; first | exact fin hk | exact jmp hk)
  case if_icmp cd off =>
    obtain ⟨x, y, r, rfl, hk⟩ := ay_i2_s q
    have fin : ∀ {t : Nat}, ay_ret t ls r h = some (pc', ls1, st1, h1) → ay_Q (ay_ret t lb (r.map (ay_rv σ)) g) σ B h g pc' ls1 st1 h1 := fun z => ay_qf hl hE rfl z
    have jmp : (ax_jmp pc off fun t => ay_ret t ls r h) = some (pc', ls1, st1, h1) → ay_Q (ax_jmp pc off fun t => ay_ret t lb (r.map (ay_rv σ)) g) σ B h g pc' ls1 st1 h1 := fun z => by
      obtain ⟨t, ht, hk⟩ := ax_jmp_s' z
      rw [ht]; exact fin hk
    show ay_Q (ay_icmp cd x y (ax_jmp pc off fun t => ay_ret t lb (r.map (ay_rv σ)) g) (ay_ret (pc + 3) lb (r.map (ay_rv σ)) g)) _ _ _ _ _ _ _ _
    cases cd <;> simp only [ay_icmp] at hk ⊢ <;> split at hk <;> rename_i hc <;> first
      | (rw [if_pos hc]; first | exact fin hk | exact jmp hk)
      | (rw [if_neg hc]; first | exact fin hk | exact jmp hk)
  case ifnull off =>
    obtain ⟨x, r, rfl, hk⟩ := ay_sta_s q
    have fin : ∀ {t : Nat}, ay_ret t ls r h = some (pc', ls1, st1, h1) → ay_Q (ay_ret t lb (r.map (ay_rv σ)) g) σ B h g pc' ls1 st1 h1 := fun z => ay_qf hl hE rfl z
    have jmp : (ax_jmp pc off fun t => ay_ret t ls r h) = some (pc', ls1, st1, h1) → ay_Q (ax_jmp pc off fun t => ay_ret t lb (r.map (ay_rv σ)) g) σ B h g pc' ls1 st1 h1 := fun z => by
      obtain ⟨t, ht, hk⟩ := ax_jmp_s' z
      rw [ht]; exact fin hk
    show ay_Q (if ay_rn σ x = 0 then _ else _) _ _ _ _ _ _ _ _
    by_cases hx : x = 0
    · rw [if_pos hx] at hk; rw [if_pos (ay_rn0.mpr hx)]; exact jmp hk
    · rw [if_neg hx] at hk; rw [if_neg (fun z => hx (ay_rn0.mp z))]; exact fin hk
  case ifnonnull off =>
    obtain ⟨x, r, rfl, hk⟩ := ay_sta_s q
    have fin : ∀ {t : Nat}, ay_ret t ls r h = some (pc', ls1, st1, h1) → ay_Q (ay_ret t lb (r.map (ay_rv σ)) g) σ B h g pc' ls1 st1 h1 := fun z => ay_qf hl hE rfl z
    have jmp : (ax_jmp pc off fun t => ay_ret t ls r h) = some (pc', ls1, st1, h1) → ay_Q (ax_jmp pc off fun t => ay_ret t lb (r.map (ay_rv σ)) g) σ B h g pc' ls1 st1 h1 := fun z => by
      obtain ⟨t, ht, hk⟩ := ax_jmp_s' z
      rw [ht]; exact fin hk
    show ay_Q (if ay_rn σ x = 0 then _ else _) _ _ _ _ _ _ _ _
    by_cases hx : x = 0
    · rw [if_pos hx] at hk; rw [if_pos (ay_rn0.mpr hx)]; exact fin hk
    · rw [if_neg hx] at hk; rw [if_neg (fun z => hx (ay_rn0.mp z))]; exact jmp hk
  case tableswitch df lo hi offs =>
    obtain ⟨x, r, rfl, hk⟩ := ay_i1_s q
    have jmp : ∀ {off : Int}, (ax_jmp pc off fun t => ay_ret t ls r h) = some (pc', ls1, st1, h1) → ay_Q (ax_jmp pc off fun t => ay_ret t lb (r.map (ay_rv σ)) g) σ B h g pc' ls1 st1 h1 := fun z => by
      obtain ⟨t, ht, hk⟩ := ax_jmp_s' z
      rw [ht]; exact ay_qf hl hE rfl hk
    show ay_Q (if x < lo ∨ hi < x then _ else (match offs.toList[(x - lo).toNat]? with | some off => _ | none => none)) _ _ _ _ _ _ _ _
    by_cases hc : x < lo ∨ hi < x
    · rw [if_pos hc] at hk ⊢; exact jmp hk
    · rw [if_neg hc] at hk ⊢
      split at hk
      · rename_i off ho; rw [ho]; exact jmp hk
      · cases hk
  case lookupswitch df ps =>
    obtain ⟨x, r, rfl, hk⟩ := ay_i1_s q
    show ay_Q (bif _ then (ax_jmp pc (Op.lookupswitch.offset ps.toList df x) _) else none) _ _ _ _ _ _ _ _
    rcases ax_bif_s hk with ⟨hb, hk⟩ | ⟨_, hk⟩
    · rw [hb, cond_true]
      obtain ⟨t, ht, hk⟩ := ax_jmp_s' hk
      rw [ht]; exact ay_qf hl hE rfl hk
    · cases hk
  case getfield j =>
    obtain ⟨ci, fs, a, r, rfl, ha, hk⟩ := ay_ob_s q
    show ay_Q (match ax_at g (σ a) with | some (.inr (.inr (ci, fs))) => _ | _ => none) _ _ _ _ _ _ _ _
    rw [hE.1 a _ ha]
    show ay_Q (bif Nat.beq ci (ax_fd (ax_own m) j).1 then (match ax_at (fs.map (ay_rv σ)) (ax_fd (ax_own m) j).2 with | some v => _ | none => none) else none) _ _ _ _ _ _ _ _
    rcases ax_bif_s hk with ⟨hb, hk⟩ | ⟨_, hk⟩
    · rw [hb, ay_at_map]
      split at hk
      · rename_i v hv
        rw [hv]; exact ay_qf hl hE rfl hk
      · cases hk
    · cases hk
  case putfield j =>
    cases st with
    | nil => cases q
    | cons v st =>
    obtain ⟨ci, fs, a, r, rfl, ha, hk⟩ := ay_ob_s q
    show ay_Q (match ax_at g (σ a) with | some (.inr (.inr (ci, fs))) => _ | _ => none) _ _ _ _ _ _ _ _
    rw [hE.1 a _ ha]
    show ay_Q (bif Nat.beq ci (ax_fd (ax_own m) j).1 then (match ax_at (fs.map (ay_rv σ)) (ax_fd (ax_own m) j).2 with | some v => _ | none => none) else none) _ _ _ _ _ _ _ _
    rcases ax_bif_s hk with ⟨hb, hk⟩ | ⟨_, hk⟩
    · rw [hb, ay_at_map]
      split at hk
      · rename_i w hw
        rw [hw]
        rcases ax_bif_s hk with ⟨hb, hk⟩ | ⟨_, hk⟩
        · have hb' : (ax_fk m ci (ax_fd (ax_own m) j).2 && ay_fit (ax_get (ax_f0 ci) (ax_fd (ax_own m) j).2) (ay_rv σ v)) = true := by rw [ay_fit_rv]; exact hb
          show ay_Q (bif _ then ay_store ci (ax_fd (ax_own m) j).2 (ay_rv σ v) _ else none) _ _ _ _ _ _ _ _
          rw [hb']
          have key : ay_ret (pc + 3) ls r (h.set a (.inr (.inr (ci, fs.set (ax_fd (ax_own m) j).2 v)))) = some (pc', ls1, st1, h1) → ay_Q (ay_ret (pc + 3) lb (r.map (ay_rv σ)) (g.set (σ a) (.inr (.inr (ci, (fs.map (ay_rv σ)).set (ax_fd (ax_own m) j).2 (ay_rv σ v)))))) σ B h g pc' ls1 st1 h1 := fun z => by
            have := ay_qs hl hE rfl hB ha z
            rw [show (Sum.inr (Sum.inr (ci, (fs.map (ay_rv σ)).set (ax_fd (ax_own m) j).2 (ay_rv σ v))) : bE) = ay_re σ (.inr (.inr (ci, fs.set (ax_fd (ax_own m) j).2 v))) from by show _ = Sum.inr (Sum.inr (ci, (fs.set _ v).map (ay_rv σ))); rw [List.map_set]]
            exact this
          show ay_Q (ay_store ci (ax_fd (ax_own m) j).2 (ay_rv σ v) _) _ _ _ _ _ _ _ _
          unfold ay_store at hk ⊢
          rcases ax_bif_s hk with ⟨hz, hk⟩ | ⟨hz, hk⟩
          · rw [hz]
            rcases v with x | v
            · have hk : (if x = 0 ∨ x = 1 then _ else _) = _ := hk
              split at hk
              · rename_i hx
                show ay_Q (if x = 0 ∨ x = 1 then _ else _) _ _ _ _ _ _ _ _
                rw [if_pos hx]; exact key hk
              · cases hk
            · cases hk
          · rw [hz]; exact key hk
        · cases hk
      · cases hk
    · cases hk
  case baload =>
    obtain ⟨n, f, a, i, r, rfl, ha, hc, hk⟩ := ay_ar_s q
    show ay_Q (match ax_at g (σ a) with | some (.inl (t', n, f)) => _ | _ => none) _ _ _ _ _ _ _ _
    rw [hE.1 a _ ha]
    show ay_Q (if 0 ≤ i ∧ i < (n : Int) then _ else none) _ _ _ _ _ _ _ _
    rw [if_pos hc]; exact ay_qf hl hE rfl hk
  case laload =>
    obtain ⟨n, f, a, i, r, rfl, ha, hc, hk⟩ := ay_ar_s q
    show ay_Q (match ax_at g (σ a) with | some (.inl (t', n, f)) => _ | _ => none) _ _ _ _ _ _ _ _
    rw [hE.1 a _ ha]
    show ay_Q (if 0 ≤ i ∧ i < (n : Int) then _ else none) _ _ _ _ _ _ _ _
    rw [if_pos hc]; exact ay_qf hl hE rfl hk
  case iaload =>
    unfold ay_step at q; dsimp only at q
    split at q
    · rename_i i r
      split at q
      · rename_i hc
        show ay_Q (if 0 ≤ i ∧ i < (X.1 : Int) then _ else none) _ _ _ _ _ _ _ _
        rw [if_pos hc]; exact ay_qf hl hE rfl q
      · cases q
    · obtain ⟨n, f, a, i, r, rfl, ha, hc, hk⟩ := ay_ar_s q
      show ay_Q (match ax_at g (σ a) with | some (.inl (t', n, f)) => _ | _ => none) _ _ _ _ _ _ _ _
      rw [hE.1 a _ ha]
      show ay_Q (if 0 ≤ i ∧ i < (n : Int) then _ else none) _ _ _ _ _ _ _ _
      rw [if_pos hc]; exact ay_qf hl hE rfl hk
  case aaload =>
    unfold ay_step at q; dsimp only at q
    split at q
    · split at q
      · rename_i i a r _ t n f ha
        split at q
        · rename_i hc
          show ay_Q (match ax_at g (σ a) with | some (.inr (.inl (_, n, f))) => _ | _ => none) _ _ _ _ _ _ _ _
          rw [hE.1 a _ ha]
          show ay_Q (if 0 ≤ i ∧ i < (n : Int) then _ else none) _ _ _ _ _ _ _ _
          rw [if_pos hc]; exact ay_qf hl hE rfl q
        · cases q
      · cases q
    · cases q
  case iastore =>
    obtain ⟨x, st0, rfl, hk⟩ := ay_i1_s q
    obtain ⟨n, f, a, i, r, rfl, ha, hc, hk⟩ := ay_ar_s hk
    show ay_Q (match ax_at g (σ a) with | some (.inl (t', n, f)) => _ | _ => none) _ _ _ _ _ _ _ _
    rw [hE.1 a _ ha]
    show ay_Q (if 0 ≤ i ∧ i < (n : Int) then _ else none) _ _ _ _ _ _ _ _
    rw [if_pos hc]; exact ay_qs hl hE rfl hB ha hk
  case lastore =>
    obtain ⟨x, st0, rfl, hk⟩ := ay_l1_s q
    obtain ⟨n, f, a, i, r, rfl, ha, hc, hk⟩ := ay_ar_s hk
    show ay_Q (match ax_at g (σ a) with | some (.inl (t', n, f)) => _ | _ => none) _ _ _ _ _ _ _ _
    rw [hE.1 a _ ha]
    show ay_Q (if 0 ≤ i ∧ i < (n : Int) then _ else none) _ _ _ _ _ _ _ _
    rw [if_pos hc]; exact ay_qs hl hE rfl hB ha hk
  case bastore =>
    obtain ⟨x, st0, rfl, hk⟩ := ay_i1_s q
    obtain ⟨n, f, a, i, r, rfl, ha, hc, hk⟩ := ay_ar_s hk
    split at hk
    · rename_i hx
      show ay_Q (match ax_at g (σ a) with | some (.inl (t', n, f)) => _ | _ => none) _ _ _ _ _ _ _ _
      rw [hE.1 a _ ha]
      show ay_Q (if 0 ≤ i ∧ i < (n : Int) then (if x = 0 ∨ x = 1 then _ else none) else none) _ _ _ _ _ _ _ _
      rw [if_pos hc, if_pos hx]; exact ay_qs hl hE rfl hB ha hk
    · cases hk
  case aastore =>
    unfold ay_step at q; dsimp only at q
    split at q
    · rename_i qq i a r
      split at q
      · rename_i n f _ ha hq
        split at q
        · rename_i hc
          show ay_Q (match ax_at g (σ a), ax_at g (σ qq) with | some (.inr (.inl (3, n, f))), some (.inr (.inr (7, _))) => _ | some (.inr (.inl (4, n, f))), some (.inr (.inr (5, _))) => _ | _, _ => none) _ _ _ _ _ _ _ _
          rw [hE.1 a _ ha, hE.1 qq _ hq]
          show ay_Q (if 0 ≤ i ∧ i < (n : Int) then ay_ret (pc + 1) lb (r.map (ay_rv σ)) (g.set (σ a) (.inr (.inl (3, n, ay_u (fun j => ay_rn σ (f j)) i.toNat (σ qq + 2))))) else none) _ _ _ _ _ _ _ _
          rw [if_pos hc, show ay_u (fun j => ay_rn σ (f j)) i.toNat (σ qq + 2) = fun j => ay_rn σ (ay_u f i.toNat (qq + 2) j) from by funext j; unfold ay_u; split <;> rfl]
          exact ay_qs (e' := .inr (.inl (3, n, ay_u f i.toNat (qq + 2)))) hl hE rfl hB ha q
        · cases q
      · rename_i n f _ ha hq
        split at q
        · rename_i hc
          show ay_Q (match ax_at g (σ a), ax_at g (σ qq) with | some (.inr (.inl (3, n, f))), some (.inr (.inr (7, _))) => _ | some (.inr (.inl (4, n, f))), some (.inr (.inr (5, _))) => _ | _, _ => none) _ _ _ _ _ _ _ _
          rw [hE.1 a _ ha, hE.1 qq _ hq]
          show ay_Q (if 0 ≤ i ∧ i < (n : Int) then ay_ret (pc + 1) lb (r.map (ay_rv σ)) (g.set (σ a) (.inr (.inl (4, n, ay_u (fun j => ay_rn σ (f j)) i.toNat (σ qq + 2))))) else none) _ _ _ _ _ _ _ _
          rw [if_pos hc, show ay_u (fun j => ay_rn σ (f j)) i.toNat (σ qq + 2) = fun j => ay_rn σ (ay_u f i.toNat (qq + 2) j) from by funext j; unfold ay_u; split <;> rfl]
          exact ay_qs (e' := .inr (.inl (4, n, ay_u f i.toNat (qq + 2)))) hl hE rfl hB ha q
        · cases q
      · cases q
    · rename_i i a r
      split at q
      · rename_i n f ha
        split at q
        · rename_i hc
          show ay_Q (match ax_at g (σ a) with | some (.inr (.inl (4, n, f))) => _ | _ => none) _ _ _ _ _ _ _ _
          rw [hE.1 a _ ha]
          show ay_Q (if 0 ≤ i ∧ i < (n : Int) then ay_ret (pc + 1) lb (r.map (ay_rv σ)) (g.set (σ a) (.inr (.inl (4, n, ay_u (fun j => ay_rn σ (f j)) i.toNat 0)))) else none) _ _ _ _ _ _ _ _
          rw [if_pos hc, show ay_u (fun j => ay_rn σ (f j)) i.toNat 0 = fun j => ay_rn σ (ay_u f i.toNat 0 j) from by funext j; unfold ay_u; split <;> rfl]
          exact ay_qs (e' := .inr (.inl (4, n, ay_u f i.toNat 0))) hl hE rfl hB ha q
        · cases q
      · cases q
    · cases q
  case arraylength =>
    unfold ay_step at q; dsimp only at q
    split at q
    · exact ay_qf hl hE rfl q
    · rename_i a r
      split at q
      · rename_i t n f ha
        show ay_Q (match ax_at g (σ a) with | some (.inl (_, n, _)) => _ | some (.inr (.inl (_, n, _))) => _ | _ => none) _ _ _ _ _ _ _ _
        rw [hE.1 a _ ha]; exact ay_qf hl hE rfl q
      · rename_i t n f ha
        show ay_Q (match ax_at g (σ a) with | some (.inl (_, n, _)) => _ | some (.inr (.inl (_, n, _))) => _ | _ => none) _ _ _ _ _ _ _ _
        rw [hE.1 a _ ha]; exact ay_qf hl hE rfl q
      · cases q
    · cases q
  case new j =>
    rcases ax_bif_s q with ⟨hb, hk⟩ | ⟨_, hk⟩
    · have hlt : h.length < B := by cases hk; simp only [List.length_append, List.length_cons, List.length_nil] at hB; omega
      have := ay_qp (c' := rr (g.length + 2) :: st.map (ay_rv σ)) hl hE (by rw [List.map_cons]; show _ = rr (ay_rn σ (h.length + 2)) :: _; rw [ay_rn_len hE hlt]) hB hk
      rw [show ay_re σ (.inr (.inr (ax_cl (ax_own m) j, ay_f0 (ax_cl (ax_own m) j)))) = .inr (.inr (ax_cl (ax_own m) j, ay_f0 (ax_cl (ax_own m) j))) from by show Sum.inr (Sum.inr (_, (ay_f0 _).map (ay_rv σ))) = _; rw [ay_f0_rv]] at this
      show ay_Q (bif Nat.ble (ax_cl (ax_own m) j) 9 then _ else none) _ _ _ _ _ _ _ _
      rw [hb]; exact this
    · cases hk
  case newarray t =>
    obtain ⟨x, r, rfl, hk⟩ := ay_i1_s q
    split at hk
    · rename_i hc
      show ay_Q (if 0 ≤ x ∧ x < 1000000 then _ else none) _ _ _ _ _ _ _ _
      rw [if_pos hc]
      cases t <;> first
        | (have hlt : h.length < B := by cases hk; simp only [List.length_append, List.length_cons, List.length_nil] at hB; omega
           exact ay_qp (c' := rr (g.length + 2) :: r.map (ay_rv σ)) hl hE (by rw [List.map_cons]; show _ = rr (ay_rn σ (h.length + 2)) :: _; rw [ay_rn_len hE hlt]) hB hk)
        | cases hk
    · cases hk
  case anewarray j =>
    obtain ⟨x, r, rfl, hk⟩ := ay_i1_s q
    split at hk
    · rename_i hc
      show ay_Q (if 0 ≤ x ∧ x < 1000000 then _ else none) _ _ _ _ _ _ _ _
      rw [if_pos hc]
      split at hk
      · rename_i hcl
        have hlt : h.length < B := by cases hk; simp only [List.length_append, List.length_cons, List.length_nil] at hB; omega
        exact ay_qp (c' := rr (g.length + 2) :: r.map (ay_rv σ)) hl hE (by rw [List.map_cons]; show _ = rr (ay_rn σ (h.length + 2)) :: _; rw [ay_rn_len hE hlt]) hB hk
      · rename_i hcl
        have hlt : h.length < B := by cases hk; simp only [List.length_append, List.length_cons, List.length_nil] at hB; omega
        exact ay_qp (c' := rr (g.length + 2) :: r.map (ay_rv σ)) hl hE (by rw [List.map_cons]; show _ = rr (ay_rn σ (h.length + 2)) :: _; rw [ay_rn_len hE hlt]) hB hk
      · cases hk
    · cases hk
  case checkcast j =>
    rcases ax_bif_s q with ⟨hb, hk⟩ | ⟨_, hk⟩
    · show ay_Q (bif Nat.beq (ax_cl (ax_own m) j) 98 then _ else none) _ _ _ _ _ _ _ _
      rw [hb]
      split at hk
      · split at hk
        · rename_i a r _ n f ha
          show ay_Q (match ax_at g (σ a) with | some (.inl (0, _, _)) => _ | _ => none) _ _ _ _ _ _ _ _
          rw [hE.1 a _ ha]; exact ay_qf hl hE rfl hk
        · cases hk
      · cases hk
    · cases hk
theorem ay_rn_id (k : Nat) : ay_rn (fun k => k) k = k := by match k with
  | 0 => rfl
  | 1 => rfl
  | k + 2 => rfl
theorem ay_rv_id (v : bV) : ay_rv (fun k => k) v = v := by
  rcases v with x | x | x | x
  · rfl
  · rfl
  · show rr (ay_rn _ x) = _; rw [ay_rn_id]
  · rfl
theorem ay_map_id : ∀ l : List bV, l.map (ay_rv fun k => k) = l
  | [] => rfl
  | v :: t => by rw [List.map_cons, ay_rv_id, ay_map_id t]
theorem ay_re_id (e : bE) : ay_re (fun k => k) e = e := by
  rcases e with e | ⟨t, n, f⟩ | ⟨ci, fs⟩
  · rfl
  · show Sum.inr (Sum.inl (t, n, fun j => ay_rn _ (f j))) = _
    rw [show (fun j => ay_rn (fun k => k) (f j)) = f from funext fun j => ay_rn_id _]
  · show Sum.inr (Sum.inr (ci, fs.map _)) = _; rw [ay_map_id]
theorem ay_Em_id (B : Nat) (h : bH) : ay_Em (fun k => k) B h h := ⟨fun k e q => by rw [ay_re_id]; exact q, fun _ _ _ _ q => q, fun k hk _ => by show k = _; omega⟩
theorem ay_LR_id : ∀ l : List bV, ay_LR (fun k => k) l l
  | [] => trivial
  | v :: t => ⟨Or.inr (ay_rv_id v).symm, ay_LR_id t⟩
theorem ay_step_len {i : Instr} (q : ay_step X m pc i ls st h ay_ret = some (pc', ls1, st1, h1)) : h.length ≤ h1.length := by
  obtain ⟨_, _, _, _, _, f⟩ := ay_step_em (ay_Em_id h1.length h) (ay_LR_id ls) (Nat.le_refl _) q
  exact f.1
theorem ay_elq_em (hE : ay_Em σ B h g) {f : Nat → Nat} {sp : Nat} : ∀ n, ay_elq h f sp n = true → ay_elq g (fun j => ay_rn σ (f j)) sp n = true
  | 0, _ => rfl
  | n + 1, q => by
    have q : (ay_elq h f sp n && _) = true := q
    rw [Bool.and_eq_true] at q
    obtain ⟨q1, q2⟩ := q
    show (ay_elq g (fun j => ay_rn σ (f j)) sp n && (match ay_rn σ (f (sp + n)) with | 0 => true | 1 => false | q + 2 => match ax_at g q with | some (.inr (.inr (5, _))) => true | _ => false)) = true
    rw [Bool.and_eq_true]
    refine ⟨ay_elq_em hE n q1, ?_⟩
    generalize f (sp + n) = x at q2
    match x, q2 with
    | 0, _ => rfl
    | 1, q2 => cases q2
    | y + 2, q2 =>
      have q2 : (match ax_at h y with | some (.inr (.inr (5, _))) => true | _ => false) = true := q2
      show (match ax_at g (σ y) with | some (.inr (.inr (5, _))) => true | _ => false) = true
      split at q2
      · rename_i ha; rw [hE.1 y _ ha]; rfl
      · cases q2
set_option maxHeartbeats 8000000 in
theorem ay_prim_em {q : Nat} (hE : ay_Em σ B h g) (hl : ay_LR σ ls lb) (hB : h1.length ≤ B) (e : ay_prim pc q ls st h ay_ret = some (pc', ls1, st1, h1)) : ay_Q (ay_prim pc q lb (st.map (ay_rv σ)) g ay_ret) σ B h g pc' ls1 st1 h1 := by
  unfold ay_prim at e ⊢
  split at e
  · split at e
    · rename_i x r
      have : ay_rn σ (x + 1) = ay_rn σ (x + 1) - 1 + 1 := by
        have : ay_rn σ (x + 1) ≠ 0 := fun z => by have := ay_rn0.mp z; omega
        omega
      show ay_Q (match (rr (ay_rn σ (x + 1)) :: r.map (ay_rv σ)) with | .inr (.inr (.inl (_ + 1))) :: r => _ | _ => none) _ _ _ _ _ _ _ _
      rw [this]; exact ay_qf hl hE rfl e
    · cases e
  · split at e
    · rename_i n dp d sp a r
      split at e
      · rename_i n1 f n2 g' ha hd
        split at e
        · rename_i hc
          show ay_Q (match ax_at g (σ a), ax_at g (σ d) with | some (.inl (0, n1, f)), some (.inl (0, n2, g)) => _ | some (.inr (.inl (4, n1, f))), some (.inr (.inl (4, n2, g))) => _ | _, _ => none) _ _ _ _ _ _ _ _
          rw [hE.1 a _ ha, hE.1 d _ hd]
          show ay_Q (if 0 ≤ n ∧ 0 ≤ sp ∧ 0 ≤ dp ∧ sp + n ≤ (n1 : Int) ∧ dp + n ≤ (n2 : Int) then _ else none) _ _ _ _ _ _ _ _
          rw [if_pos hc]; exact ay_qs hl hE rfl hB hd e
        · cases e
      · rename_i n1 f n2 g' ha hd
        split at e
        · rename_i hc
          rcases ax_bif_s e with ⟨hb, e⟩ | ⟨_, e⟩
          · show ay_Q (match ax_at g (σ a), ax_at g (σ d) with | some (.inl (0, n1, f)), some (.inl (0, n2, g)) => _ | some (.inr (.inl (4, n1, f))), some (.inr (.inl (4, n2, g))) => _ | _, _ => none) _ _ _ _ _ _ _ _
            rw [hE.1 a _ ha, hE.1 d _ hd]
            show ay_Q (if 0 ≤ n ∧ 0 ≤ sp ∧ 0 ≤ dp ∧ sp + n ≤ (n1 : Int) ∧ dp + n ≤ (n2 : Int) then (bif ay_elq g (fun j => ay_rn σ (f j)) sp.toNat n.toNat then ay_ret (pc + 3) lb (r.map (ay_rv σ)) (g.set (σ d) (.inr (.inl (4, n2, ay_cpy (fun j => ay_rn σ (f j)) (fun j => ay_rn σ (g' j)) sp.toNat dp.toNat n.toNat)))) else none) else none) _ _ _ _ _ _ _ _
            rw [if_pos hc, ay_elq_em hE _ hb, cond_true, show ay_cpy (fun j => ay_rn σ (f j)) (fun j => ay_rn σ (g' j)) sp.toNat dp.toNat n.toNat = fun j => ay_rn σ (ay_cpy f g' sp.toNat dp.toNat n.toNat j) from by funext j; unfold ay_cpy; split <;> rfl]
            exact ay_qs (e' := .inr (.inl (4, n2, ay_cpy f g' sp.toNat dp.toNat n.toNat))) hl hE rfl hB hd e
          · cases e
        · cases e
      · cases e
    · cases e
  · split at e
    · rename_i s r
      rcases ax_bif_s e with ⟨hb, e⟩ | ⟨_, e⟩
      · show ay_Q (bif Nat.ble s 1 then _ else none) _ _ _ _ _ _ _ _
        rw [hb]; exact ay_qf hl hE rfl e
      · cases e
    · cases e
  · split at e
    · rename_i i s r
      rcases ax_bif_s e with ⟨hb, e⟩ | ⟨_, e⟩
      · split at e
        · rename_i hc
          show ay_Q (bif Nat.ble s 1 then (if 0 ≤ i ∧ i < ((ax_str s).length : Int) then _ else none) else none) _ _ _ _ _ _ _ _
          rw [hb, cond_true, if_pos hc]; exact ay_qf hl hE rfl e
        · cases e
      · cases e
    · cases e
  · split at e
    · rename_i i s r
      rcases ax_bif_s e with ⟨hb, e⟩ | ⟨_, e⟩
      · split at e
        · rename_i hc
          show ay_Q (bif Nat.ble s 1 then (if 0 ≤ i ∧ i < 256 then _ else none) else none) _ _ _ _ _ _ _ _
          rw [hb, cond_true, if_pos hc]; exact ay_qf hl hE rfl e
        · cases e
      · cases e
    · cases e
  · split at e
    · split at e
      · rename_i a r _ n f ha
        have hlt : h.length < B := by cases e; simp only [List.length_append, List.length_cons, List.length_nil] at hB; omega
        show ay_Q (match ax_at g (σ a) with | some (.inl (0, n, f)) => _ | _ => none) _ _ _ _ _ _ _ _
        rw [hE.1 a _ ha]
        exact ay_qp (c' := rr (g.length + 2) :: r.map (ay_rv σ)) hl hE (by rw [List.map_cons]; show _ = rr (ay_rn σ (h.length + 2)) :: _; rw [ay_rn_len hE hlt]) hB e
      · cases e
    · cases e
  · obtain ⟨x, y, r, rfl, hk⟩ := ay_i2_s e; exact ay_qf hl hE rfl hk
  · obtain ⟨x, y, r, rfl, hk⟩ := ay_i2_s e; exact ay_qf hl hE rfl hk
  · obtain ⟨x, y, r, rfl, hk⟩ := ay_l2_s e; exact ay_qf hl hE rfl hk
  · obtain ⟨x, y, r, rfl, hk⟩ := ay_l2_s e; exact ay_qf hl hE rfl hk
  · cases e
theorem ay_end_em {i : Instr} {v : Option bV} (hE : ay_Em σ B h g) (e : ay_end m i st h = some (v, h1)) : ay_end m i (st.map (ay_rv σ)) g = some (v.map (ay_rv σ), g) ∧ h1 = h := by
  cases i
  case ireturn =>
    unfold ay_end at e; dsimp only at e
    split at e
    · rename_i x
      unfold ay_end; dsimp only
      show (match ax_rk m with | 1 => (some (some (.inl x), g) : bO) | 2 => if x = 0 ∨ x = 1 then (some (some (.inl x), g) : bO) else none | _ => none) = _ ∧ _
      split at e
      · rename_i hk; rw [hk]; cases e; exact ⟨rfl, rfl⟩
      · rename_i hk
        rw [hk]
        split at e
        · rename_i hx
          cases e
          show (if x = 0 ∨ x = 1 then (some (some (.inl x), g) : bO) else none) = _ ∧ _
          rw [if_pos hx]; exact ⟨rfl, rfl⟩
        · cases e
      · cases e
    · cases e
  case lreturn =>
    unfold ay_end at e; dsimp only at e
    split at e
    · rename_i x
      rcases ax_bif_s e with ⟨hb, e⟩ | ⟨_, e⟩
      · cases e
        refine ⟨?_, rfl⟩
        show (bif Nat.beq (ax_rk m) 3 then (some (some (.inr (.inl x)), g) : bO) else none) = _
        rw [hb]; rfl
      · cases e
    · cases e
  case areturn =>
    unfold ay_end at e; dsimp only at e
    split at e
    · rename_i x
      rcases ax_bif_s e with ⟨hb, e⟩ | ⟨_, e⟩
      · cases e
        refine ⟨?_, rfl⟩
        show (bif Nat.beq (ax_rk m) 4 then (some (some (rr (ay_rn σ x)), g) : bO) else none) = _
        rw [hb]; rfl
      · cases e
    · cases e
  case return_ =>
    unfold ay_end at e; dsimp only at e
    split at e
    · rcases ax_bif_s e with ⟨hb, e⟩ | ⟨_, e⟩
      · cases e
        refine ⟨?_, rfl⟩
        show (bif Nat.beq (ax_rk m) 0 then (some (none, g) : bO) else none) = _
        rw [hb]; rfl
      · cases e
    · cases e
  all_goals cases e
theorem ay_cat_rv : ∀ l : List bV, ay_cat (l.map (ay_rv σ)) = ay_cat l
  | [] => rfl
  | v :: t => by
    show (bif ay_isl (ay_rv σ v) then 2 else 1) + ay_cat (t.map (ay_rv σ)) = (bif ay_isl v then 2 else 1) + ay_cat t
    rw [ay_cat_rv t, ay_isl_rv]
theorem ay_ent_rv : ∀ l : List bV, ay_ent (l.map (ay_rv σ)) = (ay_ent l).map (ay_rv σ)
  | [] => rfl
  | v :: t => by
    have ih := ay_ent_rv t
    rcases v with x | x | x | x
    · show .inl x :: ay_ent (t.map (ay_rv σ)) = _; rw [ih]; rfl
    · show .inr (.inl x) :: b0 :: ay_ent (t.map (ay_rv σ)) = _; rw [ih]; rfl
    · show rr (ay_rn σ x) :: ay_ent (t.map (ay_rv σ)) = _; rw [ih]; rfl
    · show .inr (.inr (.inr x)) :: ay_ent (t.map (ay_rv σ)) = _; rw [ih]; rfl
theorem ay_pad_rv : ∀ (n : Nat) (l : List bV), ay_LR σ (ay_pad n l) (ay_pad n (l.map (ay_rv σ)))
  | 0, _ => trivial
  | n + 1, [] => ⟨Or.inl rfl, ay_pad_rv n []⟩
  | n + 1, v :: t => ⟨Or.inr rfl, ay_pad_rv n t⟩
theorem ay_take_em {ρ : Type} {r : ρ} : ∀ (n : Nat) (st acc : List bV) (k : List bV → List bV → Option ρ), ay_take n st acc k = some r → ∃ a b, k a b = some r ∧ ∀ {ρ' : Type} (k' : List bV → List bV → Option ρ'), ay_take n (st.map (ay_rv σ)) (acc.map (ay_rv σ)) k' = k' (a.map (ay_rv σ)) (b.map (ay_rv σ))
  | 0, st, acc, k, h => ⟨acc, st, h, fun _ => rfl⟩
  | n + 1, [], acc, k, h => by cases h
  | n + 1, v :: st, acc, k, h => by
    obtain ⟨a, b, h1, h3⟩ := ay_take_em n st (v :: acc) k h
    exact ⟨a, b, h1, fun k' => h3 k'⟩
theorem ay_recv_em {ρ : Type} {r : ρ} {c : Nat} {As : List bV} {t : Option ρ} (hE : ay_Em σ B h g) (e : ay_recv h c As t = some r) : t = some r ∧ ∀ {ρ' : Type} (t' : Option ρ'), ay_recv g c (As.map (ay_rv σ)) t' = t' := by
  unfold ay_recv at e
  split at e
  · split at e
    · rename_i a r' _ ci fs ha
      rcases ax_bif_s e with ⟨hb, e⟩ | ⟨_, e⟩
      · refine ⟨e, fun t' => ?_⟩
        show (match ax_at g (σ a) with | some (.inr (.inr (ci, _))) => bif Nat.beq ci (ax_own c) then t' else none | _ => none) = t'
        rw [hE.1 a _ ha]
        show (bif Nat.beq ci (ax_own c) then t' else none) = t'
        rw [hb]; rfl
      · cases e
    · cases e
  · cases e
end
theorem ay_prim_len {q pc pc' : Nat} {ls st ls1 st1 : List bV} {h h1 : bH} (e : ay_prim pc q ls st h ay_ret = some (pc', ls1, st1, h1)) : h.length ≤ h1.length := by
  obtain ⟨_, _, _, _, _, f⟩ := ay_prim_em (ay_Em_id h1.length h) (ay_LR_id ls) (Nat.le_refl _) e
  exact f.1
/-- a run's parts -/
theorem ay_run_inv {X : Nat × (Nat → Int)} {n d m pc : Nat} {ls st : List bV} {h : bH} {r : Option bV × bH} (e : ay_run X (n + 1) d m pc ls st h = some r) : (∃ i a b c g, ax_fetch m pc = some i ∧ ax_call i = 0 ∧ ay_step X m pc i ls st h ay_ret = some (a, b, c, g) ∧ ay_run X n d m a b c g = some r) ∨ (∃ i, ax_fetch m pc = some i ∧ ax_call i = 1 ∧ ay_end m i st h = some r) ∨ (∃ i j a b c g, ax_fetch m pc = some i ∧ ax_call i = j + 2 ∧ Nat.beq (ax_iv i) (ax_kk (ax_lk (ax_own m) j).1 (ax_lk (ax_own m) j).2) = true ∧ Nat.beq (ax_lk (ax_own m) j).1 5 = true ∧ (Nat.ble (ay_cat st) 9 && Nat.ble (ax_pl (ax_lk (ax_own m) j).2) (ax_lvl m)) = true ∧ ay_prim pc (ax_lk (ax_own m) j).2 ls st h ay_ret = some (a, b, c, g) ∧ ay_run X n d m a b c g = some r) ∨ (∃ i j, ax_fetch m pc = some i ∧ ax_call i = j + 2 ∧ Nat.beq (ax_iv i) (ax_kk (ax_lk (ax_own m) j).1 (ax_lk (ax_own m) j).2) = true ∧ Nat.beq (ax_lk (ax_own m) j).1 5 = false ∧ Nat.ble (ax_lk (ax_own m) j).1 4 = true ∧ (ay_take (ax_na (ax_lk (ax_own m) j).2) st [] fun As r => bif Nat.ble (ay_cat r) 8 then (bif ax_inst (ax_lk (ax_own m) j).1 then ay_recv h (ax_lk (ax_own m) j).2 As (ay_into (ay_run X n) d m pc ls (ax_lk (ax_own m) j).2 As r h) else ay_into (ay_run X n) d m pc ls (ax_lk (ax_own m) j).2 As r h) else none) = some r) := by
  have e : (match ax_fetch m pc with | none => none | some i => _) = _ := e
  cases hf : ax_fetch m pc with
  | none => rw [hf] at e; cases e
  | some i =>
    rw [hf] at e
    dsimp only at e
    match hc : ax_call i with
    | 0 =>
      rw [hc] at e
      dsimp only at e
      rw [ay_step_b] at e
      obtain ⟨a, b, c, g, e1, e2⟩ := ay_bind e
      exact Or.inl ⟨i, a, b, c, g, rfl, hc, e1, e2⟩
    | 1 =>
      rw [hc] at e
      exact Or.inr (Or.inl ⟨i, rfl, hc, e⟩)
    | j + 2 =>
      rw [hc] at e
      dsimp only at e
      rcases ax_bif_s e with ⟨hb, e⟩ | ⟨_, e⟩
      · rcases ax_bif_s e with ⟨h5, e⟩ | ⟨h5, e⟩
        · rcases ax_bif_s e with ⟨hg, e⟩ | ⟨_, e⟩
          · rw [ay_prim_b] at e
            obtain ⟨a, b, c, g, e1, e2⟩ := ay_bind e
            exact Or.inr (Or.inr (Or.inl ⟨i, j, a, b, c, g, rfl, hc, hb, h5, hg, e1, e2⟩))
          · cases e
        · rcases ax_bif_s e with ⟨h4, e⟩ | ⟨_, e⟩
          · exact Or.inr (Or.inr (Or.inr ⟨i, j, rfl, hc, hb, h5, h4, e⟩))
          · cases e
      · cases e
theorem ay_into_inv {X : Nat × (Nat → Int)} {n d m pc c : Nat} {ls As r : List bV} {h : bH} {q : Option bV × bH} (e : ay_into (ay_run X n) d m pc ls c As r h = some q) : Nat.ble (ay_ent As).length (ax_maxL c) = true ∧ ∃ d' w g, ay_run X n d' c 0 (ay_pad (ax_maxL c) (ay_ent As)) [] h = some (w, g) ∧ ay_run X n d m (pc + 3) ls (w.toList ++ r) g = some q ∧ ∀ (ls2 As2 r2 : List bV) (h2 : bH), (ay_ent As2).length = (ay_ent As).length → ay_into (ay_run X n) d m pc ls2 c As2 r2 h2 = ay_cont (ay_run X n d' c 0 (ay_pad (ax_maxL c) (ay_ent As2)) [] h2) (fun v h => ay_run X n d m (pc + 3) ls2 (v.toList ++ r2) h) := by
  unfold ay_into at e
  rcases ax_bif_s e with ⟨hle, e⟩ | ⟨_, e⟩
  · refine ⟨hle, ?_⟩
    have fin : ∀ {d' : Nat}, ay_cont (ay_run X n d' c 0 (ay_pad (ax_maxL c) (ay_ent As)) [] h) (fun v h => ay_run X n d m (pc + 3) ls (v.toList ++ r) h) = some q → ∃ w g, ay_run X n d' c 0 (ay_pad (ax_maxL c) (ay_ent As)) [] h = some (w, g) ∧ ay_run X n d m (pc + 3) ls (w.toList ++ r) g = some q := by
      intro d' e
      cases hr : ay_run X n d' c 0 (ay_pad (ax_maxL c) (ay_ent As)) [] h with
      | none => rw [hr] at e; cases e
      | some z => rw [hr] at e; exact ⟨z.1, z.2, rfl, e⟩
    rcases hbl : Nat.ble (ax_lvl m) (ax_lvl c) with _ | _
    · rw [hbl] at e
      obtain ⟨w, g, e1, e2⟩ := fin e
      refine ⟨d, w, g, e1, e2, fun ls2 As2 r2 h2 hlen => ?_⟩
      unfold ay_into
      rw [hlen, hle, hbl]; rfl
    · rw [hbl] at e
      cases d with
      | zero => cases e
      | succ d =>
        obtain ⟨w, g, e1, e2⟩ := fin e
        refine ⟨d, w, g, e1, e2, fun ls2 As2 r2 h2 hlen => ?_⟩
        unfold ay_into
        rw [hlen, hle, hbl]; rfl
  · cases e
theorem ay_run_len {X : Nat × (Nat → Int)} : ∀ (n d m pc : Nat) (ls st : List bV) (h : bH) (v : Option bV) (h1 : bH), ay_run X n d m pc ls st h = some (v, h1) → h.length ≤ h1.length := by
  intro n
  induction n with
  | zero => intro d m pc ls st h v h1 e; cases e
  | succ n ih =>
    intro d m pc ls st h v h1 e
    rcases ay_run_inv e with ⟨i, a, b, c, g, _, _, e1, e2⟩ | ⟨i, _, _, e1⟩ | ⟨i, j, a, b, c, g, _, _, _, _, _, e1, e2⟩ | ⟨i, j, _, _, _, _, _, e⟩
    · exact Nat.le_trans (ay_step_len e1) (ih _ _ _ _ _ _ _ _ e2)
    · rw [(ay_end_em (ay_Em_id 0 h) e1).2]; exact Nat.le_refl _
    · exact Nat.le_trans (ay_prim_len e1) (ih _ _ _ _ _ _ _ _ e2)
    · obtain ⟨As, r, e, _⟩ := ay_take_em (σ := fun k => k) _ _ _ _ e
      rcases ax_bif_s e with ⟨_, e⟩ | ⟨_, e⟩
      · have into : ay_into (ay_run X n) d m pc ls (ax_lk (ax_own m) j).2 As r h = some (v, h1) → h.length ≤ h1.length := fun e => by
          obtain ⟨_, d', w, g, e1, e2, _⟩ := ay_into_inv e
          exact Nat.le_trans (ih _ _ _ _ _ _ _ _ e1) (ih _ _ _ _ _ _ _ _ e2)
        rcases ax_bif_s e with ⟨_, e⟩ | ⟨_, e⟩
        · exact into (ay_recv_em (ay_Em_id 0 h) e).1
        · exact into e
      · cases e
theorem ay_run_em {X : Nat × (Nat → Int)} {σ : Nat → Nat} {B : Nat} : ∀ (n d m pc : Nat) (ls lb st : List bV) (h g : bH) (v : Option bV) (h1 : bH), ay_Em σ B h g → ay_LR σ ls lb → h1.length ≤ B → ay_run X n d m pc ls st h = some (v, h1) → ∃ g1, ay_run X n d m pc lb (st.map (ay_rv σ)) g = some (v.map (ay_rv σ), g1) ∧ ay_Em σ B h1 g1 ∧ ay_Fr σ h g h1 g1 := by
  intro n
  induction n with
  | zero => intro d m pc ls lb st h g v h1 _ _ _ e; cases e
  | succ n ih =>
    intro d m pc ls lb st h g v h1 hE hl hB e
    rcases ay_run_inv e with ⟨i, a, b, c, h2, hf, hc, e1, e2⟩ | ⟨i, hf, hc, e1⟩ | ⟨i, j, a, b, c, h2, hf, hc, hb, h5, hg, e1, e2⟩ | ⟨i, j, hf, hc, hb, h5, h4, e⟩
    · have l2 := ay_run_len _ _ _ _ _ _ _ _ _ e2
      obtain ⟨b2, g2, q1, q2, q3, q4⟩ := ay_step_em hE hl (by omega) e1
      obtain ⟨g1, r1, r2, r3⟩ := ih d m a b b2 c h2 g2 v h1 q3 q2 hB e2
      refine ⟨g1, ?_, r2, q4.tr r3 hE (by omega)⟩
      show (match ax_fetch m pc with | none => none | some i => _) = _
      rw [hf]
      dsimp only
      rw [hc]
      dsimp only
      rw [ay_step_b, q1]
      exact r1
    · obtain ⟨q1, rfl⟩ := ay_end_em hE e1
      refine ⟨g, ?_, hE, ay_Fr.rf⟩
      show (match ax_fetch m pc with | none => none | some i => _) = _
      rw [hf]
      dsimp only
      rw [hc]
      exact q1
    · have l2 := ay_run_len _ _ _ _ _ _ _ _ _ e2
      obtain ⟨b2, g2, q1, q2, q3, q4⟩ := ay_prim_em hE hl (by omega) e1
      obtain ⟨g1, r1, r2, r3⟩ := ih d m a b b2 c h2 g2 v h1 q3 q2 hB e2
      refine ⟨g1, ?_, r2, q4.tr r3 hE (by omega)⟩
      show (match ax_fetch m pc with | none => none | some i => _) = _
      rw [hf]
      dsimp only
      rw [hc]
      dsimp only
      rw [hb, cond_true, h5, cond_true, ay_cat_rv, hg, cond_true, ay_prim_b, q1]
      exact r1
    · obtain ⟨As, r, e, ht⟩ := ay_take_em (σ := σ) _ _ _ _ e
      rcases ax_bif_s e with ⟨h8, e⟩ | ⟨_, e⟩
      · have into : ay_into (ay_run X n) d m pc ls (ax_lk (ax_own m) j).2 As r h = some (v, h1) → ∃ g1, ay_into (ay_run X n) d m pc lb (ax_lk (ax_own m) j).2 (As.map (ay_rv σ)) (r.map (ay_rv σ)) g = some (v.map (ay_rv σ), g1) ∧ ay_Em σ B h1 g1 ∧ ay_Fr σ h g h1 g1 := fun e => by
          obtain ⟨hle, d', w, h2, e1, e2, hin⟩ := ay_into_inv e
          have l2 := ay_run_len _ _ _ _ _ _ _ _ _ e2
          obtain ⟨g2, q1, q3, q4⟩ := ih d' _ 0 _ _ [] h g w h2 hE (ay_pad_rv (σ := σ) (ax_maxL (ax_lk (ax_own m) j).2) (ay_ent As)) (by omega) e1
          obtain ⟨g1, r1, r2, r3⟩ := ih d m (pc + 3) ls lb (w.toList ++ r) h2 g2 v h1 q3 hl hB e2
          refine ⟨g1, ?_, r2, q4.tr r3 hE (by omega)⟩
          rw [hin lb (As.map (ay_rv σ)) (r.map (ay_rv σ)) g (by rw [ay_ent_rv, List.length_map]), ay_ent_rv]
          have q1 : ay_run X n d' (ax_lk (ax_own m) j).2 0 (ay_pad (ax_maxL (ax_lk (ax_own m) j).2) ((ay_ent As).map (ay_rv σ))) [] g = _ := q1
          rw [q1]
          show ay_run X n d m (pc + 3) lb ((w.map (ay_rv σ)).toList ++ r.map (ay_rv σ)) g2 = _
          rw [show (w.map (ay_rv σ)).toList ++ r.map (ay_rv σ) = (w.toList ++ r).map (ay_rv σ) from by cases w <;> rfl]
          exact r1
        have top : ∀ {t : bO}, t = (bif ax_inst (ax_lk (ax_own m) j).1 then ay_recv g (ax_lk (ax_own m) j).2 (As.map (ay_rv σ)) (ay_into (ay_run X n) d m pc lb (ax_lk (ax_own m) j).2 (As.map (ay_rv σ)) (r.map (ay_rv σ)) g) else ay_into (ay_run X n) d m pc lb (ax_lk (ax_own m) j).2 (As.map (ay_rv σ)) (r.map (ay_rv σ)) g) → ay_run X (n + 1) d m pc lb (st.map (ay_rv σ)) g = t := by
          intro t et
          show (match ax_fetch m pc with | none => none | some i => _) = _
          rw [hf]
          dsimp only
          rw [hc]
          dsimp only
          rw [hb, cond_true, h5, cond_false, h4, cond_true, show ([] : List bV) = ([] : List bV).map (ay_rv σ) from rfl, ht, ay_cat_rv, h8, cond_true, et]
        rcases ax_bif_s e with ⟨hi, e⟩ | ⟨hi, e⟩
        · obtain ⟨e, hr⟩ := ay_recv_em hE e
          obtain ⟨g1, p1, p2⟩ := into e
          exact ⟨g1, top (by rw [hi, cond_true, hr, p1]), p2⟩
        · obtain ⟨g1, p1, p2⟩ := into e
          exact ⟨g1, top (by rw [hi, cond_false, p1]), p2⟩
      · cases e
theorem ay_ext {α : Type} : ∀ {l l' : List α}, l.length = l'.length → (∀ j, j < l.length → ax_at l j = ax_at l' j) → l = l' := by
  intro l l' hl h
  apply List.ext_getElem? 
  intro j
  by_cases hj : j < l.length
  · have := h j hj
    rw [ax_at_eq, ax_at_eq] at this
    exact this
  · rw [List.getElem?_eq_none (by omega), List.getElem?_eq_none (by omega)]
theorem ay_weak {X : Nat × (Nat → Int)} {d m pc : Nat} {ls ls' st : List bV} {h : bH} (q : lsLe ls ls') (n : Nat) (r : Option bV × bH) (e : ay_run X n d m pc ls st h = some r) : ay_run X n d m pc ls' st h = some r := by
  have hl : ∀ {a b : List bV}, lsLe a b → ay_LR (fun k => k) a b := by
    intro a
    induction a with
    | nil => intro b q; cases b with
      | nil => trivial
      | cons _ _ => exact q
    | cons x s ih => intro b q; cases b with
      | nil => exact q
      | cons y t => exact ⟨q.1.imp (fun z => z) (fun z => by rw [ay_rv_id]; exact z.symm), ih q.2⟩
  obtain ⟨v, h1⟩ := r
  obtain ⟨g1, e1, e2, e3⟩ := ay_run_em n d m pc ls ls' st h h v h1 (ay_Em_id h1.length h) (hl q) (Nat.le_refl _) e
  rw [ay_map_id] at e1
  have hv : v.map (ay_rv fun k => k) = v := by cases v with
    | none => rfl
    | some w => show some (ay_rv _ w) = _; rw [ay_rv_id]
  rw [hv] at e1
  have hg : g1 = h1 := by
    have l1 := e3.1; have l2 := e3.2.1
    refine ay_ext (by omega) (fun j hj => ?_)
    cases hx : ax_at h1 j with
    | none => rw [ax_at_eq, List.getElem?_eq_none_iff] at hx; omega
    | some x => rw [e2.1 j x hx, ay_re_id]
  rw [e1, hg]
/-- cells put at places -/
def ay_puts : bH → List Nat → bH → bH
  | g, [], _ => g
  | g, _ :: _, [] => g
  | g, p :: ps, e :: es => ay_puts (g.set p e) ps es
theorem ay_puts_len : ∀ (ps : List Nat) (es g : bH), (ay_puts g ps es).length = g.length
  | [], es, _ => by cases es <;> rfl
  | _ :: _, [], _ => rfl
  | p :: ps, e :: es, g => by show (ay_puts (g.set p e) ps es).length = _; rw [ay_puts_len ps es, List.length_set]
theorem ay_puts_ne : ∀ (ps : List Nat) (es g : bH) (j : Nat), j ∉ ps → ax_at (ay_puts g ps es) j = ax_at g j
  | [], es, _, _, _ => by cases es <;> rfl
  | _ :: _, [], _, _, _ => rfl
  | p :: ps, e :: es, g, j, h => by
    show ax_at (ay_puts (g.set p e) ps es) j = _
    rw [ay_puts_ne ps es _ j (fun q => h (List.mem_cons_of_mem _ q)), ay_at_set_ne (fun q => h (by rw [q]; exact List.mem_cons_self ..))]
theorem ay_puts_eq : ∀ (ps : List Nat) (es g : bH) (k p : Nat) (e : bE), ps.Nodup → ax_at ps k = some p → ax_at es k = some e → p < g.length → ax_at (ay_puts g ps es) p = some e
  | [], _, _, _, _, _, _, h, _, _ => by cases h
  | _ :: _, [], _, _, _, _, _, _, h, _ => by cases h
  | q :: ps, x :: es, g, 0, p, e, hn, h1, h2, hp => by
    cases h1; cases h2
    show ax_at (ay_puts (g.set q x) ps es) q = _
    rw [ay_puts_ne ps es _ q (List.nodup_cons.mp hn).1]
    cases hg : ax_at g q with
    | none => rw [ax_at_eq, List.getElem?_eq_none_iff] at hg; omega
    | some y => exact ay_at_set_eq hg
  | q :: ps, x :: es, g, k + 1, p, e, hn, h1, h2, hp => by
    exact ay_puts_eq ps es (g.set q x) k p e (List.nodup_cons.mp hn).2 h1 h2 (by rw [List.length_set]; exact hp)
/-- where the cells are, and new ones -/
def ay_sg (ps : List Nat) (N : Nat) (k : Nat) : Nat := match ax_at ps k with
  | some p => p
  | none => N + (k - ps.length)
theorem Sim.lift {α : Type} {E E' : α → Option bV × bH} {F : Option α} {X : Nat × (Nat → Int)} {d m : Nat} {ls lb st sb : List bV} {pc : Nat} {h g : bH} (ps : List Nat) (hn : ps.Nodup) (hlen : ps.length = h.length) (hlt : ∀ p ∈ ps, p < g.length) (hem : ∀ k e, ax_at h k = some e → ax_at g (ay_sg ps g.length k) = some (ay_re (ay_sg ps g.length) e)) (hls : ay_LR (ay_sg ps g.length) ls lb) (hst : sb = st.map (ay_rv (ay_sg ps g.length))) (hres : ∀ a, (E a).2.length = h.length ∧ E' a = ((E a).1.map (ay_rv (ay_sg ps g.length)), ay_puts g ps ((E a).2.map (ay_re (ay_sg ps g.length))))) (P : Sim E F (rn X d m pc ls st h)) : Sim E' F (rn X d m pc lb sb g) := fun a q => by
  obtain ⟨N, hN⟩ := P a q
  refine ⟨N, fun j => ?_⟩
  subst hst
  obtain ⟨r1, r2⟩ := hres a
  have sg : ∀ {k p : Nat}, ax_at ps k = some p → ay_sg ps g.length k = p := fun {k p} z => by unfold ay_sg; rw [z]
  have atp : ∀ k, k < ps.length → ∃ p, ax_at ps k = some p ∧ p ∈ ps := fun k hk => by
    cases hx : ax_at ps k with
    | none => rw [ax_at_eq, List.getElem?_eq_none_iff] at hx; omega
    | some p => exact ⟨p, rfl, ay_at_mem hx⟩
  have hE : ay_Em (ay_sg ps g.length) h.length h g := by
    refine ⟨hem, fun i k hi hk e => ?_, fun k hk hk2 => by omega⟩
    obtain ⟨p, hp, _⟩ := atp i (by omega)
    obtain ⟨p', hp', _⟩ := atp k (by omega)
    rw [sg hp, sg hp'] at e
    subst e
    rw [ax_at_eq] at hp hp'
    exact (List.getElem?_inj (by omega) hn).mp (hp.trans hp'.symm)
  obtain ⟨g1, e1, e2, e3⟩ := ay_run_em (j + N) d m pc ls lb st h g (E a).1 (E a).2 hE hls (by omega) (hN j)
  show ay_run X (j + N) d m pc lb _ g = _
  rw [e1, r2]
  congr 1
  have l1 := e3.1; have l2 := e3.2.1
  refine Prod.ext rfl ?_
  show g1 = _
  refine ay_ext (by rw [ay_puts_len]; omega) (fun i hi => ?_)
  by_cases hip : i ∈ ps
  · obtain ⟨k, hk, rfl⟩ := List.mem_iff_getElem.mp hip
    have hp : ax_at ps k = some ps[k] := by rw [ax_at_eq, List.getElem?_eq_getElem hk]
    cases hx : ax_at (E a).2 k with
    | none => rw [ax_at_eq, List.getElem?_eq_none_iff] at hx; omega
    | some x =>
      have := e2.1 k x hx
      rw [sg hp] at this
      rw [this]
      exact (ay_puts_eq ps _ g k ps[k] _ hn hp (by rw [ay_at_map, hx]; rfl) (hlt _ hip)).symm
  · rw [ay_puts_ne ps _ _ i hip]
    refine e3.2.2 i (by omega) (fun k hk e => hip ?_)
    obtain ⟨p, hp, hm⟩ := atp k (by omega)
    rw [sg hp] at e
    rw [← e]; exact hm

