/-! Steps as data for the machine over whole numbers; its runs are runs. -/
section
variable {ρ σ : Type} {K : σ → Option ρ}
theorem ay_i1_b {st : List bV} {k : Int → List bV → Option ρ} {k0 : Int → List bV → Option σ} (h : ∀ x r, k x r = (k0 x r).bind K) : ay_i1 st k = (ay_i1 st k0).bind K := by
  unfold ay_i1; split <;> first | exact h _ _ | rfl
theorem ay_i2_b {st : List bV} {k : Int → Int → List bV → Option ρ} {k0 : Int → Int → List bV → Option σ} (h : ∀ x y r, k x y r = (k0 x y r).bind K) : ay_i2 st k = (ay_i2 st k0).bind K := by
  unfold ay_i2; split <;> first | exact h _ _ _ | rfl
theorem ay_l1_b {st : List bV} {k : Int → List bV → Option ρ} {k0 : Int → List bV → Option σ} (h : ∀ x r, k x r = (k0 x r).bind K) : ay_l1 st k = (ay_l1 st k0).bind K := by
  unfold ay_l1; split <;> first | exact h _ _ | rfl
theorem ay_l2_b {st : List bV} {k : Int → Int → List bV → Option ρ} {k0 : Int → Int → List bV → Option σ} (h : ∀ x y r, k x y r = (k0 x y r).bind K) : ay_l2 st k = (ay_l2 st k0).bind K := by
  unfold ay_l2; split <;> first | exact h _ _ _ | rfl
theorem ay_li_b {st : List bV} {k : Int → Int → List bV → Option ρ} {k0 : Int → Int → List bV → Option σ} (h : ∀ x y r, k x y r = (k0 x y r).bind K) : ay_li st k = (ay_li st k0).bind K := by
  unfold ay_li; split <;> first | exact h _ _ _ | rfl
theorem ay_ldi_b {ls : List bV} {i : Nat} {k : Int → Option ρ} {k0 : Int → Option σ} (h : ∀ x, k x = (k0 x).bind K) : ay_ldi ls i k = (ay_ldi ls i k0).bind K := by
  unfold ay_ldi; split <;> first | exact h _ | rfl
theorem ay_ldl_b {ls : List bV} {i : Nat} {k : Int → Option ρ} {k0 : Int → Option σ} (h : ∀ x, k x = (k0 x).bind K) : ay_ldl ls i k = (ay_ldl ls i k0).bind K := by
  unfold ay_ldl; split <;> first | exact h _ | rfl
theorem ay_lda_b {ls : List bV} {i : Nat} {k : Nat → Option ρ} {k0 : Nat → Option σ} (h : ∀ x, k x = (k0 x).bind K) : ay_lda ls i k = (ay_lda ls i k0).bind K := by
  unfold ay_lda; split <;> first | exact h _ | rfl
theorem ay_sta_b {st : List bV} {k : Nat → List bV → Option ρ} {k0 : Nat → List bV → Option σ} (h : ∀ x r, k x r = (k0 x r).bind K) : ay_sta st k = (ay_sta st k0).bind K := by
  unfold ay_sta; split <;> first | exact h _ _ | rfl
theorem ay_icmp_b {c : ClassFile.Cond} {x y : Int} {t f : Option ρ} {t0 f0 : Option σ} (h1 : t = t0.bind K) (h2 : f = f0.bind K) : ay_icmp c x y t f = (ay_icmp c x y t0 f0).bind K := by
  unfold ay_icmp; cases c <;> dsimp only <;> split <;> first | exact h1 | exact h2
theorem ay_store_b {ci j : Nat} {v : bV} {t : Option ρ} {t0 : Option σ} (h : t = t0.bind K) : ay_store ci j v t = (ay_store ci j v t0).bind K := by
  unfold ay_store; refine ax_bif_b ?_ h
  split
  · exact ax_if_b h rfl
  · rfl
theorem ay_ar_b {t : Nat} {h : bH} {st : List bV} {k : Nat → (Nat → Int) → Nat → Int → List bV → Option ρ} {k0 : Nat → (Nat → Int) → Nat → Int → List bV → Option σ} (hh : ∀ n f a i r, k n f a i r = (k0 n f a i r).bind K) : ay_ar t h st k = (ay_ar t h st k0).bind K := by
  unfold ay_ar; split
  · split
    · exact ax_bif_b (ax_if_b (hh _ _ _ _ _) rfl) rfl
    · rfl
  · rfl
theorem ay_ob_b {h : bH} {st : List bV} {k : Nat → List bV → Nat → List bV → Option ρ} {k0 : Nat → List bV → Nat → List bV → Option σ} (hh : ∀ ci fs a r, k ci fs a r = (k0 ci fs a r).bind K) : ay_ob h st k = (ay_ob h st k0).bind K := by
  unfold ay_ob; split
  · split
    · exact hh _ _ _ _
    · rfl
  · rfl
end
set_option maxHeartbeats 4000000 in
theorem ay_step_b {ρ : Type} (X : Nat × (Nat → Int)) (m pc : Nat) (i : Instr) (ls st : List bV) (h : bH) (k : Nat → List bV → List bV → bH → Option ρ) : ay_step X m pc i ls st h k = (ay_step X m pc i ls st h ay_ret).bind (ay_un k) := by
  cases i
  all_goals first
    | rfl
    | exact ay_i1_b fun _ _ => rfl
    | exact ay_i2_b fun _ _ _ => rfl
    | exact ay_l1_b fun _ _ => rfl
    | exact ay_l2_b fun _ _ _ => rfl
    | exact ay_li_b fun _ _ _ => rfl
    | exact ay_ldi_b fun _ => rfl
    | exact ay_ldi_b fun _ => ax_if_b rfl rfl
    | exact ay_ldl_b fun _ => rfl
    | exact ay_i1_b fun _ _ => ax_if_b rfl rfl
    | exact ax_if_b rfl rfl
    | exact ax_bif_b rfl rfl
    | exact ay_i1_b fun _ _ => ay_icmp_b (ax_jmp_b fun _ => rfl) rfl
    | exact ay_i2_b fun _ _ _ => ay_icmp_b (ax_jmp_b fun _ => rfl) rfl
    | exact ay_i2_b fun _ _ _ => ax_if_b rfl rfl
    | exact ay_l2_b fun _ _ _ => ax_if_b rfl rfl
    | exact ay_ar_b fun _ _ _ _ _ => rfl
    | exact ay_i1_b fun _ _ => ay_ar_b fun _ _ _ _ _ => rfl
    | exact ay_i1_b fun _ _ => ay_ar_b fun _ _ _ _ _ => ax_if_b rfl rfl
    | exact ay_l1_b fun _ _ => ay_ar_b fun _ _ _ _ _ => rfl
    | skip
  case aload => unfold ay_step; dsimp only; exact ay_lda_b fun _ => rfl
  case aload_n => unfold ay_step; dsimp only; exact ay_lda_b fun _ => rfl
  case astore => unfold ay_step; dsimp only; exact ay_sta_b fun _ _ => rfl
  case astore_n => unfold ay_step; dsimp only; exact ay_sta_b fun _ _ => rfl
  case goto => unfold ay_step; dsimp only; exact ax_jmp_b fun _ => rfl
  case ldc => unfold ay_step; dsimp only; split <;> first | rfl | (split <;> rfl)
  case ldc_w => unfold ay_step; dsimp only; split <;> rfl
  case ldc2_w => unfold ay_step; dsimp only; split <;> rfl
  case dup => unfold ay_step; dsimp only; split <;> first | rfl | exact ax_bif_b rfl rfl
  case dup2 => unfold ay_step; dsimp only; split <;> first | rfl | exact ax_bif_b rfl rfl
  case dup_x1 => unfold ay_step; dsimp only; split <;> first | rfl | exact ax_bif_b rfl rfl
  case pop => unfold ay_step; dsimp only; split <;> first | rfl | exact ax_bif_b rfl rfl
  case ifnull => exact ay_sta_b fun _ _ => ax_if_b (ax_jmp_b fun _ => rfl) rfl
  case ifnonnull => exact ay_sta_b fun _ _ => ax_if_b rfl (ax_jmp_b fun _ => rfl)
  case tableswitch => exact ay_i1_b fun _ _ => ax_if_b (ax_jmp_b fun _ => rfl) (by split <;> first | rfl | exact ax_jmp_b fun _ => rfl)
  case lookupswitch => exact ay_i1_b fun _ _ => ax_bif_b (ax_jmp_b fun _ => rfl) rfl
  case getfield => exact ay_ob_b fun _ _ _ _ => ax_bif_b (by split <;> rfl) rfl
  case putfield => unfold ay_step; dsimp only; split <;> first | rfl | exact ay_ob_b fun _ _ _ _ => ax_bif_b (by split <;> first | rfl | exact ax_bif_b (ay_store_b rfl) rfl) rfl
  case iaload => unfold ay_step; dsimp only; split <;> first | exact ax_if_b rfl rfl | exact ay_ar_b fun _ _ _ _ _ => rfl
  case aaload => unfold ay_step; dsimp only; split <;> first | rfl | (split <;> first | rfl | exact ax_if_b rfl rfl)
  case aastore => unfold ay_step; dsimp only; split <;> first | rfl | (split <;> first | rfl | exact ax_if_b rfl rfl)
  case arraylength => unfold ay_step; dsimp only; split <;> first | rfl | (split <;> rfl)
  case newarray => exact ay_i1_b fun _ _ => ax_if_b (by split <;> rfl) rfl
  case anewarray => exact ay_i1_b fun _ _ => ax_if_b (by split <;> rfl) rfl
  case checkcast => exact ax_bif_b (by split <;> first | rfl | (split <;> rfl)) rfl
theorem ay_prim_b {ρ : Type} (pc q : Nat) (ls st : List bV) (h : bH) (k : Nat → List bV → List bV → bH → Option ρ) : ay_prim pc q ls st h k = (ay_prim pc q ls st h ay_ret).bind (ay_un k) := by
  unfold ay_prim
  split
  · split <;> rfl
  · split
    · split
      · exact ax_if_b rfl rfl
      · exact ax_if_b (ax_bif_b rfl rfl) rfl
      · rfl
    · rfl
  · split <;> first | rfl | exact ax_bif_b rfl rfl
  · split <;> first | rfl | exact ax_bif_b (ax_if_b rfl rfl) rfl
  · split <;> first | rfl | exact ax_bif_b (ax_if_b rfl rfl) rfl
  · split
    · split <;> rfl
    · rfl
  · exact ay_i2_b fun _ _ _ => rfl
  · exact ay_i2_b fun _ _ _ => rfl
  · exact ay_l2_b fun _ _ _ => rfl
  · exact ay_l2_b fun _ _ _ => rfl
  · rfl
theorem ay_bind {ρ : Type} {x : Option (Nat × List bV × List bV × bH)} {k : Nat → List bV → List bV → bH → Option ρ} {r : ρ} (h : x.bind (ay_un k) = some r) : ∃ a b c e, x = some (a, b, c, e) ∧ k a b c e = some r := by
  cases x with
  | none => cases h
  | some q => obtain ⟨a, b, c, e⟩ := q; exact ⟨a, b, c, e, rfl, h⟩
theorem ay_cpy_cv {f g : Nat → Int} {sp dp n : Nat} : va_cpy (fun i => Int32.ofInt (f i)) (fun i => Int32.ofInt (g i)) sp dp n = fun i => Int32.ofInt (ay_cpy f g sp dp n i) := by
  funext j; unfold va_cpy ay_cpy; split <;> rfl
theorem ay_cpy_rc {f g : Nat → Nat} {sp dp n : Nat} : va_cpy (fun i => ay_rc (f i)) (fun i => ay_rc (g i)) sp dp n = fun i => ay_rc (ay_cpy f g sp dp n i) := by
  funext j; unfold va_cpy ay_cpy; split <;> rfl
theorem ay_elq_cv {h : bH} {f : Nat → Nat} {sp : Nat} : ∀ n, ay_elq h f sp n = true → ax_elq (h.map ay_ce) (fun i => ay_rc (f i)) sp n = true
  | 0, _ => rfl
  | n + 1, q => by
    have q : (ay_elq h f sp n && _) = true := q
    rw [Bool.and_eq_true] at q
    obtain ⟨q1, q2⟩ := q
    show (ax_elq (h.map ay_ce) (fun i => ay_rc (f i)) sp n && (match ay_rc (f (sp + n)) with | none => true | some 0 => false | some (q + 1) => match ax_at (h.map ay_ce) q with | some (.inr (5, _)) => true | _ => false)) = true
    rw [Bool.and_eq_true]
    refine ⟨ay_elq_cv n q1, ?_⟩
    generalize f (sp + n) = x at q2
    match x, q2 with
    | 0, _ => rfl
    | 1, q2 => cases q2
    | y + 2, q2 =>
      have q2 : (match ax_at h y with | some (.inr (.inr (5, _))) => true | _ => false) = true := q2
      show (match ax_at (h.map ay_ce) y with | some (.inr (5, _)) => true | _ => false) = true
      split at q2
      · rename_i ha; rw [ay_at_ce ha]; rfl
      · cases q2
theorem ay_find_cv (c : Nat) : ∀ (l : List Nat) (k : Nat), k + l.length < 1000 → Int32.ofInt (ay_find c l k) = ax_find c l k ∧ ay_ok (.inl (ay_find c l k))
  | [], _, _ => ⟨by show Int32.ofInt (-1) = -1; decide, by show -2147483648 ≤ (-1 : Int); decide, by show (-1 : Int) < 2147483648; decide⟩
  | x :: t, k, h => by
    show Int32.ofInt (bif Nat.beq x c then (k : Int) else ay_find c t (k + 1)) = (bif Nat.beq x c then Int32.ofNat k else ax_find c t (k + 1)) ∧ ay_ok (.inl (bif Nat.beq x c then (k : Int) else ay_find c t (k + 1)))
    rw [List.length_cons] at h
    cases Nat.beq x c
    · exact ay_find_cv c t (k + 1) (by omega)
    · exact ⟨Int32.ofInt_eq_ofNat, by show -2147483648 ≤ (k : Int); omega, by show (k : Int) < _; omega⟩
theorem ay_str_len : ∀ s, s ≤ 1 → (ax_str s).length < 500 := by
  intro s hs
  have : s = 0 ∨ s = 1 := by omega
  rcases this with rfl | rfl <;> decide +kernel
theorem ay_str_ch : ∀ s, s ≤ 1 → ∀ x ∈ ax_str s, x < 256 := by
  intro s hs
  have : s = 0 ∨ s = 1 := by omega
  rcases this with rfl | rfl <;> decide +kernel
theorem ay_max {x y : Int} (hx : ay_ok (.inl x)) (hy : ay_ok (.inl y)) : ay_cv (.inl (if x < y then y else x)) = .int (if Int32.ofInt x < Int32.ofInt y then Int32.ofInt y else Int32.ofInt x) ∧ ay_ok (.inl (if x < y then y else x)) := by
  by_cases h : x < y
  · rw [if_pos h, if_pos ((ay_lt hx hy).mpr h)]; exact ⟨rfl, hy⟩
  · rw [if_neg h, if_neg (fun z => h ((ay_lt hx hy).mp z))]; exact ⟨rfl, hx⟩
theorem ay_min {x y : Int} (hx : ay_ok (.inl x)) (hy : ay_ok (.inl y)) : ay_cv (.inl (if y < x then y else x)) = .int (if Int32.ofInt y < Int32.ofInt x then Int32.ofInt y else Int32.ofInt x) ∧ ay_ok (.inl (if y < x then y else x)) := by
  by_cases h : y < x
  · rw [if_pos h, if_pos ((ay_lt hy hx).mpr h)]; exact ⟨rfl, hy⟩
  · rw [if_neg h, if_neg (fun z => h ((ay_lt hy hx).mp z))]; exact ⟨rfl, hx⟩
theorem ay_maxL {x y : Int} (hx : ay_ok (.inr (.inl x))) (hy : ay_ok (.inr (.inl y))) : ay_cv (.inr (.inl (if y < x then x else y))) = .long (if Int64.ofInt y < Int64.ofInt x then Int64.ofInt x else Int64.ofInt y) ∧ ay_ok (.inr (.inl (if y < x then x else y))) := by
  by_cases h : y < x
  · rw [if_pos h, if_pos ((ay_ltL hy hx).mpr h)]; exact ⟨rfl, hx⟩
  · rw [if_neg h, if_neg (fun z => h ((ay_ltL hy hx).mp z))]; exact ⟨rfl, hy⟩
theorem ay_minL {x y : Int} (hx : ay_ok (.inr (.inl x))) (hy : ay_ok (.inr (.inl y))) : ay_cv (.inr (.inl (if y < x then y else x))) = .long (if Int64.ofInt y < Int64.ofInt x then Int64.ofInt y else Int64.ofInt x) ∧ ay_ok (.inr (.inl (if y < x then y else x))) := by
  by_cases h : y < x
  · rw [if_pos h, if_pos ((ay_ltL hy hx).mpr h)]; exact ⟨rfl, hy⟩
  · rw [if_neg h, if_neg (fun z => h ((ay_ltL hy hx).mp z))]; exact ⟨rfl, hx⟩
set_option maxHeartbeats 8000000 in
theorem ay_prim_ax {pc pc' q : Nat} {ls st ls' st' : List bV} {h h1 : bH} (hl : ay_ol ls) (hs : ay_ol st) (hh : ay_oh h) (e : ay_prim pc q ls st h ay_ret = some (pc', ls', st', h1)) : ay_A (ax_prim pc q (ls.map ay_cv) (st.map ay_cv) (h.map ay_ce) ax_ret) pc' ls' st' h1 := by
  unfold ay_prim at e
  unfold ax_prim
  split at e
  · split at e
    · exact ay_fin hl hs.tl hh e
    · cases e
  · split at e
    · rename_i n dp d sp a r
      have o1 := hs.hd; have o2 := hs.tl.hd; have o3 := hs.tl.tl.tl.hd
      have z1 : ∀ {x : Int}, ay_ok (.inl x) → 0 ≤ x → ¬ Int32.ofInt x < 0 ∧ (Int32.ofInt x).toNatClampNeg = x.toNat := fun {x} ox hx => by
        have := ay_in (n := x.toNat + 1) ox ⟨hx, by omega⟩
        exact ⟨fun z => this.1 (Or.inl z), this.2⟩
      split at e
      · rename_i n1 f n2 g ha hd
        split at e
        · rename_i hc
          obtain ⟨c1, c2, c3, c4, c5⟩ := hc
          obtain ⟨a1, a2⟩ := z1 o1 c1; obtain ⟨b1, b2⟩ := z1 o3 c2; obtain ⟨d1, d2⟩ := z1 o2 c3
          have og := ay_oe_of hh hd; have of := ay_oe_of hh ha
          have := ay_fin hl hs.tl.tl.tl.tl.tl (ay_oh_set (a := d) (e := .inl (0, n2, ay_cpy f g sp.toNat dp.toNat n.toNat)) hh ⟨by decide, fun j => by show ay_ok (.inl (ay_cpy f g _ _ _ j)); unfold ay_cpy; split; exact of.2 _; exact og.2 _⟩) e
          rw [ay_set_ce] at this
          show ay_A (match ax_at (h.map ay_ce) a, ax_at (h.map ay_ce) d with | some (.inl (t1, n1, c1)), some (.inl (t2, n2, c2)) => _ | _, _ => none) _ _ _ _
          rw [ay_at_ce ha, ay_at_ce hd]
          show ay_A (if Int32.ofInt n < 0 ∨ Int32.ofInt sp < 0 ∨ Int32.ofInt dp < 0 ∨ n1 < (Int32.ofInt sp).toNatClampNeg + (Int32.ofInt n).toNatClampNeg ∨ n2 < (Int32.ofInt dp).toNatClampNeg + (Int32.ofInt n).toNatClampNeg then none else ax_ret (pc + 3) (ls.map ay_cv) (r.map ay_cv) ((h.map ay_ce).set d (.inl (0, n2, .inl (va_cpy (fun i => Int32.ofInt (f i)) (fun i => Int32.ofInt (g i)) (Int32.ofInt sp).toNatClampNeg (Int32.ofInt dp).toNatClampNeg (Int32.ofInt n).toNatClampNeg))))) _ _ _ _
          rw [a2, b2, d2, if_neg (by intro z; rcases z with z | z | z | z | z; exact a1 z; exact b1 z; exact d1 z; omega; omega), ay_cpy_cv]
          exact this
        · cases e
      · rename_i n1 f n2 g ha hd
        split at e
        · rename_i hc
          obtain ⟨c1, c2, c3, c4, c5⟩ := hc
          obtain ⟨a1, a2⟩ := z1 o1 c1; obtain ⟨b1, b2⟩ := z1 o3 c2; obtain ⟨d1, d2⟩ := z1 o2 c3
          rcases ax_bif_s e with ⟨hb, e⟩ | ⟨_, e⟩
          · have := ay_fin hl hs.tl.tl.tl.tl.tl (ay_oh_set (a := d) (e := .inr (.inl (4, n2, ay_cpy f g sp.toNat dp.toNat n.toNat))) hh (Or.inr rfl)) e
            rw [ay_set_ce] at this
            show ay_A (match ax_at (h.map ay_ce) a, ax_at (h.map ay_ce) d with | some (.inl (t1, n1, c1)), some (.inl (t2, n2, c2)) => _ | _, _ => none) _ _ _ _
            rw [ay_at_ce ha, ay_at_ce hd]
            show ay_A (if Int32.ofInt n < 0 ∨ Int32.ofInt sp < 0 ∨ Int32.ofInt dp < 0 ∨ n1 < (Int32.ofInt sp).toNatClampNeg + (Int32.ofInt n).toNatClampNeg ∨ n2 < (Int32.ofInt dp).toNatClampNeg + (Int32.ofInt n).toNatClampNeg then none else bif ax_elq (h.map ay_ce) (fun i => ay_rc (f i)) (Int32.ofInt sp).toNatClampNeg (Int32.ofInt n).toNatClampNeg then ax_ret (pc + 3) (ls.map ay_cv) (r.map ay_cv) ((h.map ay_ce).set d (.inl (4, n2, .inr (.inr (.inr (.inr (va_cpy (fun i => ay_rc (f i)) (fun i => ay_rc (g i)) (Int32.ofInt sp).toNatClampNeg (Int32.ofInt dp).toNatClampNeg (Int32.ofInt n).toNatClampNeg))))))) else none) _ _ _ _
            rw [a2, b2, d2, if_neg (by intro z; rcases z with z | z | z | z | z; exact a1 z; exact b1 z; exact d1 z; omega; omega), ay_elq_cv _ hb, cond_true, ay_cpy_rc]
            exact this
          · cases e
        · cases e
      · cases e
    · cases e
  · split at e
    · rename_i s r
      rcases ax_bif_s e with ⟨hb, e⟩ | ⟨_, e⟩
      · have hb' := Nat.le_of_ble_eq_true hb
        have hn := ay_str_len s hb'
        have := ay_fin hl (ay_ol.cons (v := .inl ((ax_str s).length : Int)) ⟨by omega, by omega⟩ hs.tl) hh e
        rw [List.map_cons, show ay_cv (.inl ((ax_str s).length : Int)) = .int (Int32.ofNat (ax_str s).length) from by show Value.int (Int32.ofInt _) = _; rw [Int32.ofInt_eq_ofNat]] at this
        show ay_A (bif Nat.ble s 1 then _ else none) _ _ _ _
        rw [hb]; exact this
      · cases e
    · cases e
  · split at e
    · rename_i i s r
      rcases ax_bif_s e with ⟨hb, e⟩ | ⟨_, e⟩
      · have hb' := Nat.le_of_ble_eq_true hb
        have hn := ay_str_len s hb'
        split at e
        · rename_i hc
          obtain ⟨e1, e2⟩ := ay_in (n := (ax_str s).length) hs.hd hc
          have hch : (ax_str s).getD i.toNat 0 < 256 := by
            have hlt : i.toNat < (ax_str s).length := by omega
            rw [List.getD_eq_getElem?_getD, List.getElem?_eq_getElem hlt]
            exact ay_str_ch s hb' _ (List.getElem_mem hlt)
          have := ay_fin hl (ay_ol.cons (v := .inl (((ax_str s).getD i.toNat 0 : Nat) : Int)) ⟨by omega, by omega⟩ hs.tl.tl) hh e
          rw [List.map_cons, show ay_cv (.inl (((ax_str s).getD i.toNat 0 : Nat) : Int)) = .int (Int32.ofNat ((ax_str s).getD i.toNat 0)) from by show Value.int (Int32.ofInt _) = _; rw [Int32.ofInt_eq_ofNat]] at this
          show ay_A (bif Nat.ble s 1 then (if Int32.ofInt i < 0 ∨ (ax_str s).length ≤ (Int32.ofInt i).toNatClampNeg then none else ax_ret (pc + 3) (ls.map ay_cv) (.int (Int32.ofNat ((ax_str s).getD (Int32.ofInt i).toNatClampNeg 0)) :: r.map ay_cv) (h.map ay_ce)) else none) _ _ _ _
          rw [hb, cond_true, if_neg e1, e2]; exact this
        · cases e
      · cases e
    · cases e
  · split at e
    · rename_i i s r
      rcases ax_bif_s e with ⟨hb, e⟩ | ⟨_, e⟩
      · have hb' := Nat.le_of_ble_eq_true hb
        have hn := ay_str_len s hb'
        split at e
        · rename_i hc
          obtain ⟨e1, e2⟩ := ay_in (n := 256) hs.hd hc
          obtain ⟨g1, g2⟩ := ay_find_cv i.toNat (ax_str s) 0 (by omega)
          have := ay_fin hl (ay_ol.cons g2 hs.tl.tl) hh e
          rw [List.map_cons, show ay_cv (.inl (ay_find i.toNat (ax_str s) 0)) = .int (ax_find i.toNat (ax_str s) 0) from by show Value.int (Int32.ofInt _) = _; rw [g1]] at this
          show ay_A (bif Nat.ble s 1 then (if Int32.ofInt i < 0 ∨ 256 ≤ (Int32.ofInt i).toNatClampNeg then none else ax_ret (pc + 3) (ls.map ay_cv) (.int (ax_find (Int32.ofInt i).toNatClampNeg (ax_str s) 0) :: r.map ay_cv) (h.map ay_ce)) else none) _ _ _ _
          rw [hb, cond_true, if_neg e1, e2]; exact this
        · cases e
      · cases e
    · cases e
  · split at e
    · split at e
      · rename_i a r _ n f ha
        have := ay_fin hl (ay_ol.cons (v := rr (h.length + 2)) trivial hs.tl) (ay_oh_app hh (ay_oe_of hh ha)) e
        rw [ay_app, List.map_cons, ay_nref] at this
        show ay_A (match ax_at (h.map ay_ce) a with | some (.inl (0, n, .inl f)) => _ | _ => none) _ _ _ _
        rw [ay_at_ce ha]; exact this
      · cases e
    · cases e
  · obtain ⟨x, y, r, rfl, hk⟩ := ay_i2_s e
    obtain ⟨g1, g2⟩ := ay_max hs.tl.hd hs.hd
    have := ay_fin hl (ay_ol.cons g2 hs.tl.tl) hh hk
    rw [List.map_cons, g1] at this
    exact this
  · obtain ⟨x, y, r, rfl, hk⟩ := ay_i2_s e
    obtain ⟨g1, g2⟩ := ay_min hs.tl.hd hs.hd
    have := ay_fin hl (ay_ol.cons g2 hs.tl.tl) hh hk
    rw [List.map_cons, g1] at this
    exact this
  · obtain ⟨x, y, r, rfl, hk⟩ := ay_l2_s e
    obtain ⟨g1, g2⟩ := ay_maxL hs.tl.hd hs.hd
    have := ay_fin hl (ay_ol.cons g2 hs.tl.tl) hh hk
    rw [List.map_cons, g1] at this
    exact this
  · obtain ⟨x, y, r, rfl, hk⟩ := ay_l2_s e
    obtain ⟨g1, g2⟩ := ay_minL hs.tl.hd hs.hd
    have := ay_fin hl (ay_ol.cons g2 hs.tl.tl) hh hk
    rw [List.map_cons, g1] at this
    exact this
  · cases e
theorem ay_end_ax {m : Nat} {i : Instr} {st : List bV} {h h1 : bH} {v : Option bV} (hs : ay_ol st) (hh : ay_oh h) (e : ay_end m i st h = some (v, h1)) : ax_end m i (st.map ay_cv) (h.map ay_ce) = some (v.map ay_cv, h1.map ay_ce) ∧ (∀ w, v = some w → ay_ok w) ∧ ay_oh h1 := by
  cases i
  case ireturn =>
    unfold ay_end at e; dsimp only at e
    split at e
    · rename_i x
      unfold ax_end; dsimp only
      show (match ax_rk m with | 1 => some (some (Value.int (Int32.ofInt x)), h.map ay_ce) | 2 => if Int32.ofInt x = 0 then some (some (.int 0), h.map ay_ce) else if Int32.ofInt x = 1 then some (some (.int 1), h.map ay_ce) else none | _ => none) = _ ∧ _
      split at e
      · rename_i hk; rw [hk]; cases e; exact ⟨rfl, fun w q => by cases q; exact hs.hd, hh⟩
      · rename_i hk
        rw [hk]
        split at e
        · rename_i hx
          cases e
          rcases hx with rfl | rfl
          · exact ⟨rfl, fun w q => by cases q; exact hs.hd, hh⟩
          · exact ⟨rfl, fun w q => by cases q; exact hs.hd, hh⟩
        · cases e
      · cases e
    · cases e
  case lreturn =>
    unfold ay_end at e; dsimp only at e
    split at e
    · rename_i x
      rcases ax_bif_s e with ⟨hb, e⟩ | ⟨_, e⟩
      · cases e
        refine ⟨?_, fun w q => by cases q; exact hs.hd, hh⟩
        show (bif Nat.beq (ax_rk m) 3 then some (some (Value.long (Int64.ofInt x)), h.map ay_ce) else none) = _
        rw [hb]; rfl
      · cases e
    · cases e
  case areturn =>
    unfold ay_end at e; dsimp only at e
    split at e
    · rename_i x
      rcases ax_bif_s e with ⟨hb, e⟩ | ⟨_, e⟩
      · cases e
        refine ⟨?_, fun w q => by cases q; trivial, hh⟩
        cases x with
        | zero => show (bif Nat.beq (ax_rk m) 4 then some (some Value.null, h.map ay_ce) else none) = _; rw [hb]; rfl
        | succ x => show (bif Nat.beq (ax_rk m) 4 then some (some (Value.ref x), h.map ay_ce) else none) = _; rw [hb]; rfl
      · cases e
    · cases e
  case return_ =>
    unfold ay_end at e; dsimp only at e
    split at e
    · rcases ax_bif_s e with ⟨hb, e⟩ | ⟨_, e⟩
      · cases e
        refine ⟨?_, (fun w q => by cases q), hh⟩
        show (bif Nat.beq (ax_rk m) 0 then some (none, h.map ay_ce) else none) = _
        rw [hb]; rfl
      · cases e
    · cases e
  all_goals cases e
theorem ay_cat_cv : ∀ l : List bV, ax_cat (l.map ay_cv) = ay_cat l
  | [] => rfl
  | v :: t => by
    show (ay_cv v).category + ax_cat (t.map ay_cv) = (bif ay_isl v then 2 else 1) + ay_cat t
    rw [ay_cat_cv t]
    congr 1
    rcases v with x | x | x | x
    · rfl
    · rfl
    · cases x <;> rfl
    · cases x <;> rfl
theorem ay_ent_cv : ∀ l : List bV, ax_ent (l.map ay_cv) = (ay_ent l).map ay_cv
  | [] => rfl
  | v :: t => by
    have ih := ay_ent_cv t
    rcases v with x | x | x | x
    · show Value.int _ :: ax_ent (t.map ay_cv) = _; rw [ih]; rfl
    · show Value.long _ :: .float 0 :: ax_ent (t.map ay_cv) = _; rw [ih]; rfl
    · cases x
      · show Value.null :: ax_ent (t.map ay_cv) = _; rw [ih]; rfl
      · show Value.ref _ :: ax_ent (t.map ay_cv) = _; rw [ih]; rfl
    · cases x
      · show Value.float 0 :: ax_ent (t.map ay_cv) = _; rw [ih]; rfl
      · show Value.retAddr _ :: ax_ent (t.map ay_cv) = _; rw [ih]; rfl
theorem ay_pad_cv : ∀ (n : Nat) (l : List bV), ax_pad n (l.map ay_cv) = (ay_pad n l).map ay_cv
  | 0, _ => rfl
  | n + 1, [] => by show Value.float 0 :: ax_pad n ([].map ay_cv) = _; rw [ay_pad_cv n []]; rfl
  | n + 1, v :: t => by show ay_cv v :: ax_pad n (t.map ay_cv) = _; rw [ay_pad_cv n t]; rfl
theorem ay_ent_ok : ∀ l : List bV, ay_ol l → ay_ol (ay_ent l)
  | [], _ => fun v hv => by cases hv
  | v :: t, h => by
    have ih := ay_ent_ok t h.tl
    rcases v with x | x | x | x
    · exact ay_ol.cons h.hd ih
    · exact ay_ol.cons h.hd (ay_ol.cons (v := b0) trivial ih)
    · exact ay_ol.cons h.hd ih
    · exact ay_ol.cons h.hd ih
theorem ay_pad_ok : ∀ (n : Nat) (l : List bV), ay_ol l → ay_ol (ay_pad n l)
  | 0, _, _ => fun v hv => by cases hv
  | n + 1, [], _ => ay_ol.cons (v := b0) trivial (ay_pad_ok n [] (fun v hv => by cases hv))
  | n + 1, v :: t, h => ay_ol.cons h.hd (ay_pad_ok n t h.tl)
theorem ay_take_s {ρ : Type} {r : ρ} : ∀ (n : Nat) (st acc : List bV) (k : List bV → List bV → Option ρ), ay_take n st acc k = some r → ∃ a b, k a b = some r ∧ (ay_ol st → ay_ol acc → ay_ol a ∧ ay_ol b) ∧ ∀ {ρ' : Type} (k' : List Value → List Value → Option ρ'), ax_take n (st.map ay_cv) (acc.map ay_cv) k' = k' (a.map ay_cv) (b.map ay_cv)
  | 0, st, acc, k, h => ⟨acc, st, h, fun a b => ⟨b, a⟩, fun _ => rfl⟩
  | n + 1, [], acc, k, h => by cases h
  | n + 1, v :: st, acc, k, h => by
    obtain ⟨a, b, h1, h2, h3⟩ := ay_take_s n st (v :: acc) k h
    exact ⟨a, b, h1, fun p q => h2 p.tl (ay_ol.cons p.hd q), fun k' => h3 k'⟩
theorem ay_recv_s {ρ : Type} {r : ρ} {h : bH} {c : Nat} {As : List bV} {t : Option ρ} (e : ay_recv h c As t = some r) : t = some r ∧ ∀ {ρ' : Type} (t' : Option ρ'), ax_recv (h.map ay_ce) c (As.map ay_cv) t' = t' := by
  unfold ay_recv at e
  split at e
  · split at e
    · rename_i a r' _ ci fs ha
      rcases ax_bif_s e with ⟨hb, e⟩ | ⟨_, e⟩
      · refine ⟨e, fun t' => ?_⟩
        show (match ax_at (h.map ay_ce) a with | some (.inr (ci, _)) => bif Nat.beq ci (ax_own c) then t' else none | _ => none) = t'
        rw [ay_at_ce ha]
        show (bif Nat.beq ci (ax_own c) then t' else none) = t'
        rw [hb]; rfl
      · cases e
    · cases e
  · cases e
theorem ay_run_ax {X : Nat × (Nat → Int32)} : ∀ (n d m pc : Nat) (ls st : List bV) (h : bH) (v : Option bV) (h1 : bH), ay_ol ls → ay_ol st → ay_oh h → ay_run (X.1, fun i => (X.2 i).toInt) n d m pc ls st h = some (v, h1) → ax_run X n d m pc (ls.map ay_cv) (st.map ay_cv) (h.map ay_ce) = some (v.map ay_cv, h1.map ay_ce) ∧ (∀ w, v = some w → ay_ok w) ∧ ay_oh h1 := by
  intro n
  induction n with
  | zero => intro d m pc ls st h v h1 _ _ _ e; cases e
  | succ n ih =>
    intro d m pc ls st h v h1 hl hs hh e
    have e : (match ax_fetch m pc with | none => none | some i => _) = _ := e
    show (match ax_fetch m pc with | none => none | some i => _) = _ ∧ _
    cases hf : ax_fetch m pc with
    | none => rw [hf] at e; cases e
    | some i =>
      rw [hf] at e
      dsimp only at e ⊢
      match hc : ax_call i with
      | 0 =>
        rw [hc] at e
        dsimp only at e ⊢
        rw [ay_step_b] at e
        obtain ⟨a, b, c, g, e1, e2⟩ := ay_bind e
        obtain ⟨p1, p2, p3, p4⟩ := ay_step_ax hl hs hh e1
        rw [ax_step_b, p1]
        exact ih d m a b c g v h1 p2 p3 p4 e2
      | 1 =>
        rw [hc] at e
        dsimp only at e ⊢
        exact ay_end_ax hs hh e
      | j + 2 =>
        rw [hc] at e
        dsimp only at e ⊢
        rcases ax_bif_s e with ⟨hb, e⟩ | ⟨_, e⟩
        · rw [hb, cond_true]
          rcases ax_bif_s e with ⟨h5, e⟩ | ⟨h5, e⟩
          · rw [h5, cond_true]
            rcases ax_bif_s e with ⟨hg, e⟩ | ⟨_, e⟩
            · rw [ay_cat_cv, hg, cond_true]
              rw [ay_prim_b] at e
              obtain ⟨a, b, c, g, e1, e2⟩ := ay_bind e
              obtain ⟨p1, p2, p3, p4⟩ := ay_prim_ax hl hs hh e1
              rw [ax_prim_b, p1]
              exact ih d m a b c g v h1 p2 p3 p4 e2
            · cases e
          · rw [h5, cond_false]
            rcases ax_bif_s e with ⟨h4, e⟩ | ⟨_, e⟩
            · rw [h4, cond_true]
              obtain ⟨As, r, e, ho, ht⟩ := ay_take_s _ _ _ _ e
              obtain ⟨oa, or⟩ := ho hs (fun v hv => by cases hv)
              rw [show ([] : List Value) = ([] : List bV).map ay_cv from rfl, ht]
              rcases ax_bif_s e with ⟨h8, e⟩ | ⟨_, e⟩
              · rw [ay_cat_cv, h8, cond_true]
                have into : ay_into (ay_run (X.1, fun i => (X.2 i).toInt) n) d m pc ls (ax_lk (ax_own m) j).2 As r h = some (v, h1) → ax_into (ax_run X n) d m pc (ls.map ay_cv) (ax_lk (ax_own m) j).2 (As.map ay_cv) (r.map ay_cv) (h.map ay_ce) = some (v.map ay_cv, h1.map ay_ce) ∧ (∀ w, v = some w → ay_ok w) ∧ ay_oh h1 := by
                  intro e
                  unfold ay_into at e
                  unfold ax_into
                  rcases ax_bif_s e with ⟨hle, e⟩ | ⟨_, e⟩
                  · rw [ay_ent_cv, List.length_map, hle, cond_true, ay_pad_cv]
                    have oe := ay_pad_ok (ax_maxL (ax_lk (ax_own m) j).2) _ (ay_ent_ok _ oa)
                    have fin : ∀ {d' : Nat}, ay_cont (ay_run (X.1, fun i => (X.2 i).toInt) n d' (ax_lk (ax_own m) j).2 0 (ay_pad (ax_maxL (ax_lk (ax_own m) j).2) (ay_ent As)) [] h) (fun v h => ay_run (X.1, fun i => (X.2 i).toInt) n d m (pc + 3) ls (v.toList ++ r) h) = some (v, h1) → (match ax_run X n d' (ax_lk (ax_own m) j).2 0 ((ay_pad (ax_maxL (ax_lk (ax_own m) j).2) (ay_ent As)).map ay_cv) [] (h.map ay_ce) with | none => none | some (v, h) => ax_run X n d m (pc + 3) (ls.map ay_cv) (v.toList ++ r.map ay_cv) h) = some (v.map ay_cv, h1.map ay_ce) ∧ (∀ w, v = some w → ay_ok w) ∧ ay_oh h1 := by
                      intro d' e
                      cases hr : ay_run (X.1, fun i => (X.2 i).toInt) n d' (ax_lk (ax_own m) j).2 0 (ay_pad (ax_maxL (ax_lk (ax_own m) j).2) (ay_ent As)) [] h with
                      | none => rw [hr] at e; cases e
                      | some q =>
                        obtain ⟨w, g⟩ := q
                        rw [hr] at e
                        obtain ⟨i1, i2, i3⟩ := ih d' _ 0 _ [] h w g oe (fun v hv => by cases hv) hh hr
                        have i1 : ax_run X n d' (ax_lk (ax_own m) j).2 0 ((ay_pad (ax_maxL (ax_lk (ax_own m) j).2) (ay_ent As)).map ay_cv) [] (h.map ay_ce) = _ := i1
                        rw [i1]
                        have e : ay_run (X.1, fun i => (X.2 i).toInt) n d m (pc + 3) ls (w.toList ++ r) g = some (v, h1) := e
                        have os : ay_ol (w.toList ++ r) := by
                          cases w with
                          | none => exact or
                          | some w => exact ay_ol.cons (i2 w rfl) or
                        have := ih d m (pc + 3) ls (w.toList ++ r) g v h1 hl os i3 e
                        have hw : (w.toList ++ r).map ay_cv = (w.map ay_cv).toList ++ r.map ay_cv := by cases w <;> rfl
                        rw [hw] at this
                        exact this
                    rcases hbl : Nat.ble (ax_lvl m) (ax_lvl (ax_lk (ax_own m) j).2) with _ | _
                    · rw [hbl] at e
                      exact fin e
                    · rw [hbl] at e
                      cases d with
                      | zero => cases e
                      | succ d => exact fin e
                  · cases e
                rcases ax_bif_s e with ⟨hi, e⟩ | ⟨hi, e⟩
                · rw [hi, cond_true]
                  obtain ⟨e, hr⟩ := ay_recv_s e
                  rw [hr]
                  exact into e
                · rw [hi, cond_false]
                  exact into e
              · cases e
            · cases e
        · cases e

