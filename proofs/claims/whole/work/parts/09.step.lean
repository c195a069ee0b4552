/-! One step. -/
section
variable {p : Program} {l : Launch} {e : Env} {R : Room} {s : State} {mid : MethodId} {args : Array Value} {below : List Frame} {meth : Method} {c : Code} {Q : State → Prop} {G : ax_G} {X : Nat × (Nat → Int32)} {m : Nat}
/-- how it goes on, from a place, with cells and slots counted from the heap h0 on -/
def ax_Go (p : Program) (l : Launch) (e : Env) (R : Room) (s : State) (mid : MethodId) (args : Array Value) (below : List Frame) (meth : Method) (c : Code) (Q : State → Prop) (G : ax_G) (m : Nat) (h0 : ax_H) (cells slots pc : Nat) (ls st : List Value) (h1 : ax_H) : Prop :=
  ∀ (lsM : Array Slot) (H1 : Heap) (locs1 : List Loc), ax_Lv G lsM (ax_maxL m) ls → ax_Rep G h1 H1 → va_S (ax_A G) s.heap H1 locs1 → W p l e R s mid args below meth c H1 locs1 (cells + (h1.length - h0.length)) (slots + (ax_hsz h1 - ax_hsz h0)) Q (F0 mid pc lsM (st.map (ax_cv G)))
variable {cells slots pc : Nat} {ls st : List Value} {h h1 : ax_H} {lsM : Array Slot} {H : Heap} {locs : List Loc}
theorem ax_K0 (K : ax_Go p l e R s mid args below meth c Q G m h cells slots pc ls st h1) (e1 : h1.length = h.length) (e2 : ax_hsz h1 = ax_hsz h) (hL : ax_Lv G lsM (ax_maxL m) ls) (hR : ax_Rep G h1 H) (hS : va_S (ax_A G) s.heap H locs) : W p l e R s mid args below meth c H locs cells slots Q (F0 mid pc lsM (st.map (ax_cv G))) := by
  have := K lsM H locs hL hR hS
  rw [e1, e2, Nat.sub_self, Nat.sub_self] at this
  exact this
theorem ax_K1 {E : va_E} {z : Nat} (K : ax_Go p l e R s mid args below meth c Q G m h cells slots pc ls st (h ++ [E])) (hz : ax_sz E = z) (hL : ax_Lv G lsM (ax_maxL m) ls) (hR : ax_Rep G (h ++ [E]) H) (hS : va_S (ax_A G) s.heap H locs) : W p l e R s mid args below meth c H locs (cells + 1) (slots + z) Q (F0 mid pc lsM (st.map (ax_cv G))) := by
  have := K lsM H locs hL hR hS
  rw [ax_hsz_app, List.length_append, hz, Nat.add_sub_cancel_left, Nat.add_sub_cancel_left] at this
  exact this
theorem ax_tys_le (G : ax_G) (t : Nat) (h4 : t ≤ 4) : ∃ ty, (ax_tys G)[t]? = some (G.2.2.2.1 t, ty) := by
  rcases (by omega : t = 0 ∨ t = 1 ∨ t = 2 ∨ t = 3 ∨ t = 4) with rfl | rfl | rfl | rfl | rfl <;> exact ⟨_, rfl⟩
set_option maxHeartbeats 8000000 in
theorem ax_step_ok (F : ax_F1) (C : ax_Cx G X p s mid args meth c m) {i : Instr} {len pc' : Nat} {ls' st' : List Value} (hd : decode (ax_mt m).2.1 pc = .ok (i, len)) (hln : ax_ln (ax_maxL m) pc i len = true) (hL : ax_Lv G lsM (ax_maxL m) ls) (hR : ax_Rep G h H) (hS : va_S (ax_A G) s.heap H locs) (hst : ax_step X m pc i ls st h ax_ret = some (pc', ls', st', h1)) (hc : cells + (h1.length - h.length) ≤ R.cells) (hs : slots + (ax_hsz h1 - ax_hsz h) ≤ R.slots)
    (K : ax_Go p l e R s mid args below meth c Q G m h cells slots pc' ls' st' h1) : W p l e R s mid args below meth c H locs cells slots Q (F0 mid pc lsM (st.map (ax_cv G))) := by
  have C0 := C
  obtain ⟨hx, hb, hml, hown, hts, hini, hSt⟩ := C
  cases i
  case iconst v =>
    obtain rfl := Nat.eq_of_beq_eq_true hln
    cases hst
    exact lv_iconst hx hb hd (ax_lit_eq v) (ax_K0 K rfl rfl hL hR hS)
  case bipush v =>
    obtain rfl := Nat.eq_of_beq_eq_true hln
    unfold ax_step at hst; dsimp only at hst
    split at hst
    · rename_i hv; cases hst
      exact lv_bipush hx hb hd (ax_bi hv) (ax_K0 K rfl rfl hL hR hS)
    · cases hst
  case sipush v =>
    obtain rfl := Nat.eq_of_beq_eq_true hln
    unfold ax_step at hst; dsimp only at hst
    split at hst
    · rename_i hv; cases hst
      exact lv_sipush hx hb hd (ax_si hv) (ax_K0 K rfl rfl hL hR hS)
    · cases hst
  case ldc_w j =>
    obtain rfl := Nat.eq_of_beq_eq_true hln
    unfold ax_step at hst; dsimp only at hst
    split at hst
    · rename_i hv; cases hst
      exact lv_ldcw hx hb hown (hts _ (F.2.2.1.1 _ _ _ hv)) hd (ax_K0 K rfl rfl hL hR hS)
    · cases hst
  case ldc2_w j =>
    obtain rfl := Nat.eq_of_beq_eq_true hln
    unfold ax_step at hst; dsimp only at hst
    split at hst
    · rename_i hv; cases hst
      exact lv_ldc2 hx hb hown (hts _ (F.2.2.1.2.1 _ _ _ hv)) hd (ax_K0 K rfl rfl hL hR hS)
    · cases hst
  case lconst v =>
    obtain rfl := Nat.eq_of_beq_eq_true hln
    cases hst
    exact lv_lconst hx hb hd rfl (ax_K0 K rfl rfl hL hR hS)
  case aconst_null =>
    obtain rfl := Nat.eq_of_beq_eq_true hln
    cases hst
    exact lv_null hx hb hd (ax_K0 K rfl rfl hL hR hS)
  case iload_n j =>
    obtain rfl := Nat.eq_of_beq_eq_true hln
    obtain ⟨x, hg, hk⟩ := ax_ldi_s hst; cases hk
    exact lv_iload_n hx hb hd rfl (hL.get hg rfl) (ax_K0 K rfl rfl hL hR hS)
  case iload j =>
    obtain rfl := Nat.eq_of_beq_eq_true hln
    obtain ⟨x, hg, hk⟩ := ax_ldi_s hst; cases hk
    exact lv_iload hx hb hd (hL.get hg rfl) (ax_K0 K rfl rfl hL hR hS)
  case lload_n j =>
    obtain rfl := Nat.eq_of_beq_eq_true hln
    obtain ⟨x, hg, hk⟩ := ax_ldl_s hst; cases hk
    exact lv_lload_n hx hb hd rfl (hL.get hg rfl) (ax_K0 K rfl rfl hL hR hS)
  case lload j =>
    obtain rfl := Nat.eq_of_beq_eq_true hln
    obtain ⟨x, hg, hk⟩ := ax_ldl_s hst; cases hk
    exact lv_lload hx hb hd (hL.get hg rfl) (ax_K0 K rfl rfl hL hR hS)
  case aload_n j =>
    obtain rfl := Nat.eq_of_beq_eq_true hln
    unfold ax_step at hst; dsimp only at hst
    rcases ax_lda_s hst with ⟨x, hg, hk⟩ | ⟨hg, hk⟩ <;> cases hk
    · exact lv_aload_n hx hb hd rfl (hL.get hg rfl) (ax_K0 K rfl rfl hL hR hS)
    · exact lv_aload_nN hx hb hd rfl (hL.get hg rfl) (ax_K0 K rfl rfl hL hR hS)
  case aload j =>
    obtain rfl := Nat.eq_of_beq_eq_true hln
    unfold ax_step at hst; dsimp only at hst
    rcases ax_lda_s hst with ⟨x, hg, hk⟩ | ⟨hg, hk⟩ <;> cases hk
    · exact lv_aload hx hb hd (hL.get hg rfl) (ax_K0 K rfl rfl hL hR hS)
    · exact lv_aloadN hx hb hd (hL.get hg rfl) (ax_K0 K rfl rfl hL hR hS)
  case istore_n j =>
    obtain ⟨hl1, hl2⟩ := Bool.and_eq_true_iff.mp hln
    obtain rfl := Nat.eq_of_beq_eq_true hl1
    obtain ⟨x, r, rfl, hk⟩ := ax_i1_s hst; cases hk
    exact lv_istore_n hx hb hd rfl hL.has (Nat.le_of_ble_eq_true hl2) rfl (fun ls' h' => ax_K0 K rfl rfl (hL.set1 (v := .int x) h') hR hS)
  case istore j =>
    obtain ⟨hl1, hl2⟩ := Bool.and_eq_true_iff.mp hln
    obtain rfl := Nat.eq_of_beq_eq_true hl1
    obtain ⟨x, r, rfl, hk⟩ := ax_i1_s hst; cases hk
    exact lv_istore hx hb hd hL.has (Nat.le_of_ble_eq_true hl2) rfl (fun ls' h' => ax_K0 K rfl rfl (hL.set1 (v := .int x) h') hR hS)
  case lstore_n j =>
    obtain ⟨hl1, hl2⟩ := Bool.and_eq_true_iff.mp hln
    obtain rfl := Nat.eq_of_beq_eq_true hl1
    obtain ⟨x, r, rfl, hk⟩ := ax_l1_s hst; cases hk
    exact lv_lstore_n hx hb hd rfl hL.has (Nat.le_of_ble_eq_true hl2) rfl (fun ls' h' => ax_K0 K rfl rfl (hL.set2 (v := .long x) h') hR hS)
  case lstore j =>
    obtain ⟨hl1, hl2⟩ := Bool.and_eq_true_iff.mp hln
    obtain rfl := Nat.eq_of_beq_eq_true hl1
    obtain ⟨x, r, rfl, hk⟩ := ax_l1_s hst; cases hk
    exact lv_lstore hx hb hd hL.has (Nat.le_of_ble_eq_true hl2) rfl (fun ls' h' => ax_K0 K rfl rfl (hL.set2 (v := .long x) h') hR hS)
  case astore_n j =>
    obtain ⟨hl1, hl2⟩ := Bool.and_eq_true_iff.mp hln
    obtain rfl := Nat.eq_of_beq_eq_true hl1
    unfold ax_step at hst; dsimp only at hst
    rcases ax_sta_s hst with ⟨x, r, rfl, hk⟩ | ⟨r, rfl, hk⟩ <;> cases hk
    · exact lv_astore_n hx hb hd rfl hL.has (Nat.le_of_ble_eq_true hl2) rfl (fun ls' h' => ax_K0 K rfl rfl (hL.set1 (v := .ref x) h') hR hS)
    · exact lv_astore_nN hx hb hd rfl hL.has (Nat.le_of_ble_eq_true hl2) rfl (fun ls' h' => ax_K0 K rfl rfl (hL.set1 (v := .null) h') hR hS)
  case astore j =>
    obtain ⟨hl1, hl2⟩ := Bool.and_eq_true_iff.mp hln
    obtain rfl := Nat.eq_of_beq_eq_true hl1
    unfold ax_step at hst; dsimp only at hst
    rcases ax_sta_s hst with ⟨x, r, rfl, hk⟩ | ⟨r, rfl, hk⟩ <;> cases hk
    · exact lv_astore hx hb hd hL.has (Nat.le_of_ble_eq_true hl2) rfl (fun ls' h' => ax_K0 K rfl rfl (hL.set1 (v := .ref x) h') hR hS)
    · exact lv_astoreN hx hb hd hL.has (Nat.le_of_ble_eq_true hl2) rfl (fun ls' h' => ax_K0 K rfl rfl (hL.set1 (v := .null) h') hR hS)
  case iinc j v =>
    obtain ⟨hl1, hl2⟩ := Bool.and_eq_true_iff.mp hln
    obtain rfl := Nat.eq_of_beq_eq_true hl1
    obtain ⟨x, hg, hk⟩ := ax_ldi_s hst; cases hk
    obtain ⟨k, hk⟩ := List.getElem?_of_mem (ax_lvs_mem (G := G) (q := (j, .int x)) |>.mpr ⟨.int x, ax_get_at hg rfl, rfl, rfl⟩)
    exact lv_iinc hx hb hd hL.has hk (by rw [ax_lit_eq]) (Nat.le_of_ble_eq_true hl2) rfl (fun ls' h' => ax_K0 K rfl rfl (hL.set1 (v := .int (x + ax_lit v)) h') hR hS)
  case iadd =>
    obtain rfl := Nat.eq_of_beq_eq_true hln
    obtain ⟨x, y, r, rfl, hk⟩ := ax_i2_s hst; cases hk
    exact lv_iadd hx hb hd (ax_K0 K rfl rfl hL hR hS)
  case isub =>
    obtain rfl := Nat.eq_of_beq_eq_true hln
    obtain ⟨x, y, r, rfl, hk⟩ := ax_i2_s hst; cases hk
    exact lv_isub hx hb hd (ax_K0 K rfl rfl hL hR hS)
  case imul =>
    obtain rfl := Nat.eq_of_beq_eq_true hln
    obtain ⟨x, y, r, rfl, hk⟩ := ax_i2_s hst; cases hk
    exact lv_imul hx hb hd (ax_K0 K rfl rfl hL hR hS)
  case iand =>
    obtain rfl := Nat.eq_of_beq_eq_true hln
    obtain ⟨x, y, r, rfl, hk⟩ := ax_i2_s hst; cases hk
    exact lv_iand hx hb hd (ax_K0 K rfl rfl hL hR hS)
  case ior =>
    obtain rfl := Nat.eq_of_beq_eq_true hln
    obtain ⟨x, y, r, rfl, hk⟩ := ax_i2_s hst; cases hk
    exact lv_ior hx hb hd (ax_K0 K rfl rfl hL hR hS)
  case ixor =>
    obtain rfl := Nat.eq_of_beq_eq_true hln
    obtain ⟨x, y, r, rfl, hk⟩ := ax_i2_s hst; cases hk
    exact lv_ixor hx hb hd (ax_K0 K rfl rfl hL hR hS)
  case idiv =>
    obtain rfl := Nat.eq_of_beq_eq_true hln
    obtain ⟨x, y, r, rfl, hk⟩ := ax_i2_s hst
    split at hk
    · cases hk
    · rename_i hy; cases hk
      exact lv_idiv hx hb hd hy (ax_K0 K rfl rfl hL hR hS)
  case irem =>
    obtain rfl := Nat.eq_of_beq_eq_true hln
    obtain ⟨x, y, r, rfl, hk⟩ := ax_i2_s hst
    split at hk
    · cases hk
    · rename_i hy; cases hk
      exact lv_irem hx hb hd hy (ax_K0 K rfl rfl hL hR hS)
  case ineg =>
    obtain rfl := Nat.eq_of_beq_eq_true hln
    obtain ⟨x, r, rfl, hk⟩ := ax_i1_s hst; cases hk
    exact lv_ineg hx hb hd (ax_K0 K rfl rfl hL hR hS)
  case ishl =>
    obtain rfl := Nat.eq_of_beq_eq_true hln
    obtain ⟨x, y, r, rfl, hk⟩ := ax_i2_s hst; cases hk
    exact lv_ishl hx hb hd (ax_K0 K rfl rfl hL hR hS)
  case ishr =>
    obtain rfl := Nat.eq_of_beq_eq_true hln
    obtain ⟨x, y, r, rfl, hk⟩ := ax_i2_s hst; cases hk
    exact lv_ishr hx hb hd (ax_K0 K rfl rfl hL hR hS)
  case iushr =>
    obtain rfl := Nat.eq_of_beq_eq_true hln
    obtain ⟨x, y, r, rfl, hk⟩ := ax_i2_s hst; cases hk
    exact lv_iushr hx hb hd rfl (ax_K0 K rfl rfl hL hR hS)
  case ladd =>
    obtain rfl := Nat.eq_of_beq_eq_true hln
    obtain ⟨x, y, r, rfl, hk⟩ := ax_l2_s hst; cases hk
    exact lv_ladd hx hb hd (ax_K0 K rfl rfl hL hR hS)
  case lsub =>
    obtain rfl := Nat.eq_of_beq_eq_true hln
    obtain ⟨x, y, r, rfl, hk⟩ := ax_l2_s hst; cases hk
    exact lv_lsub hx hb hd (ax_K0 K rfl rfl hL hR hS)
  case lmul =>
    obtain rfl := Nat.eq_of_beq_eq_true hln
    obtain ⟨x, y, r, rfl, hk⟩ := ax_l2_s hst; cases hk
    exact lv_lmul hx hb hd (ax_K0 K rfl rfl hL hR hS)
  case land =>
    obtain rfl := Nat.eq_of_beq_eq_true hln
    obtain ⟨x, y, r, rfl, hk⟩ := ax_l2_s hst; cases hk
    exact lv_land hx hb hd (ax_K0 K rfl rfl hL hR hS)
  case lor =>
    obtain rfl := Nat.eq_of_beq_eq_true hln
    obtain ⟨x, y, r, rfl, hk⟩ := ax_l2_s hst; cases hk
    exact lv_lor hx hb hd (ax_K0 K rfl rfl hL hR hS)
  case lxor =>
    obtain rfl := Nat.eq_of_beq_eq_true hln
    obtain ⟨x, y, r, rfl, hk⟩ := ax_l2_s hst; cases hk
    exact lv_lxor hx hb hd (ax_K0 K rfl rfl hL hR hS)
  case ldiv =>
    obtain rfl := Nat.eq_of_beq_eq_true hln
    obtain ⟨x, y, r, rfl, hk⟩ := ax_l2_s hst
    split at hk
    · cases hk
    · rename_i hy; cases hk
      exact lv_ldiv hx hb hd hy (ax_K0 K rfl rfl hL hR hS)
  case lrem =>
    obtain rfl := Nat.eq_of_beq_eq_true hln
    obtain ⟨x, y, r, rfl, hk⟩ := ax_l2_s hst
    split at hk
    · cases hk
    · rename_i hy; cases hk
      exact lv_lrem hx hb hd hy (ax_K0 K rfl rfl hL hR hS)
  case lneg =>
    obtain rfl := Nat.eq_of_beq_eq_true hln
    obtain ⟨x, r, rfl, hk⟩ := ax_l1_s hst; cases hk
    exact lv_lneg hx hb hd (ax_K0 K rfl rfl hL hR hS)
  case lshl =>
    obtain rfl := Nat.eq_of_beq_eq_true hln
    obtain ⟨x, y, r, rfl, hk⟩ := ax_li_s hst; cases hk
    exact lv_lshl hx hb hd rfl (ax_K0 K rfl rfl hL hR hS)
  case lshr =>
    obtain rfl := Nat.eq_of_beq_eq_true hln
    obtain ⟨x, y, r, rfl, hk⟩ := ax_li_s hst; cases hk
    exact lv_lshr hx hb hd rfl (ax_K0 K rfl rfl hL hR hS)
  case lushr =>
    obtain rfl := Nat.eq_of_beq_eq_true hln
    obtain ⟨x, y, r, rfl, hk⟩ := ax_li_s hst; cases hk
    exact lv_lushr hx hb hd rfl (ax_K0 K rfl rfl hL hR hS)
  case lcmp =>
    obtain rfl := Nat.eq_of_beq_eq_true hln
    obtain ⟨x, y, r, rfl, hk⟩ := ax_l2_s hst; cases hk
    exact W.lcmp hx hb hd (ax_K0 K rfl rfl hL hR hS)
  case i2l =>
    obtain rfl := Nat.eq_of_beq_eq_true hln
    obtain ⟨x, r, rfl, hk⟩ := ax_i1_s hst; cases hk
    exact lv_i2l hx hb hd rfl (ax_K0 K rfl rfl hL hR hS)
  case l2i =>
    obtain rfl := Nat.eq_of_beq_eq_true hln
    obtain ⟨x, r, rfl, hk⟩ := ax_l1_s hst; cases hk
    exact lv_l2i hx hb hd rfl (ax_K0 K rfl rfl hL hR hS)
  case i2c =>
    obtain rfl := Nat.eq_of_beq_eq_true hln
    obtain ⟨x, r, rfl, hk⟩ := ax_i1_s hst; cases hk
    exact lv_i2c hx hb hd rfl (ax_K0 K rfl rfl hL hR hS)
  case dup =>
    obtain rfl := Nat.eq_of_beq_eq_true hln
    unfold ax_step at hst; dsimp only at hst
    split at hst <;> cases hst <;> exact lv_dup hx hb hd rfl (ax_K0 K rfl rfl hL hR hS)
  case dup2 =>
    obtain rfl := Nat.eq_of_beq_eq_true hln
    unfold ax_step at hst; dsimp only at hst
    split at hst <;> cases hst <;> exact lv_dup2_11 hx hb hd rfl rfl (ax_K0 K rfl rfl hL hR hS)
  case dup_x1 =>
    obtain rfl := Nat.eq_of_beq_eq_true hln
    unfold ax_step at hst; dsimp only at hst
    split at hst <;> cases hst <;> exact lv_dup_x1 hx hb hd rfl rfl (ax_K0 K rfl rfl hL hR hS)
  case pop =>
    obtain rfl := Nat.eq_of_beq_eq_true hln
    unfold ax_step at hst; dsimp only at hst
    split at hst <;> cases hst <;> exact lv_pop hx hb hd rfl (ax_K0 K rfl rfl hL hR hS)
  case goto off =>
    obtain rfl := Nat.eq_of_beq_eq_true hln
    unfold ax_step at hst; dsimp only at hst
    obtain ⟨t, ht, hk⟩ := ax_jmp_s hst; cases hk
    exact lv_goto hx hb hd ht (ax_K0 K rfl rfl hL hR hS)
  case ldc j =>
    obtain rfl := Nat.eq_of_beq_eq_true hln
    unfold ax_step at hst; dsimp only at hst
    split at hst
    · rename_i hv; cases hst
      exact lv_ldc hx hb hown (hts _ (F.2.2.1.1 _ _ _ hv)) hd (ax_K0 K rfl rfl hL hR hS)
    · split at hst
      · rename_i hv; cases hst
        obtain ⟨tx, hZ⟩ := hSt.2.2.2.2.2.2.2.1 _ _ _ hv
        exact va_ldcS hx hb hown hZ hd (ax_K0 K rfl rfl hL hR hS)
      · cases hst
  case ifCond cd off =>
    obtain ⟨hl1, hl2⟩ := Bool.and_eq_true_iff.mp hln
    obtain rfl := Nat.eq_of_beq_eq_true hl1
    obtain ⟨t, ht, hj⟩ := ax_tg_s hl2
    obtain ⟨x, r, rfl, hk⟩ := ax_i1_s hst
    rw [hj] at hk
    cases cd <;> simp only [ax_icmp] at hk
    · exact lv_if_eq hx hb hd ht (fun q => by rw [if_pos q] at hk; cases hk; exact ax_K0 K rfl rfl hL hR hS) (fun q => by rw [if_neg q] at hk; cases hk; exact ax_K0 K rfl rfl hL hR hS)
    · exact lv_if_ne hx hb hd ht (fun q => by rw [if_neg q] at hk; cases hk; exact ax_K0 K rfl rfl hL hR hS) (fun q => by rw [if_pos q] at hk; cases hk; exact ax_K0 K rfl rfl hL hR hS)
    · exact lv_if_lt hx hb hd ht (fun q => by rw [if_pos q] at hk; cases hk; exact ax_K0 K rfl rfl hL hR hS) (fun q => by rw [if_neg q] at hk; cases hk; exact ax_K0 K rfl rfl hL hR hS)
    · exact lv_if_ge hx hb hd ht (fun q => by rw [if_pos q] at hk; cases hk; exact ax_K0 K rfl rfl hL hR hS) (fun q => by rw [if_neg q] at hk; cases hk; exact ax_K0 K rfl rfl hL hR hS)
    · exact lv_if_gt hx hb hd ht (fun q => by rw [if_pos q] at hk; cases hk; exact ax_K0 K rfl rfl hL hR hS) (fun q => by rw [if_neg q] at hk; cases hk; exact ax_K0 K rfl rfl hL hR hS)
    · exact lv_if_le hx hb hd ht (fun q => by rw [if_pos q] at hk; cases hk; exact ax_K0 K rfl rfl hL hR hS) (fun q => by rw [if_neg q] at hk; cases hk; exact ax_K0 K rfl rfl hL hR hS)
  case if_icmp cd off =>
    obtain ⟨hl1, hl2⟩ := Bool.and_eq_true_iff.mp hln
    obtain rfl := Nat.eq_of_beq_eq_true hl1
    obtain ⟨t, ht, hj⟩ := ax_tg_s hl2
    obtain ⟨x, y, r, rfl, hk⟩ := ax_i2_s hst
    rw [hj] at hk
    cases cd <;> simp only [ax_icmp] at hk
    · exact lv_icmp_eq hx hb hd ht (fun q => by rw [if_pos q] at hk; cases hk; exact ax_K0 K rfl rfl hL hR hS) (fun q => by rw [if_neg q] at hk; cases hk; exact ax_K0 K rfl rfl hL hR hS)
    · exact lv_icmp_ne hx hb hd ht (fun q => by rw [if_neg q] at hk; cases hk; exact ax_K0 K rfl rfl hL hR hS) (fun q => by rw [if_pos q] at hk; cases hk; exact ax_K0 K rfl rfl hL hR hS)
    · exact lv_icmp_lt hx hb hd ht (fun q => by rw [if_pos q] at hk; cases hk; exact ax_K0 K rfl rfl hL hR hS) (fun q => by rw [if_neg q] at hk; cases hk; exact ax_K0 K rfl rfl hL hR hS)
    · exact lv_icmp_ge hx hb hd ht (fun q => by rw [if_pos q] at hk; cases hk; exact ax_K0 K rfl rfl hL hR hS) (fun q => by rw [if_neg q] at hk; cases hk; exact ax_K0 K rfl rfl hL hR hS)
    · exact lv_icmp_gt hx hb hd ht (fun q => by rw [if_pos q] at hk; cases hk; exact ax_K0 K rfl rfl hL hR hS) (fun q => by rw [if_neg q] at hk; cases hk; exact ax_K0 K rfl rfl hL hR hS)
    · exact lv_icmp_le hx hb hd ht (fun q => by rw [if_pos q] at hk; cases hk; exact ax_K0 K rfl rfl hL hR hS) (fun q => by rw [if_neg q] at hk; cases hk; exact ax_K0 K rfl rfl hL hR hS)
  case ifnull off =>
    obtain rfl := Nat.eq_of_beq_eq_true hln
    unfold ax_step at hst; dsimp only at hst
    split at hst
    · cases hst
      exact lv_ifnull hx hb hd (ax_K0 K rfl rfl hL hR hS)
    · obtain ⟨t, ht, hk⟩ := ax_jmp_s hst; cases hk
      exact lv_ifnullN hx hb hd ht (ax_K0 K rfl rfl hL hR hS)
    · cases hst
  case ifnonnull off =>
    obtain rfl := Nat.eq_of_beq_eq_true hln
    unfold ax_step at hst; dsimp only at hst
    split at hst
    · obtain ⟨t, ht, hk⟩ := ax_jmp_s hst; cases hk
      exact lv_ifnonnull hx hb hd ht (ax_K0 K rfl rfl hL hR hS)
    · cases hst
      exact lv_ifnonnullN hx hb hd (ax_K0 K rfl rfl hL hR hS)
    · cases hst
  case tableswitch df lo hi offs =>
    unfold ax_step at hst; dsimp only at hst
    obtain ⟨x, r, rfl, hk⟩ := ax_i1_s hst
    split at hk
    · rename_i hq
      obtain ⟨t, ht, hk⟩ := ax_jmp_s hk; cases hk
      exact lv_tableOut hx hb hd hq ht (ax_K0 K rfl rfl hL hR hS)
    · rename_i hq
      split at hk
      · rename_i off ho
        obtain ⟨t, ht, hk⟩ := ax_jmp_s hk; cases hk
        exact lv_tableIn hx hb hd (fun q => hq (Or.inl q)) (fun q => hq (Or.inr q)) (by rw [← Array.getElem?_toList]; exact ho) ht (ax_K0 K rfl rfl hL hR hS)
      · cases hk
  case lookupswitch df ps =>
    unfold ax_step at hst; dsimp only at hst
    obtain ⟨x, r, rfl, hk⟩ := ax_i1_s hst
    rcases ax_bif_s hk with ⟨hq, hk⟩ | ⟨hq, hk⟩
    · obtain ⟨t, ht, hk⟩ := ax_jmp_s hk; cases hk
      exact lv_lookup hx hb hd hq rfl ht (ax_K0 K rfl rfl hL hR hS)
    · cases hk
  case getfield j =>
    obtain rfl := Nat.eq_of_beq_eq_true hln
    unfold ax_step at hst; dsimp only at hst
    obtain ⟨ci, fs, a, r, rfl, he, hk⟩ := ax_ob_s hst
    rcases ax_bif_s hk with ⟨hq, hk⟩ | ⟨hq, hk⟩
    · split at hk
      · rename_i v hv; cases hk
        exact ax_rget F C0 hR he (Nat.eq_of_beq_eq_true hq) hv hd (ax_K0 K rfl rfl hL hR hS)
      · cases hk
    · cases hk
  case putfield j =>
    obtain rfl := Nat.eq_of_beq_eq_true hln
    unfold ax_step at hst; dsimp only at hst
    split at hst
    · rename_i v st2
      obtain ⟨ci, fs, a, r, rfl, he, hk⟩ := ax_ob_s hst
      rcases ax_bif_s hk with ⟨hq, hk⟩ | ⟨hq, hk⟩
      · split at hk
        · rename_i w hw
          rcases ax_bif_s hk with ⟨hg, hk⟩ | ⟨hg, hk⟩
          · obtain ⟨hg1, hg2⟩ := Bool.and_eq_true_iff.mp hg
            have hz : (ax_fz ci (ax_fd (ax_own m) j).2 = true → ∃ x, v = .int x ∧ (x = 0 ∨ x = 1)) ∧ ax_ret (pc + 3) ls r (h.set a (.inr (ci, fs.set (ax_fd (ax_own m) j).2 v))) = some (pc', ls', st', h1) := by
              unfold ax_store at hk
              rcases ax_bif_s hk with ⟨hf, hk⟩ | ⟨hf, hk⟩
              · split at hk
                · split at hk
                  · rename_i hv; exact ⟨fun _ => ⟨_, rfl, hv⟩, hk⟩
                  · cases hk
                · cases hk
              · exact ⟨fun q => (by rw [hf] at q; cases q), hk⟩
            obtain ⟨hz, hk⟩ := hz
            cases hk
            exact ax_rput F C0 hR hS he (Nat.eq_of_beq_eq_true hq) hw hg1 hg2 hz hd (fun H1 locs1 hR1 hS1 => ax_K0 K (List.length_set ..) (ax_hsz_set _ _ _ _ he (List.length_set ..)) hL hR1 hS1)
          · cases hk
        · cases hk
      · cases hk
    · cases hst
  case iaload =>
    obtain rfl := Nat.eq_of_beq_eq_true hln
    unfold ax_step at hst; dsimp only at hst
    split at hst
    · split at hst
      · cases hst
      · rename_i hi; cases hst
        exact va_sld hx hb hSt.2.1 (Nat.lt_of_lt_of_le hSt.2.2.1 hSt.2.2.2.1) (Nat.not_le.mpr hSt.2.2.1) hS hi hd (ax_K0 K rfl rfl hL hR hS)
    · obtain ⟨t, n, ct, a, i, r, rfl, he, hi, hk⟩ := ax_ar_s hst
      split at hk
      · cases hk
        exact va_iald hx hb hSt.1 (hR.one he) 0 0 rfl rfl hi hd (ax_K0 K rfl rfl hL hR hS)
      · cases hk
  case baload =>
    obtain rfl := Nat.eq_of_beq_eq_true hln
    unfold ax_step at hst; dsimp only at hst
    obtain ⟨t, n, ct, a, i, r, rfl, he, hi, hk⟩ := ax_ar_s hst
    split at hk
    · cases hk
      exact va_zald hx hb hSt.1 (hR.one he) 0 2 rfl rfl hi hd (ax_K0 K rfl rfl hL hR hS)
    · cases hk
  case laload =>
    obtain rfl := Nat.eq_of_beq_eq_true hln
    unfold ax_step at hst; dsimp only at hst
    obtain ⟨t, n, ct, a, i, r, rfl, he, hi, hk⟩ := ax_ar_s hst
    split at hk
    · cases hk
      exact va_lald hx hb hSt.1 (hR.one he) 0 1 rfl rfl hi hd (ax_K0 K rfl rfl hL hR hS)
    · cases hk
  case aaload =>
    obtain rfl := Nat.eq_of_beq_eq_true hln
    unfold ax_step at hst; dsimp only at hst
    obtain ⟨t, n, ct, a, i, r, rfl, he, hi, hk⟩ := ax_ar_s hst
    have rf : ∀ o : Option Nat, ax_cv G (va_rf o) = va_rf (o.map (ax_cr G)) := fun o => by cases o <;> rfl
    split at hk
    · rename_i f
      cases hk
      have w := ax_K0 K rfl rfl hL hR hS
      rw [List.map_cons, rf] at w
      exact va_aldq hx hb hSt.1 (hR.one he) 0 3 rfl rfl hi hd w
    · rename_i f
      cases hk
      have w := ax_K0 K rfl rfl hL hR hS
      rw [List.map_cons, rf] at w
      exact va_aldq hx hb hSt.1 (hR.one he) 0 4 rfl rfl hi hd w
    · cases hk
  case iastore =>
    obtain rfl := Nat.eq_of_beq_eq_true hln
    unfold ax_step at hst; dsimp only at hst
    obtain ⟨x, st2, rfl, hst⟩ := ax_i1_s hst
    obtain ⟨t, n, ct, a, i, r, rfl, he, hi, hk⟩ := ax_ar_s hst
    split at hk
    · cases hk
      exact ax_riast hx hb hSt.1 hR hS he hi hd (fun H1 locs1 hR1 hS1 => ax_K0 K (List.length_set ..) (ax_hsz_set _ _ _ _ he rfl) hL hR1 hS1)
    · cases hk
  case bastore =>
    obtain rfl := Nat.eq_of_beq_eq_true hln
    unfold ax_step at hst; dsimp only at hst
    obtain ⟨x, st2, rfl, hst⟩ := ax_i1_s hst
    obtain ⟨t, n, ct, a, i, r, rfl, he, hi, hk⟩ := ax_ar_s hst
    split at hk
    · cases hk
      exact ax_rbast hx hb hSt.1 hR hS he hi hd (fun H1 locs1 hR1 hS1 => ax_K0 K (List.length_set ..) (ax_hsz_set _ _ _ _ he rfl) hL hR1 hS1)
    · cases hk
  case lastore =>
    obtain rfl := Nat.eq_of_beq_eq_true hln
    unfold ax_step at hst; dsimp only at hst
    obtain ⟨x, st2, rfl, hst⟩ := ax_l1_s hst
    obtain ⟨t, n, ct, a, i, r, rfl, he, hi, hk⟩ := ax_ar_s hst
    split at hk
    · cases hk
      exact ax_rlast hx hb hSt.1 hR hS he hi hd (fun H1 locs1 hR1 hS1 => ax_K0 K (List.length_set ..) (ax_hsz_set _ _ _ _ he rfl) hL hR1 hS1)
    · cases hk
  case aastore =>
    obtain rfl := Nat.eq_of_beq_eq_true hln
    unfold ax_step at hst; dsimp only at hst
    split at hst
    · rename_i q st2
      obtain ⟨t, n, ct, a, i, r, rfl, he, hi, hk⟩ := ax_ar_s hst
      split at hk
      · rename_i hq; cases hk
        exact ax_raast (t := 3) (ci := 7) (r := (RX7, TX7, 18)) hx hb hSt.1 hR hS rfl rfl hq he hi hd (fun H1 locs1 hR1 hS1 => ax_K0 K (List.length_set ..) (ax_hsz_set _ _ _ _ he rfl) hL hR1 hS1)
      · rename_i hq; cases hk
        exact ax_raast (t := 4) (ci := 5) (r := (RX5, TX5, 6)) hx hb hSt.1 hR hS rfl rfl hq he hi hd (fun H1 locs1 hR1 hS1 => ax_K0 K (List.length_set ..) (ax_hsz_set _ _ _ _ he rfl) hL hR1 hS1)
      · cases hk
    · rename_i st2
      obtain ⟨t, n, ct, a, i, r, rfl, he, hi, hk⟩ := ax_ar_s hst
      split at hk
      · cases hk
        exact ax_raastN (t := 4) (C := RX5) hx hb hSt.1 hR hS rfl he hi hd (fun H1 locs1 hR1 hS1 => ax_K0 K (List.length_set ..) (ax_hsz_set _ _ _ _ he rfl) hL hR1 hS1)
      · cases hk
    · cases hst
  case arraylength =>
    obtain rfl := Nat.eq_of_beq_eq_true hln
    unfold ax_step at hst; dsimp only at hst
    split at hst
    · cases hst
      exact va_slen hx hb hSt.2.1 (Nat.lt_of_lt_of_le hSt.2.2.1 hSt.2.2.2.1) (Nat.not_le.mpr hSt.2.2.1) hS hd (ax_K0 K rfl rfl hL hR hS)
    · split at hst
      · rename_i t n ct he
        rcases ax_bif_s hst with ⟨hq, hk⟩ | ⟨hq, hk⟩
        · cases hk
          obtain ⟨ty, ht⟩ := ax_tys_le G t (Nat.le_of_ble_eq_true hq)
          exact va_alen hx hb hSt.1 (hR.one he) 0 t rfl ht rfl hd (ax_K0 K rfl rfl hL hR hS)
        · cases hk
      · cases hst
    · cases hst
  case new j =>
    obtain rfl := Nat.eq_of_beq_eq_true hln
    unfold ax_step at hst; dsimp only at hst
    rcases ax_bif_s hst with ⟨hq, hk⟩ | ⟨hq, hk⟩
    · cases hk
      have h9 := Nat.le_of_ble_eq_true hq
      have hz : ax_sz (.inr (ax_cl (ax_own m) j, ax_f0 (ax_cl (ax_own m) j))) = ax_N (ax_cl (ax_own m) j) := (F.1 _ h9).2.2.2.2.2.2.1
      rw [ax_hsz_app, hz, Nat.add_sub_cancel_left] at hs
      rw [List.length_append, Nat.add_sub_cancel_left] at hc
      exact ax_rnew F C0 hR hS rfl h9 hd hc hs (fun H1 locs1 hR1 hS1 => ax_K1 K hz hL hR1 hS1)
    · cases hk
  case newarray t =>
    obtain rfl := Nat.eq_of_beq_eq_true hln
    unfold ax_step at hst; dsimp only at hst
    obtain ⟨x, r, rfl, hk⟩ := ax_i1_s hst
    split at hk
    · cases hk
    · rename_i hq
      have h0 : ¬ x < 0 := fun q => hq (Or.inl q)
      have h1 : x.toNatClampNeg < 1000000 := Nat.not_le.mp fun q => hq (Or.inr q)
      split at hk
      · cases hk
        rw [ax_hsz_app, Nat.add_sub_cancel_left] at hs
        rw [List.length_append, Nat.add_sub_cancel_left] at hc
        exact ax_rnewa (atype := .int) (t := 0) hx hb hSt.1 hR hS (hts _ F.2.2.1.2.2.2.2.1) rfl rfl (fun _ => rfl) h0 (by show x.toNatClampNeg * 4 ≤ _; omega) hc hs hd (fun H1 locs1 hR1 hS1 => ax_K1 K rfl hL hR1 hS1)
      · cases hk
        rw [ax_hsz_app, Nat.add_sub_cancel_left] at hs
        rw [List.length_append, Nat.add_sub_cancel_left] at hc
        exact ax_rnewa (atype := .boolean) (t := 2) hx hb hSt.1 hR hS (hts _ F.2.2.1.2.2.2.2.2.2) rfl rfl (fun _ => rfl) h0 (by show x.toNatClampNeg * 1 ≤ _; omega) hc hs hd (fun H1 locs1 hR1 hS1 => ax_K1 K rfl hL hR1 hS1)
      · cases hk
        rw [ax_hsz_app, Nat.add_sub_cancel_left] at hs
        rw [List.length_append, Nat.add_sub_cancel_left] at hc
        exact ax_rnewa (atype := .long) (t := 1) hx hb hSt.1 hR hS (hts _ F.2.2.1.2.2.2.2.2.1) rfl rfl (fun _ => rfl) h0 (by show x.toNatClampNeg * 8 ≤ _; omega) hc hs hd (fun H1 locs1 hR1 hS1 => ax_K1 K rfl hL hR1 hS1)
      · cases hk
  case anewarray j =>
    obtain rfl := Nat.eq_of_beq_eq_true hln
    unfold ax_step at hst; dsimp only at hst
    obtain ⟨x, r, rfl, hk⟩ := ax_i1_s hst
    split at hk
    · cases hk
    · rename_i hq
      have h0 : ¬ x < 0 := fun q => hq (Or.inl q)
      have h1 : x.toNatClampNeg < 1000000 := Nat.not_le.mp fun q => hq (Or.inr q)
      split at hk
      · rename_i hcl
        cases hk
        rw [ax_hsz_app, Nat.add_sub_cancel_left] at hs
        rw [List.length_append, Nat.add_sub_cancel_left] at hc
        have hlk := F.2.2.1.2.2.1 (ax_own m) j (by rw [hcl]; decide)
        rw [hcl] at hlk
        exact ax_rnewq (t := 3) hx hb hown (hts _ hlk) hSt.2.2.2.2.2.1 hSt.1 hR hS rfl h0 (by omega) hc hs hd (fun H1 locs1 hR1 hS1 => ax_K1 K rfl hL hR1 hS1)
      · rename_i hcl
        cases hk
        rw [ax_hsz_app, Nat.add_sub_cancel_left] at hs
        rw [List.length_append, Nat.add_sub_cancel_left] at hc
        have hlk := F.2.2.1.2.2.1 (ax_own m) j (by rw [hcl]; decide)
        rw [hcl] at hlk
        exact ax_rnewq (t := 4) hx hb hown (hts _ hlk) hSt.2.2.2.2.2.2.1 hSt.1 hR hS rfl h0 (by omega) hc hs hd (fun H1 locs1 hR1 hS1 => ax_K1 K rfl hL hR1 hS1)
      · cases hk
  case checkcast j =>
    obtain rfl := Nat.eq_of_beq_eq_true hln
    unfold ax_step at hst; dsimp only at hst
    rcases ax_bif_s hst with ⟨hq, hk⟩ | ⟨hq, hk⟩
    · split at hk
      · split at hk
        · rename_i he
          cases hk
          exact va_castA hx hb hown (hts _ (F.2.2.1.2.2.2.1 _ _ (Nat.eq_of_beq_eq_true hq))) (hR.one he) 0 rfl (hSt.1.2 0 _ rfl).2 hd (ax_K0 K rfl rfl hL hR hS)
        · cases hk
      · cases hk
    · cases hk
  all_goals cases hst
end
