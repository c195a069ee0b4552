/-! Calls that aren't walked: Object(), System.arraycopy, clone. -/
section
variable {p : Program} {l : Launch} {e : Env} {R : Room} {s : State} {mid : MethodId} {args : Array Value} {below : List Frame} {meth : Method} {c : Code} {H : Heap} {locs : List Loc} {cells slots : Nat} {Q : State → Prop} {G : ax_G} {X : Nat × (Nat → Int32)} {m : Nat}
variable {cc : ByteArray} {pc : Nat} {lsM : Array Slot} {rest : List Value} {h : ax_H} {H0 : Heap}
theorem ax_nn (z : Int32) (hz : ¬ z < 0) : z.toInt = (z.toNatClampNeg : Int) := by
  have hz0 : (0 : Int) ≤ z.toInt := by
    have := Int32.not_lt.mp hz
    simpa using Int32.le_iff_toInt_le.mp this
  show z.toInt = ((z.toInt.toNat : Nat) : Int)
  omega
/-- a stretch of one row of ints comes into another (or the same): the heap's size stays -/
theorem ax_rcopyi (hx : p.tables.exec = Jvm.exec) (hb : c.code = cc) (hml : c.maxLocals = lsM.size) {own : String} {index : Nat} (hown : s.vm.findClass own = some mid.cls) (hlink : (Cond.methodLink own index arraycopyName).before args s = true) (hnat : (Cond.native arraycopyName).before args s = true) (hstat : (Cond.static arraycopyName).before args s = true) (hini : (Cond.initialized "java/lang/System").before args s = true)
    (hK : va_K G.2.2.2.2 ax_cls (ax_tys G) s) (hR : ax_Rep G h H) (hS : va_S (ax_A G) H0 H locs) {a d n0 n1 : Nat} {f g : Nat → Int32} (ha : ax_at h a = some (.inl (0, n0, .inl f))) (hd : ax_at h d = some (.inl (0, n1, .inl g))) {sp dp n : Int32} (h1 : ¬ sp < 0) (h2 : ¬ dp < 0) (h3 : ¬ n < 0) (h4 : sp.toNatClampNeg + n.toNatClampNeg ≤ n0) (h5 : dp.toNatClampNeg + n.toNatClampNeg ≤ n1)
    (hframes : 1 ≤ R.frames) (hlocals : (rest.map fun v => v.category).sum + (nativeFrameWords "java/lang/System" "arraycopy" 5 + 11) ≤ R.locals) (hdg : decode cc pc = .ok (.invokestatic index, 3))
    (kk : ∀ (H1 : Heap) (locs1 : List Loc), ax_Rep G (h.set d (.inl (0, n1, .inl (va_cpy f g sp.toNatClampNeg dp.toNatClampNeg n.toNatClampNeg)))) H1 → va_S (ax_A G) H0 H1 locs1 → W p l e R s mid args below meth c H1 locs1 cells slots Q (F0 mid (pc + 3) lsM rest)) : W p l e R s mid args below meth c H locs cells slots Q (F0 mid pc lsM (.int n :: .int dp :: .ref (G.2.1 + d) :: .int sp :: .ref (G.2.1 + a) :: rest)) := by
  intro T hT X
  have hc0 : H[G.2.1 + a]? = some (vp_cell (G.2.2.2.1 0) (n0, .inl f)) := hR.2 a _ ha
  have hc1 : H[G.2.1 + d]? = some (vp_cell (G.2.2.2.1 0) (n1, .inl g)) := hR.2 d _ hd
  obtain ⟨-, k0, hk0, cm0, hkk0⟩ := (hK.2 0 _ rfl).1 n0 (fun j => .int (f j))
  obtain ⟨-, k1, hk1, cm1, hkk1⟩ := (hK.2 0 _ rfl).1 n1 (fun j => .int (g j))
  obtain ⟨vm', X', step⟩ := X.arraycopy hx hown hlink hnat hstat hini (src := G.2.1 + a) (dst := G.2.1 + d) (cs := vp_cell (G.2.2.2.1 0) (n0, .inl f)) (cd := vp_cell (G.2.2.2.1 0) (n1, .inl g)) (srcPos := sp) (destPos := dp) (n := n) (by rw [hT]; exact hc0) (by rw [hT]; exact hc1)
    (fun _ h => by cases h) (fun _ h => by cases h) (fun h => by cases h) (fun h => by cases h) hk0 hk1 hkk0 hkk1 rfl h1 h2 h3
    (by rw [ax_nn sp h1, ax_nn n h3]; show ¬ _ > ((arrV _ n0 (fun j => .int (f j))).slots.size : Int); rw [arrV_size]; omega)
    (by rw [ax_nn dp h2, ax_nn n h3]; show ¬ _ > ((arrV _ n1 (fun j => .int (g j))).slots.size : Int); rw [arrV_size]; omega)
    (fun vm₁ _ i hi => by
      have e : (vp_cell (G.2.2.2.1 0) (n0, .inl f)).slots.getD (sp.toNatClampNeg + i) .null = .int (f (sp.toNatClampNeg + i)) := by
        show (arrV _ n0 (fun j => .int (f j))).slots.getD _ _ = _
        rw [Array.getD_eq_getD_getElem?, arrV_read _ _ (by omega)]
        rfl
      rw [e]
      exact ⟨rfl, trivial⟩)
    (g := F0 mid pc lsM (.int n :: .int dp :: .ref (G.2.1 + d) :: .int sp :: .ref (G.2.1 + a) :: rest)) rfl (by rw [hml]) (rest := rest) rfl (by rw [hb]; exact hdg) hframes (by show 2 * 0 + _ + _ ≤ _; omega)
  have e1 : copied (vp_cell (G.2.2.2.1 0) (n0, .inl f)) (vp_cell (G.2.2.2.1 0) (n1, .inl g)) sp dp n = vp_cell (G.2.2.2.1 0) (n1, .inl (va_cpy f g sp.toNatClampNeg dp.toNatClampNeg n.toNatClampNeg)) := va_copied (fun z => .int z) _ _ f g h4
  rw [e1] at X' step
  generalize hY : vp_cell (G.2.2.2.1 0) (n1, .inl (va_cpy f g sp.toNatClampNeg dp.toNatClampNeg n.toNatClampNeg)) = Y at X' step
  have hl : G.2.1 + d < H.size := (Array.getElem?_eq_some_iff.mp hc1).1
  have hheap : ((T.setVm vm').setCell (G.2.1 + d) Y).heap = H.setIfInBounds (G.2.1 + d) Y := by rw [← hT]; rfl
  have oq : ∀ q : Nat, q ≠ G.2.1 + d → (H.setIfInBounds (G.2.1 + d) Y)[q]? = H[q]? := fun q hq => by simp [Array.getElem?_setIfInBounds, Ne.symm hq]
  have at1 : (H.setIfInBounds (G.2.1 + d) Y)[G.2.1 + d]? = some Y := by simp [Array.getElem?_setIfInBounds, hl]
  obtain ⟨t, a1, b1⟩ := kk _ _ (hR.put (show (H.setIfInBounds (G.2.1 + d) Y)[G.2.1 + d]? = some (vp_cell (G.2.2.2.1 0) (n1, .inl (va_cpy f g sp.toNatClampNeg dp.toNatClampNeg n.toNatClampNeg))) by rw [hY]; exact at1) (by simp) oq) ⟨by simp; exact hS.1, fun q g1 g2 => by
      rw [oq q (fun e => g2 (by rw [e]; exact Nat.le_add_right _ _))]
      exact hS.2.1 q g1 g2, fun q hq => by
      rcases List.mem_append.mp hq with h | h
      · exact hS.2.2 q h
      · obtain ⟨z, -, hz⟩ := List.mem_map.mp h
        rw [← hz]
        exact Nat.le_add_right _ _⟩ _ hheap X'
  exact ⟨t, step t a1, b1⟩
theorem ax_elq_s {f : Nat → Option Nat} {sp : Nat} : ∀ {n : Nat}, ax_elq h f sp n = true → ∀ i, i < n → ∀ y, f (sp + i) = some y → ∃ q vs, y = q + 1 ∧ ax_at h q = some (.inr (5, vs))
  | 0, _, i, hi, _, _ => absurd hi (Nat.not_lt_zero i)
  | n + 1, hq, i, hi, y, hy => by
    obtain ⟨h1, h2⟩ := Bool.and_eq_true_iff.mp hq
    rcases Nat.lt_or_ge i n with q | q
    · exact ax_elq_s h1 i q y hy
    · have e : i = n := by omega
      subst e
      rw [hy] at h2
      cases y with
      | zero => cases h2
      | succ q =>
        dsimp only at h2
        split at h2
        · rename_i he; exact ⟨q, _, rfl, he⟩
        · cases h2
theorem ax_cpy_map (f g : Nat → Option Nat) (sp dp n : Nat) (φ : Nat → Nat) : va_cpy (fun j => (f j).map φ) (fun j => (g j).map φ) sp dp n = fun j => (va_cpy f g sp dp n j).map φ := by
  funext j
  unfold va_cpy
  split <;> rfl
/-- a stretch of one row of texts comes into another -/
theorem ax_rcopyq (hx : p.tables.exec = Jvm.exec) (hb : c.code = cc) (hml : c.maxLocals = lsM.size) {own : String} {index : Nat} (hown : s.vm.findClass own = some mid.cls) (hlink : (Cond.methodLink own index arraycopyName).before args s = true) (hnat : (Cond.native arraycopyName).before args s = true) (hstat : (Cond.static arraycopyName).before args s = true) (hini : (Cond.initialized "java/lang/System").before args s = true)
    (hK : va_K G.2.2.2.2 ax_cls (ax_tys G) s) (hR : ax_Rep G h H) (hS : va_S (ax_A G) H0 H locs) {a d n0 n1 : Nat} {f g : Nat → Option Nat} (ha : ax_at h a = some (.inl (4, n0, .inr (.inr (.inr (.inr f)))))) (hd : ax_at h d = some (.inl (4, n1, .inr (.inr (.inr (.inr g)))))) {sp dp n : Int32} (h1 : ¬ sp < 0) (h2 : ¬ dp < 0) (h3 : ¬ n < 0) (h4 : sp.toNatClampNeg + n.toNatClampNeg ≤ n0) (h5 : dp.toNatClampNeg + n.toNatClampNeg ≤ n1) (hel : ax_elq h f sp.toNatClampNeg n.toNatClampNeg = true)
    (hframes : 1 ≤ R.frames) (hlocals : (rest.map fun v => v.category).sum + (nativeFrameWords "java/lang/System" "arraycopy" 5 + 11) ≤ R.locals) (hdg : decode cc pc = .ok (.invokestatic index, 3))
    (kk : ∀ (H1 : Heap) (locs1 : List Loc), ax_Rep G (h.set d (.inl (4, n1, .inr (.inr (.inr (.inr (va_cpy f g sp.toNatClampNeg dp.toNatClampNeg n.toNatClampNeg))))))) H1 → va_S (ax_A G) H0 H1 locs1 → W p l e R s mid args below meth c H1 locs1 cells slots Q (F0 mid (pc + 3) lsM rest)) : W p l e R s mid args below meth c H locs cells slots Q (F0 mid pc lsM (.int n :: .int dp :: .ref (G.2.1 + d) :: .int sp :: .ref (G.2.1 + a) :: rest)) := by
  intro T hT X
  have hc0 : H[G.2.1 + a]? = some (vp_cell (G.2.2.2.1 4) (n0, .inr (.inr (.inr (.inr (fun j => (f j).map (ax_cr G))))))) := hR.2 a _ ha
  have hc1 : H[G.2.1 + d]? = some (vp_cell (G.2.2.2.1 4) (n1, .inr (.inr (.inr (.inr (fun j => (g j).map (ax_cr G))))))) := hR.2 d _ hd
  obtain ⟨-, k0, hk0, cm0, hkk0⟩ := (hK.2 4 _ rfl).1 n0 (fun j => va_rf ((f j).map (ax_cr G)))
  obtain ⟨-, k1, hk1, cm1, hkk1⟩ := (hK.2 4 _ rfl).1 n1 (fun j => va_rf ((g j).map (ax_cr G)))
  obtain ⟨vm', X', step⟩ := X.arraycopy hx hown hlink hnat hstat hini (src := G.2.1 + a) (dst := G.2.1 + d) (cs := vp_cell (G.2.2.2.1 4) (n0, .inr (.inr (.inr (.inr (fun j => (f j).map (ax_cr G))))))) (cd := vp_cell (G.2.2.2.1 4) (n1, .inr (.inr (.inr (.inr (fun j => (g j).map (ax_cr G))))))) (srcPos := sp) (destPos := dp) (n := n) (by rw [hT]; exact hc0) (by rw [hT]; exact hc1)
    (fun _ h => by cases h) (fun _ h => by cases h) (fun h => by cases h) (fun h => by cases h) hk0 hk1 hkk0 hkk1 rfl h1 h2 h3
    (by rw [ax_nn sp h1, ax_nn n h3]; show ¬ _ > ((arrV _ n0 (fun j => va_rf ((f j).map (ax_cr G)))).slots.size : Int); rw [arrV_size]; omega)
    (by rw [ax_nn dp h2, ax_nn n h3]; show ¬ _ > ((arrV _ n1 (fun j => va_rf ((g j).map (ax_cr G)))).slots.size : Int); rw [arrV_size]; omega)
    (fun vm₁ hal i hi => by
      have e : (vp_cell (G.2.2.2.1 4) (n0, .inr (.inr (.inr (.inr (fun j => (f j).map (ax_cr G))))))).slots.getD (sp.toNatClampNeg + i) .null = va_rf ((f (sp.toNatClampNeg + i)).map (ax_cr G)) := by
        show (arrV _ n0 (fun j => va_rf ((f j).map (ax_cr G)))).slots.getD _ _ = _
        rw [Array.getD_eq_getD_getElem?, arrV_read _ _ (by omega)]
        rfl
      rw [e]
      cases hy : f (sp.toNatClampNeg + i) with
      | none => exact ⟨rfl, trivial⟩
      | some y =>
        obtain ⟨q, vs, rfl, hq⟩ := ax_elq_s hel i hi y hy
        obtain ⟨r', hr', cellV, g1, g2, g3, -⟩ := hR.2 q _ hq
        have hcls := (hK.1 5 _ rfl).2
        obtain ⟨kA, comp, r1, r2, r3, -⟩ := (hK.2 4 _ rfl).2
        cases hk1.symm.trans r1
        cases hkk1.symm.trans r2
        obtain ⟨kC, hkC, -⟩ := Vm.findClass_spec hcls.1
        obtain ⟨kC', hkC', -⟩ := hal.2.2 _ _ hkC
        have hcomp : cm1 = G.2.2.2.2.1 5 := Option.some.inj (r3.symm.trans hcls.1)
        subst hcomp
        refine ⟨rfl, cellV, (show T.heap[G.2.1 + q]? = some cellV by rw [hT]; exact g1), (fun q h => by rw [h] at g3; cases g3), ⟨kC', by rw [g2]; exact hkC'⟩, ⟨kC', hkC'⟩, ?_⟩
        show vm₁.assignable _ _ = true
        rw [hal.assignable, g2]
        exact va_assign hcls)
    (g := F0 mid pc lsM (.int n :: .int dp :: .ref (G.2.1 + d) :: .int sp :: .ref (G.2.1 + a) :: rest)) rfl (by rw [hml]) (rest := rest) rfl (by rw [hb]; exact hdg) hframes (by show 2 * 0 + _ + _ ≤ _; omega)
  have e1 : copied (vp_cell (G.2.2.2.1 4) (n0, .inr (.inr (.inr (.inr (fun j => (f j).map (ax_cr G))))))) (vp_cell (G.2.2.2.1 4) (n1, .inr (.inr (.inr (.inr (fun j => (g j).map (ax_cr G))))))) sp dp n = vp_cell (G.2.2.2.1 4) (n1, .inr (.inr (.inr (.inr (fun j => (va_cpy f g sp.toNatClampNeg dp.toNatClampNeg n.toNatClampNeg j).map (ax_cr G)))))) := by
    rw [← ax_cpy_map, vp_cell_q, vp_cell_q, vp_cell_q]
    exact va_copied (fun z => va_rf z) _ _ (fun j => (f j).map (ax_cr G)) (fun j => (g j).map (ax_cr G)) h4
  rw [e1] at X' step
  generalize hY : vp_cell (G.2.2.2.1 4) (n1, .inr (.inr (.inr (.inr (fun j => (va_cpy f g sp.toNatClampNeg dp.toNatClampNeg n.toNatClampNeg j).map (ax_cr G)))))) = Y at X' step
  have hl : G.2.1 + d < H.size := (Array.getElem?_eq_some_iff.mp hc1).1
  have hheap : ((T.setVm vm').setCell (G.2.1 + d) Y).heap = H.setIfInBounds (G.2.1 + d) Y := by rw [← hT]; rfl
  have oq : ∀ q : Nat, q ≠ G.2.1 + d → (H.setIfInBounds (G.2.1 + d) Y)[q]? = H[q]? := fun q hq => by simp [Array.getElem?_setIfInBounds, Ne.symm hq]
  have at1 : (H.setIfInBounds (G.2.1 + d) Y)[G.2.1 + d]? = some Y := by simp [Array.getElem?_setIfInBounds, hl]
  obtain ⟨t, a1, b1⟩ := kk _ _ (hR.put (show (H.setIfInBounds (G.2.1 + d) Y)[G.2.1 + d]? = some (vp_cell (G.2.2.2.1 4) (n1, .inr (.inr (.inr (.inr (fun j => (va_cpy f g sp.toNatClampNeg dp.toNatClampNeg n.toNatClampNeg j).map (ax_cr G))))))) by rw [hY]; exact at1) (by simp) oq) ⟨by simp; exact hS.1, fun q g1 g2 => by
      rw [oq q (fun e => g2 (by rw [e]; exact Nat.le_add_right _ _))]
      exact hS.2.1 q g1 g2, fun q hq => by
      rcases List.mem_append.mp hq with h | h
      · exact hS.2.2 q h
      · obtain ⟨z, -, hz⟩ := List.mem_map.mp h
        rw [← hz]
        exact Nat.le_add_right _ _⟩ _ hheap X'
  exact ⟨t, step t a1, b1⟩
/-- a row of ints made like another -/
theorem ax_rclone (hx : p.tables.exec = Jvm.exec) (hb : c.code = cc) (hml : c.maxLocals = lsM.size) {own : String} {index : Nat} (hown : s.vm.findClass own = some mid.cls)
    (hlink : (Cond.methodLink own index ⟨"[I", "clone", "()Ljava/lang/Object;"⟩).before args s = true) (hsame : (Cond.sameMethod "[I" "java/lang/Object" "clone" "()Ljava/lang/Object;").before args s = true)
    (hnat : (Cond.native ⟨"java/lang/Object", "clone", "()Ljava/lang/Object;"⟩).before args s = true) (hinst : (Cond.instanceMethod ⟨"java/lang/Object", "clone", "()Ljava/lang/Object;"⟩).before args s = true)
    (hsel : (Cond.selects "[I" ⟨"[I", "clone", "()Ljava/lang/Object;"⟩ ⟨"java/lang/Object", "clone", "()Ljava/lang/Object;"⟩).before args s = true) (hcl : va_Nw (.castable "[I" "java/lang/Cloneable") s)
    (hK : va_K G.2.2.2.2 ax_cls (ax_tys G) s) (hR : ax_Rep G h H) (hS : va_S (ax_A G) H0 H locs) {a n : Nat} {f : Nat → Int32} (ha : ax_at h a = some (.inl (0, n, .inl f)))
    (hframes : 1 ≤ R.frames) (hlocals : (rest.map fun v => v.category).sum + 14 ≤ R.locals) (hcells : cells + 1 ≤ R.cells) (hslots : slots + n ≤ R.slots) (hdg : decode cc pc = .ok (.invokevirtual index, 3))
    (kk : ∀ (H1 : Heap) (locs1 : List Loc), ax_Rep G (h ++ [.inl (0, n, .inl f)]) H1 → va_S (ax_A G) H0 H1 locs1 → W p l e R s mid args below meth c H1 locs1 (cells + 1) (slots + n) Q (F0 mid (pc + 3) lsM (.ref (G.2.1 + h.length) :: rest))) : W p l e R s mid args below meth c H locs cells slots Q (F0 mid pc lsM (.ref (G.2.1 + a) :: rest)) := by
  have hnm : s.vm.findClass "[I" = some (G.2.2.2.1 0) := (hK.2 0 _ rfl).2
  obtain ⟨c0, t0', f1, f2, f3⟩ := Cond.castable_spec (va_Nw.use (A := args) rfl hcl)
  cases hnm.symm.trans f1
  intro T hT X
  have hcell : H[G.2.1 + a]? = some (arrV (G.2.2.2.1 0) n (fun j => .int (f j))) := hR.2 a _ ha
  obtain ⟨-, kA, hkA, comp, hkind⟩ := State.isArrayOf_alike X.warmed.alike ((hK.2 0 _ rfl).1 0 (fun _ => .null))
  obtain ⟨-, kS, hkS, compS, hkindS⟩ := (hK.2 0 _ rfl).1 0 (fun _ => .null)
  obtain ⟨vm', X', st⟩ := X.cloneArray hx hown hlink hsame hnat hinst hsel (a := G.2.1 + a) (cell := arrV (G.2.2.2.1 0) n (fun j => .int (f j))) (by rw [hT]; exact hcell) (fun k h => by cases h) (fun h => by cases h) hnm f2 f3
    (fun i v hv => by
      have hk' : T.vm.classes[G.2.2.2.1 0]? = some kA := hkA
      have hf : fits .int v = true := by
        have hlt : i < n := by have := (Array.getElem?_eq_some_iff.mp hv).1; rw [arrV_size] at this; exact this
        rw [arrV_read _ _ hlt] at hv
        cases hv
        rfl
      show State.fitsSlot _ (G.2.2.2.1 0) _ _ _ = true
      simpa [State.fitsSlot, State.slotType?, hk', hkind] using hf)
    (g := F0 mid pc lsM (.ref (G.2.1 + a) :: rest)) rfl (by rw [hml]) rfl (by rw [hb]; exact hdg) hframes (by show 2 * 0 + _ + 14 ≤ _; omega) hcells (by rw [arrV_size]; exact hslots) (hloader := Vm.clonesLoader_of_array hkS hkindS)
  rw [arrV_size] at X'
  have hE : ({ cls := (arrV (G.2.2.2.1 0) n (fun j => .int (f j))).cls, slots := (arrV (G.2.2.2.1 0) n (fun j => .int (f j))).slots } : Cell) = arrV (G.2.2.2.1 0) n (fun j => .int (f j)) := rfl
  rw [hE] at X' st
  generalize hH1 : H.push (arrV (G.2.2.2.1 0) n (fun j => .int (f j))) = H1
  have z1 : H1.size = H.size + 1 := by rw [← hH1, Array.size_push]
  have e1 : H1[H.size]? = some (arrV (G.2.2.2.1 0) n (fun j => .int (f j))) := by rw [← hH1, Array.getElem?_push_size]
  have o1 : ∀ q : Nat, q < H.size → H1[q]? = H[q]? := fun q hq => by rw [← hH1, Array.getElem?_push, if_neg (Nat.ne_of_lt hq)]
  obtain ⟨t, b1, b2⟩ := kk H1 locs (hR.push (show H1[G.2.1 + h.length]? = some _ by rw [← hR.1]; exact e1) z1 o1) (ax_S_push hS z1 o1) ((T.setVm vm').pushCell (arrV (G.2.2.2.1 0) n (fun j => .int (f j)))) (by rw [← hH1, ← hT]; rfl) X'
  refine ⟨t, st t ?_, b2⟩
  rw [hT, hR.1]
  exact b1
end
