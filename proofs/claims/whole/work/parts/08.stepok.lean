/-! Rows with the heap's size kept, and the step. -/
theorem ax_fits {G : ax_G} {ty : FieldType} {d v : Value} {z : Bool} (hk : ax_tk ty d z = true) (hf : ax_fit d v = true) (hz : z = true → ∃ x, v = .int x ∧ (x = 0 ∨ x = 1)) : narrow ty (ax_cv G v) = ax_cv G v ∧ fits ty (ax_cv G v) = true := by
  cases ty <;> cases d <;> simp [ax_tk] at hk <;> cases v <;> simp [ax_fit] at hf <;> first
    | exact ⟨rfl, rfl⟩
    | (obtain ⟨x, e, hx⟩ := hz hk.2; cases e; rcases hx with rfl | rfl <;> exact ⟨rfl, rfl⟩)
section
variable {p : Program} {l : Launch} {e : Env} {R : Room} {s : State} {mid : MethodId} {args : Array Value} {below : List Frame} {meth : Method} {c : Code} {H : Heap} {locs : List Loc} {cells slots : Nat} {Q : State → Prop} {G : ax_G} {X : Nat × (Nat → Int32)} {m : Nat}
variable {cc : ByteArray} {pc : Nat} {lsM : Array Slot} {rest : List Value} {h : ax_H} {H0 : Heap}
theorem ax_cls_lt {ci : Nat} {r : vw_C} (hc : ax_cls[ci]? = some r) : ci ≤ 9 := by
  have := (List.getElem?_eq_some_iff.mp hc).1
  simp at this
  omega
theorem ax_rget (F : ax_F1) (C : ax_Cx G X p s mid args meth c m) (hR : ax_Rep G h H) {a ci j : Nat} {fs : List Value} {v : Value} (he : ax_at h a = some (.inr (ci, fs))) (hci : ci = (ax_fd (ax_own m) j).1) (hv : ax_at fs (ax_fd (ax_own m) j).2 = some v) (hdg : decode (ax_mt m).2.1 pc = .ok (.getfield j, 3))
    (kk : W p l e R s mid args below meth c H locs cells slots Q (F0 mid (pc + 3) lsM (ax_cv G v :: rest))) : W p l e R s mid args below meth c H locs cells slots Q (F0 mid pc lsM (.ref (G.2.1 + a) :: rest)) := by
  obtain ⟨hx, hb, -, hown, hts, -, hK, -⟩ := C
  obtain ⟨r, hr, -⟩ := hR.2 a _ he
  have h9 : ci ≤ 9 := ax_cls_lt hr
  obtain ⟨hc, -, -, hin, -, -, -, hT⟩ := F.1 ci h9
  obtain ⟨hk, hl⟩ := F.2.1 (ax_own m) j (by rw [← hci]; exact h9)
  rw [← hci] at hk hl
  refine va_get (ci := ci) (C := ax_cn ci) (T := ax_T ci) (N := ax_N ci) hx hb hts hin hown hK (hR.one he) 0 rfl hc (ax_fd (ax_own m) j).2 hk (hts _ hl) (fun x q => by rw [(hT _ hk).2.2] at q; exact q) ?_ hdg kk
  rw [List.getElem?_map, ← ax_at_eq, hv]
  rfl
theorem ax_rput (F : ax_F1) (C : ax_Cx G X p s mid args meth c m) (hR : ax_Rep G h H) (hS : va_S (ax_A G) H0 H locs) {a ci j : Nat} {fs : List Value} {v w : Value} (he : ax_at h a = some (.inr (ci, fs))) (hci : ci = (ax_fd (ax_own m) j).1) (hw : ax_at fs (ax_fd (ax_own m) j).2 = some w) (hfk : ax_fk m ci (ax_fd (ax_own m) j).2 = true) (hft : ax_fit (ax_get (ax_f0 ci) (ax_fd (ax_own m) j).2) v = true) (hz : ax_fz ci (ax_fd (ax_own m) j).2 = true → ∃ x, v = .int x ∧ (x = 0 ∨ x = 1)) (hdg : decode (ax_mt m).2.1 pc = .ok (.putfield j, 3))
    (kk : ∀ (H1 : Heap) (locs1 : List Loc), ax_Rep G (h.set a (.inr (ci, fs.set (ax_fd (ax_own m) j).2 v))) H1 → va_S (ax_A G) H0 H1 locs1 → W p l e R s mid args below meth c H1 locs1 cells slots Q (F0 mid (pc + 3) lsM rest)) : W p l e R s mid args below meth c H locs cells slots Q (F0 mid pc lsM (ax_cv G v :: .ref (G.2.1 + a) :: rest)) := by
  obtain ⟨hx, hb, -, hown, hts, hin2, hK, -⟩ := C
  obtain ⟨r, hr, cell, q1, q2, q3, q4⟩ := hR.2 a _ he
  have h9 : ci ≤ 9 := ax_cls_lt hr
  obtain ⟨hc, hty, hnm, hin, -, -, -, hT⟩ := F.1 ci h9
  obtain ⟨hk, hl⟩ := F.2.1 (ax_own m) j (by rw [← hci]; exact h9)
  rw [← hci] at hk hl
  generalize (ax_fd (ax_own m) j).2 = k at hk hl hw hfk hft hz kk ⊢
  obtain ⟨hT1, hT2, hT3⟩ := hT k hk
  have hrr : r = (ax_cn ci, ax_T ci, ax_N ci) := Option.some.inj (hr.symm.trans hc)
  subst hrr
  have hap := va_apart (own := ax_on (ax_own m)) hts hin (ax_ty ci) hty hnm hK hc
  obtain ⟨hSl, hfc, kC, hkC, hkind⟩ := hK.1 ci _ hc
  obtain ⟨cf, kf, fi, f, hi, hsl⟩ := hSl k hk
  have hlay := hts _ (hin _ (u_in_lay hk))
  obtain ⟨hn, hfit⟩ := ax_fits (G := G) hT1 hft hz
  have hst := (u_facts hfc hkC (u_lays hts hin hk) hi).1
  have hlen : k < (fs.map (ax_cv G)).length := by rw [List.length_map]; exact ax_at_lt hw
  have hi2 : s.fieldFound? (ax_cn ci) (ax_T ci k).2.1 (ax_T ci k).2.2.1 = some (cf, kf, fi, f) := by rw [hT3] at hi; exact hi
  have fin : ∀ H' : Heap, H'[G.2.1 + a]? = some (cell.setSlot (G.2.2.2.2.2 ci k) (ax_cv G v)) → va_at G.2.2.2.2 ax_cls (G.2.1 + a, ax_ce G (.inr (ci, fs.set k v))) H' := by
    intro H' e1
    refine ⟨_, hc, t_OB.to (V := updV (vp_V (fs.map (ax_cv G))) k (ax_cv G v)) ⟨_, e1, q2, q3, t_set q4 hap hk (ax_cv G v)⟩ (fun i _ => ?_)⟩
    rw [vp_updV_set hlen, List.map_set]
  cases hfn : ax_fin ci k with
  | false =>
    unfold u_lay at hlay
    rw [if_neg (by rw [hT2, hfn]; decide)] at hlay
    have h6 := u_store hfc hkC hkind hlay hi (hty k hk) hn hfit
    refine W.putK hx hb (f := f) ⟨hown, hts _ hl, ⟨_, _, _, hi2⟩, hst⟩ (by rw [q2]; exact h6) q1 q3 (by rw [hsl]; exact k2_hasslot (q4 k hk)) rfl rfl hdg fun H' e1 e2 e3 => ?_
    rw [hsl] at e1 ⊢
    exact kk H' _ (hR.put (fin H' e1) e2 e3) (ax_S_put hS e2 e3)
  | true =>
    unfold ax_fk at hfk
    rw [hfn] at hfk
    have hini : ax_ini m = true := by
      cases q : ax_ini m with
      | false => rw [q] at hfk; cases hfk
      | true => rfl
    rw [hini] at hfk
    have hom : ax_own m = ci := Nat.eq_of_beq_eq_true hfk
    unfold u_lay at hlay
    rw [if_pos (by rw [hT2, hfn])] at hlay
    have hcf : mid.cls = cf := by
      obtain ⟨_, _, c', _, _, _, -, -, hf', -, -, -, hown2, -⟩ := Cond.laysFinal_spec hlay
      have e1 : c' = cf := by have := hi.symm.trans hf'; simp at this; exact this.1.symm
      have e2 : ax_on (ax_own m) = ax_cn ci := by rw [← hom]; exact (F.2.2.2.2 m).2.2 (by rw [hom]; exact h9)
      rw [hT3] at hown2
      rw [e2] at hown
      rw [← e1]; exact Option.some.inj (hown.symm.trans hown2)
    have h6 := u_fits hfc hkC hkind (Or.inr hlay) hi (hty k hk) hn hfit
    refine W.putFinK hx hb hown (hts _ hl) hi2 hst hcf (hin2 hini) (by rw [q2]; exact h6) q1 q3 (by rw [hsl]; exact k2_hasslot (q4 k hk)) rfl rfl hdg fun H' e1 e2 e3 => ?_
    rw [hsl] at e1 ⊢
    exact kk H' _ (hR.put (fin H' e1) e2 e3) (ax_S_put hS e2 e3)
theorem ax_tys_at (G : ax_G) : (ax_tys G)[0]? = some (G.2.2.2.1 0, .int) ∧ (ax_tys G)[1]? = some (G.2.2.2.1 1, .long) ∧ (ax_tys G)[2]? = some (G.2.2.2.1 2, .boolean) ∧ (ax_tys G)[3]? = some (G.2.2.2.1 3, .object "LargePages$World") ∧ (ax_tys G)[4]? = some (G.2.2.2.1 4, .object "LargePages$Text") := ⟨rfl, rfl, rfl, rfl, rfl⟩
theorem ax_riast (hx : p.tables.exec = Jvm.exec) (hb : c.code = cc) (hK : va_K G.2.2.2.2 ax_cls (ax_tys G) s) (hR : ax_Rep G h H) (hS : va_S (ax_A G) H0 H locs) {a n : Nat} {f : Nat → Int32} {i x : Int32} (he : ax_at h a = some (.inl (0, n, .inl f))) (hin : vp_in i n) (hdg : decode cc pc = .ok (.iastore, 1))
    (kk : ∀ (H1 : Heap) (locs1 : List Loc), ax_Rep G (h.set a (.inl (0, n, .inl (upd f i.toNatClampNeg x)))) H1 → va_S (ax_A G) H0 H1 locs1 → W p l e R s mid args below meth c H1 locs1 cells slots Q (F0 mid (pc + 1) lsM rest)) : W p l e R s mid args below meth c H locs cells slots Q (F0 mid pc lsM (.int x :: .int i :: .ref (G.2.1 + a) :: rest)) := by
  refine W.iast hx hb (hR.2 a _ he) ((hK.2 0 _ rfl).1 n (fun j => .int (f j))) (fun q => by cases q) (by show ¬ (i < 0 ∨ (arrV _ _ _).slots.size ≤ _); rw [arrV_size]; exact hin) rfl rfl hdg fun H1 e z oq => ?_
  refine kk H1 _ (hR.put ?_ z oq) (ax_S_put hS z oq)
  show H1[G.2.1 + a]? = some (vp_cell _ _)
  rw [e]
  show some ((vp_cell (G.2.2.2.1 0) (n, .inl f)).setSlot _ _) = some (vp_cell (G.2.2.2.1 0) (n, .inl (upd f i.toNatClampNeg x)))
  rw [vp_cell_i, vp_cell_i, arrV_store]
  congr 2
  funext q
  by_cases hq : q = i.toNatClampNeg
  · subst hq; simp [updV, upd]
  · simp [updV, upd, hq]
theorem ax_rbast (hx : p.tables.exec = Jvm.exec) (hb : c.code = cc) (hK : va_K G.2.2.2.2 ax_cls (ax_tys G) s) (hR : ax_Rep G h H) (hS : va_S (ax_A G) H0 H locs) {a n : Nat} {f : Nat → Int32} {i x : Int32} (he : ax_at h a = some (.inl (2, n, .inl f))) (hin : vp_in i n) (hdg : decode cc pc = .ok (.bastore, 1))
    (kk : ∀ (H1 : Heap) (locs1 : List Loc), ax_Rep G (h.set a (.inl (2, n, .inl (upd f i.toNatClampNeg (vp_nar .boolean x))))) H1 → va_S (ax_A G) H0 H1 locs1 → W p l e R s mid args below meth c H1 locs1 cells slots Q (F0 mid (pc + 1) lsM rest)) : W p l e R s mid args below meth c H locs cells slots Q (F0 mid pc lsM (.int x :: .int i :: .ref (G.2.1 + a) :: rest)) := by
  refine W.zast hx hb (hR.2 a _ he) ((hK.2 2 _ rfl).1 n (fun j => .int (f j))) (fun q => by cases q) (by show ¬ (i < 0 ∨ (arrV _ _ _).slots.size ≤ _); rw [arrV_size]; exact hin) rfl rfl hdg fun H1 e z oq => ?_
  refine kk H1 _ (hR.put ?_ z oq) (ax_S_put hS z oq)
  show H1[G.2.1 + a]? = some (vp_cell _ _)
  rw [e]
  show some ((vp_cell (G.2.2.2.1 2) (n, .inl f)).setSlot _ _) = some (vp_cell (G.2.2.2.1 2) (n, .inl (upd f i.toNatClampNeg (vp_nar .boolean x))))
  rw [vp_cell_i, vp_cell_i, arrV_store]
  congr 2
  funext q
  by_cases hq : q = i.toNatClampNeg
  · subst hq; simp [updV, upd, vp_nar]; try rfl
  · simp [updV, upd, hq]
theorem ax_rlast (hx : p.tables.exec = Jvm.exec) (hb : c.code = cc) (hK : va_K G.2.2.2.2 ax_cls (ax_tys G) s) (hR : ax_Rep G h H) (hS : va_S (ax_A G) H0 H locs) {a n : Nat} {f : Nat → Int64} {i : Int32} {x : Int64} (he : ax_at h a = some (.inl (1, n, .inr (.inl f)))) (hin : vp_in i n) (hdg : decode cc pc = .ok (.lastore, 1))
    (kk : ∀ (H1 : Heap) (locs1 : List Loc), ax_Rep G (h.set a (.inl (1, n, .inr (.inl (vp_updL f i.toNatClampNeg x))))) H1 → va_S (ax_A G) H0 H1 locs1 → W p l e R s mid args below meth c H1 locs1 cells slots Q (F0 mid (pc + 1) lsM rest)) : W p l e R s mid args below meth c H locs cells slots Q (F0 mid pc lsM (.long x :: .int i :: .ref (G.2.1 + a) :: rest)) := by
  refine W.last hx hb (hR.2 a _ he) ((hK.2 1 _ rfl).1 n (fun j => .long (f j))) (fun q => by cases q) (by show ¬ (i < 0 ∨ (arrV _ _ _).slots.size ≤ _); rw [arrV_size]; exact hin) rfl rfl hdg fun H1 e z oq => ?_
  refine kk H1 _ (hR.put ?_ z oq) (ax_S_put hS z oq)
  show H1[G.2.1 + a]? = some (vp_cell _ _)
  rw [e]
  show some ((vp_cell (G.2.2.2.1 1) (n, .inr (.inl f))).setSlot _ _) = some (vp_cell (G.2.2.2.1 1) (n, .inr (.inl (vp_updL f i.toNatClampNeg x))))
  rw [vp_cell_l, vp_cell_l, arrV_store]
  congr 2
  funext q
  by_cases hq : q = i.toNatClampNeg
  · subst hq; simp [updV, vp_updL]
  · simp [updV, vp_updL, hq]
theorem ax_raast (hx : p.tables.exec = Jvm.exec) (hb : c.code = cc) (hK : va_K G.2.2.2.2 ax_cls (ax_tys G) s) (hR : ax_Rep G h H) (hS : va_S (ax_A G) H0 H locs) {a n q t ci : Nat} {r : vw_C} {vs : List Value} {f : Nat → Option Nat} {i : Int32} (ht : (ax_tys G)[t]? = some (G.2.2.2.1 t, .object r.1)) (hc : ax_cls[ci]? = some r) (hv : ax_at h q = some (.inr (ci, vs))) (he : ax_at h a = some (.inl (t, n, .inr (.inr (.inr (.inr f)))))) (hin : vp_in i n) (hdg : decode cc pc = .ok (.aastore, 1))
    (kk : ∀ (H1 : Heap) (locs1 : List Loc), ax_Rep G (h.set a (.inl (t, n, .inr (.inr (.inr (.inr (va_up f i.toNatClampNeg (some (q + 1))))))))) H1 → va_S (ax_A G) H0 H1 locs1 → W p l e R s mid args below meth c H1 locs1 cells slots Q (F0 mid (pc + 1) lsM rest)) : W p l e R s mid args below meth c H locs cells slots Q (F0 mid pc lsM (.ref (G.2.1 + q) :: .int i :: .ref (G.2.1 + a) :: rest)) := by
  have hlt : i.toNatClampNeg < n := Nat.not_le.mp fun q => hin (Or.inr q)
  have h0 : ¬ i < 0 := fun q => hin (Or.inl q)
  obtain ⟨r', hr', cellV, g1, g2, g3, -⟩ := hR.2 q _ hv
  have hcls := (hK.1 ci r hc).2
  obtain ⟨kA, comp, k1, k2, k3, -⟩ := (hK.2 t _ ht).2
  have hcomp : comp = G.2.2.2.2.1 ci := Option.some.inj (k3.symm.trans hcls.1)
  subst hcomp
  obtain ⟨kC, hkC, -⟩ := hcls.2
  refine W.aast hx hb (hR.2 a _ he) (fun q h => by cases h) (fun h => by cases h) k1 k2 rfl hkC ⟨h0, by show _ < (arrV _ _ _).slots.size; rw [arrV_size]; exact hlt⟩ g1 (fun q h => by rw [g3] at h; cases h) (by rw [g2]; exact hkC) (by rw [g2]; exact va_assign hcls) rfl rfl hdg fun H1 e z oq => ?_
  refine kk H1 _ (hR.put ?_ z oq) (ax_S_put hS z oq)
  show H1[G.2.1 + a]? = some (vp_cell _ _)
  rw [e]
  show some ((vp_cell (G.2.2.2.1 t) (n, .inr (.inr (.inr (.inr fun j => (f j).map (ax_cr G)))))).setSlot _ _) = some (vp_cell (G.2.2.2.1 t) (n, .inr (.inr (.inr (.inr fun j => (va_up f i.toNatClampNeg (some (q + 1)) j).map (ax_cr G))))))
  rw [vp_cell_q, vp_cell_q, arrV_store]
  congr 2
  funext q'
  by_cases hq : q' = i.toNatClampNeg
  · subst hq
    simp [updV, va_up, va_rf, ax_cr]
  · simp [updV, va_up, hq]
theorem ax_raastN (hx : p.tables.exec = Jvm.exec) (hb : c.code = cc) (hK : va_K G.2.2.2.2 ax_cls (ax_tys G) s) (hR : ax_Rep G h H) (hS : va_S (ax_A G) H0 H locs) {a n t : Nat} {C : String} {f : Nat → Option Nat} {i : Int32} (ht : (ax_tys G)[t]? = some (G.2.2.2.1 t, .object C)) (he : ax_at h a = some (.inl (t, n, .inr (.inr (.inr (.inr f)))))) (hin : vp_in i n) (hdg : decode cc pc = .ok (.aastore, 1))
    (kk : ∀ (H1 : Heap) (locs1 : List Loc), ax_Rep G (h.set a (.inl (t, n, .inr (.inr (.inr (.inr (va_up f i.toNatClampNeg none))))))) H1 → va_S (ax_A G) H0 H1 locs1 → W p l e R s mid args below meth c H1 locs1 cells slots Q (F0 mid (pc + 1) lsM rest)) : W p l e R s mid args below meth c H locs cells slots Q (F0 mid pc lsM (.null :: .int i :: .ref (G.2.1 + a) :: rest)) := by
  refine va_WaastN (C := C) hx hb (hR.2 a _ he) ((hK.2 t _ ht).1 n (fun j => va_rf ((f j).map (ax_cr G)))) (fun h => by cases h) (by show ¬ (i < 0 ∨ (arrV _ _ _).slots.size ≤ _); rw [arrV_size]; exact hin) rfl rfl hdg fun H1 e z oq => ?_
  refine kk H1 _ (hR.put ?_ z oq) (ax_S_put hS z oq)
  show H1[G.2.1 + a]? = some (vp_cell _ _)
  rw [e]
  show some ((vp_cell (G.2.2.2.1 t) (n, .inr (.inr (.inr (.inr fun j => (f j).map (ax_cr G)))))).setSlot _ _) = some (vp_cell (G.2.2.2.1 t) (n, .inr (.inr (.inr (.inr fun j => (va_up f i.toNatClampNeg none j).map (ax_cr G))))))
  rw [vp_cell_q, vp_cell_q, arrV_store]
  congr 2
  funext q'
  by_cases hq : q' = i.toNatClampNeg
  · subst hq
    simp [updV, va_up, va_rf]
  · simp [updV, va_up, hq]
theorem ax_rnew (F : ax_F1) (C : ax_Cx G X p s mid args meth c m) (hR : ax_Rep G h H) (hS : va_S (ax_A G) H0 H locs) {j ci : Nat} (hci : ax_cl (ax_own m) j = ci) (h9 : ci ≤ 9) (hdg : decode (ax_mt m).2.1 pc = .ok (.new j, 3)) (hcells : cells + 1 ≤ R.cells) (hslots : slots + ax_N ci ≤ R.slots)
    (kk : ∀ (H1 : Heap) (locs1 : List Loc), ax_Rep G (h ++ [.inr (ci, ax_f0 ci)]) H1 → va_S (ax_A G) H0 H1 locs1 → W p l e R s mid args below meth c H1 locs1 (cells + 1) (slots + ax_N ci) Q (F0 mid (pc + 3) lsM (.ref (G.2.1 + h.length) :: rest))) : W p l e R s mid args below meth c H locs cells slots Q (F0 mid pc lsM rest) := by
  obtain ⟨hx, hb, -, hown, hts, -, hK, -⟩ := C
  obtain ⟨hc, hty, -, hin, h1, h2, hl0, hT⟩ := F.1 ci h9
  have hKn := hK.1 ci _ hc
  have hlk := F.2.2.1.2.2.1 (ax_own m) j (by rw [hci]; exact h9)
  rw [hci] at hlk
  refine W.newcK hx hb hown (hts _ hlk) (hts _ h1) (hts _ h2) rfl hdg hcells hslots hKn.2.1 hR.1 fun H1 kC hkC e1 z1 o1 => ?_
  have z2 : H1.size = H.size + 1 := by rw [z1, hR.1]
  refine kk H1 _ (hR.push ?_ z2 (fun q hq => o1 q (by rw [← hR.1]; exact hq))) (ax_S_push hS z2 (fun q hq => o1 q (by rw [← hR.1]; exact hq)))
  refine ⟨_, hc, (u_born (ax_ty ci) hts hin hKn hkC e1 hty).to (fun k hk => ?_)⟩
  have hk2 := (hT k hk).1
  have e3 : vp_V ((ax_f0 ci).map (ax_cv G)) k = ax_cv G (ax_get (ax_f0 ci) k) := by
    have hk3 : k < (ax_f0 ci).length := by rw [hl0]; exact hk
    have e4 : ax_at (ax_f0 ci) k = some ((ax_f0 ci)[k]'hk3) := by rw [ax_at_eq]; simp [hk3]
    rw [ax_at_get e4]
    simp [vp_V, hk3]
  rw [e3]
  generalize ax_get (ax_f0 ci) k = d at hk2 ⊢
  generalize ax_ty ci k = ty at hk2 ⊢
  cases ty <;> cases d <;> simp [ax_tk] at hk2 <;> first
    | (obtain ⟨rfl, -⟩ := hk2; rfl)
    | rfl
theorem ax_rnewa (hx : p.tables.exec = Jvm.exec) (hb : c.code = cc) (hK : va_K G.2.2.2.2 ax_cls (ax_tys G) s) (hR : ax_Rep G h H) (hS : va_S (ax_A G) H0 H locs) {atype : ArrayType} (harr : (Cond.arrayClass (newarray.typeOf atype)).before args s = true) {t : Nat} (ht : (ax_tys G)[t]? = some (G.2.2.2.1 t, newarray.typeOf atype)) (hra : va_RA s (G.2.2.2.1 t) (newarray.typeOf atype) = (s.vm.findClass ("[" ++ (newarray.typeOf atype).toString) = some (G.2.2.2.1 t))) {ct : ax_Ct} {x : Int32} (hct : ∀ cA : ClassId, vp_cell cA (x.toNatClampNeg, ax_cc G ct) = arrV cA x.toNatClampNeg (fun _ => defaultValue (newarray.typeOf atype))) (h0 : ¬ x < 0) (hbytes : x.toNatClampNeg * componentBytes (newarray.typeOf atype) ≤ 536870912) (hcells : cells + 1 ≤ R.cells) (hslots : slots + x.toNatClampNeg ≤ R.slots) (hdg : decode cc pc = .ok (.newarray atype, 2))
    (kk : ∀ (H1 : Heap) (locs1 : List Loc), ax_Rep G (h ++ [.inl (t, x.toNatClampNeg, ct)]) H1 → va_S (ax_A G) H0 H1 locs1 → W p l e R s mid args below meth c H1 locs1 (cells + 1) (slots + x.toNatClampNeg) Q (F0 mid (pc + 2) lsM (.ref (G.2.1 + h.length) :: rest))) : W p l e R s mid args below meth c H locs cells slots Q (F0 mid pc lsM (.int x :: rest)) := by
  refine va_newaK hx hb harr rfl hdg rfl h0 rfl hbytes hcells hslots hR.1 fun H1 cA e1 z1 o1 hAr hNm => ?_
  have z2 : H1.size = H.size + 1 := by rw [z1, hR.1]
  have hcA : cA = G.2.2.2.1 t := by
    have h5 := (hK.2 t _ ht).2
    rw [hra] at h5
    exact Option.some.inj (hNm.symm.trans h5)
  subst hcA
  refine kk H1 _ (hR.push ?_ z2 (fun q hq => o1 q (by rw [← hR.1]; exact hq))) (ax_S_push hS z2 (fun q hq => o1 q (by rw [← hR.1]; exact hq)))
  show H1[G.2.1 + h.length]? = some (vp_cell _ _)
  rw [e1]
  exact congrArg some (hct _).symm
theorem ax_rnewq (hx : p.tables.exec = Jvm.exec) (hb : c.code = cc) {own C : String} {index : Nat} (hown : s.vm.findClass own = some mid.cls) (hclink : (Cond.classLink own index C).before args s = true) (hover : va_AO C s) (hK : va_K G.2.2.2.2 ax_cls (ax_tys G) s) (hR : ax_Rep G h H) (hS : va_S (ax_A G) H0 H locs) {t : Nat} (ht : (ax_tys G)[t]? = some (G.2.2.2.1 t, .object C)) {x : Int32} (h0 : ¬ x < 0) (hbytes : x.toNatClampNeg * 4 ≤ 536870912) (hcells : cells + 1 ≤ R.cells) (hslots : slots + x.toNatClampNeg ≤ R.slots) (hdg : decode cc pc = .ok (.anewarray index, 3))
    (kk : ∀ (H1 : Heap) (locs1 : List Loc), ax_Rep G (h ++ [.inl (t, x.toNatClampNeg, .inr (.inr (.inr (.inr (fun _ => none)))))]) H1 → va_S (ax_A G) H0 H1 locs1 → W p l e R s mid args below meth c H1 locs1 (cells + 1) (slots + x.toNatClampNeg) Q (F0 mid (pc + 3) lsM (.ref (G.2.1 + h.length) :: rest))) : W p l e R s mid args below meth c H locs cells slots Q (F0 mid pc lsM (.int x :: rest)) := by
  refine W.anew hx hb hown hclink (va_AO.use hover) rfl hdg rfl h0 hbytes hcells hslots fun cA kA comp f1 f2 f3 f4 => ?_
  generalize hH1 : H.push ({ cls := cA, slots := Array.replicate x.toNatClampNeg .null, vm := .none } : Cell) = H1
  have z1 : H1.size = H.size + 1 := by rw [← hH1, Array.size_push]
  have e1 : H1[H.size]? = some (arrV cA x.toNatClampNeg (fun _ => .null)) := by rw [← hH1, Array.getElem?_push_size, ← arrV_new]
  have o1 : ∀ q : Nat, q < H.size → H1[q]? = H[q]? := fun q hq => by rw [← hH1, Array.getElem?_push, if_neg (Nat.ne_of_lt hq)]
  obtain ⟨kA2, comp2, k1, k2, k3, k4⟩ := (hK.2 t _ ht).2
  have hcA : cA = G.2.2.2.1 t := Option.some.inj (f1.symm.trans k4)
  subst hcA
  show W p l e R s mid args below meth c H1 locs (cells + 1) (slots + x.toNatClampNeg) Q (F0 mid (pc + 3) lsM (.ref H.size :: rest))
  rw [hR.1]
  refine kk H1 _ (hR.push ?_ z1 o1) (ax_S_push hS z1 o1)
  show H1[G.2.1 + h.length]? = some (vp_cell _ _)
  rw [← hR.1, e1]
  rfl
end
