/-! Runs of the abstract machine are runs of the machine. -/
theorem ax_St.same {G : ax_G} {X : Nat × (Nat → Int32)} {u U : State} (h : ax_St G X u) (hv : U.vm = u.vm) (hh : U.heap = u.heap) : ax_St G X U := by
  obtain ⟨hK, hX, h1, h2, hN, hA1, hA2, hg1, ⟨adV, hg2⟩, hz1, hz2⟩ := h
  have al : u.vm.Alike U.vm := by rw [hv]; exact Vm.Alike.refl _
  refine ⟨va_K.moved al hK, ?_, h1, by rw [hh]; exact h2, fun w hw => ?_, va_AO.moved al hA1, va_AO.moved al hA2, fun own idx q hq => ?_, ⟨adV, ?_⟩, ?_, ?_⟩
  · rw [hh]; exact va_X.moved al hX
  · obtain ⟨-, hw2⟩ := List.mem_filter.mp hw
    refine va_Nw.same ?_ hv.symm (hN w hw)
    cases w <;> first | rfl | cases hw2
  · obtain ⟨tx, ht⟩ := hg1 own idx q hq
    exact ⟨tx, vk_R.same hv ht⟩
  · rw [hh]; exact vk_S.moved al hg2
  · rw [hh]; exact va_Z.moved al hz1
  · rw [hh]; exact va_Zq.moved al hz2
theorem ax_St.warm {G : ax_G} {X : Nat × (Nat → Int32)} {s U : State} {H : Heap} {locs : List Loc} (h : ax_St G X s) (hS : va_S (ax_A G) s.heap H locs) (hU : U.heap = H) (hW : s.WarmedH U.vm) : ax_St G X U := by
  obtain ⟨hK, hX, h1, h2, hN, hA1, hA2, hg1, ⟨adV, hg2⟩, hz1, hz2⟩ := h
  have al : s.vm.Alike U.vm := hW.alike
  refine ⟨va_K.moved al hK, ?_, h1, by rw [hU]; exact Nat.le_trans h2 hS.1, fun w hw => ?_, va_AO.moved al hA1, va_AO.moved al hA2, fun own idx q hq => ?_, ⟨adV, ?_⟩, ?_, ?_⟩
  · rw [hU]
    exact va_X.moved al (hX.kept (hS.2.1 G.1 (Nat.lt_of_lt_of_le h1 h2) (Nat.not_le.mpr h1)))
  · obtain ⟨-, hw2⟩ := List.mem_filter.mp hw
    have := hN w hw
    cases w <;> first | exact va_Nw.warmM hW this | exact va_Nw.warmC hW this | cases hw2
  · obtain ⟨tx, ht⟩ := hg1 own idx q hq
    exact ⟨tx, vk_R.warm hW ht⟩
  · rw [hU]
    exact vk_S.moved al (hg2.kept (fun a h3 h4 => hS.2.1 a h3 h4))
  · rw [hU]
    exact va_Z.moved al (hz1.kept (fun a h3 h4 => hS.2.1 a h3 h4))
  · rw [hU]
    exact va_Zq.moved al (hz2.kept (fun a h3 h4 => hS.2.1 a h3 h4))
def ax_fr (m d : Nat) : Nat := ax_lvl m + 1 + 20 * d
def ax_rm (m d mc ms : Nat) : Room := { frames := ax_fr m d, cells := mc, slots := ms, locals := 40 * ax_fr m d }
def ax_wd (m : Nat) : List Cond := Cond.code (ax_mt m).1 (ax_mt m).2.1 (ax_maxL m) (ax_mt m).2.2.2.1 :: ax_tb
def ax_Pre (G : ax_G) (X : Nat × (Nat → Int32)) (h : ax_H) (U : State) : Prop := ax_Rep G h U.heap ∧ ax_St G X U
def ax_Qc (G : ax_G) (v : Option Value) (h : ax_H) : Array Value → State → Outcome → State → Prop := fun _ st oc t => oc = .returned (v.map (ax_cv G)) ∧ ax_Rep G h t.heap ∧ va_F (ax_A G) st t
/-- what is so of the methods and of the links -/
def ax_Fn : Prop := ∀ m, m < 312 → m ≠ 308 → Cond.code (ax_mt m).1 (ax_mt m).2.1 (ax_maxL m) (ax_mt m).2.2.2.1 ∈ ax_tb ∧ Cond.initialized (ax_mt m).1.cls ∈ ax_tb ∧ plainName (ax_mt m).1.cls = true ∧ ((ax_mt m).1.cls ≠ "java/lang/invoke/MethodHandle" ∧ (ax_mt m).1.cls ≠ "java/lang/invoke/VarHandle") ∧ (ax_maxL m ≤ 21 ∧ ax_lvl m ≤ 19) ∧ (ax_rk m = 0 → (ax_mt m).2.2.2.1 = none) ∧ (ax_rk m = 1 → (ax_mt m).2.2.2.1 = some .int) ∧ (ax_rk m = 2 → (ax_mt m).2.2.2.1 = some .boolean) ∧ (ax_rk m = 3 → (ax_mt m).2.2.2.1 = some .long) ∧ (ax_rk m = 4 → ∃ rt, (ax_mt m).2.2.2.1 = some rt ∧ ((∃ n, rt = .object n) ∨ ∃ t, rt = .array t))
abbrev ax_np (q n : Nat) : Prop := (parseMethodDescriptor (ax_mt q).1.desc).map (fun d => d.parameters.length) = some n
def ax_Lk (own j kd q : Nat) : Prop := match kd with
  | 0 => (q < 312 ∧ q ≠ 308) ∧ Cond.methodLink (ax_on own) j (ax_mt q).1 ∈ ax_tb ∧ Cond.instanceMethod (ax_mt q).1 ∈ ax_tb ∧ Cond.selects (ax_mt q).1.cls (ax_mt q).1 (ax_mt q).1 ∈ ax_tb ∧ ax_own q ≤ 9 ∧ ∃ n, ax_na q = n + 1 ∧ ax_np q n
  | 1 => (q < 312 ∧ q ≠ 308) ∧ Cond.methodLink (ax_on own) j (ax_mt q).1 ∈ ax_tb ∧ Cond.static (ax_mt q).1 ∈ ax_tb ∧ ax_np q (ax_na q)
  | 2 => (q < 312 ∧ q ≠ 308) ∧ Cond.methodLink (ax_on own) j (ax_mt q).1 ∈ ax_tb ∧ Cond.instanceMethod (ax_mt q).1 ∈ ax_tb ∧ (ax_mt q).1.name = "<init>" ∧ (ax_mt q).2.2.2.1 = none ∧ ∃ n, ax_na q = n + 1 ∧ ax_np q n
  | 3 => (q < 312 ∧ q ≠ 308) ∧ Cond.methodLinkNest (ax_on own) j (ax_mt q).1 "LargePages" ∈ ax_nest ∧ Cond.static (ax_mt q).1 ∈ ax_tb ∧ ax_np q (ax_na q)
  | 4 => (q < 312 ∧ q ≠ 308) ∧ Cond.methodLinkNest (ax_on own) j (ax_mt q).1 "LargePages" ∈ ax_nest ∧ Cond.instanceMethod (ax_mt q).1 ∈ ax_tb ∧ (ax_mt q).1.name = "<init>" ∧ (ax_mt q).2.2.2.1 = none ∧ ∃ n, ax_na q = n + 1 ∧ ax_np q n
  | 5 => (match q with
    | 0 => Cond.methodLink (ax_on own) j objectInit ∈ ax_tb ∧ Cond.instanceMethod objectInit ∈ ax_tb ∧ Cond.code objectInit ⟨#[0xb1]⟩ 1 none ∈ ax_tb
    | 1 => Cond.methodLink (ax_on own) j arraycopyName ∈ ax_tb ∧ Cond.native arraycopyName ∈ ax_tb ∧ Cond.static arraycopyName ∈ ax_tb ∧ Cond.initialized "java/lang/System" ∈ ax_tb
    | 2 => Cond.methodLink (ax_on own) j ⟨"java/lang/String", "length", "()I"⟩ ∈ ax_tb
    | 3 => Cond.methodLink (ax_on own) j ⟨"java/lang/String", "charAt", "(I)C"⟩ ∈ ax_tb
    | 4 => Cond.methodLink (ax_on own) j ⟨"java/lang/String", "indexOf", "(I)I"⟩ ∈ ax_tb
    | 5 => Cond.methodLink (ax_on own) j ⟨"[I", "clone", "()Ljava/lang/Object;"⟩ ∈ ax_tb ∧ Cond.sameMethod "[I" "java/lang/Object" "clone" "()Ljava/lang/Object;" ∈ ax_tb ∧ Cond.native ⟨"java/lang/Object", "clone", "()Ljava/lang/Object;"⟩ ∈ ax_tb ∧ Cond.instanceMethod ⟨"java/lang/Object", "clone", "()Ljava/lang/Object;"⟩ ∈ ax_tb ∧ Cond.selects "[I" ⟨"[I", "clone", "()Ljava/lang/Object;"⟩ ⟨"java/lang/Object", "clone", "()Ljava/lang/Object;"⟩ ∈ ax_tb ∧ Cond.castable "[I" "java/lang/Cloneable" ∈ ax_nest
    | 6 => Cond.methodLink (ax_on own) j Lib.Math.max.name ∈ ax_tb ∧ Cond.static Lib.Math.max.name ∈ ax_tb ∧ Cond.initialized "java/lang/Math" ∈ ax_tb ∧ Cond.code Lib.Math.max.name Lib.Math.max.code 2 (some .int) ∈ ax_tb
    | 7 => Cond.methodLink (ax_on own) j Lib.Math.min.name ∈ ax_tb ∧ Cond.static Lib.Math.min.name ∈ ax_tb ∧ Cond.initialized "java/lang/Math" ∈ ax_tb ∧ Cond.code Lib.Math.min.name Lib.Math.min.code 2 (some .int) ∈ ax_tb
    | 8 => Cond.methodLink (ax_on own) j Lib.MathLoose.max_long.x ∈ ax_tb ∧ Cond.static Lib.MathLoose.max_long.x ∈ ax_tb ∧ Cond.initialized "java/lang/Math" ∈ ax_tb ∧ Cond.code Lib.MathLoose.max_long.x Lib.MathLoose.max_long.code 4 (some .long) ∈ ax_tb
    | 9 => Cond.methodLink (ax_on own) j Lib.MathLoose.min_long.x ∈ ax_tb ∧ Cond.static Lib.MathLoose.min_long.x ∈ ax_tb ∧ Cond.initialized "java/lang/Math" ∈ ax_tb ∧ Cond.code Lib.MathLoose.min_long.x Lib.MathLoose.min_long.code 4 (some .long) ∈ ax_tb
    | _ => True)
  | _ => True
def ax_Fl : Prop := ∀ own j, ax_Lk own j (ax_lk own j).1 (ax_lk own j).2
section
variable {p : Program} {l : Launch} {e : Env} {R : Room} {s : State} {mid : MethodId} {args : Array Value} {below : List Frame} {meth : Method} {c : Code} {Q : State → Prop} {G : ax_G} {X : Nat × (Nat → Int32)} {m : Nat}
theorem ax_blind {av : List Value} {h : ax_H} : FrameBlind (va_Pc av (ax_Pre G X h)) := fun _ _ _ _ q => ⟨q.1, q.2.1, q.2.2.same rfl rfl⟩
/-- behind a call -/
theorem ax_calla {H : Heap} {locs : List Loc} {cells slots mc ms pc : Nat} {lsM : Array Slot} {st0 rest : List Value} {a : Array Value} {v : Option Value} {h1 : ax_H} (hr : va_Run p l e R s mid args below meth c H locs cells slots mc ms (F0 mid pc lsM st0) rest (ax_Qc G v h1 a) (ax_A G)) (hS : va_S (ax_A G) s.heap H locs)
    (kk : ∀ (H1 : Heap) (locs1 : List Loc), ax_Rep G h1 H1 → va_S (ax_A G) s.heap H1 locs1 → W p l e R s mid args below meth c H1 locs1 (cells + mc) (slots + ms) Q (F0 mid (pc + 3) lsM ((v.map (ax_cv G)).toList ++ rest))) : W p l e R s mid args below meth c H locs cells slots Q (F0 mid pc lsM st0) := by
  intro T hT X
  obtain ⟨v', st₀, t, T', L, h0, X', hL, e1, e2, ⟨hv, hp, hz, hk⟩, st⟩ := hr T hT X
  cases hv
  rw [h0] at hz hk
  obtain ⟨t2, a1, b1⟩ := kk T'.heap (locs ++ L) (by rw [e1]; exact hp)
    ⟨Nat.le_trans hS.1 (by rw [e1]; exact hz), fun q h1 h2 => by rw [e1, hk q (Nat.lt_of_lt_of_le h1 hS.1) h2]; exact hS.2.1 q h1 h2, fun q hq => by
      rcases List.mem_append.mp hq with h | h
      · exact hS.2.2 q h
      · exact hL q h⟩ T' rfl X'
  exact ⟨t2, st t2 a1, b1⟩
end
theorem ax_tb_good (m : Nat) (hc : Cond.code (ax_mt m).1 (ax_mt m).2.1 (ax_maxL m) (ax_mt m).2.2.2.1 ∈ ax_tb) : GoodIn ax_tb (ax_wd m) := by
  intro w hw
  rcases List.mem_cons.mp hw with rfl | hw
  · exact ⟨hc, good_of_word (List.mem_filter.mp hc).2⟩
  · exact ⟨hw, good_of_word (List.mem_filter.mp hw).2⟩
/-! the locals at a method's entry -/
theorem ax_ent_len : ∀ (G : ax_G) (As : List Value), (lg_sl (As.map (ax_cv G))).length = (ax_ent As).length
  | _, [] => rfl
  | G, v :: t => by
    have ih := ax_ent_len G t
    simp only [lg_sl, List.map_cons, List.flatMap_cons, List.length_append] at ih ⊢
    rw [ih, ax_cat_cv]
    cases v <;> simp [Value.category, ax_ent] <;> omega
theorem ax_pad_len : ∀ (n : Nat) (l : List Value), (ax_pad n l).length = n
  | 0, _ => rfl
  | n + 1, [] => by simp [ax_pad, ax_pad_len n []]
  | n + 1, _ :: t => by simp [ax_pad, ax_pad_len n t]
theorem ax_pad_at : ∀ {n : Nat} {l : List Value} {i : Nat} {v : Value}, ax_at (ax_pad n l) i = some v → ax_isset v = true → ax_at l i = some v
  | 0, _, _, _, h, _ => by cases h
  | n + 1, [], 0, _, h, hs => by cases h; cases hs
  | n + 1, [], i + 1, v, h, hs => by have := ax_pad_at (n := n) (l := []) (i := i) h hs; cases this
  | n + 1, _ :: _, 0, _, h, _ => h
  | n + 1, _ :: t, i + 1, _, h, hs => ax_pad_at (n := n) (l := t) (i := i) h hs
theorem ax_ent_at (G : ax_G) : ∀ {As : List Value} {i k : Nat} {v : Value}, ax_at (ax_ent As) i = some v → ax_isset v = true → (k + i, ax_cv G v) ∈ lv_args k (As.map (ax_cv G))
  | [], _, _, _, h, _ => by cases h
  | .long x :: t, 0, k, v, h, hs => by cases h; exact List.mem_cons_self
  | .long x :: t, 1, k, v, h, hs => by cases h; cases hs
  | .long x :: t, i + 2, k, v, h, hs => by
    have := ax_ent_at G (As := t) (i := i) (k := k + 2) h hs
    rw [show k + (i + 2) = k + 2 + i by omega]
    exact List.mem_cons_of_mem _ this
  | .int x :: t, 0, k, v, h, hs => by cases h; exact List.mem_cons_self
  | .int x :: t, i + 1, k, v, h, hs => by
    have := ax_ent_at G (As := t) (i := i) (k := k + 1) h hs
    rw [show k + (i + 1) = k + 1 + i by omega]
    exact List.mem_cons_of_mem _ this
  | .float x :: t, 0, k, v, h, hs => by cases h; cases hs
  | .float x :: t, i + 1, k, v, h, hs => by
    have := ax_ent_at G (As := t) (i := i) (k := k + 1) h hs
    rw [show k + (i + 1) = k + 1 + i by omega]
    exact List.mem_cons_of_mem _ this
  | .double x :: t, 0, k, v, h, hs => by cases h; exact List.mem_cons_self
  | .double x :: t, 1, k, v, h, hs => by cases h; cases hs
  | .double x :: t, i + 2, k, v, h, hs => by
    have := ax_ent_at G (As := t) (i := i) (k := k + 2) h hs
    rw [show k + (i + 2) = k + 2 + i by omega]
    exact List.mem_cons_of_mem _ this
  | .null :: t, 0, k, v, h, hs => by cases h; exact List.mem_cons_self
  | .null :: t, i + 1, k, v, h, hs => by
    have := ax_ent_at G (As := t) (i := i) (k := k + 1) h hs
    rw [show k + (i + 1) = k + 1 + i by omega]
    exact List.mem_cons_of_mem _ this
  | .ref x :: t, 0, k, v, h, hs => by cases h; exact List.mem_cons_self
  | .ref x :: t, i + 1, k, v, h, hs => by
    have := ax_ent_at G (As := t) (i := i) (k := k + 1) h hs
    rw [show k + (i + 1) = k + 1 + i by omega]
    exact List.mem_cons_of_mem _ this
  | .retAddr x :: t, 0, k, v, h, hs => by cases h; exact List.mem_cons_self
  | .retAddr x :: t, i + 1, k, v, h, hs => by
    have := ax_ent_at G (As := t) (i := i) (k := k + 1) h hs
    rw [show k + (i + 1) = k + 1 + i by omega]
    exact List.mem_cons_of_mem _ this
theorem ax_Lv.entry {G : ax_G} {As : List Value} {nL : Nat} (hn : (ax_ent As).length ≤ nL) : ax_Lv G ((lg_sl (As.map (ax_cv G)) ++ List.replicate (nL - (lg_sl (As.map (ax_cv G))).length) Slot.unset).toArray) nL (ax_pad nL (ax_ent As)) := by
  have hl := lv_entry (As.map (ax_cv G)) (n := nL) (by rw [ax_ent_len]; exact hn)
  refine ⟨hl.1, hl.2.1, ax_pad_len _ _, fun i v hi hs => ?_⟩
  have h2 := ax_ent_at G (k := 0) (ax_pad_at hi hs) hs
  rw [Nat.zero_add] at h2
  exact hl.2.2 _ h2
/-! the heap only grows -/
set_option maxHeartbeats 8000000 in
theorem ax_step_mono {X : Nat × (Nat → Int32)} {m pc pc' : Nat} {i : Instr} {ls st ls' st' : List Value} {h h1 : ax_H} (hst : ax_step X m pc i ls st h ax_ret = some (pc', ls', st', h1)) : h.length ≤ h1.length ∧ ax_hsz h ≤ ax_hsz h1 := by
  have same : ∀ {a : Nat} {b c : List Value}, ax_ret a b c h = some (pc', ls', st', h1) → h.length ≤ h1.length ∧ ax_hsz h ≤ ax_hsz h1 := fun q => by cases q; exact ⟨Nat.le_refl _, Nat.le_refl _⟩
  have grow : ∀ {a : Nat} {b c : List Value} {E : va_E}, ax_ret a b c (h ++ [E]) = some (pc', ls', st', h1) → h.length ≤ h1.length ∧ ax_hsz h ≤ ax_hsz h1 := fun q => by cases q; rw [ax_hsz_app, List.length_append]; exact ⟨Nat.le_add_right _ _, Nat.le_add_right _ _⟩
  have put : ∀ {a : Nat} {b c : List Value} {k : Nat} {E E' : va_E}, ax_ret a b c (h.set k E') = some (pc', ls', st', h1) → ax_at h k = some E → ax_sz E' = ax_sz E → h.length ≤ h1.length ∧ ax_hsz h ≤ ax_hsz h1 := fun q q1 q2 => by cases q; rw [ax_hsz_set _ _ _ _ q1 q2, List.length_set]; exact ⟨Nat.le_refl _, Nat.le_refl _⟩
  cases i
  all_goals first
    | (cases hst; exact ⟨Nat.le_refl _, Nat.le_refl _⟩)
    | (cases hst; done)
    | (obtain ⟨_, _, rfl, hk⟩ := ax_i1_s hst; exact same hk)
    | (obtain ⟨_, _, _, rfl, hk⟩ := ax_i2_s hst; exact same hk)
    | (obtain ⟨_, _, rfl, hk⟩ := ax_l1_s hst; exact same hk)
    | (obtain ⟨_, _, _, rfl, hk⟩ := ax_l2_s hst; exact same hk)
    | (obtain ⟨_, _, _, rfl, hk⟩ := ax_li_s hst; exact same hk)
    | (obtain ⟨_, _, hk⟩ := ax_ldi_s hst; exact same hk)
    | (obtain ⟨_, _, hk⟩ := ax_ldl_s hst; exact same hk)
    | skip
  all_goals (unfold ax_step at hst; dsimp only at hst)
  case ldc => split at hst <;> first | exact same hst | (split at hst <;> first | exact same hst | cases hst)
  case ldc_w => split at hst <;> first | exact same hst | cases hst
  case ldc2_w => split at hst <;> first | exact same hst | cases hst
  case bipush => split at hst <;> first | exact same hst | cases hst
  case sipush => split at hst <;> first | exact same hst | cases hst
  case aload => rcases ax_lda_s hst with ⟨_, _, hk⟩ | ⟨_, hk⟩ <;> exact same hk
  case aload_n => rcases ax_lda_s hst with ⟨_, _, hk⟩ | ⟨_, hk⟩ <;> exact same hk
  case astore => rcases ax_sta_s hst with ⟨_, _, rfl, hk⟩ | ⟨_, rfl, hk⟩ <;> exact same hk
  case astore_n => rcases ax_sta_s hst with ⟨_, _, rfl, hk⟩ | ⟨_, rfl, hk⟩ <;> exact same hk
  case idiv => obtain ⟨_, _, _, rfl, hk⟩ := ax_i2_s hst; split at hk <;> first | exact same hk | cases hk
  case irem => obtain ⟨_, _, _, rfl, hk⟩ := ax_i2_s hst; split at hk <;> first | exact same hk | cases hk
  case ldiv => obtain ⟨_, _, _, rfl, hk⟩ := ax_l2_s hst; split at hk <;> first | exact same hk | cases hk
  case lrem => obtain ⟨_, _, _, rfl, hk⟩ := ax_l2_s hst; split at hk <;> first | exact same hk | cases hk
  case dup => split at hst <;> first | exact same hst | cases hst
  case dup2 => split at hst <;> first | exact same hst | cases hst
  case dup_x1 => split at hst <;> first | exact same hst | cases hst
  case pop => split at hst <;> first | exact same hst | cases hst
  case goto => obtain ⟨_, _, hk⟩ := ax_jmp_s hst; exact same hk
  case ifCond cd _ =>
    obtain ⟨_, _, rfl, hk⟩ := ax_i1_s hst
    cases cd <;> simp only [ax_icmp] at hk <;> split at hk <;> first | exact same hk | (obtain ⟨_, _, hk⟩ := ax_jmp_s hk; exact same hk)
  case if_icmp cd _ =>
    obtain ⟨_, _, _, rfl, hk⟩ := ax_i2_s hst
    cases cd <;> simp only [ax_icmp] at hk <;> split at hk <;> first | exact same hk | (obtain ⟨_, _, hk⟩ := ax_jmp_s hk; exact same hk)
  case ifnull => split at hst <;> first | exact same hst | cases hst | (obtain ⟨_, _, hk⟩ := ax_jmp_s hst; exact same hk)
  case ifnonnull => split at hst <;> first | exact same hst | cases hst | (obtain ⟨_, _, hk⟩ := ax_jmp_s hst; exact same hk)
  case tableswitch =>
    obtain ⟨_, _, rfl, hk⟩ := ax_i1_s hst
    split at hk
    · obtain ⟨_, _, hk⟩ := ax_jmp_s hk; exact same hk
    · split at hk
      · obtain ⟨_, _, hk⟩ := ax_jmp_s hk; exact same hk
      · cases hk
  case lookupswitch =>
    obtain ⟨_, _, rfl, hk⟩ := ax_i1_s hst
    rcases ax_bif_s hk with ⟨_, hk⟩ | ⟨_, hk⟩
    · obtain ⟨_, _, hk⟩ := ax_jmp_s hk; exact same hk
    · cases hk
  case getfield =>
    obtain ⟨_, _, _, _, rfl, _, hk⟩ := ax_ob_s hst
    rcases ax_bif_s hk with ⟨_, hk⟩ | ⟨_, hk⟩
    · split at hk <;> first | exact same hk | cases hk
    · cases hk
  case putfield =>
    split at hst
    · obtain ⟨_, _, _, _, rfl, he, hk⟩ := ax_ob_s hst
      rcases ax_bif_s hk with ⟨_, hk⟩ | ⟨_, hk⟩
      · split at hk
        · rcases ax_bif_s hk with ⟨_, hk⟩ | ⟨_, hk⟩
          · unfold ax_store at hk
            rcases ax_bif_s hk with ⟨_, hk⟩ | ⟨_, hk⟩
            · split at hk
              · split at hk
                · exact put hk he (List.length_set ..)
                · cases hk
              · cases hk
            · exact put hk he (List.length_set ..)
          · cases hk
        · cases hk
      · cases hk
    · cases hst
  case iaload =>
    split at hst
    · split at hst <;> first | exact same hst | cases hst
    · obtain ⟨_, _, _, _, _, _, rfl, _, _, hk⟩ := ax_ar_s hst
      split at hk <;> first | exact same hk | cases hk
  case baload => obtain ⟨_, _, _, _, _, _, rfl, _, _, hk⟩ := ax_ar_s hst; split at hk <;> first | exact same hk | cases hk
  case laload => obtain ⟨_, _, _, _, _, _, rfl, _, _, hk⟩ := ax_ar_s hst; split at hk <;> first | exact same hk | cases hk
  case aaload => obtain ⟨_, _, _, _, _, _, rfl, _, _, hk⟩ := ax_ar_s hst; split at hk <;> first | exact same hk | cases hk
  case iastore => obtain ⟨_, _, rfl, hst⟩ := ax_i1_s hst; obtain ⟨_, _, _, _, _, _, rfl, he, _, hk⟩ := ax_ar_s hst; split at hk <;> first | exact put hk he rfl | cases hk
  case bastore => obtain ⟨_, _, rfl, hst⟩ := ax_i1_s hst; obtain ⟨_, _, _, _, _, _, rfl, he, _, hk⟩ := ax_ar_s hst; split at hk <;> first | exact put hk he rfl | cases hk
  case lastore => obtain ⟨_, _, rfl, hst⟩ := ax_l1_s hst; obtain ⟨_, _, _, _, _, _, rfl, he, _, hk⟩ := ax_ar_s hst; split at hk <;> first | exact put hk he rfl | cases hk
  case aastore =>
    split at hst
    · obtain ⟨_, _, _, _, _, _, rfl, he, _, hk⟩ := ax_ar_s hst
      split at hk <;> first | exact put hk he rfl | cases hk
    · obtain ⟨_, _, _, _, _, _, rfl, he, _, hk⟩ := ax_ar_s hst
      split at hk <;> first | exact put hk he rfl | cases hk
    · cases hst
  case arraylength =>
    split at hst
    · exact same hst
    · split at hst
      · rcases ax_bif_s hst with ⟨_, hk⟩ | ⟨_, hk⟩ <;> first | exact same hk | cases hk
      · cases hst
    · cases hst
  case new => rcases ax_bif_s hst with ⟨_, hk⟩ | ⟨_, hk⟩ <;> first | exact grow hk | cases hk
  case newarray =>
    obtain ⟨_, _, rfl, hk⟩ := ax_i1_s hst
    split at hk
    · cases hk
    · split at hk <;> first | exact grow hk | cases hk
  case anewarray =>
    obtain ⟨_, _, rfl, hk⟩ := ax_i1_s hst
    split at hk
    · cases hk
    · split at hk <;> first | exact grow hk | cases hk
  case checkcast =>
    rcases ax_bif_s hst with ⟨_, hk⟩ | ⟨_, hk⟩
    · split at hk
      · split at hk <;> first | exact same hk | cases hk
      · cases hk
    · cases hk
theorem ax_set_mono {h : ax_H} {k : Nat} {E E' : va_E} (h1 : ax_at h k = some E) (h2 : ax_sz E' = ax_sz E) : h.length ≤ (h.set k E').length ∧ ax_hsz h ≤ ax_hsz (h.set k E') := by
  rw [ax_hsz_set _ _ _ _ h1 h2, List.length_set]; exact ⟨Nat.le_refl _, Nat.le_refl _⟩
theorem ax_prim_mono {pc q pc' : Nat} {ls st ls' st' : List Value} {h h1 : ax_H} (hst : ax_prim pc q ls st h ax_ret = some (pc', ls', st', h1)) : h.length ≤ h1.length ∧ ax_hsz h ≤ ax_hsz h1 := by
  unfold ax_prim at hst
  split at hst
  · split at hst <;> cases hst; exact ⟨Nat.le_refl _, Nat.le_refl _⟩
  · split at hst
    · split at hst
      · rename_i hd
        split at hst
        · cases hst
        · split at hst
          · cases hst
            exact ax_set_mono hd rfl
          · rcases ax_bif_s hst with ⟨_, hk⟩ | ⟨_, hk⟩
            · cases hk
              exact ax_set_mono hd rfl
            · cases hk
          · cases hst
      · cases hst
    · cases hst
  · split at hst
    · rcases ax_bif_s hst with ⟨_, hk⟩ | ⟨_, hk⟩ <;> cases hk; exact ⟨Nat.le_refl _, Nat.le_refl _⟩
    · cases hst
  · split at hst
    · rcases ax_bif_s hst with ⟨_, hk⟩ | ⟨_, hk⟩
      · split at hk <;> cases hk; exact ⟨Nat.le_refl _, Nat.le_refl _⟩
      · cases hk
    · cases hst
  · split at hst
    · rcases ax_bif_s hst with ⟨_, hk⟩ | ⟨_, hk⟩
      · split at hk <;> cases hk; exact ⟨Nat.le_refl _, Nat.le_refl _⟩
      · cases hk
    · cases hst
  · split at hst
    · split at hst
      · cases hst; rw [ax_hsz_app, List.length_append]; exact ⟨Nat.le_add_right _ _, Nat.le_add_right _ _⟩
      · cases hst
    · cases hst
  · obtain ⟨_, _, _, rfl, hk⟩ := ax_i2_s hst; cases hk; exact ⟨Nat.le_refl _, Nat.le_refl _⟩
  · obtain ⟨_, _, _, rfl, hk⟩ := ax_i2_s hst; cases hk; exact ⟨Nat.le_refl _, Nat.le_refl _⟩
  · obtain ⟨_, _, _, rfl, hk⟩ := ax_l2_s hst; cases hk; exact ⟨Nat.le_refl _, Nat.le_refl _⟩
  · obtain ⟨_, _, _, rfl, hk⟩ := ax_l2_s hst; cases hk; exact ⟨Nat.le_refl _, Nat.le_refl _⟩
  · cases hst
