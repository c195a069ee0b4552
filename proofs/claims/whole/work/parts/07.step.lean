/-! A step of the abstract machine is one of the machine. -/
abbrev ax_tb : List Cond := lw_tbl.filter goodWord
def ax_isnest : Cond → Bool
  | .methodLinkNest _ _ _ _ => true
  | .castable _ _ => true
  | _ => false
def ax_nest : List Cond := lw_tbl.filter ax_isnest
def ax_cn (ci : Nat) : String := match ci with
  | 0 => RX0 | 1 => RX1 | 2 => RX2 | 3 => RX3 | 4 => RX4 | 5 => RX5 | 6 => RX6 | 7 => RX7 | 8 => RX8 | _ => RX9
def ax_T (ci : Nat) : u_T := match ci with
  | 0 => TX0 | 1 => TX1 | 2 => TX2 | 3 => TX3 | 4 => TX4 | 5 => TX5 | 6 => TX6 | 7 => TX7 | 8 => TX8 | _ => TX9
def ax_N (ci : Nat) : Nat := match ci with
  | 0 => 2 | 1 => 8 | 2 => 16 | 3 => 3 | 4 => 2 | 5 => 6 | 6 => 8 | 7 => 18 | 8 => 11 | _ => 26
def ax_ty (ci : Nat) : Nat → FieldType := match ci with
  | 0 => tyX0 | 1 => tyX1 | 2 => tyX2 | 3 => tyX3 | 4 => tyX4 | 5 => tyX5 | 6 => tyX6 | 7 => tyX7 | 8 => tyX8 | _ => tyX9
/-- a field's type, its first value, and whether it is one of true and false -/
def ax_tk (ty : FieldType) (d : Value) (z : Bool) : Bool := match ty, d with
  | .int, .int x => decide (x = 0) && !z
  | .boolean, .int x => decide (x = 0) && z
  | .long, .long x => decide (x = 0) && !z
  | .object _, .null => !z
  | .array _, .null => !z
  | _, _ => false
/-- what is so of the tables: of the classes, the fields, the constants, the instructions -/
def ax_Fc : Prop := ∀ ci, ci ≤ 9 → ax_cls[ci]? = some (ax_cn ci, ax_T ci, ax_N ci) ∧ (∀ k, k < ax_N ci → parseFieldDescriptor (ax_T ci k).2.2.1 = some (ax_ty ci k)) ∧ (∀ a, a < ax_N ci → ∀ b, b < ax_N ci → a ≠ b → (ax_T ci a).2.1 ≠ (ax_T ci b).2.1) ∧ (∀ w ∈ u_ws (ax_cn ci) (ax_T ci) (ax_N ci), w ∈ ax_tb) ∧ Cond.instantiable (ax_cn ci) (ax_N ci) ∈ ax_tb ∧ Cond.initialized (ax_cn ci) ∈ ax_tb ∧ (ax_f0 ci).length = ax_N ci ∧ ∀ k, k < ax_N ci → ax_tk (ax_ty ci k) (ax_get (ax_f0 ci) k) (ax_fz ci k) = true ∧ (ax_T ci k).2.2.2 = ax_fin ci k ∧ (ax_T ci k).1 = ax_cn ci
def ax_Ff : Prop := ∀ own idx, (ax_fd own idx).1 ≤ 9 → (ax_fd own idx).2 < ax_N (ax_fd own idx).1 ∧ Cond.fieldLink (ax_on own) idx (ax_cn (ax_fd own idx).1) (ax_T (ax_fd own idx).1 (ax_fd own idx).2).2.1 (ax_T (ax_fd own idx).1 (ax_fd own idx).2).2.2.1 ∈ ax_tb
def ax_Fk : Prop := (∀ own idx v, ax_k own idx = some v → Cond.constant (ax_on own) idx v ∈ ax_tb) ∧ (∀ own idx v, ax_kl own idx = some v → Cond.constantLong (ax_on own) idx v ∈ ax_tb) ∧ (∀ own idx, ax_cl own idx ≤ 9 → Cond.classLink (ax_on own) idx (ax_cn (ax_cl own idx)) ∈ ax_tb) ∧ (∀ own idx, ax_cl own idx = 98 → Cond.classLink (ax_on own) idx "[I" ∈ ax_tb) ∧ (Cond.arrayClass .int ∈ ax_tb ∧ Cond.arrayClass .long ∈ ax_tb ∧ Cond.arrayClass .boolean ∈ ax_tb)
def ax_Fd : Prop := ∀ m pc, ax_Gd (ax_mt m).2.1 (ax_maxL m) pc (ax_fetch m pc)
def ax_Fm : Prop := ∀ m, (ax_mt m).1.cls = ax_on (ax_own m) ∧ (ax_ini m = true → (ax_mt m).1.name = "<init>") ∧ (ax_own m ≤ 9 → ax_on (ax_own m) = ax_cn (ax_own m))
abbrev ax_F1 : Prop := ax_Fc ∧ ax_Ff ∧ ax_Fk ∧ ax_Fd ∧ ax_Fm
/-- the text constants: where they are, what they hold -/
def ax_Sg (G : ax_G) (U : State) : Prop := (∀ own idx q, ax_ks own idx = some q → ∃ tx, vk_R (ax_on own) idx tx (G.2.2.1 q) U) ∧ (∃ adV, vk_S 2 [(ax_str 0).length, (ax_str 1).length] [(ax_str 0).map Int32.ofNat, (ax_str 1).map Int32.ofNat] G.2.2.1 adV (ax_A G) U U.heap) ∧ va_Z "java/lang/String" "COMPACT_STRINGS" "Z" (.int 1) (ax_A G) U U.heap ∧ va_Zq "jdk/internal/util/Preconditions" "SIOOBE_FORMATTER" "Ljava/util/function/BiFunction;" (ax_A G) U U.heap
/-- what is given of a state, whatever its heap's own part is -/
def ax_St (G : ax_G) (X : Nat × (Nat → Int32)) (U : State) : Prop :=
  va_K G.2.2.2.2 ax_cls (ax_tys G) U ∧ va_X G.1 X.1 X.2 U U.heap ∧ G.1 < G.2.1 ∧ G.2.1 ≤ U.heap.size ∧ (∀ w ∈ ax_nest, va_Nw w U) ∧ va_AO "LargePages$World" U ∧ va_AO "LargePages$Text" U ∧ ax_Sg G U
def ax_Cx (G : ax_G) (X : Nat × (Nat → Int32)) (p : Program) (s : State) (mid : MethodId) (args : Array Value) (meth : Method) (c : Code) (m : Nat) : Prop :=
  p.tables.exec = Jvm.exec ∧ c.code = (ax_mt m).2.1 ∧ c.maxLocals = ax_maxL m ∧ s.vm.findClass (ax_on (ax_own m)) = some mid.cls ∧ (∀ w ∈ ax_tb, w.before args s = true) ∧ (ax_ini m = true → meth.name = "<init>") ∧ ax_St G X s
theorem ax_lit_eq (v : Int) : Int32.ofInt v = ax_lit v := by
  cases v with
  | ofNat n => rfl
  | negSucc n =>
    show Int32.ofInt (Int.negSucc n) = -(Int32.ofNat (n + 1))
    rw [Int.negSucc_eq, Int32.ofInt_neg]
    rfl
theorem ax_bi {v : Int} (h : -128 ≤ v ∧ v ≤ 127) : (Int8.ofInt v).toInt32 = ax_lit v := by
  rw [← ax_lit_eq]
  apply Int32.toInt_inj.mp
  rw [Int8.toInt_toInt32, Int8.toInt_ofInt, Int32.toInt_ofInt]
  rw [Int.bmod_eq_of_le (by simp; omega) (by simp; omega), Int.bmod_eq_of_le (by simp; omega) (by simp; omega)]
theorem ax_si {v : Int} (h : -32768 ≤ v ∧ v ≤ 32767) : (Int16.ofInt v).toInt32 = ax_lit v := by
  rw [← ax_lit_eq]
  apply Int32.toInt_inj.mp
  rw [Int16.toInt_toInt32, Int16.toInt_ofInt, Int32.toInt_ofInt]
  rw [Int.bmod_eq_of_le (by simp; omega) (by simp; omega), Int.bmod_eq_of_le (by simp; omega) (by simp; omega)]
