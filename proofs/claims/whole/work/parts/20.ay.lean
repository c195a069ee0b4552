/-! The machine over whole numbers: the same steps, ints as integers (each result brought back into its range), references coded 0 null, 1 the script, k + 2 the k-th cell. A value: an int, a long, a reference, or else (0 not set, q + 1 the text constant q). A cell: a row of numbers (kind, length, contents), a row of references, an object. -/
abbrev bV : Type := Int ⊕ (Int ⊕ (Nat ⊕ Nat))
abbrev bE : Type := (Nat × Nat × (Nat → Int)) ⊕ ((Nat × Nat × (Nat → Nat)) ⊕ (Nat × List bV))
abbrev bH : Type := List bE
abbrev bO : Type := Option (Option bV × bH)
def ay_w (x : Int) : Int := Int.bmod x 4294967296
def ay_W (x : Int) : Int := Int.bmod x 18446744073709551616
def ay_and (x y : Int) : Int := (Int32.ofInt x &&& Int32.ofInt y).toInt
def ay_or (x y : Int) : Int := (Int32.ofInt x ||| Int32.ofInt y).toInt
def ay_xor (x y : Int) : Int := (Int32.ofInt x ^^^ Int32.ofInt y).toInt
def ay_shl (x y : Int) : Int := (Int32.ofInt x <<< (Int32.ofInt y &&& 31)).toInt
def ay_shr (x y : Int) : Int := (Int32.ofInt x >>> (Int32.ofInt y &&& 31)).toInt
def ay_ushr (x y : Int) : Int := ((Int32.ofInt x).toUInt32 >>> ((Int32.ofInt y).toUInt32 &&& Int32.toUInt32 31)).toInt32.toInt
def ay_rem (x y : Int) : Int := ay_w (x - ay_w (ay_w (Int.tdiv x y) * y))
def ay_land (x y : Int) : Int := (Int64.ofInt x &&& Int64.ofInt y).toInt
def ay_lor (x y : Int) : Int := (Int64.ofInt x ||| Int64.ofInt y).toInt
def ay_lxor (x y : Int) : Int := (Int64.ofInt x ^^^ Int64.ofInt y).toInt
def ay_lshl (x y : Int) : Int := (Int64.ofInt x <<< ((Int32.ofInt y).toInt64 &&& 63)).toInt
def ay_lshr (x y : Int) : Int := (Int64.ofInt x >>> ((Int32.ofInt y).toInt64 &&& 63)).toInt
def ay_lushr (x y : Int) : Int := ((Int64.ofInt x).toUInt64 >>> ((Int32.ofInt y).toInt64.toUInt64 &&& Int64.toUInt64 63)).toInt64.toInt
def ay_lrem (x y : Int) : Int := ay_W (x - ay_W (ay_W (Int.tdiv x y) * y))
def ay_cmp (x y : Int) : Int := if x < y then -1 else if x = y then 0 else 1
def ay_u {α : Type} (f : Nat → α) (i : Nat) (x : α) : Nat → α := fun j => if j = i then x else f j
def ay_cpy {α : Type} (f g : Nat → α) (sp dp n : Nat) : Nat → α := fun j => if dp ≤ j ∧ j < dp + n then f (sp + (j - dp)) else g j
def ay_get : List bV → Nat → bV
  | [], _ => .inr (.inr (.inr 0))
  | x :: _, 0 => x
  | _ :: t, n + 1 => ay_get t n
def ay_isl : bV → Bool
  | .inr (.inl _) => true
  | _ => false
def ay_kill (ls : List bV) : Nat → List bV
  | 0 => ls
  | i + 1 => bif ay_isl (ay_get ls i) then ls.set i (.inr (.inr (.inr 0))) else ls
def ay_set1 (ls : List bV) (i : Nat) (v : bV) : List bV := (ay_kill ls i).set i v
def ay_set2 (ls : List bV) (i : Nat) (v : bV) : List bV := ((ay_kill ls i).set i v).set (i + 1) (.inr (.inr (.inr 0)))
def ay_i1 {ρ : Type} (st : List bV) (k : Int → List bV → Option ρ) : Option ρ := match st with
  | .inl x :: r => k x r
  | _ => none
def ay_i2 {ρ : Type} (st : List bV) (k : Int → Int → List bV → Option ρ) : Option ρ := match st with
  | .inl y :: .inl x :: r => k x y r
  | _ => none
def ay_l1 {ρ : Type} (st : List bV) (k : Int → List bV → Option ρ) : Option ρ := match st with
  | .inr (.inl x) :: r => k x r
  | _ => none
def ay_l2 {ρ : Type} (st : List bV) (k : Int → Int → List bV → Option ρ) : Option ρ := match st with
  | .inr (.inl y) :: .inr (.inl x) :: r => k x y r
  | _ => none
def ay_li {ρ : Type} (st : List bV) (k : Int → Int → List bV → Option ρ) : Option ρ := match st with
  | .inl y :: .inr (.inl x) :: r => k x y r
  | _ => none
def ay_ldi {ρ : Type} (ls : List bV) (i : Nat) (k : Int → Option ρ) : Option ρ := match ay_get ls i with
  | .inl x => k x
  | _ => none
def ay_ldl {ρ : Type} (ls : List bV) (i : Nat) (k : Int → Option ρ) : Option ρ := match ay_get ls i with
  | .inr (.inl x) => k x
  | _ => none
def ay_lda {ρ : Type} (ls : List bV) (i : Nat) (k : Nat → Option ρ) : Option ρ := match ay_get ls i with
  | .inr (.inr (.inl x)) => k x
  | _ => none
def ay_sta {ρ : Type} (st : List bV) (k : Nat → List bV → Option ρ) : Option ρ := match st with
  | .inr (.inr (.inl x)) :: r => k x r
  | _ => none
/-- a row of numbers and a place in it -/
def ay_ar {ρ : Type} (t : Nat) (h : bH) (st : List bV) (k : Nat → (Nat → Int) → Nat → Int → List bV → Option ρ) : Option ρ := match st with
  | .inl i :: .inr (.inr (.inl (a + 2))) :: r => (match ax_at h a with
    | some (.inl (t', n, f)) => bif Nat.beq t t' then (if 0 ≤ i ∧ i < (n : Int) then k n f a i r else none) else none
    | _ => none)
  | _ => none
def ay_ob {ρ : Type} (h : bH) (st : List bV) (k : Nat → List bV → Nat → List bV → Option ρ) : Option ρ := match st with
  | .inr (.inr (.inl (a + 2))) :: r => (match ax_at h a with
    | some (.inr (.inr (ci, fs))) => k ci fs a r
    | _ => none)
  | _ => none
def ay_fit (d : Value) (v : bV) : Bool := match d, v with
  | .int _, .inl _ => true
  | .long _, .inr (.inl _) => true
  | .null, .inr (.inr (.inl _)) => true
  | _, _ => false
def ay_icmp {ρ : Type} (c : ClassFile.Cond) (x y : Int) (t f : Option ρ) : Option ρ := match c with
  | .eq => if x = y then t else f
  | .ne => if x = y then f else t
  | .lt => if x < y then t else f
  | .ge => if y ≤ x then t else f
  | .gt => if y < x then t else f
  | .le => if x ≤ y then t else f
def ay_store {ρ : Type} (ci k : Nat) (v : bV) (t : Option ρ) : Option ρ := bif ax_fz ci k then (match v with
    | .inl x => if x = 0 ∨ x = 1 then t else none
    | _ => none) else t
def ay_v0 : Value → bV
  | .int _ => .inl 0
  | .long _ => .inr (.inl 0)
  | _ => .inr (.inr (.inl 0))
def ay_f0 (ci : Nat) : List bV := (ax_f0 ci).map ay_v0
def ay_step {ρ : Type} (X : Nat × (Nat → Int)) (m pc : Nat) (i : Instr) (ls st : List bV) (h : bH) (k : Nat → List bV → List bV → bH → Option ρ) : Option ρ := match i with
  | .iconst v => if -128 ≤ v ∧ v ≤ 127 then k (pc + 1) ls (.inl v :: st) h else none
  | .bipush v => if -128 ≤ v ∧ v ≤ 127 then k (pc + 2) ls (.inl v :: st) h else none
  | .sipush v => if -32768 ≤ v ∧ v ≤ 32767 then k (pc + 3) ls (.inl v :: st) h else none
  | .ldc j => (match ax_k (ax_own m) j with
    | some v => k (pc + 2) ls (.inl v.toInt :: st) h
    | none => match ax_ks (ax_own m) j with
      | some q => k (pc + 2) ls (.inr (.inr (.inr (q + 1))) :: st) h
      | none => none)
  | .ldc_w j => (match ax_k (ax_own m) j with
    | some v => k (pc + 3) ls (.inl v.toInt :: st) h
    | none => none)
  | .ldc2_w j => (match ax_kl (ax_own m) j with
    | some v => k (pc + 3) ls (.inr (.inl v.toInt) :: st) h
    | none => none)
  | .lconst v => k (pc + 1) ls (.inr (.inl (Int64.ofNat v.val).toInt) :: st) h
  | .aconst_null => k (pc + 1) ls (.inr (.inr (.inl 0)) :: st) h
  | .iload_n j => ay_ldi ls j.val fun x => k (pc + 1) ls (.inl x :: st) h
  | .iload j => ay_ldi ls j fun x => k (pc + 2) ls (.inl x :: st) h
  | .lload_n j => ay_ldl ls j.val fun x => k (pc + 1) ls (.inr (.inl x) :: st) h
  | .lload j => ay_ldl ls j fun x => k (pc + 2) ls (.inr (.inl x) :: st) h
  | .aload_n j => ay_lda ls j.val fun x => k (pc + 1) ls (.inr (.inr (.inl x)) :: st) h
  | .aload j => ay_lda ls j fun x => k (pc + 2) ls (.inr (.inr (.inl x)) :: st) h
  | .istore_n j => ay_i1 st fun x r => k (pc + 1) (ay_set1 ls j.val (.inl x)) r h
  | .istore j => ay_i1 st fun x r => k (pc + 2) (ay_set1 ls j (.inl x)) r h
  | .lstore_n j => ay_l1 st fun x r => k (pc + 1) (ay_set2 ls j.val (.inr (.inl x))) r h
  | .lstore j => ay_l1 st fun x r => k (pc + 2) (ay_set2 ls j (.inr (.inl x))) r h
  | .astore_n j => ay_sta st fun x r => k (pc + 1) (ay_set1 ls j.val (.inr (.inr (.inl x)))) r h
  | .astore j => ay_sta st fun x r => k (pc + 2) (ay_set1 ls j (.inr (.inr (.inl x)))) r h
  | .iinc j v => ay_ldi ls j fun x => if -128 ≤ v ∧ v ≤ 127 then k (pc + 3) (ay_set1 ls j (.inl (ay_w (x + v)))) st h else none
  | .iadd => ay_i2 st fun x y r => k (pc + 1) ls (.inl (ay_w (x + y)) :: r) h
  | .isub => ay_i2 st fun x y r => k (pc + 1) ls (.inl (ay_w (x - y)) :: r) h
  | .imul => ay_i2 st fun x y r => k (pc + 1) ls (.inl (ay_w (x * y)) :: r) h
  | .iand => ay_i2 st fun x y r => k (pc + 1) ls (.inl (ay_and x y) :: r) h
  | .ior => ay_i2 st fun x y r => k (pc + 1) ls (.inl (ay_or x y) :: r) h
  | .ixor => ay_i2 st fun x y r => k (pc + 1) ls (.inl (ay_xor x y) :: r) h
  | .idiv => ay_i2 st fun x y r => if y = 0 then none else k (pc + 1) ls (.inl (ay_w (Int.tdiv x y)) :: r) h
  | .irem => ay_i2 st fun x y r => if y = 0 then none else k (pc + 1) ls (.inl (ay_rem x y) :: r) h
  | .ineg => ay_i1 st fun x r => k (pc + 1) ls (.inl (ay_w (-x)) :: r) h
  | .ishl => ay_i2 st fun x y r => k (pc + 1) ls (.inl (ay_shl x y) :: r) h
  | .ishr => ay_i2 st fun x y r => k (pc + 1) ls (.inl (ay_shr x y) :: r) h
  | .iushr => ay_i2 st fun x y r => k (pc + 1) ls (.inl (ay_ushr x y) :: r) h
  | .ladd => ay_l2 st fun x y r => k (pc + 1) ls (.inr (.inl (ay_W (x + y))) :: r) h
  | .lsub => ay_l2 st fun x y r => k (pc + 1) ls (.inr (.inl (ay_W (x - y))) :: r) h
  | .lmul => ay_l2 st fun x y r => k (pc + 1) ls (.inr (.inl (ay_W (x * y))) :: r) h
  | .land => ay_l2 st fun x y r => k (pc + 1) ls (.inr (.inl (ay_land x y)) :: r) h
  | .lor => ay_l2 st fun x y r => k (pc + 1) ls (.inr (.inl (ay_lor x y)) :: r) h
  | .lxor => ay_l2 st fun x y r => k (pc + 1) ls (.inr (.inl (ay_lxor x y)) :: r) h
  | .ldiv => ay_l2 st fun x y r => if y = 0 then none else k (pc + 1) ls (.inr (.inl (ay_W (Int.tdiv x y))) :: r) h
  | .lrem => ay_l2 st fun x y r => if y = 0 then none else k (pc + 1) ls (.inr (.inl (ay_lrem x y)) :: r) h
  | .lneg => ay_l1 st fun x r => k (pc + 1) ls (.inr (.inl (ay_W (-x))) :: r) h
  | .lshl => ay_li st fun x y r => k (pc + 1) ls (.inr (.inl (ay_lshl x y)) :: r) h
  | .lshr => ay_li st fun x y r => k (pc + 1) ls (.inr (.inl (ay_lshr x y)) :: r) h
  | .lushr => ay_li st fun x y r => k (pc + 1) ls (.inr (.inl (ay_lushr x y)) :: r) h
  | .lcmp => ay_l2 st fun x y r => k (pc + 1) ls (.inl (ay_cmp x y) :: r) h
  | .i2l => ay_i1 st fun x r => k (pc + 1) ls (.inr (.inl x) :: r) h
  | .l2i => ay_l1 st fun x r => k (pc + 1) ls (.inl (ay_w x) :: r) h
  | .i2c => ay_i1 st fun x r => if 0 ≤ x ∧ x < 65536 then k (pc + 1) ls (.inl x :: r) h else none
  | .dup => (match st with
    | .inl x :: r => k (pc + 1) ls (.inl x :: .inl x :: r) h
    | .inr (.inr (.inl x)) :: r => bif Nat.beq x 0 then none else k (pc + 1) ls (.inr (.inr (.inl x)) :: .inr (.inr (.inl x)) :: r) h
    | _ => none)
  | .dup2 => (match st with
    | .inl x :: .inr (.inr (.inl y)) :: r => bif Nat.beq y 0 then none else k (pc + 1) ls (.inl x :: .inr (.inr (.inl y)) :: .inl x :: .inr (.inr (.inl y)) :: r) h
    | .inl x :: .inl y :: r => k (pc + 1) ls (.inl x :: .inl y :: .inl x :: .inl y :: r) h
    | _ => none)
  | .dup_x1 => (match st with
    | .inl x :: .inr (.inr (.inl y)) :: r => bif Nat.beq y 0 then none else k (pc + 1) ls (.inl x :: .inr (.inr (.inl y)) :: .inl x :: r) h
    | .inl x :: .inl y :: r => k (pc + 1) ls (.inl x :: .inl y :: .inl x :: r) h
    | _ => none)
  | .pop => (match st with
    | .inl _ :: r => k (pc + 1) ls r h
    | .inr (.inr (.inl x)) :: r => bif Nat.beq x 0 then none else k (pc + 1) ls r h
    | _ => none)
  | .goto off => ax_jmp pc off fun t => k t ls st h
  | .ifCond c off => ay_i1 st fun x r => ay_icmp c x 0 (ax_jmp pc off fun t => k t ls r h) (k (pc + 3) ls r h)
  | .if_icmp c off => ay_i2 st fun x y r => ay_icmp c x y (ax_jmp pc off fun t => k t ls r h) (k (pc + 3) ls r h)
  | .ifnull off => ay_sta st fun x r => if x = 0 then (ax_jmp pc off fun t => k t ls r h) else k (pc + 3) ls r h
  | .ifnonnull off => ay_sta st fun x r => if x = 0 then k (pc + 3) ls r h else (ax_jmp pc off fun t => k t ls r h)
  | .tableswitch df lo hi offs => ay_i1 st fun x r => if x < lo ∨ hi < x then ax_jmp pc df fun t => k t ls r h else (match offs.toList[(x - lo).toNat]? with
    | some off => ax_jmp pc off fun t => k t ls r h
    | none => none)
  | .lookupswitch df ps => ay_i1 st fun x r => bif (ps.toList.zip (ps.toList.drop 1)).all (fun (a, next) => a.1 < next.1) then (ax_jmp pc (Op.lookupswitch.offset ps.toList df x) fun t => k t ls r h) else none
  | .getfield j => ay_ob h st fun ci fs _ r => bif Nat.beq ci (ax_fd (ax_own m) j).1 then (match ax_at fs (ax_fd (ax_own m) j).2 with
    | some v => k (pc + 3) ls (v :: r) h
    | none => none) else none
  | .putfield j => (match st with
    | v :: st => ay_ob h st fun ci fs a r => bif Nat.beq ci (ax_fd (ax_own m) j).1 then (match ax_at fs (ax_fd (ax_own m) j).2 with
      | some _ => bif ax_fk m ci (ax_fd (ax_own m) j).2 && ay_fit (ax_get (ax_f0 ci) (ax_fd (ax_own m) j).2) v then ay_store ci (ax_fd (ax_own m) j).2 v (k (pc + 3) ls r (h.set a (.inr (.inr (ci, fs.set (ax_fd (ax_own m) j).2 v))))) else none
      | none => none) else none
    | [] => none)
  | .iaload => (match st with
    | .inl i :: .inr (.inr (.inl 1)) :: r => if 0 ≤ i ∧ i < (X.1 : Int) then k (pc + 1) ls (.inl (X.2 i.toNat) :: r) h else none
    | st => ay_ar 0 h st fun _ f _ i r => k (pc + 1) ls (.inl (f i.toNat) :: r) h)
  | .baload => ay_ar 2 h st fun _ f _ i r => k (pc + 1) ls (.inl (f i.toNat) :: r) h
  | .laload => ay_ar 1 h st fun _ f _ i r => k (pc + 1) ls (.inr (.inl (f i.toNat)) :: r) h
  | .aaload => (match st with
    | .inl i :: .inr (.inr (.inl (a + 2))) :: r => (match ax_at h a with
      | some (.inr (.inl (_, n, f))) => if 0 ≤ i ∧ i < (n : Int) then k (pc + 1) ls (.inr (.inr (.inl (f i.toNat))) :: r) h else none
      | _ => none)
    | _ => none)
  | .iastore => ay_i1 st fun x st => ay_ar 0 h st fun n f a i r => k (pc + 1) ls r (h.set a (.inl (0, n, ay_u f i.toNat x)))
  | .bastore => ay_i1 st fun x st => ay_ar 2 h st fun n f a i r => if x = 0 ∨ x = 1 then k (pc + 1) ls r (h.set a (.inl (2, n, ay_u f i.toNat x))) else none
  | .lastore => ay_l1 st fun x st => ay_ar 1 h st fun n f a i r => k (pc + 1) ls r (h.set a (.inl (1, n, ay_u f i.toNat x)))
  | .aastore => (match st with
    | .inr (.inr (.inl (q + 2))) :: .inl i :: .inr (.inr (.inl (a + 2))) :: r => (match ax_at h a, ax_at h q with
      | some (.inr (.inl (3, n, f))), some (.inr (.inr (7, _))) => if 0 ≤ i ∧ i < (n : Int) then k (pc + 1) ls r (h.set a (.inr (.inl (3, n, ay_u f i.toNat (q + 2))))) else none
      | some (.inr (.inl (4, n, f))), some (.inr (.inr (5, _))) => if 0 ≤ i ∧ i < (n : Int) then k (pc + 1) ls r (h.set a (.inr (.inl (4, n, ay_u f i.toNat (q + 2))))) else none
      | _, _ => none)
    | .inr (.inr (.inl 0)) :: .inl i :: .inr (.inr (.inl (a + 2))) :: r => (match ax_at h a with
      | some (.inr (.inl (4, n, f))) => if 0 ≤ i ∧ i < (n : Int) then k (pc + 1) ls r (h.set a (.inr (.inl (4, n, ay_u f i.toNat 0)))) else none
      | _ => none)
    | _ => none)
  | .arraylength => (match st with
    | .inr (.inr (.inl 1)) :: r => k (pc + 1) ls (.inl (ay_w (X.1 : Int)) :: r) h
    | .inr (.inr (.inl (a + 2))) :: r => (match ax_at h a with
      | some (.inl (_, n, _)) => k (pc + 1) ls (.inl (ay_w (n : Int)) :: r) h
      | some (.inr (.inl (_, n, _))) => k (pc + 1) ls (.inl (ay_w (n : Int)) :: r) h
      | _ => none)
    | _ => none)
  | .new j => bif Nat.ble (ax_cl (ax_own m) j) 9 then k (pc + 3) ls (.inr (.inr (.inl (h.length + 2))) :: st) (h ++ [.inr (.inr (ax_cl (ax_own m) j, ay_f0 (ax_cl (ax_own m) j)))]) else none
  | .newarray t => ay_i1 st fun x r => if 0 ≤ x ∧ x < 1000000 then (match t with
    | .int => k (pc + 2) ls (.inr (.inr (.inl (h.length + 2))) :: r) (h ++ [.inl (0, x.toNat, fun _ => 0)])
    | .boolean => k (pc + 2) ls (.inr (.inr (.inl (h.length + 2))) :: r) (h ++ [.inl (2, x.toNat, fun _ => 0)])
    | .long => k (pc + 2) ls (.inr (.inr (.inl (h.length + 2))) :: r) (h ++ [.inl (1, x.toNat, fun _ => 0)])
    | _ => none) else none
  | .anewarray j => ay_i1 st fun x r => if 0 ≤ x ∧ x < 1000000 then (match ax_cl (ax_own m) j with
    | 7 => k (pc + 3) ls (.inr (.inr (.inl (h.length + 2))) :: r) (h ++ [.inr (.inl (3, x.toNat, fun _ => 0))])
    | 5 => k (pc + 3) ls (.inr (.inr (.inl (h.length + 2))) :: r) (h ++ [.inr (.inl (4, x.toNat, fun _ => 0))])
    | _ => none) else none
  | .checkcast j => bif Nat.beq (ax_cl (ax_own m) j) 98 then (match st with
    | .inr (.inr (.inl (a + 2))) :: r => (match ax_at h a with
      | some (.inl (0, _, _)) => k (pc + 3) ls (.inr (.inr (.inl (a + 2))) :: r) h
      | _ => none)
    | _ => none) else none
  | _ => none
def ay_end (m : Nat) (i : Instr) (st : List bV) (h : bH) : bO := match i with
  | .ireturn => (match st with
    | [.inl v] => (match ax_rk m with
      | 1 => some (some (.inl v), h)
      | 2 => if v = 0 ∨ v = 1 then some (some (.inl v), h) else none
      | _ => none)
    | _ => none)
  | .lreturn => (match st with
    | [.inr (.inl v)] => bif Nat.beq (ax_rk m) 3 then some (some (.inr (.inl v)), h) else none
    | _ => none)
  | .areturn => (match st with
    | [.inr (.inr (.inl a))] => bif Nat.beq (ax_rk m) 4 then some (some (.inr (.inr (.inl a))), h) else none
    | _ => none)
  | .return_ => (match st with
    | [] => bif Nat.beq (ax_rk m) 0 then some (none, h) else none
    | _ => none)
  | _ => none
def ay_take {ρ : Type} : Nat → List bV → List bV → (List bV → List bV → Option ρ) → Option ρ
  | 0, st, acc, k => k acc st
  | n + 1, v :: st, acc, k => ay_take n st (v :: acc) k
  | _ + 1, [], _, _ => none
def ay_ent : List bV → List bV
  | [] => []
  | .inr (.inl x) :: t => .inr (.inl x) :: .inr (.inr (.inr 0)) :: ay_ent t
  | v :: t => v :: ay_ent t
def ay_pad : Nat → List bV → List bV
  | 0, _ => []
  | n + 1, [] => .inr (.inr (.inr 0)) :: ay_pad n []
  | n + 1, v :: t => v :: ay_pad n t
def ay_cat : List bV → Nat
  | [] => 0
  | v :: t => (bif ay_isl v then 2 else 1) + ay_cat t
def ay_recv {ρ : Type} (h : bH) (c : Nat) (As : List bV) (t : Option ρ) : Option ρ := match As with
  | .inr (.inr (.inl (a + 2))) :: _ => (match ax_at h a with
    | some (.inr (.inr (ci, _))) => bif Nat.beq ci (ax_own c) then t else none
    | _ => none)
  | _ => none
def ay_elq (h : bH) (f : Nat → Nat) (sp : Nat) : Nat → Bool
  | 0 => true
  | n + 1 => ay_elq h f sp n && (match f (sp + n) with
    | 0 => true
    | 1 => false
    | q + 2 => match ax_at h q with
      | some (.inr (.inr (5, _))) => true
      | _ => false)
def ay_find (c : Nat) : List Nat → Nat → Int
  | [], _ => -1
  | x :: t, k => bif Nat.beq x c then (k : Int) else ay_find c t (k + 1)
def ay_prim {ρ : Type} (pc q : Nat) (ls st : List bV) (h : bH) (k : Nat → List bV → List bV → bH → Option ρ) : Option ρ := match q with
  | 0 => (match st with
    | .inr (.inr (.inl (_ + 1))) :: r => k (pc + 3) ls r h
    | _ => none)
  | 1 => (match st with
    | .inl n :: .inl dp :: .inr (.inr (.inl (d + 2))) :: .inl sp :: .inr (.inr (.inl (a + 2))) :: r => (match ax_at h a, ax_at h d with
      | some (.inl (0, n1, f)), some (.inl (0, n2, g)) => if 0 ≤ n ∧ 0 ≤ sp ∧ 0 ≤ dp ∧ sp + n ≤ (n1 : Int) ∧ dp + n ≤ (n2 : Int) then k (pc + 3) ls r (h.set d (.inl (0, n2, ay_cpy f g sp.toNat dp.toNat n.toNat))) else none
      | some (.inr (.inl (4, n1, f))), some (.inr (.inl (4, n2, g))) => if 0 ≤ n ∧ 0 ≤ sp ∧ 0 ≤ dp ∧ sp + n ≤ (n1 : Int) ∧ dp + n ≤ (n2 : Int) then (bif ay_elq h f sp.toNat n.toNat then k (pc + 3) ls r (h.set d (.inr (.inl (4, n2, ay_cpy f g sp.toNat dp.toNat n.toNat)))) else none) else none
      | _, _ => none)
    | _ => none)
  | 2 => (match st with
    | .inr (.inr (.inr (s + 1))) :: r => bif Nat.ble s 1 then k (pc + 3) ls (.inl ((ax_str s).length : Int) :: r) h else none
    | _ => none)
  | 3 => (match st with
    | .inl i :: .inr (.inr (.inr (s + 1))) :: r => bif Nat.ble s 1 then (if 0 ≤ i ∧ i < ((ax_str s).length : Int) then k (pc + 3) ls (.inl (((ax_str s).getD i.toNat 0 : Nat) : Int) :: r) h else none) else none
    | _ => none)
  | 4 => (match st with
    | .inl i :: .inr (.inr (.inr (s + 1))) :: r => bif Nat.ble s 1 then (if 0 ≤ i ∧ i < 256 then k (pc + 3) ls (.inl (ay_find i.toNat (ax_str s) 0) :: r) h else none) else none
    | _ => none)
  | 5 => (match st with
    | .inr (.inr (.inl (a + 2))) :: r => (match ax_at h a with
      | some (.inl (0, n, f)) => k (pc + 3) ls (.inr (.inr (.inl (h.length + 2))) :: r) (h ++ [.inl (0, n, f)])
      | _ => none)
    | _ => none)
  | 6 => ay_i2 st fun x y r => k (pc + 3) ls (.inl (if x < y then y else x) :: r) h
  | 7 => ay_i2 st fun x y r => k (pc + 3) ls (.inl (if y < x then y else x) :: r) h
  | 8 => ay_l2 st fun x y r => k (pc + 3) ls (.inr (.inl (if y < x then x else y)) :: r) h
  | 9 => ay_l2 st fun x y r => k (pc + 3) ls (.inr (.inl (if y < x then y else x)) :: r) h
  | _ => none
def ay_cont (o : bO) (k : Option bV → bH → bO) : bO := match o with
  | none => none
  | some (v, h) => k v h
def ay_into (run : Nat → Nat → Nat → List bV → List bV → bH → bO) (d m pc : Nat) (ls : List bV) (c : Nat) (As r : List bV) (h : bH) : bO :=
  bif Nat.ble (ay_ent As).length (ax_maxL c) then
  ay_cont (bif Nat.ble (ax_lvl m) (ax_lvl c) then (match d with
    | 0 => none
    | d + 1 => run d c 0 (ay_pad (ax_maxL c) (ay_ent As)) [] h) else run d c 0 (ay_pad (ax_maxL c) (ay_ent As)) [] h) (fun v h => run d m (pc + 3) ls (v.toList ++ r) h)
  else none
def ay_run (X : Nat × (Nat → Int)) : Nat → Nat → Nat → Nat → List bV → List bV → bH → bO
  | 0, _, _, _, _, _, _ => none
  | n + 1, d, m, pc, ls, st, h => match ax_fetch m pc with
    | none => none
    | some i => match ax_call i with
      | 0 => ay_step X m pc i ls st h (ay_run X n d m)
      | 1 => ay_end m i st h
      | j + 2 => bif Nat.beq (ax_iv i) (ax_kk (ax_lk (ax_own m) j).1 (ax_lk (ax_own m) j).2) then
          (bif Nat.beq (ax_lk (ax_own m) j).1 5 then (bif Nat.ble (ay_cat st) 9 && Nat.ble (ax_pl (ax_lk (ax_own m) j).2) (ax_lvl m) then ay_prim pc (ax_lk (ax_own m) j).2 ls st h (ay_run X n d m) else none)
          else bif Nat.ble (ax_lk (ax_own m) j).1 4 then ay_take (ax_na (ax_lk (ax_own m) j).2) st [] fun As r => bif Nat.ble (ay_cat r) 8 then (bif ax_inst (ax_lk (ax_own m) j).1 then ay_recv h (ax_lk (ax_own m) j).2 As (ay_into (ay_run X n) d m pc ls (ax_lk (ax_own m) j).2 As r h) else ay_into (ay_run X n) d m pc ls (ax_lk (ax_own m) j).2 As r h) else none
          else none) else none
