/-! An abstract machine over lists of cells: what the class, the reference and the law do, as a function. A reference 0 is the law's script, k + 1 the k-th cell; .retAddr k is the k-th text constant; .float marks a local that isn't set. -/
abbrev ax_H : Type := List va_E
abbrev ax_O : Type := Option (Option Value × ax_H)
def ax_lit : Int → Int32
  | .ofNat n => Int32.ofNat n
  | .negSucc n => -(Int32.ofNat (n + 1))
def ax_at {α : Type} : List α → Nat → Option α
  | [], _ => none
  | x :: _, 0 => some x
  | _ :: t, n + 1 => ax_at t n
def ax_get : List Value → Nat → Value
  | [], _ => .float 0
  | x :: _, 0 => x
  | _ :: t, n + 1 => ax_get t n
def ax_islong (v : Value) : Bool := Nat.beq v.category 2
def ax_kill (ls : List Value) : Nat → List Value
  | 0 => ls
  | i + 1 => bif ax_islong (ax_get ls i) then ls.set i (.float 0) else ls
def ax_set1 (ls : List Value) (i : Nat) (v : Value) : List Value := (ax_kill ls i).set i v
def ax_set2 (ls : List Value) (i : Nat) (v : Value) : List Value := ((ax_kill ls i).set i v).set (i + 1) (.float 0)
def ax_jmp {ρ : Type} (pc : Nat) (off : Int) (k : Nat → Option ρ) : Option ρ := match off with
  | .ofNat n => k (pc + n)
  | .negSucc n => bif Nat.ble (n + 1) pc then k (pc - (n + 1)) else none
def ax_i1 {ρ : Type} (st : List Value) (k : Int32 → List Value → Option ρ) : Option ρ := match st with
  | .int x :: r => k x r
  | _ => none
def ax_i2 {ρ : Type} (st : List Value) (k : Int32 → Int32 → List Value → Option ρ) : Option ρ := match st with
  | .int y :: .int x :: r => k x y r
  | _ => none
def ax_l1 {ρ : Type} (st : List Value) (k : Int64 → List Value → Option ρ) : Option ρ := match st with
  | .long x :: r => k x r
  | _ => none
def ax_l2 {ρ : Type} (st : List Value) (k : Int64 → Int64 → List Value → Option ρ) : Option ρ := match st with
  | .long y :: .long x :: r => k x y r
  | _ => none
def ax_li {ρ : Type} (st : List Value) (k : Int64 → Int32 → List Value → Option ρ) : Option ρ := match st with
  | .int y :: .long x :: r => k x y r
  | _ => none
def ax_ldi {ρ : Type} (ls : List Value) (i : Nat) (k : Int32 → Option ρ) : Option ρ := match ax_get ls i with
  | .int x => k x
  | _ => none
def ax_ldl {ρ : Type} (ls : List Value) (i : Nat) (k : Int64 → Option ρ) : Option ρ := match ax_get ls i with
  | .long x => k x
  | _ => none
def ax_lda {ρ : Type} (ls : List Value) (i : Nat) (k : Value → Option ρ) : Option ρ := match ax_get ls i with
  | .ref x => k (.ref x)
  | .null => k .null
  | _ => none
def ax_sta {ρ : Type} (st : List Value) (k : Value → List Value → Option ρ) : Option ρ := match st with
  | .ref x :: r => k (.ref x) r
  | .null :: r => k .null r
  | _ => none
/-- an array: its kind, length and contents; and a place in it -/
def ax_ar {ρ : Type} (h : ax_H) (st : List Value) (k : Nat → Nat → ((Nat → Int32) ⊕ (Nat → Int64) ⊕ (Nat → UInt32) ⊕ (Nat → UInt64) ⊕ (Nat → Option Nat)) → Nat → Int32 → List Value → Option ρ) : Option ρ := match st with
  | .int i :: .ref (a + 1) :: r => match ax_at h a with
    | some (.inl (t, n, c)) => if i < 0 ∨ n ≤ i.toNatClampNeg then none else k t n c a i r
    | _ => none
  | _ => none
def ax_ob {ρ : Type} (h : ax_H) (st : List Value) (k : Nat → List Value → Nat → List Value → Option ρ) : Option ρ := match st with
  | .ref (a + 1) :: r => match ax_at h a with
    | some (.inr (ci, fs)) => k ci fs a r
    | _ => none
  | _ => none
/-- what a field may hold, by its kind in ax_f0 -/
def ax_fit (d v : Value) : Bool := match d, v with
  | .int _, .int _ => true
  | .long _, .long _ => true
  | .null, .null => true
  | .null, .ref _ => true
  | _, _ => false
def ax_icmp {ρ : Type} (c : ClassFile.Cond) (x y : Int32) (t f : Option ρ) : Option ρ := match c with
  | .eq => if x = y then t else f
  | .ne => if x = y then f else t
  | .lt => if x < y then t else f
  | .ge => if y ≤ x then t else f
  | .gt => if y < x then t else f
  | .le => if x ≤ y then t else f
/-- a field of the two kinds true, false -/
def ax_fz (ci k : Nat) : Bool := bif Nat.beq ci 2 then Nat.beq k 15 else bif Nat.beq ci 9 then Nat.beq k 18 else false
def ax_store {ρ : Type} (ci k : Nat) (v : Value) (t : Option ρ) : Option ρ := bif ax_fz ci k then (match v with
    | .int x => if x = 0 ∨ x = 1 then t else none
    | _ => none) else t
def ax_len (a : Nat) (c : Nat × ((Nat → Int32) ⊕ (Nat → Int64) ⊕ (Nat → UInt32) ⊕ (Nat → UInt64) ⊕ (Nat → Option Nat))) : Int32 := Int32.ofNat c.1
/-- a field that may be written here: no final one but in its own class's constructor -/
def ax_fk (m ci k : Nat) : Bool := bif ax_fin ci k then (bif ax_ini m then Nat.beq (ax_own m) ci else false) else true
/-- a step that calls nothing and doesn't end the method -/
def ax_step {ρ : Type} (X : Nat × (Nat → Int32)) (m pc : Nat) (i : Instr) (ls st : List Value) (h : ax_H) (k : Nat → List Value → List Value → ax_H → Option ρ) : Option ρ := match i with
  | .iconst v => k (pc + 1) ls (.int (ax_lit v) :: st) h
  | .bipush v => if -128 ≤ v ∧ v ≤ 127 then k (pc + 2) ls (.int (ax_lit v) :: st) h else none
  | .sipush v => if -32768 ≤ v ∧ v ≤ 32767 then k (pc + 3) ls (.int (ax_lit v) :: st) h else none
  | .ldc j => (match ax_k (ax_own m) j with
    | some v => k (pc + 2) ls (.int v :: st) h
    | none => match ax_ks (ax_own m) j with
      | some q => k (pc + 2) ls (.retAddr q :: st) h
      | none => none)
  | .ldc_w j => (match ax_k (ax_own m) j with
    | some v => k (pc + 3) ls (.int v :: st) h
    | none => none)
  | .ldc2_w j => (match ax_kl (ax_own m) j with
    | some v => k (pc + 3) ls (.long v :: st) h
    | none => none)
  | .lconst v => k (pc + 1) ls (.long (Int64.ofNat v.val) :: st) h
  | .aconst_null => k (pc + 1) ls (.null :: st) h
  | .iload_n j => ax_ldi ls j.val fun x => k (pc + 1) ls (.int x :: st) h
  | .iload j => ax_ldi ls j fun x => k (pc + 2) ls (.int x :: st) h
  | .lload_n j => ax_ldl ls j.val fun x => k (pc + 1) ls (.long x :: st) h
  | .lload j => ax_ldl ls j fun x => k (pc + 2) ls (.long x :: st) h
  | .aload_n j => ax_lda ls j.val fun x => k (pc + 1) ls (x :: st) h
  | .aload j => ax_lda ls j fun x => k (pc + 2) ls (x :: st) h
  | .istore_n j => ax_i1 st fun x r => k (pc + 1) (ax_set1 ls j.val (.int x)) r h
  | .istore j => ax_i1 st fun x r => k (pc + 2) (ax_set1 ls j (.int x)) r h
  | .lstore_n j => ax_l1 st fun x r => k (pc + 1) (ax_set2 ls j.val (.long x)) r h
  | .lstore j => ax_l1 st fun x r => k (pc + 2) (ax_set2 ls j (.long x)) r h
  | .astore_n j => ax_sta st fun x r => k (pc + 1) (ax_set1 ls j.val x) r h
  | .astore j => ax_sta st fun x r => k (pc + 2) (ax_set1 ls j x) r h
  | .iinc j v => ax_ldi ls j fun x => k (pc + 3) (ax_set1 ls j (.int (x + ax_lit v))) st h
  | .iadd => ax_i2 st fun x y r => k (pc + 1) ls (.int (x + y) :: r) h
  | .isub => ax_i2 st fun x y r => k (pc + 1) ls (.int (x - y) :: r) h
  | .imul => ax_i2 st fun x y r => k (pc + 1) ls (.int (x * y) :: r) h
  | .iand => ax_i2 st fun x y r => k (pc + 1) ls (.int (x &&& y) :: r) h
  | .ior => ax_i2 st fun x y r => k (pc + 1) ls (.int (x ||| y) :: r) h
  | .ixor => ax_i2 st fun x y r => k (pc + 1) ls (.int (x ^^^ y) :: r) h
  | .idiv => ax_i2 st fun x y r => if y = 0 then none else k (pc + 1) ls (.int (x / y) :: r) h
  | .irem => ax_i2 st fun x y r => if y = 0 then none else k (pc + 1) ls (.int (x - x / y * y) :: r) h
  | .ineg => ax_i1 st fun x r => k (pc + 1) ls (.int (-x) :: r) h
  | .ishl => ax_i2 st fun x y r => k (pc + 1) ls (.int (x <<< (y &&& 31)) :: r) h
  | .ishr => ax_i2 st fun x y r => k (pc + 1) ls (.int (x >>> (y &&& 31)) :: r) h
  | .iushr => ax_i2 st fun x y r => k (pc + 1) ls (.int (x.toUInt32 >>> (y.toUInt32 &&& Int32.toUInt32 31)).toInt32 :: r) h
  | .ladd => ax_l2 st fun x y r => k (pc + 1) ls (.long (x + y) :: r) h
  | .lsub => ax_l2 st fun x y r => k (pc + 1) ls (.long (x - y) :: r) h
  | .lmul => ax_l2 st fun x y r => k (pc + 1) ls (.long (x * y) :: r) h
  | .land => ax_l2 st fun x y r => k (pc + 1) ls (.long (x &&& y) :: r) h
  | .lor => ax_l2 st fun x y r => k (pc + 1) ls (.long (x ||| y) :: r) h
  | .lxor => ax_l2 st fun x y r => k (pc + 1) ls (.long (x ^^^ y) :: r) h
  | .ldiv => ax_l2 st fun x y r => if y = 0 then none else k (pc + 1) ls (.long (x / y) :: r) h
  | .lrem => ax_l2 st fun x y r => if y = 0 then none else k (pc + 1) ls (.long (x - x / y * y) :: r) h
  | .lneg => ax_l1 st fun x r => k (pc + 1) ls (.long (-x) :: r) h
  | .lshl => ax_li st fun x y r => k (pc + 1) ls (.long (x <<< (y.toInt64 &&& 63)) :: r) h
  | .lshr => ax_li st fun x y r => k (pc + 1) ls (.long (x >>> (y.toInt64 &&& 63)) :: r) h
  | .lushr => ax_li st fun x y r => k (pc + 1) ls (.long (x.toUInt64 >>> (y.toInt64.toUInt64 &&& Int64.toUInt64 63)).toInt64 :: r) h
  | .lcmp => ax_l2 st fun x y r => k (pc + 1) ls (.int (lg_cmp x y) :: r) h
  | .i2l => ax_i1 st fun x r => k (pc + 1) ls (.long x.toInt64 :: r) h
  | .l2i => ax_l1 st fun x r => k (pc + 1) ls (.int x.toInt32 :: r) h
  | .i2c => ax_i1 st fun x r => k (pc + 1) ls (.int (x.toUInt32 % 65536).toInt32 :: r) h
  | .dup => (match st with
    | .int x :: r => k (pc + 1) ls (.int x :: .int x :: r) h
    | .ref x :: r => k (pc + 1) ls (.ref x :: .ref x :: r) h
    | _ => none)
  | .dup2 => (match st with
    | .int x :: .ref y :: r => k (pc + 1) ls (.int x :: .ref y :: .int x :: .ref y :: r) h
    | .int x :: .int y :: r => k (pc + 1) ls (.int x :: .int y :: .int x :: .int y :: r) h
    | _ => none)
  | .dup_x1 => (match st with
    | .int x :: .ref y :: r => k (pc + 1) ls (.int x :: .ref y :: .int x :: r) h
    | .int x :: .int y :: r => k (pc + 1) ls (.int x :: .int y :: .int x :: r) h
    | _ => none)
  | .pop => (match st with
    | .int _ :: r => k (pc + 1) ls r h
    | .ref _ :: r => k (pc + 1) ls r h
    | _ => none)
  | .goto off => ax_jmp pc off fun t => k t ls st h
  | .ifCond c off => ax_i1 st fun x r => ax_icmp c x 0 (ax_jmp pc off fun t => k t ls r h) (k (pc + 3) ls r h)
  | .if_icmp c off => ax_i2 st fun x y r => ax_icmp c x y (ax_jmp pc off fun t => k t ls r h) (k (pc + 3) ls r h)
  | .ifnull off => (match st with
    | .ref _ :: r => k (pc + 3) ls r h
    | .null :: r => ax_jmp pc off fun t => k t ls r h
    | _ => none)
  | .ifnonnull off => (match st with
    | .ref _ :: r => ax_jmp pc off fun t => k t ls r h
    | .null :: r => k (pc + 3) ls r h
    | _ => none)
  | .tableswitch df lo hi offs => ax_i1 st fun x r => if x.toInt < lo ∨ hi < x.toInt then ax_jmp pc df fun t => k t ls r h else (match offs.toList[(x.toInt - lo).toNat]? with
    | some off => ax_jmp pc off fun t => k t ls r h
    | none => none)
  | .lookupswitch df ps => ax_i1 st fun x r => bif (ps.toList.zip (ps.toList.drop 1)).all (fun (a, next) => a.1 < next.1) then (ax_jmp pc (Op.lookupswitch.offset ps.toList df x.toInt) fun t => k t ls r h) else none
  | .getfield j => ax_ob h st fun ci fs _ r => bif Nat.beq ci (ax_fd (ax_own m) j).1 then (match ax_at fs (ax_fd (ax_own m) j).2 with
    | some v => k (pc + 3) ls (v :: r) h
    | none => none) else none
  | .putfield j => (match st with
    | v :: st => ax_ob h st fun ci fs a r => bif Nat.beq ci (ax_fd (ax_own m) j).1 then (match ax_at fs (ax_fd (ax_own m) j).2 with
      | some _ => bif ax_fk m ci (ax_fd (ax_own m) j).2 && ax_fit (ax_get (ax_f0 ci) (ax_fd (ax_own m) j).2) v then ax_store ci (ax_fd (ax_own m) j).2 v (k (pc + 3) ls r (h.set a (.inr (ci, fs.set (ax_fd (ax_own m) j).2 v)))) else none
      | none => none) else none
    | [] => none)
  | .iaload => (match st with
    | .int i :: .ref 0 :: r => if i < 0 ∨ X.1 ≤ i.toNatClampNeg then none else k (pc + 1) ls (.int (X.2 i.toNatClampNeg) :: r) h
    | st => ax_ar h st fun t _ c _ i r => match t, c with
      | 0, .inl f => k (pc + 1) ls (.int (f i.toNatClampNeg) :: r) h
      | _, _ => none)
  | .baload => ax_ar h st fun t _ c _ i r => (match t, c with
    | 2, .inl f => k (pc + 1) ls (.int (f i.toNatClampNeg) :: r) h
    | _, _ => none)
  | .laload => ax_ar h st fun t _ c _ i r => (match t, c with
    | 1, .inr (.inl f) => k (pc + 1) ls (.long (f i.toNatClampNeg) :: r) h
    | _, _ => none)
  | .aaload => ax_ar h st fun t _ c _ i r => (match t, c with
    | 3, .inr (.inr (.inr (.inr f))) => k (pc + 1) ls (va_rf (f i.toNatClampNeg) :: r) h
    | 4, .inr (.inr (.inr (.inr f))) => k (pc + 1) ls (va_rf (f i.toNatClampNeg) :: r) h
    | _, _ => none)
  | .iastore => ax_i1 st fun x st => ax_ar h st fun t n c a i r => (match t, c with
    | 0, .inl f => k (pc + 1) ls r (h.set a (.inl (0, n, .inl (upd f i.toNatClampNeg x))))
    | _, _ => none)
  | .bastore => ax_i1 st fun x st => ax_ar h st fun t n c a i r => (match t, c with
    | 2, .inl f => k (pc + 1) ls r (h.set a (.inl (2, n, .inl (upd f i.toNatClampNeg (vp_nar .boolean x)))))
    | _, _ => none)
  | .lastore => ax_l1 st fun x st => ax_ar h st fun t n c a i r => (match t, c with
    | 1, .inr (.inl f) => k (pc + 1) ls r (h.set a (.inl (1, n, .inr (.inl (vp_updL f i.toNatClampNeg x)))))
    | _, _ => none)
  | .aastore => (match st with
    | .ref (q + 1) :: st => ax_ar h st fun t n c a i r => (match t, c, ax_at h q with
      | 3, .inr (.inr (.inr (.inr f))), some (.inr (7, _)) => k (pc + 1) ls r (h.set a (.inl (3, n, .inr (.inr (.inr (.inr (va_up f i.toNatClampNeg (some (q + 1)))))))))
      | 4, .inr (.inr (.inr (.inr f))), some (.inr (5, _)) => k (pc + 1) ls r (h.set a (.inl (4, n, .inr (.inr (.inr (.inr (va_up f i.toNatClampNeg (some (q + 1)))))))))
      | _, _, _ => none)
    | .null :: st => ax_ar h st fun t n c a i r => (match t, c with
      | 4, .inr (.inr (.inr (.inr f))) => k (pc + 1) ls r (h.set a (.inl (4, n, .inr (.inr (.inr (.inr (va_up f i.toNatClampNeg none)))))))
      | _, _ => none)
    | _ => none)
  | .arraylength => (match st with
    | .ref 0 :: r => k (pc + 1) ls (.int (Int32.ofNat X.1) :: r) h
    | .ref (a + 1) :: r => (match ax_at h a with
      | some (.inl (t, n, _)) => bif Nat.ble t 4 then k (pc + 1) ls (.int (Int32.ofNat n) :: r) h else none
      | _ => none)
    | _ => none)
  | .new j => bif Nat.ble (ax_cl (ax_own m) j) 9 then k (pc + 3) ls (.ref (h.length + 1) :: st) (h ++ [.inr (ax_cl (ax_own m) j, ax_f0 (ax_cl (ax_own m) j))]) else none
  | .newarray t => ax_i1 st fun x r => if x < 0 ∨ 1000000 ≤ x.toNatClampNeg then none else (match t with
    | .int => k (pc + 2) ls (.ref (h.length + 1) :: r) (h ++ [.inl (0, x.toNatClampNeg, .inl (fun _ => 0))])
    | .boolean => k (pc + 2) ls (.ref (h.length + 1) :: r) (h ++ [.inl (2, x.toNatClampNeg, .inl (fun _ => 0))])
    | .long => k (pc + 2) ls (.ref (h.length + 1) :: r) (h ++ [.inl (1, x.toNatClampNeg, .inr (.inl (fun _ => 0)))])
    | _ => none)
  | .anewarray j => ax_i1 st fun x r => if x < 0 ∨ 1000000 ≤ x.toNatClampNeg then none else (match ax_cl (ax_own m) j with
    | 7 => k (pc + 3) ls (.ref (h.length + 1) :: r) (h ++ [.inl (3, x.toNatClampNeg, .inr (.inr (.inr (.inr (fun _ => none)))))])
    | 5 => k (pc + 3) ls (.ref (h.length + 1) :: r) (h ++ [.inl (4, x.toNatClampNeg, .inr (.inr (.inr (.inr (fun _ => none)))))])
    | _ => none)
  | .checkcast j => bif Nat.beq (ax_cl (ax_own m) j) 98 then (match st with
    | .ref (a + 1) :: r => (match ax_at h a with
      | some (.inl (0, _, _)) => k (pc + 3) ls (.ref (a + 1) :: r) h
      | _ => none)
    | _ => none) else none
  | _ => none
/-- the end of a method -/
def ax_end (m : Nat) (i : Instr) (st : List Value) (h : ax_H) : ax_O := match i with
  | .ireturn => (match st with
    | [.int v] => (match ax_rk m with
      | 1 => some (some (.int v), h)
      | 2 => if v = 0 then some (some (.int 0), h) else if v = 1 then some (some (.int 1), h) else none
      | _ => none)
    | _ => none)
  | .lreturn => (match st with
    | [.long v] => bif Nat.beq (ax_rk m) 3 then some (some (.long v), h) else none
    | _ => none)
  | .areturn => (match st with
    | [.ref a] => bif Nat.beq (ax_rk m) 4 then some (some (.ref a), h) else none
    | [.null] => bif Nat.beq (ax_rk m) 4 then some (some .null, h) else none
    | _ => none)
  | .return_ => (match st with
    | [] => bif Nat.beq (ax_rk m) 0 then some (none, h) else none
    | _ => none)
  | _ => none
/-- the first n of a stack, the deepest first, and the rest -/
def ax_take {ρ : Type} : Nat → List Value → List Value → (List Value → List Value → Option ρ) → Option ρ
  | 0, st, acc, k => k acc st
  | n + 1, v :: st, acc, k => ax_take n st (v :: acc) k
  | _ + 1, [], _, _ => none
def ax_ent : List Value → List Value
  | [] => []
  | .long x :: t => .long x :: .float 0 :: ax_ent t
  | .double x :: t => .double x :: .float 0 :: ax_ent t
  | v :: t => v :: ax_ent t
def ax_pad : Nat → List Value → List Value
  | 0, _ => []
  | n + 1, [] => .float 0 :: ax_pad n []
  | n + 1, v :: t => v :: ax_pad n t
def ax_cat (st : List Value) : Nat := (st.map fun v => v.category).sum
def ax_str : Nat → List Nat
  | 0 => ("wants spares object touch write sweep empty drop day of by has soiled if then else end or and not time free number size page idle holds span".toList.map fun c => c.toNat)
  | _ => ("<>=#+-*/();".toList.map fun c => c.toNat)
/-- the class of the object that is called -/
def ax_recv {ρ : Type} (h : ax_H) (c : Nat) (As : List Value) (t : Option ρ) : Option ρ := match As with
  | .ref (a + 1) :: _ => (match ax_at h a with
    | some (.inr (ci, _)) => bif Nat.beq ci (ax_own c) then t else none
    | _ => none)
  | _ => none
def ax_find (c : Nat) : List Nat → Nat → Int32
  | [], _ => -1
  | x :: t, k => bif Nat.beq x c then Int32.ofNat k else ax_find c t (k + 1)
/-- copied references: none, or texts -/
def ax_elq (h : ax_H) (f : Nat → Option Nat) (sp : Nat) : Nat → Bool
  | 0 => true
  | n + 1 => ax_elq h f sp n && (match f (sp + n) with
    | none => true
    | some 0 => false
    | some (q + 1) => match ax_at h q with
      | some (.inr (5, _)) => true
      | _ => false)
/-- calls of what isn't walked: Object(), System.arraycopy, text constants, clone -/
def ax_prim {ρ : Type} (pc q : Nat) (ls st : List Value) (h : ax_H) (k : Nat → List Value → List Value → ax_H → Option ρ) : Option ρ := match q with
  | 0 => (match st with
    | .ref _ :: r => k (pc + 3) ls r h
    | _ => none)
  | 1 => (match st with
    | .int n :: .int dp :: .ref (d + 1) :: .int sp :: .ref (a + 1) :: r => (match ax_at h a, ax_at h d with
      | some (.inl (t1, n1, c1)), some (.inl (t2, n2, c2)) => if n < 0 ∨ sp < 0 ∨ dp < 0 ∨ n1 < sp.toNatClampNeg + n.toNatClampNeg ∨ n2 < dp.toNatClampNeg + n.toNatClampNeg then none else (match t1, t2, c1, c2 with
        | 0, 0, .inl f, .inl g => k (pc + 3) ls r (h.set d (.inl (0, n2, .inl (va_cpy f g sp.toNatClampNeg dp.toNatClampNeg n.toNatClampNeg))))
        | 4, 4, .inr (.inr (.inr (.inr f))), .inr (.inr (.inr (.inr g))) => bif ax_elq h f sp.toNatClampNeg n.toNatClampNeg then k (pc + 3) ls r (h.set d (.inl (4, n2, .inr (.inr (.inr (.inr (va_cpy f g sp.toNatClampNeg dp.toNatClampNeg n.toNatClampNeg))))))) else none
        | _, _, _, _ => none)
      | _, _ => none)
    | _ => none)
  | 2 => (match st with
    | .retAddr s :: r => bif Nat.ble s 1 then k (pc + 3) ls (.int (Int32.ofNat (ax_str s).length) :: r) h else none
    | _ => none)
  | 3 => (match st with
    | .int i :: .retAddr s :: r => bif Nat.ble s 1 then (if i < 0 ∨ (ax_str s).length ≤ i.toNatClampNeg then none else k (pc + 3) ls (.int (Int32.ofNat ((ax_str s).getD i.toNatClampNeg 0)) :: r) h) else none
    | _ => none)
  | 4 => (match st with
    | .int i :: .retAddr s :: r => bif Nat.ble s 1 then (if i < 0 ∨ 256 ≤ i.toNatClampNeg then none else k (pc + 3) ls (.int (ax_find i.toNatClampNeg (ax_str s) 0) :: r) h) else none
    | _ => none)
  | 5 => (match st with
    | .ref (a + 1) :: r => (match ax_at h a with
      | some (.inl (0, n, .inl f)) => k (pc + 3) ls (.ref (h.length + 1) :: r) (h ++ [.inl (0, n, .inl f)])
      | _ => none)
    | _ => none)
  | 6 => ax_i2 st fun x y r => k (pc + 3) ls (.int (if x < y then y else x) :: r) h
  | 7 => ax_i2 st fun x y r => k (pc + 3) ls (.int (if y < x then y else x) :: r) h
  | 8 => ax_l2 st fun x y r => k (pc + 3) ls (.long (if y < x then x else y) :: r) h
  | 9 => ax_l2 st fun x y r => k (pc + 3) ls (.long (if y < x then y else x) :: r) h
  | _ => none
/-- 0: a step, 1: an end, j + 2: a call by the link j -/
def ax_call : Instr → Nat
  | .ireturn => 1
  | .lreturn => 1
  | .areturn => 1
  | .return_ => 1
  | .invokevirtual j => j + 2
  | .invokestatic j => j + 2
  | .invokespecial j => j + 2
  | _ => 0
/-- the level that a call of a text constant's methods wants -/
def ax_pl (q : Nat) : Nat := bif Nat.ble 2 q && Nat.ble q 4 then 6 else 0
/-- how it is called: 0 invokevirtual, 1 invokestatic, 2 invokespecial -/
def ax_iv : Instr → Nat
  | .invokevirtual _ => 0
  | .invokestatic _ => 1
  | .invokespecial _ => 2
  | _ => 3
def ax_kk (kd q : Nat) : Nat := bif Nat.beq kd 0 then 0 else bif Nat.beq kd 1 then 1 else bif Nat.beq kd 2 then 2 else bif Nat.beq kd 3 then 1 else bif Nat.beq kd 4 then 2 else bif Nat.beq q 0 then 2 else bif Nat.beq q 1 then 1 else bif Nat.ble 6 q then 1 else 0
/-- a call on an object -/
def ax_inst (kd : Nat) : Bool := bif Nat.beq kd 1 then false else bif Nat.beq kd 3 then false else true
/-- a call: the callee's run from its entry, then the rest; a call that doesn't go down a level costs one of d -/
def ax_into (run : Nat → Nat → Nat → List Value → List Value → ax_H → ax_O) (d m pc : Nat) (ls : List Value) (c : Nat) (As r : List Value) (h : ax_H) : ax_O :=
  bif Nat.ble (ax_ent As).length (ax_maxL c) then
  match (bif Nat.ble (ax_lvl m) (ax_lvl c) then (match d with
    | 0 => none
    | d + 1 => run d c 0 (ax_pad (ax_maxL c) (ax_ent As)) [] h) else run d c 0 (ax_pad (ax_maxL c) (ax_ent As)) [] h) with
  | none => none
  | some (v, h) => run d m (pc + 3) ls (v.toList ++ r) h
  else none
def ax_run (X : Nat × (Nat → Int32)) : Nat → Nat → Nat → Nat → List Value → List Value → ax_H → ax_O
  | 0, _, _, _, _, _, _ => none
  | n + 1, d, m, pc, ls, st, h => match ax_fetch m pc with
    | none => none
    | some i => match ax_call i with
      | 0 => ax_step X m pc i ls st h (ax_run X n d m)
      | 1 => ax_end m i st h
      | j + 2 => bif Nat.beq (ax_iv i) (ax_kk (ax_lk (ax_own m) j).1 (ax_lk (ax_own m) j).2) then
          (bif Nat.beq (ax_lk (ax_own m) j).1 5 then (bif Nat.ble (ax_cat st) 9 && Nat.ble (ax_pl (ax_lk (ax_own m) j).2) (ax_lvl m) then ax_prim pc (ax_lk (ax_own m) j).2 ls st h (ax_run X n d m) else none)
          else bif Nat.ble (ax_lk (ax_own m) j).1 4 then ax_take (ax_na (ax_lk (ax_own m) j).2) st [] fun As r => bif Nat.ble (ax_cat r) 8 then (bif ax_inst (ax_lk (ax_own m) j).1 then ax_recv h (ax_lk (ax_own m) j).2 As (ax_into (ax_run X n) d m pc ls (ax_lk (ax_own m) j).2 As r h) else ax_into (ax_run X n) d m pc ls (ax_lk (ax_own m) j).2 As r h) else none
          else none) else none
