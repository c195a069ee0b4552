/-! What the tables say is so: the instructions are the code's. -/
def ax_tg (pc : Nat) (off : Int) : Bool := match off with
  | .ofNat _ => true
  | .negSucc n => Nat.ble (n + 1) pc
def ax_ln (nL pc : Nat) (i : Instr) (len : Nat) : Bool := match i with
  | .tableswitch df _ _ _ => ax_tg pc df
  | .lookupswitch _ _ => true
  | .iload _ => Nat.beq len 2
  | .lload _ => Nat.beq len 2
  | .aload _ => Nat.beq len 2
  | .istore j => Nat.beq len 2 && Nat.ble (j + 1) nL
  | .lstore j => Nat.beq len 2 && Nat.ble (j + 2) nL
  | .istore_n j => Nat.beq len 1 && Nat.ble (j.val + 1) nL
  | .astore_n j => Nat.beq len 1 && Nat.ble (j.val + 1) nL
  | .lstore_n j => Nat.beq len 1 && Nat.ble (j.val + 2) nL
  | .astore j => Nat.beq len 2 && Nat.ble (j + 1) nL
  | .bipush _ => Nat.beq len 2
  | .ldc _ => Nat.beq len 2
  | .newarray _ => Nat.beq len 2
  | .iinc j _ => Nat.beq len 3 && Nat.ble (j + 1) nL
  | .sipush _ => Nat.beq len 3
  | .ldc_w _ => Nat.beq len 3
  | .ldc2_w _ => Nat.beq len 3
  | .goto _ => Nat.beq len 3
  | .ifCond _ off => Nat.beq len 3 && ax_tg pc off
  | .if_icmp _ off => Nat.beq len 3 && ax_tg pc off
  | .ifnull _ => Nat.beq len 3
  | .ifnonnull _ => Nat.beq len 3
  | .getfield _ => Nat.beq len 3
  | .putfield _ => Nat.beq len 3
  | .invokevirtual _ => Nat.beq len 3
  | .invokestatic _ => Nat.beq len 3
  | .invokespecial _ => Nat.beq len 3
  | .new _ => Nat.beq len 3
  | .anewarray _ => Nat.beq len 3
  | .checkcast _ => Nat.beq len 3
  | _ => Nat.beq len 1
/-- what a place of the tables says is what the code says -/
def ax_Gd (c : ByteArray) (nL pc : Nat) (o : Option Instr) : Prop := ∀ i, o = some i → ∃ len, decode c pc = .ok (i, len) ∧ ax_ln nL pc i len = true
theorem ax_lf {c : ByteArray} {nL pc p len : Nat} {i : Instr} (h : decode c p = .ok (i, len)) (hl : ax_ln nL p i len = true) : ax_Gd c nL pc (bif Nat.beq pc p then some i else none) := by
  intro j e
  cases hb : Nat.beq pc p with
  | false => rw [hb] at e; cases e
  | true =>
    rw [hb] at e
    cases e
    have := Nat.eq_of_beq_eq_true hb
    subst this
    exact ⟨len, h, hl⟩
theorem ax_nd {c : ByteArray} {nL pc x : Nat} {a b : Option Instr} (h1 : ax_Gd c nL pc a) (h2 : ax_Gd c nL pc b) : ax_Gd c nL pc (bif Nat.ble pc x then a else b) := by
  intro j e
  cases hb : Nat.ble pc x with
  | false => rw [hb] at e; exact h2 j e
  | true => rw [hb] at e; exact h1 j e
theorem ax_n0 {c : ByteArray} {nL pc x : Nat} {b : Option Instr} (h2 : ax_Gd c nL pc b) : ax_Gd c nL pc (bif Nat.ble x pc then none else b) := by
  intro j e
  cases hb : Nat.ble x pc with
  | false => rw [hb] at e; exact h2 j e
  | true => rw [hb] at e; cases e
