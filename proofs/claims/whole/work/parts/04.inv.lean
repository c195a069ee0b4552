/-! The steps as data; what a step that goes on looked like. -/
def ax_ret (a : Nat) (b c : List Value) (e : ax_H) : Option (Nat × List Value × List Value × ax_H) := some (a, b, c, e)
def ax_un {ρ : Type} (k : Nat → List Value → List Value → ax_H → Option ρ) (q : Nat × List Value × List Value × ax_H) : Option ρ := k q.1 q.2.1 q.2.2.1 q.2.2.2
section
variable {ρ σ : Type} {K : σ → Option ρ}
theorem ax_i1_b {st : List Value} {k : Int32 → List Value → Option ρ} {k0 : Int32 → List Value → Option σ} (h : ∀ x r, k x r = (k0 x r).bind K) : ax_i1 st k = (ax_i1 st k0).bind K := by
  unfold ax_i1; split <;> first | exact h _ _ | rfl
theorem ax_i2_b {st : List Value} {k : Int32 → Int32 → List Value → Option ρ} {k0 : Int32 → Int32 → List Value → Option σ} (h : ∀ x y r, k x y r = (k0 x y r).bind K) : ax_i2 st k = (ax_i2 st k0).bind K := by
  unfold ax_i2; split <;> first | exact h _ _ _ | rfl
theorem ax_l1_b {st : List Value} {k : Int64 → List Value → Option ρ} {k0 : Int64 → List Value → Option σ} (h : ∀ x r, k x r = (k0 x r).bind K) : ax_l1 st k = (ax_l1 st k0).bind K := by
  unfold ax_l1; split <;> first | exact h _ _ | rfl
theorem ax_l2_b {st : List Value} {k : Int64 → Int64 → List Value → Option ρ} {k0 : Int64 → Int64 → List Value → Option σ} (h : ∀ x y r, k x y r = (k0 x y r).bind K) : ax_l2 st k = (ax_l2 st k0).bind K := by
  unfold ax_l2; split <;> first | exact h _ _ _ | rfl
theorem ax_li_b {st : List Value} {k : Int64 → Int32 → List Value → Option ρ} {k0 : Int64 → Int32 → List Value → Option σ} (h : ∀ x y r, k x y r = (k0 x y r).bind K) : ax_li st k = (ax_li st k0).bind K := by
  unfold ax_li; split <;> first | exact h _ _ _ | rfl
theorem ax_ldi_b {ls : List Value} {i : Nat} {k : Int32 → Option ρ} {k0 : Int32 → Option σ} (h : ∀ x, k x = (k0 x).bind K) : ax_ldi ls i k = (ax_ldi ls i k0).bind K := by
  unfold ax_ldi; split <;> first | exact h _ | rfl
theorem ax_ldl_b {ls : List Value} {i : Nat} {k : Int64 → Option ρ} {k0 : Int64 → Option σ} (h : ∀ x, k x = (k0 x).bind K) : ax_ldl ls i k = (ax_ldl ls i k0).bind K := by
  unfold ax_ldl; split <;> first | exact h _ | rfl
theorem ax_lda_b {ls : List Value} {i : Nat} {k : Value → Option ρ} {k0 : Value → Option σ} (h : ∀ x, k x = (k0 x).bind K) : ax_lda ls i k = (ax_lda ls i k0).bind K := by
  unfold ax_lda; split <;> first | exact h _ | rfl
theorem ax_sta_b {st : List Value} {k : Value → List Value → Option ρ} {k0 : Value → List Value → Option σ} (h : ∀ x r, k x r = (k0 x r).bind K) : ax_sta st k = (ax_sta st k0).bind K := by
  unfold ax_sta; split <;> first | exact h _ _ | rfl
theorem ax_jmp_b {pc : Nat} {off : Int} {k : Nat → Option ρ} {k0 : Nat → Option σ} (h : ∀ t, k t = (k0 t).bind K) : ax_jmp pc off k = (ax_jmp pc off k0).bind K := by
  unfold ax_jmp; split
  · exact h _
  · cases Nat.ble (_ + 1) pc
    · rfl
    · exact h _
theorem ax_icmp_b {c : ClassFile.Cond} {x y : Int32} {t f : Option ρ} {t0 f0 : Option σ} (h1 : t = t0.bind K) (h2 : f = f0.bind K) : ax_icmp c x y t f = (ax_icmp c x y t0 f0).bind K := by
  unfold ax_icmp; cases c <;> dsimp only <;> split <;> first | exact h1 | exact h2
theorem ax_if_b {c : Prop} [Decidable c] {t f : Option ρ} {t0 f0 : Option σ} (h1 : t = t0.bind K) (h2 : f = f0.bind K) : (if c then t else f) = (if c then t0 else f0).bind K := by
  split <;> assumption
theorem ax_bif_b {c : Bool} {t f : Option ρ} {t0 f0 : Option σ} (h1 : t = t0.bind K) (h2 : f = f0.bind K) : (bif c then t else f) = (bif c then t0 else f0).bind K := by
  cases c <;> assumption
theorem ax_store_b {ci j : Nat} {v : Value} {t : Option ρ} {t0 : Option σ} (h : t = t0.bind K) : ax_store ci j v t = (ax_store ci j v t0).bind K := by
  unfold ax_store; refine ax_bif_b ?_ h
  split
  · exact ax_if_b h rfl
  · rfl
theorem ax_ar_b {h : ax_H} {st : List Value} {k : Nat → Nat → ((Nat → Int32) ⊕ (Nat → Int64) ⊕ (Nat → UInt32) ⊕ (Nat → UInt64) ⊕ (Nat → Option Nat)) → Nat → Int32 → List Value → Option ρ} {k0 : Nat → Nat → ((Nat → Int32) ⊕ (Nat → Int64) ⊕ (Nat → UInt32) ⊕ (Nat → UInt64) ⊕ (Nat → Option Nat)) → Nat → Int32 → List Value → Option σ} (hh : ∀ t n c a i r, k t n c a i r = (k0 t n c a i r).bind K) : ax_ar h st k = (ax_ar h st k0).bind K := by
  unfold ax_ar; split
  · split
    · exact ax_if_b rfl (hh _ _ _ _ _ _)
    · rfl
  · rfl
theorem ax_ob_b {h : ax_H} {st : List Value} {k : Nat → List Value → Nat → List Value → Option ρ} {k0 : Nat → List Value → Nat → List Value → Option σ} (hh : ∀ ci fs a r, k ci fs a r = (k0 ci fs a r).bind K) : ax_ob h st k = (ax_ob h st k0).bind K := by
  unfold ax_ob; split
  · split
    · exact hh _ _ _ _
    · rfl
  · rfl
end
set_option maxHeartbeats 4000000 in
theorem ax_step_b {ρ : Type} (X : Nat × (Nat → Int32)) (m pc : Nat) (i : Instr) (ls st : List Value) (h : ax_H) (k : Nat → List Value → List Value → ax_H → Option ρ) : ax_step X m pc i ls st h k = (ax_step X m pc i ls st h ax_ret).bind (ax_un k) := by
  cases i
  all_goals first
    | rfl
    | exact ax_i1_b fun _ _ => rfl
    | exact ax_i2_b fun _ _ _ => rfl
    | exact ax_l1_b fun _ _ => rfl
    | exact ax_l2_b fun _ _ _ => rfl
    | exact ax_li_b fun _ _ _ => rfl
    | exact ax_ldi_b fun _ => rfl
    | exact ax_ldl_b fun _ => rfl
    | exact ax_lda_b fun _ => rfl
    | exact ax_sta_b fun _ _ => rfl
    | exact ax_jmp_b fun _ => rfl
    | exact ax_if_b rfl rfl
    | exact ax_bif_b rfl rfl
    | exact ax_i1_b fun _ _ => ax_icmp_b (ax_jmp_b fun _ => rfl) rfl
    | exact ax_i2_b fun _ _ _ => ax_icmp_b (ax_jmp_b fun _ => rfl) rfl
    | exact ax_i2_b fun _ _ _ => ax_if_b rfl rfl
    | exact ax_l2_b fun _ _ _ => ax_if_b rfl rfl
    | skip
  case aload => unfold ax_step; dsimp only; exact ax_lda_b fun _ => rfl
  case aload_n => unfold ax_step; dsimp only; exact ax_lda_b fun _ => rfl
  case astore => unfold ax_step; dsimp only; exact ax_sta_b fun _ _ => rfl
  case astore_n => unfold ax_step; dsimp only; exact ax_sta_b fun _ _ => rfl
  case goto => unfold ax_step; dsimp only; exact ax_jmp_b fun _ => rfl
  case ldc => unfold ax_step; dsimp only; split <;> first | rfl | (split <;> rfl)
  case ldc_w => unfold ax_step; dsimp only; split <;> rfl
  case ldc2_w => unfold ax_step; dsimp only; split <;> rfl
  case dup => unfold ax_step; dsimp only; split <;> rfl
  case dup2 => unfold ax_step; dsimp only; split <;> rfl
  case dup_x1 => unfold ax_step; dsimp only; split <;> rfl
  case pop => unfold ax_step; dsimp only; split <;> rfl
  case ifnull => unfold ax_step; dsimp only; split <;> first | rfl | exact ax_jmp_b fun _ => rfl
  case ifnonnull => unfold ax_step; dsimp only; split <;> first | rfl | exact ax_jmp_b fun _ => rfl
  case tableswitch => exact ax_i1_b fun _ _ => ax_if_b (ax_jmp_b fun _ => rfl) (by split <;> first | rfl | exact ax_jmp_b fun _ => rfl)
  case lookupswitch => exact ax_i1_b fun _ _ => ax_bif_b (ax_jmp_b fun _ => rfl) rfl
  case getfield => exact ax_ob_b fun _ _ _ _ => ax_bif_b (by split <;> rfl) rfl
  case putfield => unfold ax_step; dsimp only; split <;> first | rfl | exact ax_ob_b fun _ _ _ _ => ax_bif_b (by split <;> first | rfl | exact ax_bif_b (ax_store_b rfl) rfl) rfl
  case iaload => unfold ax_step; dsimp only; split <;> first | exact ax_if_b rfl rfl | exact ax_ar_b fun _ _ _ _ _ _ => by split <;> rfl
  case baload => exact ax_ar_b fun _ _ _ _ _ _ => by split <;> rfl
  case laload => exact ax_ar_b fun _ _ _ _ _ _ => by split <;> rfl
  case aaload => exact ax_ar_b fun _ _ _ _ _ _ => by split <;> rfl
  case iastore => exact ax_i1_b fun _ _ => ax_ar_b fun _ _ _ _ _ _ => by split <;> rfl
  case bastore => exact ax_i1_b fun _ _ => ax_ar_b fun _ _ _ _ _ _ => by split <;> rfl
  case lastore => exact ax_l1_b fun _ _ => ax_ar_b fun _ _ _ _ _ _ => by split <;> rfl
  case aastore => unfold ax_step; dsimp only; split <;> first | rfl | exact ax_ar_b fun _ _ _ _ _ _ => by split <;> rfl
  case arraylength => unfold ax_step; dsimp only; split <;> first | rfl | (split <;> first | rfl | exact ax_bif_b rfl rfl)
  case newarray => exact ax_i1_b fun _ _ => ax_if_b rfl (by split <;> rfl)
  case anewarray => exact ax_i1_b fun _ _ => ax_if_b rfl (by split <;> rfl)
  case checkcast => exact ax_bif_b (by split <;> first | rfl | (split <;> rfl)) rfl
theorem ax_recv_b {ρ σ : Type} {K : σ → Option ρ} {h : ax_H} {c : Nat} {As : List Value} {t : Option ρ} {t0 : Option σ} (e : t = t0.bind K) : ax_recv h c As t = (ax_recv h c As t0).bind K := by
  unfold ax_recv; split
  · split
    · exact ax_bif_b e rfl
    · rfl
  · rfl
theorem ax_take_b {ρ σ : Type} {K : σ → Option ρ} (n : Nat) : ∀ (st acc : List Value) {k : List Value → List Value → Option ρ} {k0 : List Value → List Value → Option σ}, (∀ a r, k a r = (k0 a r).bind K) → ax_take n st acc k = (ax_take n st acc k0).bind K := by
  induction n with
  | zero => intro st acc k k0 h; exact h _ _
  | succ n ih =>
    intro st acc k k0 h
    cases st with
    | nil => rfl
    | cons v st => exact ih st (v :: acc) h
theorem ax_prim_b {ρ : Type} (pc q : Nat) (ls st : List Value) (h : ax_H) (k : Nat → List Value → List Value → ax_H → Option ρ) : ax_prim pc q ls st h k = (ax_prim pc q ls st h ax_ret).bind (ax_un k) := by
  unfold ax_prim
  split
  · split <;> rfl
  · split
    · split
      · exact ax_if_b rfl (by split <;> first | rfl | exact ax_bif_b rfl rfl)
      · rfl
    · rfl
  · split <;> first | rfl | exact ax_bif_b rfl rfl
  · split <;> first | rfl | exact ax_bif_b (ax_if_b rfl rfl) rfl
  · split <;> first | rfl | exact ax_bif_b (ax_if_b rfl rfl) rfl
  · split
    · split <;> rfl
    · rfl
  · exact ax_i2_b fun _ _ _ => rfl
  · exact ax_i2_b fun _ _ _ => rfl
  · exact ax_l2_b fun _ _ _ => rfl
  · exact ax_l2_b fun _ _ _ => rfl
  · rfl
