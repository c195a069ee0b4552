/-! Reading laws: products, sums, asks. -/
/-- one was read -/
def S1 (q : bS) (L : Nat) (K S A : Nat → Int) (N : Nat) (s m s' m' : bS) (t t' p o i i' u u' T dep : Nat) : Prop := t < t' ∧ STT q L K S A N s' m' t' p o i' u' T ∧ m'.1 18 = 1 ∧ GO1 N t t' m m' ∧ FR m m' ∧ (∀ k, k < p → m'.2 15 k = m.2 15 k) ∧ FS i s s' ∧ (i' + 2 * t ≤ i + 2 * t' ∧ u' + t ≤ u + t') ∧ SN (s'.2 4) i i' (RC T m') u u' dep
def P1 (q : bS) (L : Nat) (K S A : Nat → Int) (N : Nat) (F : bS → Option (Int × bS)) (o dep : Nat) : Prop := ∀ (s m : bS) (t p i u T : Nat), STT q L K S A N s m t p o i u T → m.1 18 = 0 → p ≤ 6 * o + 5 → (K t = 219 → aA (m.2 15) p = false) → FA K S A N (F s) s m t i ∨ ∃ (s' m' : bS) (t' i' u' : Nat), F s = some (0, s') ∧ S1 q L K S A N s m s' m' t t' p o i i' u u' T dep
def QT (_ : Int) : Prop := True
def QP (k : Int) : Prop := k ≠ 42 ∧ k ≠ 47
def QS (k : Int) : Prop := k ≠ 42 ∧ k ≠ 47 ∧ k ≠ 43 ∧ k ≠ 45
def QB (k : Int) : Prop := QS k ∧ k ≠ 218
def QE (k : Int) : Prop := QS k ∧ k ≠ 218 ∧ k ≠ 217
section
variable {q s s' s2 s3 m m' m1 m2 m3 : bS} {f g K S A C R : Nat → Int} {L n i i' j d k t t' t2 N p u u' T o c c' pb pb' dep dep' dep2 W : Nat} {x y kd am v l op r r' rb rb' lv : Int} {ak ak' ak2 : Bool} {F : Option (Int × bS)} {F' G : bS → Option (Int × bS)} {Q Q' : Int → Prop} {rc : Nat → bS → Int → Option (Int × bS)}
theorem SU.le (h : SU q L K S A N r ak s m s' m' m1 t t' p o i i' u u' T dep c) (hr : r' ≤ r) (hd : dep ≤ dep') : SU q L K S A N r' ak s m s' m' m1 t t' p o i i' u u' T dep' c := by
  obtain ⟨a1, a2, a3, a4, a5, a6, a7, a8, a9, a10, a11, a12, a13, a14, a15⟩ := h
  exact ⟨a1, a2, a3, a4, a5, a6.le hr, a7, a8, a9, a10, a11, a12, a13, a14, Sem_c a15 (fun _ _ _ => rfl) (fun _ _ _ => rfl) hd⟩
theorem P1_PG (h : P1 q L K S A N F' o dep) : PG q L K S A N F' o (6 * o + 5) 6 r false dep QT := fun s m t p i u T hs h18 hp hrk h219 _ => by
  rcases h s m t p i u T hs h18 hp (h219 rfl) with h | ⟨s', m', t', i', u', x1, x2, x3, x4, x5, x6, x7, x8, x9, x10⟩
  · exact Or.inl h
  · have e16 := x3.2.2.2.2.1.1
    have hN := x3.1.2.2
    have hpp : p ≤ 60 := by have := hs.2.2.2.2.1.2.2; omega
    refine Or.inr ⟨s', m', m', t', i', u', 0, x1, trivial, x2, x3, x4, fun n hn => ?_, SR.rf', PEND.z, ⟨by rw [e16]; rfl, by omega⟩, x6, x6, x7, ?_, ?_, x8, x9, ⟨fun _ => x10, fun h => by cases h⟩⟩
    · obtain ⟨n1, n2, g1, g2, g3, g4⟩ := x5 n hn
      obtain ⟨n3, hn3⟩ : ∃ n3, n2 = n3 + 1 := ⟨n2 - 1, by omega⟩
      subst hn3
      refine ⟨n1, ?_, g2, g3⟩
      rw [g1, bb_s (stl0 e16 (by omega) (by
        by_cases c0 : p = 0
        · exact Or.inl c0
        · refine Or.inr ?_
          rw [x7 (p - 1) (by omega)]
          rcases hrk with h | h
          · omega
          · omega))]
    · rw [Nat.add_zero]; exact opA_c x7
    · rw [Nat.add_zero, if_neg (by decide)]; exact cmA_c x7
theorem btw_q (H : RT kd am m) (hq : QS kd) (h : m.1 16 = (p : Int)) (hp : p ≤ 160) (hn : 200 ≤ n) : R_betweenOf n m = some (if opN (m.2 15) p = 41 then (if cmA (m.2 15) p = true then (if kd = 218 then 21 else if kd = 217 then 22 else -1) else cmpv kd) else -1, m) := btw_r H hq.2.2.1 hq.2.2.2 hq.1 hq.2.1 h hp hn
/-- products -/
theorem loop_P (B : BY q L) (H : TB (q.2 0) L N K S A) (HP : P1 q L K S A N (fun s => D_readOne q rc n s (o : Int)) o (41 - 5 * o)) (ho8 : o ≤ 8) (hpb : p ≤ 6 * o + 4) (hst : p = 0 ∨ rk (m.2 15 (p - 1)) ≤ 5) : ∀ (k n2 : Nat) (s' m' m1 : bS) (t' i' u' c l2 : Nat), N - t' < k → k ≤ n2 → l2 < t' → SU q L K S A N 6 false s m s' m' m1 t t' p o i i' u u' T (42 - 5 * o) c → FA K S A N (D_readProduct_7 q rc n2 s' (o : Int) (l2 : Int)) s m t i ∨ ∃ (s' m' m1 : bS) (t' i' u' c : Nat), D_readProduct_7 q rc n2 s' (o : Int) (l2 : Int) = some (0, s') ∧ QP (K t') ∧ SU q L K S A N 6 false s m s' m' m1 t t' p o i i' u u' T (42 - 5 * o) c := by
  sorry
end
