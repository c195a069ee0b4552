/-! Steps: rows of worlds in the tail. -/
theorem at_app {α : Type} (l r : List α) (i : Nat) : ax_at (l ++ r) i = if i < l.length then ax_at l i else ax_at r (i - l.length) := by
  rw [ax_at_eq, List.getElem?_append]
  split <;> rw [ax_at_eq]
theorem at_lt {α : Type} {l : List α} {k : Nat} (h : k < l.length) : ∃ x, ax_at l k = some x := by
  rw [ax_at_eq]; exact ⟨l[k], List.getElem?_eq_getElem h⟩
theorem at_ge {α : Type} {l : List α} {k : Nat} (h : l.length ≤ k) : ax_at l k = none := by
  rw [ax_at_eq]; exact List.getElem?_eq_none h
theorem Ev.lift {X : Nat × (Nat → Int)} {d m pc : Nat} {ls lb st sb : List bV} {h h1 g : bH} {v : Option bV} (ps : List Nat) (hn : ps.Nodup) (hlen : ps.length = h.length) (hlt : ∀ p ∈ ps, p < g.length) (hem : ∀ k e, ax_at h k = some e → ax_at g (ay_sg ps g.length k) = some (ay_re (ay_sg ps g.length) e)) (hls : ay_LR (ay_sg ps g.length) ls lb) (hst : sb = st.map (ay_rv (ay_sg ps g.length))) (P : Ev (rn X d m pc ls st h) (v, h1)) : Ev (rn X d m pc lb sb g) (v.map (ay_rv (ay_sg ps g.length)), ay_puts g ps ((h1.take h.length).map (ay_re (ay_sg ps g.length))) ++ (h1.drop h.length).map (ay_re (ay_sg ps g.length))) := by
  obtain ⟨N, hN⟩ := P
  subst hst
  have sg : ∀ {k p : Nat}, ax_at ps k = some p → ay_sg ps g.length k = p := fun {k p} z => by unfold ay_sg; rw [z]
  have sgn : ∀ k, ps.length ≤ k → ay_sg ps g.length k = g.length + (k - ps.length) := fun k hk => by
    unfold ay_sg
    rw [at_ge hk]
  have atp : ∀ k, k < ps.length → ∃ p, ax_at ps k = some p ∧ p ∈ ps := fun k hk => by
    obtain ⟨p, hp⟩ := at_lt hk
    exact ⟨p, hp, ay_at_mem hp⟩
  have hE : ay_Em (ay_sg ps g.length) h1.length h g := by
    refine ⟨hem, fun i k hi hk e => ?_, fun k hk hk2 => by rw [sgn k (by omega)]; omega⟩
    by_cases hi' : i < ps.length
    · obtain ⟨p, hp, hpm⟩ := atp i hi'
      rw [sg hp] at e
      by_cases hk' : k < ps.length
      · obtain ⟨p', hp', _⟩ := atp k hk'
        rw [sg hp'] at e
        subst e
        rw [ax_at_eq] at hp hp'
        exact (List.getElem?_inj (by omega) hn).mp (hp.trans hp'.symm)
      · rw [sgn k (by omega)] at e
        have := hlt p hpm
        omega
    · rw [sgn i (by omega)] at e
      by_cases hk' : k < ps.length
      · obtain ⟨p', hp', hpm⟩ := atp k hk'
        rw [sg hp'] at e
        have := hlt p' hpm
        omega
      · rw [sgn k (by omega)] at e
        omega
  refine ⟨N, fun j => ?_⟩
  obtain ⟨g1, e1, e2, e3⟩ := ay_run_em (j + N) d m pc ls lb st h g v h1 hE hls (Nat.le_refl _) (hN j)
  show ay_run X (j + N) d m pc lb _ g = _
  rw [e1]
  congr 1
  refine Prod.ext rfl ?_
  show g1 = _
  have l1 := e3.1; have l2 := e3.2.1
  refine ay_ext (by rw [List.length_append, ay_puts_len, List.length_map, List.length_drop]; omega) (fun i hi => ?_)
  rw [at_app, ay_puts_len]
  by_cases hig : i < g.length
  · rw [if_pos hig]
    by_cases hip : i ∈ ps
    · obtain ⟨k, hk, rfl⟩ := List.mem_iff_getElem.mp hip
      have hp : ax_at ps k = some ps[k] := by rw [ax_at_eq, List.getElem?_eq_getElem hk]
      obtain ⟨x, hx⟩ := at_lt (l := h1) (k := k) (by omega)
      have := e2.1 k x hx
      rw [sg hp] at this
      rw [this]
      refine (ay_puts_eq ps _ g k ps[k] _ hn hp ?_ (hlt _ hip)).symm
      rw [ay_at_map, ax_at_eq, List.getElem?_take_of_lt (by omega), ← ax_at_eq, hx]; rfl
    · rw [ay_puts_ne ps _ _ i hip]
      refine e3.2.2 i (by omega) (fun k hk e => hip ?_)
      obtain ⟨p, hp, hm⟩ := atp k (by omega)
      rw [sg hp] at e
      rw [← e]; exact hm
  · rw [if_neg hig]
    obtain ⟨x, hx⟩ := at_lt (l := h1) (k := h.length + (i - g.length)) (by omega)
    have := e2.1 _ x hx
    rw [sgn _ (by omega), show g.length + (h.length + (i - g.length) - ps.length) = i by omega] at this
    rw [this, ay_at_map, ax_at_eq, List.getElem?_drop, ← ax_at_eq, hx]; rfl
theorem Sim.ev {α : Type} {E : α → Option bV × bH} {a : α} {G : Nat → bO} (P : Sim E (some a) G) : Ev G (E a) := P a rfl
theorem Ev.step {G G' : Nat → bO} {r : Option bV × bH} (k : Nat) (e : ∀ n, G (n + k) = G' n) (P : Ev G' r) : Ev G r := by
  obtain ⟨N, hN⟩ := P
  exact ⟨N + k, fun j => by rw [← Nat.add_assoc, e, hN]⟩
theorem Ev.ret {G : Nat → bO} {r : Option bV × bH} (k : Nat) (e : ∀ n, G (n + k) = some r) : Ev G r := ⟨k, e⟩
theorem Ev.call {X : Nat × (Nat → Int)} {d m pc c d' : Nat} {ls ls' r st : List bV} {h h1 : bH} {v : Option bV} {R : Option bV × bH} (e : ∀ n, rn X d m pc ls st h (n + 1) = ay_cont (rn X d' c 0 ls' [] h n) (fun v h => rn X d m (pc + 3) ls (v.toList ++ r) h n)) (Pc : Ev (rn X d' c 0 ls' [] h) (v, h1)) (P : Ev (rn X d m (pc + 3) ls (v.toList ++ r) h1) R) : Ev (rn X d m pc ls st h) R := by
  obtain ⟨N, hN⟩ := Pc
  obtain ⟨M, hM⟩ := P
  refine ⟨(N + M) + 1, fun j => ?_⟩
  have e1 := hN (j + M)
  have e2 := hM (j + N)
  rw [← Nat.add_assoc, e, show j + (N + M) = j + M + N by omega, e1]
  show rn X d m (pc + 3) ls (v.toList ++ r) h1 (j + M + N) = _
  rw [show j + M + N = j + N + M by omega, e2]
theorem ay_wi {x : Int} (h1 : -2147483648 ≤ x) (h2 : x < 2147483648) : ay_w x = x := Int.bmod_eq_of_le (by omega) (by omega)
theorem ay_u_nat (f : Nat → Int) (k v : Nat) : ay_u (fun i => (f i).toNat) k v = fun i => (ay_u f k (v : Int) i).toNat := by
  funext i; unfold ay_u; split <;> simp
/-- a world's cells from an address on -/
def wtC (a : Nat) (w : bS) : bH := [.inr (.inr (7, [rr (a + 3), rr (a + 4), rr (a + 5), rr (a + 6), rr (a + 7), rr (a + 8), rr (a + 9), rr (a + 10), rr (a + 11), rr (a + 12), rr (a + 13), rr (a + 14), .inl (w.1 12), .inl (w.1 13), .inl (w.1 14), .inl (w.1 15), .inl (w.1 16), .inl (w.1 17)])), .inl (0, 128, w.2 0), .inl (0, 128, w.2 1), .inl (0, 128, w.2 2), .inl (0, 64, w.2 3), .inl (0, 64, w.2 4), .inl (0, 64, w.2 5), .inl (0, 4, w.2 6), .inl (0, 4, w.2 7), .inl (0, 4, w.2 8), .inl (0, 4, w.2 9), .inl (0, 25, w.2 10), .inl (0, 2, w.2 11)]
def wtH (T : bH) (j : Nat) (w : bS) : Prop := ∀ k, k < 13 → ax_at T (j + k) = ax_at (wtC (j + 71) w) k
def wtP (j : Nat) : List Nat := [j + 0, j + 1, j + 2, j + 3, j + 4, j + 5, j + 6, j + 7, j + 8, j + 9, j + 10, j + 11, j + 12]
def w00 : bS := (fun k => bif Nat.beq k 15 then 499 else 0, fun _ _ => 0)
def w0 : bS := (fun k => bif Nat.beq k 15 then 499 else 0, fun k i => bif Nat.beq k 2 then (if i < 128 then -1 else 0) else 0)
def W_fill_5 : Nat → bS → Int → Int → Int → Option (Int × bS)
  | 0, _, _, _, _ => none
  | n + 1, s, l1, l2, l3 => (if l3 ≤ l2 then some (0, s) else (if 0 ≤ l2 ∧ l2 < 128 then W_fill_5 n (bA s 2 l2 l1) l1 (ay_w (l2 + 1)) l3 else none))
theorem s_W_fill_5 (X : Nat × (Nat → Int)) (d : Nat) : ∀ (n : Nat) (s : bS) (l1 l2 l3 : Int), Sim (eWv) (W_fill_5 n s l1 l2 l3) (rn X d 310 5 [rr 5, .inl l1, .inl l2, .inl l3] [] (hW s))
  | 0, _, _, _, _ => Sim.none
  | n + 1, s, l1, l2, l3 => Sim.step (rn X d 310 7 [rr 5, .inl l1, .inl l2, .inl l3] [.inl l3, .inl l2] (hW s)) 2 (fun _ => rfl) (Sim.bGe (t := 20) rfl (fun _ => rfl) (fun _ => Sim.ret 1 (fun _ => rfl)) (fun _ => Sim.step (rn X d 310 13 [rr 5, .inl l1, .inl l2, .inl l3] [.inl l1, .inl l2, rr 5] (hW s)) 3 (fun _ => rfl) (Sim.ast (a := 3) (hW (bA s 2 l2 l1)) rfl rfl rfl (hW_a3 s l2 l1) (fun _ => Sim.step (rn X d 310 5 [rr 5, .inl l1, .inl (ay_w (l2 + 1)), .inl l3] [] (hW (bA s 2 l2 l1))) 2 (fun _ => rfl) (s_W_fill_5 X d n (bA s 2 l2 l1) l1 (ay_w (l2 + 1)) l3)))))
def W_fill (n : Nat) (s : bS) (l1 : Int) : Option (Int × bS) := W_fill_5 n s l1 0 128
theorem s_W_fill (X : Nat × (Nat → Int)) (d : Nat) (n : Nat) (s : bS) (l1 : Int) : Sim (eWv) (W_fill n s l1) (rn X d 310 0 [rr 5, .inl l1, b0, b0] [] (hW s)) := Sim.step (rn X d 310 5 [rr 5, .inl l1, .inl 0, .inl 128] [] (hW s)) 5 (fun _ => rfl) (s_W_fill_5 X d n s l1 0 128)
theorem W_fill_ok : ∀ (m n i : Nat) (w : bS), m + i = 128 → m < n → W_fill_5 n w (-1) (i : Int) 128 = some (0, (w.1, fun k j => bif Nat.beq k 2 then (if i ≤ j ∧ j < 128 then -1 else w.2 2 j) else w.2 k j))
  | _, 0, _, _, _, h => by omega
  | 0, n + 1, i, w, h, _ => by
    have : i = 128 := by omega
    subst this
    rw [W_fill_5, if_pos (by omega)]
    congr 2
    refine Prod.ext rfl ?_
    funext k j
    show w.2 k j = (bif Nat.beq k 2 then (if 128 ≤ j ∧ j < 128 then -1 else w.2 2 j) else w.2 k j)
    cases hk : Nat.beq k 2
    · rfl
    · rw [Nat.eq_of_beq_eq_true hk, cond_true, if_neg (by omega)]
  | m + 1, n + 1, i, w, h, hn => by
    rw [W_fill_5, if_neg (by omega), if_pos ⟨by omega, by omega⟩, ay_wi (by omega) (by omega), show (i : Int) + 1 = ((i + 1 : Nat) : Int) by omega, W_fill_ok m n (i + 1) _ (by omega) (by omega)]
    congr 2
    refine Prod.ext rfl ?_
    funext k j
    show (bif Nat.beq k 2 then (if i + 1 ≤ j ∧ j < 128 then (-1 : Int) else (bA w 2 (i : Int) (-1)).2 2 j) else (bA w 2 (i : Int) (-1)).2 k j) = (bif Nat.beq k 2 then (if i ≤ j ∧ j < 128 then (-1 : Int) else w.2 2 j) else w.2 k j)
    cases hk : Nat.beq k 2
    · simp only [cond_false, bA, hk]
    · simp only [cond_true, bA, Nat.beq_refl, ay_u, Int.toNat_natCast]
      by_cases h1 : i + 1 ≤ j ∧ j < 128
      · rw [if_pos h1, if_pos ⟨by omega, h1.2⟩]
      · rw [if_neg h1]
        by_cases h2 : j = i
        · rw [if_pos h2, if_pos ⟨by omega, by omega⟩]
        · rw [if_neg h2, if_neg (by omega)]
set_option maxRecDepth 20000 in
theorem s_W_init (X : Nat × (Nat → Int)) (d : Nat) : Ev (rn X d 64 0 [rr 2] [] [.inr (.inr (7, ay_f0 7))]) (none, hW w0) := by
  refine Ev.step (G' := rn X d 64 110 [rr 2] [.inl (-1), rr 5] (hW w00)) 56 (fun _ => rfl) ?_
  refine Ev.call (c := 310) (d' := d) (ls' := [rr 5, .inl (-1), b0, b0]) (r := []) (v := none) (h1 := hW w0) (fun _ => rfl) ?_ (Ev.ret 1 (fun _ => rfl))
  have h := W_fill_ok 128 200 0 w00 (by omega) (by omega)
  have h2 : W_fill 200 w00 (-1) = some (0, w0) := by
    rw [W_fill]
    refine Eq.trans h ?_
    congr 2
    refine Prod.ext rfl ?_
    funext k j
    show (bif Nat.beq k 2 then (if 0 ≤ j ∧ j < 128 then (-1 : Int) else 0) else 0) = (bif Nat.beq k 2 then (if j < 128 then (-1 : Int) else 0) else 0)
    simp
  have := s_W_fill X d 200 w00 (-1)
  rw [h2] at this
  exact this.ev
