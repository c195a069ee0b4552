/-! Steps: rows found or made, worlds copied to and from them. -/
def wCp (w v : bS) : bS := bI (bI (bI (bI (bI (bI (bC (bC (bC (bC (bC (bC (bC (bC (bC (bC (bC (bC w 0 (ay_cpy (v.2 0) (w.2 0) 0 0 128)) 1 (ay_cpy (v.2 1) (w.2 1) 0 0 128)) 2 (ay_cpy (v.2 2) (w.2 2) 0 0 128)) 3 (ay_cpy (v.2 3) (w.2 3) 0 0 64)) 4 (ay_cpy (v.2 4) (w.2 4) 0 0 64)) 5 (ay_cpy (v.2 5) (w.2 5) 0 0 64)) 6 (ay_cpy (v.2 6) (w.2 6) 0 0 4)) 7 (ay_cpy (v.2 7) (w.2 7) 0 0 4)) 8 (ay_cpy (v.2 8) (w.2 8) 0 0 4)) 9 (ay_cpy (v.2 9) (w.2 9) 0 0 4)) 10 (ay_cpy (v.2 10) (w.2 10) 0 0 25)) 11 (ay_cpy (v.2 11) (w.2 11) 0 0 2)) 12 (v.1 12)) 13 (v.1 13)) 14 (v.1 14)) 15 (v.1 15)) 16 (v.1 16)) 17 (v.1 17)
abbrev nwE : bE := .inr (.inr (7, ay_f0 7))
theorem wCp_eq (n : Nat) (w v : bS) : W_copyFrom n (w, v) = some (0, (wCp w v, v)) := rfl
theorem hP_len (s : pS) : (hP s).length = s.2.length + 71 := rfl
theorem hP_set (s : pS) (k : Nat) (e : bE) : (hP s).set (k + 71) e = hP (s.1, s.2.set k e) := rfl
theorem hP_app (s : pS) (l : bH) : hP s ++ l = hP (s.1, s.2 ++ l) := rfl
theorem hP_at (s : pS) (k : Nat) : ax_at (hP s) (k + 71) = ax_at s.2 k := rfl
theorem hP_puts (c : Nat → bS) : ∀ (ps : List Nat) (es T : bH), ay_puts (hP (c, T)) (ps.map (· + 71)) es = hP (c, ay_puts T ps es)
  | [], es, T => by cases es <;> rfl
  | _ :: _, [], _ => rfl
  | p :: ps, e :: es, T => by
    show ay_puts ((hP (c, T)).set (p + 71) e) (ps.map (· + 71)) es = _
    rw [hP_set]
    exact hP_puts c ps es (T.set p e)
theorem wtP_add (j : Nat) : wtP (j + 71) = (wtP j).map (· + 71) := by
  simp only [wtP, List.map_cons, List.map_nil, Nat.add_right_comm j 71]
theorem ay_puts_app : ∀ (p1 p2 : List Nat) (e1 e2 g : bH), p1.length = e1.length → ay_puts g (p1 ++ p2) (e1 ++ e2) = ay_puts (ay_puts g p1 e1) p2 e2
  | [], _, [], _, _, _ => rfl
  | p :: p1, p2, e :: e1, e2, g, h => ay_puts_app p1 p2 e1 e2 (g.set p e) (Nat.succ.inj h)
theorem set_same {α : Type} : ∀ {l : List α} {k : Nat} {e : α}, ax_at l k = some e → l.set k e = l
  | _ :: _, 0, _, h => by cases h; rfl
  | x :: t, k + 1, e, h => by show x :: t.set k e = _; rw [set_same (l := t) h]
theorem ay_puts_same : ∀ (ps : List Nat) (es g : bH), (∀ k p e, ax_at ps k = some p → ax_at es k = some e → ax_at g p = some e) → ay_puts g ps es = g
  | [], es, _, _ => by cases es <;> rfl
  | _ :: _, [], _, _ => rfl
  | p :: ps, e :: es, g, h => by
    show ay_puts (g.set p e) ps es = g
    rw [set_same (h 0 p e rfl rfl)]
    exact ay_puts_same ps es g (fun k q x a b => h (k + 1) q x a b)
theorem wtP_at {j k p : Nat} (h : ax_at (wtP j) k = some p) : k < 13 ∧ p = j + k := by
  match k, h with
  | 0, h => exact ⟨by omega, (Option.some.inj h).symm⟩ | 1, h => exact ⟨by omega, (Option.some.inj h).symm⟩ | 2, h => exact ⟨by omega, (Option.some.inj h).symm⟩ | 3, h => exact ⟨by omega, (Option.some.inj h).symm⟩ | 4, h => exact ⟨by omega, (Option.some.inj h).symm⟩ | 5, h => exact ⟨by omega, (Option.some.inj h).symm⟩ | 6, h => exact ⟨by omega, (Option.some.inj h).symm⟩ | 7, h => exact ⟨by omega, (Option.some.inj h).symm⟩ | 8, h => exact ⟨by omega, (Option.some.inj h).symm⟩ | 9, h => exact ⟨by omega, (Option.some.inj h).symm⟩ | 10, h => exact ⟨by omega, (Option.some.inj h).symm⟩ | 11, h => exact ⟨by omega, (Option.some.inj h).symm⟩ | 12, h => exact ⟨by omega, (Option.some.inj h).symm⟩ | _ + 13, h => cases h
theorem wtP_mem {j p : Nat} (h : p ∈ wtP j) : ∃ k, k < 13 ∧ p = j + k := by
  obtain ⟨k, hk, e⟩ := List.mem_iff_getElem.mp h
  have : ax_at (wtP j) k = some p := by rw [ax_at_eq, List.getElem?_eq_getElem hk, e]
  exact ⟨k, wtP_at this⟩
theorem wtP_nodup (j : Nat) : (wtP j).Nodup := by
  have e : wtP j = (List.range 13).map (fun k => j + k) := rfl
  rw [e]
  exact List.Pairwise.map _ (fun a b h q => h (by omega)) List.nodup_range
theorem wtP_nodup2 {A B : Nat} (h : A + 13 ≤ B ∨ B + 13 ≤ A) : (wtP A ++ wtP B).Nodup := by
  rw [List.nodup_append]
  refine ⟨wtP_nodup A, wtP_nodup B, fun a ha b hb q => ?_⟩
  obtain ⟨k, hk, rfl⟩ := wtP_mem ha
  obtain ⟨l, hl, rfl⟩ := wtP_mem hb
  omega
theorem wtC_some (A : Nat) (w : bS) {k : Nat} (h : k < 13) : ∃ e, ax_at (wtC A w) k = some e := at_lt h
/-- a world copied into another, anywhere -/
theorem s_cp (X : Nat × (Nat → Int)) (d : Nat) {A B : Nat} {w v : bS} {g : bH} (hA : ∀ k, k < 13 → ax_at g (A + k) = ax_at (wtC A w) k) (hB : ∀ k, k < 13 → ax_at g (B + k) = ax_at (wtC B v) k) (hd : A + 13 ≤ B ∨ B + 13 ≤ A) : Ev (rn X d 65 0 [rr (A + 2), rr (B + 2)] [] g) (none, ay_puts g (wtP A) (wtC A (wCp w v))) := by
  have P0 : Ev (rn X d 65 0 [rr 2, rr 15] [] (hV (w, v))) (none, hV (wCp w v, v)) := by
    have := s_W_copyFrom X d 0 (w, v)
    rw [wCp_eq] at this
    exact this.ev
  have hlt : ∀ p ∈ wtP A ++ wtP B, p < g.length := fun p hp => by
    rcases List.mem_append.mp hp with h | h
    · obtain ⟨k, hk, rfl⟩ := wtP_mem h
      obtain ⟨e, he⟩ := wtC_some A w hk
      exact ay_at_lt ((hA k hk).trans he)
    · obtain ⟨k, hk, rfl⟩ := wtP_mem h
      obtain ⟨e, he⟩ := wtC_some B v hk
      exact ay_at_lt ((hB k hk).trans he)
  have L := Ev.lift (g := g) (h := hV (w, v)) (ls := [rr 2, rr 15]) (lb := [rr (A + 2), rr (B + 2)]) (sb := []) (wtP A ++ wtP B) (wtP_nodup2 hd) rfl hlt (fun k e q => match k, q with
    | 0, q => hemc (f := ay_re _) q ((hA 0 (by decide)).trans rfl) | 1, q => hemc (f := ay_re _) q ((hA 1 (by decide)).trans rfl) | 2, q => hemc (f := ay_re _) q ((hA 2 (by decide)).trans rfl) | 3, q => hemc (f := ay_re _) q ((hA 3 (by decide)).trans rfl) | 4, q => hemc (f := ay_re _) q ((hA 4 (by decide)).trans rfl) | 5, q => hemc (f := ay_re _) q ((hA 5 (by decide)).trans rfl) | 6, q => hemc (f := ay_re _) q ((hA 6 (by decide)).trans rfl) | 7, q => hemc (f := ay_re _) q ((hA 7 (by decide)).trans rfl) | 8, q => hemc (f := ay_re _) q ((hA 8 (by decide)).trans rfl) | 9, q => hemc (f := ay_re _) q ((hA 9 (by decide)).trans rfl) | 10, q => hemc (f := ay_re _) q ((hA 10 (by decide)).trans rfl) | 11, q => hemc (f := ay_re _) q ((hA 11 (by decide)).trans rfl) | 12, q => hemc (f := ay_re _) q ((hA 12 (by decide)).trans rfl) | 13, q => hemc (f := ay_re _) q ((hB 0 (by decide)).trans rfl) | 14, q => hemc (f := ay_re _) q ((hB 1 (by decide)).trans rfl) | 15, q => hemc (f := ay_re _) q ((hB 2 (by decide)).trans rfl) | 16, q => hemc (f := ay_re _) q ((hB 3 (by decide)).trans rfl) | 17, q => hemc (f := ay_re _) q ((hB 4 (by decide)).trans rfl) | 18, q => hemc (f := ay_re _) q ((hB 5 (by decide)).trans rfl) | 19, q => hemc (f := ay_re _) q ((hB 6 (by decide)).trans rfl) | 20, q => hemc (f := ay_re _) q ((hB 7 (by decide)).trans rfl) | 21, q => hemc (f := ay_re _) q ((hB 8 (by decide)).trans rfl) | 22, q => hemc (f := ay_re _) q ((hB 9 (by decide)).trans rfl) | 23, q => hemc (f := ay_re _) q ((hB 10 (by decide)).trans rfl) | 24, q => hemc (f := ay_re _) q ((hB 11 (by decide)).trans rfl) | 25, q => hemc (f := ay_re _) q ((hB 12 (by decide)).trans rfl) | _ + 26, q => noe q) ⟨Or.inr rfl, Or.inr rfl, trivial⟩ rfl P0
  have e : ay_puts g (wtP A ++ wtP B) (((hV (wCp w v, v)).take (hV (w, v)).length).map (ay_re (ay_sg (wtP A ++ wtP B) g.length))) ++ ((hV (wCp w v, v)).drop (hV (w, v)).length).map (ay_re (ay_sg (wtP A ++ wtP B) g.length)) = ay_puts g (wtP A) (wtC A (wCp w v)) := by
    have e1 : ((hV (wCp w v, v)).drop (hV (w, v)).length).map (ay_re (ay_sg (wtP A ++ wtP B) g.length)) = [] := rfl
    have e2 : ((hV (wCp w v, v)).take (hV (w, v)).length).map (ay_re (ay_sg (wtP A ++ wtP B) g.length)) = wtC A (wCp w v) ++ wtC B v := rfl
    rw [e1, e2, List.append_nil, ay_puts_app _ _ _ _ _ rfl]
    refine ay_puts_same _ _ _ (fun k p e h1 h2 => ?_)
    obtain ⟨hk, rfl⟩ := wtP_at h1
    rw [ay_puts_ne _ _ _ _ (fun q => by obtain ⟨l, hl, q⟩ := wtP_mem q; omega), hB k hk, h2]
  rw [e] at L
  exact L
/-- the world in the tail -/
noncomputable def wtO (T : bH) (j : Nat) : Option bS := @dite _ (∃ w, wtH T j w) (Classical.propDecidable _) (fun h => some (Classical.choose h)) (fun _ => none)
theorem wtO_s {T : bH} {j : Nat} {w : bS} (h : wtO T j = some w) : wtH T j w := by
  unfold wtO at h
  split at h
  · rename_i e; cases h; exact Classical.choose_spec e
  · cases h
theorem wtH_at {s : pS} {j : Nat} {w : bS} (h : wtH s.2 j w) (k : Nat) (hk : k < 13) : ax_at (hP s) (j + 71 + k) = ax_at (wtC (j + 71) w) k := by
  rw [← h k hk, Nat.add_right_comm]; rfl
theorem now_at (s : pS) (k : Nat) (hk : k < 13) : ax_at (hP s) (1 + k) = ax_at (wtC 1 (s.1 0)) k := match k, hk with
  | 0, _ => rfl | 1, _ => rfl | 2, _ => rfl | 3, _ => rfl | 4, _ => rfl | 5, _ => rfl | 6, _ => rfl | 7, _ => rfl | 8, _ => rfl | 9, _ => rfl | 10, _ => rfl | 11, _ => rfl | 12, _ => rfl | k + 13, h => absurd h (by omega)
theorem puts_now (s : pS) (w : bS) : ay_puts (hP s) (wtP 1) (wtC 1 w) = hP (bU s.1 0 w, s.2) := rfl
theorem puts_row (s : pS) (j : Nat) (es : bH) : ay_puts (hP s) (wtP (j + 71)) es = hP (s.1, ay_puts s.2 (wtP j) es) := by rw [wtP_add]; exact hP_puts s.1 _ _ _
theorem recv_ok {ρ : Type} {h : bH} {c a ci : Nat} {fs As : List bV} {t : Option ρ} (ha : ax_at h a = some (.inr (.inr (ci, fs)))) (hc : Nat.beq ci (ax_own c) = true) : ay_recv h c (rr (a + 2) :: As) t = t := by
  simp only [ay_recv, ha, hc, cond_true]
section
variable {X : Nat × (Nat → Int)} {d m pc : Nat} {ls st : List bV} {h : bH} {x : Int} {R : Option bV × bH}
theorem Ev.aad {a n t : Nat} {f : Nat → Nat} (hf : ax_fetch m pc = some .aaload) (ha : ax_at h a = some (.inr (.inl (t, n, f)))) (hx : 0 ≤ x ∧ x < (n : Int)) (P : Ev (rn X d m (pc + 1) ls (rr (f x.toNat) :: st) h) R) : Ev (rn X d m pc ls (.inl x :: rr (a + 2) :: st) h) R :=
  Ev.step 1 (fun k => by show ay_run _ _ _ _ _ _ _ _ = _; simp only [ay_run, hf, ax_call, ay_step, ha, if_pos hx]; rfl) P
theorem Ev.aast {a n q : Nat} {f : Nat → Nat} {fs : List bV} (hf : ax_fetch m pc = some .aastore) (ha : ax_at h a = some (.inr (.inl (3, n, f)))) (hq : ax_at h q = some (.inr (.inr (7, fs)))) (hx : 0 ≤ x ∧ x < (n : Int)) (P : Ev (rn X d m (pc + 1) ls st (h.set a (.inr (.inl (3, n, ay_u f x.toNat (q + 2)))))) R) : Ev (rn X d m pc ls (rr (q + 2) :: .inl x :: rr (a + 2) :: st) h) R :=
  Ev.step 1 (fun k => by show ay_run _ _ _ _ _ _ _ _ = _; simp only [ay_run, hf, ax_call, ay_step, ha, hq, if_pos hx]; rfl) P
end
def S_row (b : Nat) (s : pS) (i : Int) : Option (Nat × pS) :=
  if 0 ≤ ay_rem (ay_w ((s.1 b).1 1 + i)) 31 ∧ ay_rem (ay_w ((s.1 b).1 1 + i)) 31 < 31 then
    (if ((s.1 b).2 0 (ay_rem (ay_w ((s.1 b).1 1 + i)) 31).toNat).toNat = 0 then some (s.2.length, (bU s.1 b (bA (s.1 b) 0 (ay_rem (ay_w ((s.1 b).1 1 + i)) 31) ((s.2.length + 73 : Nat) : Int)), s.2 ++ wtC (s.2.length + 71) w0))
      else if 73 ≤ ((s.1 b).2 0 (ay_rem (ay_w ((s.1 b).1 1 + i)) 31).toNat).toNat then some (((s.1 b).2 0 (ay_rem (ay_w ((s.1 b).1 1 + i)) 31).toNat).toNat - 73, s) else none)
  else none
set_option maxRecDepth 20000 in
theorem s_S_row2 (X : Nat × (Nat → Int)) (d : Nat) (s : pS) (i : Int) {q : Nat × pS} (h : S_row 2 s i = some q) : Ev (rn X d 51 0 [rr 21, .inl i, b0] [] (hP s)) (some (rr (q.1 + 73)), hP q.2) := by
  unfold S_row at h
  have hst : ∀ n, rn X d 51 0 [rr 21, .inl i, b0] [] (hP s) (n + 12) = rn X d 51 18 [rr 21, .inl i, .inl (ay_rem (ay_w ((s.1 2).1 1 + i)) 31)] [.inl (ay_rem (ay_w ((s.1 2).1 1 + i)) 31), rr 22] (hP s) n := fun _ => rfl
  generalize ay_rem (ay_w ((s.1 2).1 1 + i)) 31 = y at h hst
  by_cases hy : 0 ≤ y ∧ y < 31
  · rw [if_pos hy] at h
    refine Ev.step 12 hst (Ev.aad (a := 20) rfl rfl hy ?_)
    by_cases hr : ((s.1 2).2 0 y.toNat).toNat = 0
    · rw [if_pos hr] at h
      obtain rfl := (Option.some.inj h).symm
      show Ev (rn X d 51 19 _ [rr ((s.1 2).2 0 y.toNat).toNat] _) _
      rw [hr]
      refine Ev.step (G' := rn X d 51 31 [rr 21, .inl i, .inl y] [rr (s.2.length + 71 + 2), rr (s.2.length + 71 + 2), .inl y, rr 22] (hP (s.1, s.2 ++ [nwE]))) 6 (fun _ => rfl) ?_
      have hl : (hP (s.1, s.2 ++ [nwE])).length = s.2.length + 72 := by rw [hP_len]; simp
      have L := Ev.lift (g := hP (s.1, s.2 ++ [nwE])) (h := [nwE]) (ls := [rr 2]) (lb := [rr (s.2.length + 71 + 2)]) (sb := []) [s.2.length + 71] (by simp) rfl (fun p hp => by rw [hl]; simp at hp; omega) (fun k e q => match k, q with
        | 0, q => hemc (f := ay_re _) q (by
          show ax_at (s.2 ++ [nwE]) s.2.length = _
          rw [ay_at_app_r]; rfl)
        | _ + 1, q => noe q) ⟨Or.inr rfl, trivial⟩ rfl (s_W_init X d)
      have e : ay_puts (hP (s.1, s.2 ++ [nwE])) [s.2.length + 71] (((hW w0).take 1).map (ay_re (ay_sg [s.2.length + 71] (hP (s.1, s.2 ++ [nwE])).length))) ++ ((hW w0).drop 1).map (ay_re (ay_sg [s.2.length + 71] (hP (s.1, s.2 ++ [nwE])).length)) = hP (s.1, s.2 ++ wtC (s.2.length + 71) w0) := by
        rw [hl]
        show (hP (s.1, s.2 ++ [nwE])).set (s.2.length + 71) (.inr (.inr (7, (fW_0 w0).map (ay_rv (ay_sg [s.2.length + 71] (s.2.length + 72)))))) ++ _ = _
        rw [hP_set, hP_app]
        show hP (s.1, (s.2 ++ [nwE]).set s.2.length _ ++ _) = _
        rw [List.set_append_right _ _ (Nat.le_refl _), Nat.sub_self, List.append_assoc]
        rfl
      have e' := L
      have hcall : Ev (rn X d 64 0 [rr (s.2.length + 71 + 2)] [] (hP (s.1, s.2 ++ [nwE]))) (none, hP (s.1, s.2 ++ wtC (s.2.length + 71) w0)) := by rw [← e]; exact L
      refine Ev.call (c := 64) (d' := d) (ls' := [rr (s.2.length + 71 + 2)]) (r := [rr (s.2.length + 71 + 2), .inl y, rr 22]) (v := none) (h1 := hP (s.1, s.2 ++ wtC (s.2.length + 71) w0)) (fun n => ?_) hcall ?_
      · show ay_recv (hP (s.1, s.2 ++ [nwE])) 64 [rr (s.2.length + 71 + 2)] _ = _
        rw [recv_ok (ci := 7) (fs := ay_f0 7) (by rw [hP_at]; exact ay_at_app_r) rfl]; rfl
      · refine Ev.aast (a := 20) (n := 31) (f := fun i => ((s.1 2).2 0 i).toNat) (q := s.2.length + 71) (fs := [rr (s.2.length + 71 + 3), rr (s.2.length + 71 + 4), rr (s.2.length + 71 + 5), rr (s.2.length + 71 + 6), rr (s.2.length + 71 + 7), rr (s.2.length + 71 + 8), rr (s.2.length + 71 + 9), rr (s.2.length + 71 + 10), rr (s.2.length + 71 + 11), rr (s.2.length + 71 + 12), rr (s.2.length + 71 + 13), rr (s.2.length + 71 + 14), .inl (w0.1 12), .inl (w0.1 13), .inl (w0.1 14), .inl (w0.1 15), .inl (w0.1 16), .inl (w0.1 17)]) rfl rfl (by
          rw [hP_at]
          show ax_at (s.2 ++ wtC (s.2.length + 71) w0) s.2.length = _
          rw [at_app, if_neg (Nat.lt_irrefl _), Nat.sub_self]; rfl) hy ?_
        rw [show s.2.length + 71 + 2 = s.2.length + 73 from rfl, ay_u_nat]
        show Ev (rn X d 51 35 [rr 21, .inl i, .inl y] [] (hP (bU s.1 2 (bA (s.1 2) 0 y ((s.2.length + 73 : Nat) : Int)), s.2 ++ wtC (s.2.length + 71) w0))) _
        refine Ev.step (G' := rn X d 51 40 [rr 21, .inl i, .inl y] [.inl y, rr 22] (hP (bU s.1 2 (bA (s.1 2) 0 y ((s.2.length + 73 : Nat) : Int)), s.2 ++ wtC (s.2.length + 71) w0))) 3 (fun _ => rfl) (Ev.aad (a := 20) rfl rfl hy (Ev.ret 1 (fun n => ?_)))
        show some (some (rr ((ay_u ((s.1 2).2 0) y.toNat ((s.2.length + 73 : Nat) : Int) y.toNat)).toNat), _) = _
        simp only [ay_u, if_true, Int.toNat_natCast]
    · rw [if_neg hr] at h
      by_cases h73 : 73 ≤ ((s.1 2).2 0 y.toNat).toNat
      · rw [if_pos h73] at h
        obtain rfl := (Option.some.inj h).symm
        refine Ev.step (G' := rn X d 51 35 [rr 21, .inl i, .inl y] [] (hP s)) 1 (fun n => ?_) ?_
        · show (if ((s.1 2).2 0 y.toNat).toNat = 0 then _ else _) = _
          rw [if_neg hr]; rfl
        · refine Ev.step (G' := rn X d 51 40 [rr 21, .inl i, .inl y] [.inl y, rr 22] (hP s)) 3 (fun _ => rfl) (Ev.aad (a := 20) rfl rfl hy (Ev.ret 1 (fun n => ?_)))
          show some (some (rr ((s.1 2).2 0 y.toNat).toNat), _) = some (some (rr (((s.1 2).2 0 y.toNat).toNat - 73 + 73)), _)
          rw [Nat.sub_add_cancel h73]
      · rw [if_neg h73] at h; cases h
  · rw [if_neg hy] at h; cases h
set_option maxRecDepth 20000 in
theorem s_S_row5 (X : Nat × (Nat → Int)) (d : Nat) (s : pS) (i : Int) {q : Nat × pS} (h : S_row 5 s i = some q) : Ev (rn X d 51 0 [rr 41, .inl i, b0] [] (hP s)) (some (rr (q.1 + 73)), hP q.2) := by
  unfold S_row at h
  have hst : ∀ n, rn X d 51 0 [rr 41, .inl i, b0] [] (hP s) (n + 12) = rn X d 51 18 [rr 41, .inl i, .inl (ay_rem (ay_w ((s.1 5).1 1 + i)) 31)] [.inl (ay_rem (ay_w ((s.1 5).1 1 + i)) 31), rr 42] (hP s) n := fun _ => rfl
  generalize ay_rem (ay_w ((s.1 5).1 1 + i)) 31 = y at h hst
  by_cases hy : 0 ≤ y ∧ y < 31
  · rw [if_pos hy] at h
    refine Ev.step 12 hst (Ev.aad (a := 40) rfl rfl hy ?_)
    by_cases hr : ((s.1 5).2 0 y.toNat).toNat = 0
    · rw [if_pos hr] at h
      obtain rfl := (Option.some.inj h).symm
      show Ev (rn X d 51 19 _ [rr ((s.1 5).2 0 y.toNat).toNat] _) _
      rw [hr]
      refine Ev.step (G' := rn X d 51 31 [rr 41, .inl i, .inl y] [rr (s.2.length + 71 + 2), rr (s.2.length + 71 + 2), .inl y, rr 42] (hP (s.1, s.2 ++ [nwE]))) 6 (fun _ => rfl) ?_
      have hl : (hP (s.1, s.2 ++ [nwE])).length = s.2.length + 72 := by rw [hP_len]; simp
      have L := Ev.lift (g := hP (s.1, s.2 ++ [nwE])) (h := [nwE]) (ls := [rr 2]) (lb := [rr (s.2.length + 71 + 2)]) (sb := []) [s.2.length + 71] (by simp) rfl (fun p hp => by rw [hl]; simp at hp; omega) (fun k e q => match k, q with
        | 0, q => hemc (f := ay_re _) q (by
          show ax_at (s.2 ++ [nwE]) s.2.length = _
          rw [ay_at_app_r]; rfl)
        | _ + 1, q => noe q) ⟨Or.inr rfl, trivial⟩ rfl (s_W_init X d)
      have e : ay_puts (hP (s.1, s.2 ++ [nwE])) [s.2.length + 71] (((hW w0).take 1).map (ay_re (ay_sg [s.2.length + 71] (hP (s.1, s.2 ++ [nwE])).length))) ++ ((hW w0).drop 1).map (ay_re (ay_sg [s.2.length + 71] (hP (s.1, s.2 ++ [nwE])).length)) = hP (s.1, s.2 ++ wtC (s.2.length + 71) w0) := by
        rw [hl]
        show (hP (s.1, s.2 ++ [nwE])).set (s.2.length + 71) (.inr (.inr (7, (fW_0 w0).map (ay_rv (ay_sg [s.2.length + 71] (s.2.length + 72)))))) ++ _ = _
        rw [hP_set, hP_app]
        show hP (s.1, (s.2 ++ [nwE]).set s.2.length _ ++ _) = _
        rw [List.set_append_right _ _ (Nat.le_refl _), Nat.sub_self, List.append_assoc]
        rfl
      have e' := L
      have hcall : Ev (rn X d 64 0 [rr (s.2.length + 71 + 2)] [] (hP (s.1, s.2 ++ [nwE]))) (none, hP (s.1, s.2 ++ wtC (s.2.length + 71) w0)) := by rw [← e]; exact L
      refine Ev.call (c := 64) (d' := d) (ls' := [rr (s.2.length + 71 + 2)]) (r := [rr (s.2.length + 71 + 2), .inl y, rr 42]) (v := none) (h1 := hP (s.1, s.2 ++ wtC (s.2.length + 71) w0)) (fun n => ?_) hcall ?_
      · show ay_recv (hP (s.1, s.2 ++ [nwE])) 64 [rr (s.2.length + 71 + 2)] _ = _
        rw [recv_ok (ci := 7) (fs := ay_f0 7) (by rw [hP_at]; exact ay_at_app_r) rfl]; rfl
      · refine Ev.aast (a := 40) (n := 31) (f := fun i => ((s.1 5).2 0 i).toNat) (q := s.2.length + 71) (fs := [rr (s.2.length + 71 + 3), rr (s.2.length + 71 + 4), rr (s.2.length + 71 + 5), rr (s.2.length + 71 + 6), rr (s.2.length + 71 + 7), rr (s.2.length + 71 + 8), rr (s.2.length + 71 + 9), rr (s.2.length + 71 + 10), rr (s.2.length + 71 + 11), rr (s.2.length + 71 + 12), rr (s.2.length + 71 + 13), rr (s.2.length + 71 + 14), .inl (w0.1 12), .inl (w0.1 13), .inl (w0.1 14), .inl (w0.1 15), .inl (w0.1 16), .inl (w0.1 17)]) rfl rfl (by
          rw [hP_at]
          show ax_at (s.2 ++ wtC (s.2.length + 71) w0) s.2.length = _
          rw [at_app, if_neg (Nat.lt_irrefl _), Nat.sub_self]; rfl) hy ?_
        rw [show s.2.length + 71 + 2 = s.2.length + 73 from rfl, ay_u_nat]
        show Ev (rn X d 51 35 [rr 41, .inl i, .inl y] [] (hP (bU s.1 5 (bA (s.1 5) 0 y ((s.2.length + 73 : Nat) : Int)), s.2 ++ wtC (s.2.length + 71) w0))) _
        refine Ev.step (G' := rn X d 51 40 [rr 41, .inl i, .inl y] [.inl y, rr 42] (hP (bU s.1 5 (bA (s.1 5) 0 y ((s.2.length + 73 : Nat) : Int)), s.2 ++ wtC (s.2.length + 71) w0))) 3 (fun _ => rfl) (Ev.aad (a := 40) rfl rfl hy (Ev.ret 1 (fun n => ?_)))
        show some (some (rr ((ay_u ((s.1 5).2 0) y.toNat ((s.2.length + 73 : Nat) : Int) y.toNat)).toNat), _) = _
        simp only [ay_u, if_true, Int.toNat_natCast]
    · rw [if_neg hr] at h
      by_cases h73 : 73 ≤ ((s.1 5).2 0 y.toNat).toNat
      · rw [if_pos h73] at h
        obtain rfl := (Option.some.inj h).symm
        refine Ev.step (G' := rn X d 51 35 [rr 41, .inl i, .inl y] [] (hP s)) 1 (fun n => ?_) ?_
        · show (if ((s.1 5).2 0 y.toNat).toNat = 0 then _ else _) = _
          rw [if_neg hr]; rfl
        · refine Ev.step (G' := rn X d 51 40 [rr 41, .inl i, .inl y] [.inl y, rr 42] (hP s)) 3 (fun _ => rfl) (Ev.aad (a := 40) rfl rfl hy (Ev.ret 1 (fun n => ?_)))
          show some (some (rr ((s.1 5).2 0 y.toNat).toNat), _) = some (some (rr (((s.1 5).2 0 y.toNat).toNat - 73 + 73)), _)
          rw [Nat.sub_add_cancel h73]
      · rw [if_neg h73] at h; cases h
  · rw [if_neg hy] at h; cases h
noncomputable def S_prepare (n : Nat) (s : pS) : Option (Int × pS) := b1 (S_row 2 s ((s.1 2).1 2)) fun q => b1 (wtO q.2.2 q.1) fun w => some (0, (q.2.1, ay_puts q.2.2 (wtP q.1) (wtC (q.1 + 71) (wCp w (q.2.1 0)))))
theorem s_S_prepare (X : Nat × (Nat → Int)) (d n : Nat) (s : pS) : Sim ePv (S_prepare n s) (rn X d 52 0 [rr 21, rr 3] [] (hP s)) := by
  refine Sim.ob fun q hq => Sim.ob fun w hw => ?_
  have hw := wtO_s hw
  refine Sim.step (rn X d 52 5 [rr 21, rr 3] [.inl ((s.1 2).1 2), rr 21] (hP s)) 3 (fun _ => rfl) (Sim.callE (c := 51) (d' := d) (ls' := [rr 21, .inl ((s.1 2).1 2), b0]) (r := []) (fun _ => rfl) (s_S_row2 X d s _ hq) ?_)
  refine Sim.step (rn X d 52 9 [rr 21, rr 3] [rr 3, rr (q.1 + 71 + 2)] (hP q.2)) 1 (fun _ => rfl) (Sim.callE (c := 65) (d' := d) (ls' := [rr (q.1 + 71 + 2), rr (1 + 2)]) (r := []) (fun n => ?_) (s_cp X d (wtH_at hw) (now_at q.2) (Or.inr (by omega))) ?_)
  · show ay_recv (hP q.2) 65 [rr (q.1 + 71 + 2), rr 3] _ = _
    rw [recv_ok (wtH_at hw 0 (by decide)) rfl]; rfl
  · rw [puts_row]
    exact Sim.ret 1 (fun _ => rfl)
noncomputable def S_takeBack (n : Nat) (s : pS) : Option (Int × pS) := if (s.1 2).1 2 = 0 then some (0, s) else b1 (S_row 2 (bU s.1 2 (bI (s.1 2) 2 (ay_w ((s.1 2).1 2 - 1))), s.2) (ay_w ((s.1 2).1 2 - 1))) fun q => b1 (wtO q.2.2 q.1) fun w => some (1, (bU q.2.1 0 (wCp (q.2.1 0) w), q.2.2))
theorem s_S_takeBack (X : Nat × (Nat → Int)) (d n : Nat) (s : pS) : Sim ePi (S_takeBack n s) (rn X d 54 0 [rr 21, rr 3] [] (hP s)) := by
  refine Sim.step (rn X d 54 4 [rr 21, rr 3] [.inl ((s.1 2).1 2)] (hP s)) 2 (fun _ => rfl) (Sim.zNe (t := 9) rfl (fun _ => rfl) (fun _ => Sim.ret 2 (fun _ => rfl)) (fun _ => ?_))
  refine Sim.ob fun q hq => Sim.ob fun w hw => ?_
  have hw := wtO_s hw
  refine Sim.step (rn X d 54 16 [rr 21, rr 3] [.inl (ay_w ((s.1 2).1 2 - 1)), rr 21] (hP s)) 5 (fun _ => rfl) (Sim.pf (a := 19) (fs := fP_19 s) (hP (bU s.1 2 (bI (s.1 2) 2 (ay_w ((s.1 2).1 2 - 1))), s.2)) rfl rfl rfl rfl rfl (Or.inl rfl) rfl ?_)
  refine Sim.step (rn X d 54 25 [rr 21, rr 3] [.inl (ay_w ((s.1 2).1 2 - 1)), rr 21, rr 3] (hP (bU s.1 2 (bI (s.1 2) 2 (ay_w ((s.1 2).1 2 - 1))), s.2))) 4 (fun _ => rfl) (Sim.callE (c := 51) (d' := d) (ls' := [rr 21, .inl (ay_w ((s.1 2).1 2 - 1)), b0]) (r := [rr 3]) (fun _ => rfl) (s_S_row2 X d _ _ hq) ?_)
  refine Sim.callE (c := 65) (d' := d) (ls' := [rr (1 + 2), rr (q.1 + 71 + 2)]) (r := []) (fun n => rfl) (s_cp X d (now_at q.2) (wtH_at hw) (Or.inl (by omega))) ?_
  rw [puts_now]
  exact Sim.ret 2 (fun _ => rfl)
noncomputable def S_copyTo_15 : Nat → pS → Int → Option (Int × pS)
  | 0, _, _ => none
  | n + 1, s, l2 => if (s.1 5).1 2 ≤ l2 then some (0, s) else b1 (S_row 5 s l2) fun q => b1 (S_row 2 q.2 l2) fun r => b1 (wtO r.2.2 q.1) fun w => b1 (wtO r.2.2 r.1) fun v => if q.1 + 13 ≤ r.1 ∨ r.1 + 13 ≤ q.1 then S_copyTo_15 n (r.2.1, ay_puts r.2.2 (wtP q.1) (wtC (q.1 + 71) (wCp w v))) (ay_w (l2 + 1)) else none
theorem s_S_copyTo_15 (X : Nat × (Nat → Int)) (d : Nat) : ∀ (n : Nat) (s : pS) (l2 : Int), Sim ePv (S_copyTo_15 n s l2) (rn X d 55 15 [rr 41, rr 21, .inl l2] [] (hP s))
  | 0, _, _ => Sim.none
  | n + 1, s, l2 => by
    refine Sim.step (rn X d 55 20 [rr 41, rr 21, .inl l2] [.inl ((s.1 5).1 2), .inl l2] (hP s)) 3 (fun _ => rfl) (Sim.bGe (t := 42) rfl (fun _ => rfl) (fun _ => Sim.ret 1 (fun _ => rfl)) (fun _ => ?_))
    refine Sim.ob fun q hq => Sim.ob fun r hr => Sim.ob fun w hw => Sim.ob fun v hv => fun a ha => ?_
    have hw := wtO_s hw
    have hv := wtO_s hv
    by_cases hd : q.1 + 13 ≤ r.1 ∨ r.1 + 13 ≤ q.1
    · rw [if_pos hd] at ha
      revert a
      show Sim ePv _ _
      refine Sim.step (rn X d 55 25 [rr 41, rr 21, .inl l2] [.inl l2, rr 41] (hP s)) 2 (fun _ => rfl) (Sim.callE (c := 51) (d' := d) (ls' := [rr 41, .inl l2, b0]) (r := []) (fun _ => rfl) (s_S_row5 X d s _ hq) ?_)
      refine Sim.step (rn X d 55 30 [rr 41, rr 21, .inl l2] [.inl l2, rr 21, rr (q.1 + 73)] (hP q.2)) 2 (fun _ => rfl) (Sim.callE (c := 51) (d' := d) (ls' := [rr 21, .inl l2, b0]) (r := [rr (q.1 + 73)]) (fun _ => rfl) (s_S_row2 X d q.2 _ hr) ?_)
      refine Sim.callE (c := 65) (d' := d) (ls' := [rr (q.1 + 71 + 2), rr (r.1 + 71 + 2)]) (r := []) (fun n => ?_) (s_cp X d (wtH_at hw) (wtH_at hv) (by omega)) ?_
      · show ay_recv (hP r.2) 65 [rr (q.1 + 71 + 2), rr (r.1 + 71 + 2)] _ = _
        rw [recv_ok (wtH_at hw 0 (by decide)) rfl]; rfl
      · rw [puts_row]
        exact Sim.step (rn X d 55 15 [rr 41, rr 21, .inl (ay_w (l2 + 1))] [] (hP (r.2.1, ay_puts r.2.2 (wtP q.1) (wtC (q.1 + 71) (wCp w v))))) 2 (fun _ => rfl) (s_S_copyTo_15 X d n _ _)
    · rw [if_neg hd] at ha; cases ha
noncomputable def S_copyTo (n : Nat) (s : pS) : Option (Int × pS) := S_copyTo_15 n (bU s.1 5 (bI (bI (s.1 5) 1 0) 2 ((s.1 2).1 2)), s.2) 0
theorem s_S_copyTo (X : Nat × (Nat → Int)) (d n : Nat) (s : pS) : Sim ePv (S_copyTo n s) (rn X d 55 0 [rr 41, rr 21, b0] [] (hP s)) := by
  refine Sim.step (rn X d 55 2 [rr 41, rr 21, b0] [.inl 0, rr 41] (hP s)) 2 (fun _ => rfl) (Sim.pf (a := 39) (fs := fP_39 s) (hP (bU s.1 5 (bI (s.1 5) 1 0), s.2)) rfl rfl rfl rfl rfl (Or.inl rfl) rfl ?_)
  refine Sim.step (rn X d 55 10 [rr 41, rr 21, b0] [.inl ((s.1 2).1 2), rr 41] (hP (bU s.1 5 (bI (s.1 5) 1 0), s.2))) 3 (fun _ => rfl) (Sim.pf (a := 39) (fs := fP_39 (bU s.1 5 (bI (s.1 5) 1 0), s.2)) (hP (bU s.1 5 (bI (bI (s.1 5) 1 0) 2 ((s.1 2).1 2)), s.2)) rfl rfl rfl rfl rfl (Or.inl rfl) rfl ?_)
  exact Sim.step (rn X d 55 15 [rr 41, rr 21, .inl 0] [] (hP (bU s.1 5 (bI (bI (s.1 5) 1 0) 2 ((s.1 2).1 2)), s.2))) 2 (fun _ => rfl) (s_S_copyTo_15 X d n _ 0)
noncomputable def S_copyBack_15 : Nat → pS → Int → Option (Int × pS)
  | 0, _, _ => none
  | n + 1, s, l2 => if (s.1 2).1 2 ≤ l2 then some (0, s) else b1 (S_row 2 s l2) fun q => b1 (S_row 5 q.2 l2) fun r => b1 (wtO r.2.2 q.1) fun w => b1 (wtO r.2.2 r.1) fun v => if q.1 + 13 ≤ r.1 ∨ r.1 + 13 ≤ q.1 then S_copyBack_15 n (r.2.1, ay_puts r.2.2 (wtP q.1) (wtC (q.1 + 71) (wCp w v))) (ay_w (l2 + 1)) else none
theorem s_S_copyBack_15 (X : Nat × (Nat → Int)) (d : Nat) : ∀ (n : Nat) (s : pS) (l2 : Int), Sim ePv (S_copyBack_15 n s l2) (rn X d 55 15 [rr 21, rr 41, .inl l2] [] (hP s))
  | 0, _, _ => Sim.none
  | n + 1, s, l2 => by
    refine Sim.step (rn X d 55 20 [rr 21, rr 41, .inl l2] [.inl ((s.1 2).1 2), .inl l2] (hP s)) 3 (fun _ => rfl) (Sim.bGe (t := 42) rfl (fun _ => rfl) (fun _ => Sim.ret 1 (fun _ => rfl)) (fun _ => ?_))
    refine Sim.ob fun q hq => Sim.ob fun r hr => Sim.ob fun w hw => Sim.ob fun v hv => fun a ha => ?_
    have hw := wtO_s hw
    have hv := wtO_s hv
    by_cases hd : q.1 + 13 ≤ r.1 ∨ r.1 + 13 ≤ q.1
    · rw [if_pos hd] at ha
      revert a
      show Sim ePv _ _
      refine Sim.step (rn X d 55 25 [rr 21, rr 41, .inl l2] [.inl l2, rr 21] (hP s)) 2 (fun _ => rfl) (Sim.callE (c := 51) (d' := d) (ls' := [rr 21, .inl l2, b0]) (r := []) (fun _ => rfl) (s_S_row2 X d s _ hq) ?_)
      refine Sim.step (rn X d 55 30 [rr 21, rr 41, .inl l2] [.inl l2, rr 41, rr (q.1 + 73)] (hP q.2)) 2 (fun _ => rfl) (Sim.callE (c := 51) (d' := d) (ls' := [rr 41, .inl l2, b0]) (r := [rr (q.1 + 73)]) (fun _ => rfl) (s_S_row5 X d q.2 _ hr) ?_)
      refine Sim.callE (c := 65) (d' := d) (ls' := [rr (q.1 + 71 + 2), rr (r.1 + 71 + 2)]) (r := []) (fun n => ?_) (s_cp X d (wtH_at hw) (wtH_at hv) (by omega)) ?_
      · show ay_recv (hP r.2) 65 [rr (q.1 + 71 + 2), rr (r.1 + 71 + 2)] _ = _
        rw [recv_ok (wtH_at hw 0 (by decide)) rfl]; rfl
      · rw [puts_row]
        exact Sim.step (rn X d 55 15 [rr 21, rr 41, .inl (ay_w (l2 + 1))] [] (hP (r.2.1, ay_puts r.2.2 (wtP q.1) (wtC (q.1 + 71) (wCp w v))))) 2 (fun _ => rfl) (s_S_copyBack_15 X d n _ _)
    · rw [if_neg hd] at ha; cases ha
noncomputable def S_copyBack (n : Nat) (s : pS) : Option (Int × pS) := S_copyBack_15 n (bU s.1 2 (bI (bI (s.1 2) 1 0) 2 ((s.1 5).1 2)), s.2) 0
theorem s_S_copyBack (X : Nat × (Nat → Int)) (d n : Nat) (s : pS) : Sim ePv (S_copyBack n s) (rn X d 55 0 [rr 21, rr 41, b0] [] (hP s)) := by
  refine Sim.step (rn X d 55 2 [rr 21, rr 41, b0] [.inl 0, rr 21] (hP s)) 2 (fun _ => rfl) (Sim.pf (a := 19) (fs := fP_19 s) (hP (bU s.1 2 (bI (s.1 2) 1 0), s.2)) rfl rfl rfl rfl rfl (Or.inl rfl) rfl ?_)
  refine Sim.step (rn X d 55 10 [rr 21, rr 41, b0] [.inl ((s.1 5).1 2), rr 21] (hP (bU s.1 2 (bI (s.1 2) 1 0), s.2))) 3 (fun _ => rfl) (Sim.pf (a := 19) (fs := fP_19 (bU s.1 2 (bI (s.1 2) 1 0), s.2)) (hP (bU s.1 2 (bI (bI (s.1 2) 1 0) 2 ((s.1 5).1 2)), s.2)) rfl rfl rfl rfl rfl (Or.inl rfl) rfl ?_)
  exact Sim.step (rn X d 55 15 [rr 21, rr 41, .inl 0] [] (hP (bU s.1 2 (bI (bI (s.1 2) 1 0) 2 ((s.1 5).1 2)), s.2))) 2 (fun _ => rfl) (s_S_copyBack_15 X d n _ 0)
theorem hP_p19_1 (s : pS) (v : Int) : (hP s).set 19 (.inr (.inr (3, (fP_19 s).set 1 (.inl v)))) = hP ((bU s.1 2 (bI (s.1 2) 1 v), s.2)) := rfl
theorem hP_p19_2 (s : pS) (v : Int) : (hP s).set 19 (.inr (.inr (3, (fP_19 s).set 2 (.inl v)))) = hP ((bU s.1 2 (bI (s.1 2) 2 v), s.2)) := rfl
def S_commit (n : Nat) (s : pS) : Option (Int × pS) := (if 30 ≤ ((s.1 2).1 2) then some (0, (bU s.1 2 (bI (s.1 2) 1 (ay_rem (ay_w (((s.1 2).1 1) + 1)) 31)), s.2)) else some (0, (bU s.1 2 (bI (s.1 2) 2 (ay_w (((s.1 2).1 2) + 1))), s.2)))
theorem s_S_commit (X : Nat × (Nat → Int)) (d : Nat) (n : Nat) (s : pS) : Sim (ePv) (S_commit n s) (rn X d 53 0 [rr 21] [] (hP s)) := Sim.step (rn X d 53 6 [rr 21] [.inl 30, .inl ((s.1 2).1 2)] (hP s)) 3 (fun _ => rfl) (Sim.bGe (t := 22) rfl (fun _ => rfl) (fun _ => Sim.step (rn X d 53 35 [rr 21] [.inl (ay_rem (ay_w (((s.1 2).1 1) + 1)) 31), rr 21] (hP s)) 9 (fun _ => rfl) (Sim.pf (a := 19) (fs := fP_19 s) (hP (bU s.1 2 (bI (s.1 2) 1 (ay_rem (ay_w (((s.1 2).1 1) + 1)) 31)), s.2)) rfl rfl rfl rfl rfl (Or.inl rfl) (hP_p19_1 s (ay_rem (ay_w (((s.1 2).1 1) + 1)) 31)) (Sim.ret 1 (fun _ => rfl)))) (fun _ => Sim.step (rn X d 53 16 [rr 21] [.inl (ay_w (((s.1 2).1 2) + 1)), rr 21] (hP s)) 5 (fun _ => rfl) (Sim.pf (a := 19) (fs := fP_19 s) (hP (bU s.1 2 (bI (s.1 2) 2 (ay_w (((s.1 2).1 2) + 1))), s.2)) rfl rfl rfl rfl rfl (Or.inl rfl) (hP_p19_2 s (ay_w (((s.1 2).1 2) + 1))) (Sim.ret 2 (fun _ => rfl)))))
