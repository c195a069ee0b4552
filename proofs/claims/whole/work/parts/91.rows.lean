/-! The rows of steps, in the tail behind the model's cells. -/
def uW (U : bH) (j : Nat) (w : bS) : Prop := ∀ k, k < 13 → ax_at U (j + k) = ax_at (wtC (j + 81) w) k
/-- a text in the tail -/
def uX (U : bH) (j : Nat) (x : bS) : Prop := ax_at U j = some (.inr (.inr (5, [rr (j + 84), rr (j + 85), .inl (x.1 2), .inl (x.1 3), .inl (x.1 4), .inl (x.1 5)]))) ∧ ax_at U (j + 1) = some (.inl (0, (x.1 6).toNat, x.2 0)) ∧ ax_at U (j + 2) = some (.inl (0, (x.1 7).toNat, x.2 1))
def cz : bE → Nat
  | .inl (_, n, _) => n
  | .inr (.inl (_, n, _)) => n
  | .inr (.inr (_, fs)) => fs.length
def uz : bH → Nat
  | [] => 0
  | e :: l => cz e + uz l
/-- the entry q of both rows of steps -/
def en (c : Nat → bS) (q : Nat) : Int := if q < 31 then (c 2).2 0 q else (c 5).2 0 (q - 31)
def nw (c : Nat → bS) : Nat := cn (fun q => decide (en c q ≠ 0)) 62
/-- the tail: worlds that the rows name, each once; K texts at most -/
def HS (c : Nat → bS) (U : bH) (K : Nat) : Prop := (∀ q, q < 62 → en c q = 0 ∨ ∃ j w, en c q = ((j + 83 : Nat) : Int) ∧ uW U j w) ∧ (∀ q q', q < 62 → q' < 62 → en c q = en c q' → en c q ≠ 0 → q = q') ∧ U.length ≤ 13 * nw c + 3 * K ∧ uz U ≤ 637 * nw c + 702 * K
def gtA : Option bE → Nat → Int
  | some (.inl (_, _, f)) => f
  | _ => fun _ => 0
def gtF (e : Option bE) (k : Nat) : Int := match e with
  | some (.inr (.inr (_, fs))) => (match ax_at fs k with
    | some (.inl x) => x
    | _ => 0)
  | _ => 0
/-- what stays where a row is asked for -/
def Kr (b r : Nat) (c c' : Nat → bS) : Prop := (∀ k, k ≠ b → c' k = c k) ∧ (c' b).1 = (c b).1 ∧ (∀ q, q ≠ 0 → (c' b).2 q = (c b).2 q) ∧ ∀ q, q ≠ r → (c' b).2 0 q = (c b).2 0 q
section
variable {U U' V : bH} {c c' : Nat → bS} {w v m x : bS} {j k b i F r K q p : Nat} {e e' : bE}
theorem app_at : ax_at (mC m ++ U) (k + 10) = ax_at U k := rfl
theorem app_set : (mC m ++ U).set (k + 10) e = mC m ++ U.set k e := rfl
theorem app_puts : ∀ (ps : List Nat) (es U : bH), ay_puts (mC m ++ U) (ps.map (· + 10)) es = mC m ++ ay_puts U ps es
  | [], es, _ => by cases es <;> rfl
  | _ :: _, [], _ => rfl
  | p :: ps, e :: es, U => by
    show ay_puts ((mC m ++ U).set (p + 10) e) (ps.map (· + 10)) es = mC m ++ ay_puts (U.set p e) ps es
    rw [app_set]
    exact app_puts ps es (U.set p e)
theorem app_wt (j : Nat) (es : bH) : ay_puts (mC m ++ U) (wtP (j + 10)) es = mC m ++ ay_puts U (wtP j) es := by
  rw [show wtP (j + 10) = (wtP j).map (· + 10) by
    unfold wtP
    simp only [List.map_cons, List.map_nil, Nat.add_right_comm]]
  exact app_puts _ _ _
theorem app_len : (mC m ++ U).length = U.length + 10 := rfl
theorem uW_H (H : uW U j w) : wtH (mC m ++ U) (j + 10) w := fun k hk => by
  rw [show j + 10 + k = (j + k) + 10 by omega, app_at]; exact H k hk
theorem uW_of (H : wtH (mC m ++ U) (j + 10) w) : uW U j w := fun k hk => by
  have := H k hk
  rw [show j + 10 + k = (j + k) + 10 by omega, app_at] at this; exact this
theorem uW_in (H : uW U j w) : j + 13 ≤ U.length := by
  obtain ⟨e, he⟩ := wtC_some (j + 81) w (k := 12) (by omega)
  have := ax_at_lt ((H 12 (by omega)).trans he)
  omega
theorem uW_un (H : uW U j w) (G : uW U j v) : Ew w v := by
  have h : ∀ k, k < 13 → ax_at (wtC (j + 81) v) k = ax_at (wtC (j + 81) w) k := fun k hk => (G k hk).symm.trans (H k hk)
  have f := congrArg gtF (h 0 (by omega))
  have a1 : v.2 0 = w.2 0 := congrArg gtA (h 1 (by omega))
  have a2 : v.2 1 = w.2 1 := congrArg gtA (h 2 (by omega))
  have a3 : v.2 2 = w.2 2 := congrArg gtA (h 3 (by omega))
  have a4 : v.2 3 = w.2 3 := congrArg gtA (h 4 (by omega))
  have a5 : v.2 4 = w.2 4 := congrArg gtA (h 5 (by omega))
  have a6 : v.2 5 = w.2 5 := congrArg gtA (h 6 (by omega))
  have a7 : v.2 6 = w.2 6 := congrArg gtA (h 7 (by omega))
  have a8 : v.2 7 = w.2 7 := congrArg gtA (h 8 (by omega))
  have a9 : v.2 8 = w.2 8 := congrArg gtA (h 9 (by omega))
  have a10 : v.2 9 = w.2 9 := congrArg gtA (h 10 (by omega))
  have a11 : v.2 10 = w.2 10 := congrArg gtA (h 11 (by omega))
  have a12 : v.2 11 = w.2 11 := congrArg gtA (h 12 (by omega))
  refine ⟨fun k h1 h2 => ?_, fun k i h1 h2 => ?_, fun k i h1 h2 h3 => ?_, fun k i h1 h2 h3 => ?_, fun i h => by rw [a11], fun i h => by rw [a12]⟩
  · rcases (show k = 12 ∨ k = 13 ∨ k = 14 ∨ k = 15 ∨ k = 16 ∨ k = 17 by omega) with h | h | h | h | h | h <;> subst h
    · exact congrFun f 12
    · exact congrFun f 13
    · exact congrFun f 14
    · exact congrFun f 15
    · exact congrFun f 16
    · exact congrFun f 17
  · rcases (show k = 0 ∨ k = 1 ∨ k = 2 by omega) with h | h | h <;> subst h
    · rw [a1]
    · rw [a2]
    · rw [a3]
  · rcases (show k = 3 ∨ k = 4 ∨ k = 5 by omega) with h | h | h <;> subst h
    · rw [a4]
    · rw [a5]
    · rw [a6]
  · rcases (show k = 6 ∨ k = 7 ∨ k = 8 ∨ k = 9 by omega) with h | h | h | h <;> subst h
    · rw [a7]
    · rw [a8]
    · rw [a9]
    · rw [a10]
theorem wtO_u (H : uW U j w) : ∃ v, wtO (mC m ++ U) (j + 10) = some v ∧ uW U j v ∧ Ew w v := by
  have h : ∃ v, wtH (mC m ++ U) (j + 10) v := ⟨w, uW_H H⟩
  refine ⟨Classical.choose h, ?_, uW_of (Classical.choose_spec h), uW_un H (uW_of (Classical.choose_spec h))⟩
  unfold wtO
  rw [dif_pos h]
/-- a world is put in the place of another -/
theorem uW_put (H : uW U j w) : uW (ay_puts U (wtP j) (wtC (j + 81) v)) j v := fun k hk => by
  obtain ⟨e, he⟩ := wtC_some (j + 81) v hk
  rw [he]
  have hin := uW_in H
  refine ay_puts_eq (wtP j) _ U k (j + k) e (wtP_nodup j) ?_ he (by omega)
  match k, hk with
  | 0, _ | 1, _ | 2, _ | 3, _ | 4, _ | 5, _ | 6, _ | 7, _ | 8, _ | 9, _ | 10, _ | 11, _ | 12, _ => rfl
theorem put_ne (h : k < j ∨ j + 13 ≤ k) (es : bH) : ax_at (ay_puts U (wtP j) es) k = ax_at U k := by
  refine ay_puts_ne _ _ _ _ (fun hm => ?_)
  obtain ⟨i, h1, h2⟩ := wtP_mem hm
  omega
theorem put_len (es : bH) : (ay_puts U (wtP j) es).length = U.length := ay_puts_len _ _ _
theorem uz_app : ∀ (U V : bH), uz (U ++ V) = uz U + uz V
  | [], V => by show uz V = 0 + uz V; omega
  | e :: U, V => by show cz e + uz (U ++ V) = cz e + uz U + uz V; rw [uz_app U V]; omega
theorem uz_set : ∀ {U : bH} {k : Nat} {e e' : bE}, ax_at U k = some e → cz e' = cz e → uz (U.set k e') = uz U
  | [], _, _, _, h, _ => by cases h
  | x :: U, 0, e, e', h, hz => by
    have : x = e := by injection h
    show cz e' + uz U = cz x + uz U
    rw [hz, this]
  | x :: U, k + 1, e, e', h, hz => by
    show cz x + uz (U.set k e') = cz x + uz U
    rw [uz_set (U := U) (k := k) h hz]
theorem uz_puts : ∀ (ps : List Nat) (es U : bH), ps.Nodup → (∀ k p e, ax_at ps k = some p → ax_at es k = some e → ∃ e0, ax_at U p = some e0 ∧ cz e = cz e0) → uz (ay_puts U ps es) = uz U
  | [], es, _, _, _ => by cases es <;> rfl
  | _ :: _, [], _, _, _ => rfl
  | p :: ps, e :: es, U, hn, H => by
    obtain ⟨e0, h1, h2⟩ := H 0 p e rfl rfl
    rw [List.nodup_cons] at hn
    show uz (ay_puts (U.set p e) ps es) = uz U
    rw [uz_puts ps es (U.set p e) hn.2 (fun k p' e' h3 h4 => ?_), uz_set h1 h2]
    obtain ⟨e1, h5, h6⟩ := H (k + 1) p' e' h3 h4
    refine ⟨e1, ?_, h6⟩
    have hne : p' ≠ p := fun h => by
      subst h
      rw [ax_at_eq] at h3
      exact hn.1 (List.mem_of_getElem? h3)
    rw [ax_at_eq] at h5 ⊢
    rw [List.getElem?_set_ne (fun h => hne h.symm)]; exact h5
theorem uz_put (H : uW U j w) : uz (ay_puts U (wtP j) (wtC (j + 81) v)) = uz U := by
  refine uz_puts _ _ _ (wtP_nodup j) (fun k p e h1 h2 => ?_)
  obtain ⟨hk, hp⟩ := wtP_at h1
  subst hp
  obtain ⟨e0, he⟩ := wtC_some (j + 81) w hk
  refine ⟨e0, (H k hk).trans he, ?_⟩
  match k, hk with
  | 0, _ => injection h2 with h2; injection he with he; rw [← h2, ← he]; rfl
  | 1, _ => injection h2 with h2; injection he with he; rw [← h2, ← he]; rfl
  | 2, _ => injection h2 with h2; injection he with he; rw [← h2, ← he]; rfl
  | 3, _ => injection h2 with h2; injection he with he; rw [← h2, ← he]; rfl
  | 4, _ => injection h2 with h2; injection he with he; rw [← h2, ← he]; rfl
  | 5, _ => injection h2 with h2; injection he with he; rw [← h2, ← he]; rfl
  | 6, _ => injection h2 with h2; injection he with he; rw [← h2, ← he]; rfl
  | 7, _ => injection h2 with h2; injection he with he; rw [← h2, ← he]; rfl
  | 8, _ => injection h2 with h2; injection he with he; rw [← h2, ← he]; rfl
  | 9, _ => injection h2 with h2; injection he with he; rw [← h2, ← he]; rfl
  | 10, _ => injection h2 with h2; injection he with he; rw [← h2, ← he]; rfl
  | 11, _ => injection h2 with h2; injection he with he; rw [← h2, ← he]; rfl
  | 12, _ => injection h2 with h2; injection he with he; rw [← h2, ← he]; rfl
/-- two worlds lie apart, or are one -/
theorem uW_ap (H : uW U j w) (G : uW U i v) : i = j ∨ i + 13 ≤ j ∨ j + 13 ≤ i := by
  have go : ∀ {j i : Nat} {w v : bS}, uW U j w → uW U i v → j < i → i < j + 13 → False := fun {j i w v} H G h1 h2 => by
    obtain ⟨k, hk⟩ : ∃ k, i = j + k := ⟨i - j, by omega⟩
    subst hk
    have h3 := H k (by omega)
    have h4 := G 0 (by omega)
    rw [Nat.add_zero, h3] at h4
    match k, (show 0 < k ∧ k < 13 by omega) with
    | 1, _ | 2, _ | 3, _ | 4, _ | 5, _ | 6, _ | 7, _ | 8, _ | 9, _ | 10, _ | 11, _ | 12, _ => injection h4 with h4; cases h4
  by_cases h : i = j
  · exact Or.inl h
  by_cases h1 : j < i
  · by_cases h2 : i < j + 13
    · exact (go H G h1 h2).elim
    · omega
  · by_cases h2 : j < i + 13
    · exact (go G H (by omega) h2).elim
    · omega
/-- what is kept where cells stay -/
theorem uW_k (H : uW U j w) (e : ∀ k, j ≤ k → k < j + 13 → ax_at U' k = ax_at U k) : uW U' j w := fun k hk => by rw [e _ (by omega) (by omega)]; exact H k hk
theorem uW_pn (H : uW U j w) (G : uW U i v) (h : i ≠ j) (es : bH) : uW (ay_puts U (wtP j) es) i v := by
  have := uW_ap H G
  exact uW_k G (fun k h1 h2 => put_ne (by omega) es)
theorem HS_put (H : HS c U K) (G : uW U j w) : HS c (ay_puts U (wtP j) (wtC (j + 81) v)) K := by
  obtain ⟨h1, h2, h3, h4⟩ := H
  refine ⟨fun q hq => (h1 q hq).imp id (fun ⟨i, u, e, G'⟩ => ?_), h2, by rw [put_len]; exact h3, by rw [uz_put G]; exact h4⟩
  by_cases hij : i = j
  · subst hij; exact ⟨i, v, e, uW_put G⟩
  · exact ⟨i, u, e, uW_pn G G' hij _⟩
theorem HS_c (e : ∀ q, q < 62 → en c' q = en c q) (H : HS c U K) : HS c' U K := by
  obtain ⟨h1, h2, h3, h4⟩ := H
  have hn : nw c' = nw c := cn_congr (fun q hq => by rw [e q hq])
  exact ⟨fun q hq => by rw [e q hq]; exact h1 q hq, fun q q' hq hq' a b => h2 q q' hq hq' (by rw [← e q hq, ← e q' hq']; exact a) (by rw [← e q hq]; exact b), by rw [hn]; exact h3, by rw [hn]; exact h4⟩
theorem cn_one {p q : Nat → Bool} {r : Nat} (h0 : q r = false) (h1 : p r = true) (h : ∀ i, i ≠ r → p i = q i) : ∀ {n : Nat}, r < n → cn p n = cn q n + 1
  | 0, hr => by omega
  | n + 1, hr => by
    rw [cn_s, cn_s]
    by_cases e : r = n
    · subst e
      rw [h0, h1, cn_congr (p := p) (q := q) (fun i hi => h i (by omega))]; rfl
    · rw [cn_one h0 h1 h (n := n) (by omega), h n (by omega)]; omega
theorem uW_new : uW (U ++ wtC (U.length + 81) w) U.length w := fun k hk => by
  rw [at_app, if_neg (by omega), Nat.add_sub_cancel_left]
theorem rem31 {x : Nat} (h : x < 100000) : ay_rem (ay_w (x : Int)) 31 = ((x % 31 : Nat) : Int) := by
  rw [ay_wi (by omega) (by omega), ay_rn' (by omega) (by omega) (by omega) (by omega)]; omega
theorem en_b (hb : b = 2 ∨ b = 5) (hr : r < 31) : en c (if b = 2 then r else r + 31) = (c b).2 0 r := by
  unfold en
  rcases hb with h | h <;> subst h
  · rw [if_pos rfl, if_pos hr]
  · rw [if_neg (show ¬ (5 = 2) by decide), if_neg (by omega), Nat.add_sub_cancel]
theorem row_ok (hb : b = 2 ∨ b = 5) (H : HS c U K) (hF : (c b).1 1 = (F : Int)) (hFl : F < 31) (hi : i < 1000) : ∃ j c' U' w, S_row b (c, mC m ++ U) (i : Int) = some (j + 10, (c', mC m ++ U')) ∧ uW U' j w ∧ (c' b).2 0 ((F + i) % 31) = ((j + 83 : Nat) : Int) ∧ Kr b ((F + i) % 31) c c' ∧ (∀ k, k < U.length → ax_at U' k = ax_at U k) ∧ HS c' U' K ∧ ((c b).2 0 ((F + i) % 31) ≠ 0 → c' = c ∧ U' = U) ∧ ((c b).2 0 ((F + i) % 31) = 0 → j = U.length) := by
  have hr : (F + i) % 31 < 31 := Nat.mod_lt _ (by omega)
  obtain ⟨r, er⟩ : ∃ r, r = (F + i) % 31 := ⟨_, rfl⟩
  have e1 : ay_rem (ay_w ((c b).1 1 + (i : Int))) 31 = (r : Int) := by
    rw [hF, show (F : Int) + (i : Int) = ((F + i : Nat) : Int) by omega, rem31 (by omega), er]
  rw [← er] at hr ⊢
  have hq : (if b = 2 then r else r + 31) < 62 := by split <;> omega
  unfold S_row
  dsimp only
  rw [e1, if_pos ⟨by omega, by omega⟩, Int.toNat_natCast]
  have heb : en c (if b = 2 then r else r + 31) = (c b).2 0 r := en_b hb hr
  rcases H.1 _ hq with h0 | ⟨j, w, h0, h1⟩
  · rw [heb] at h0
    rw [h0, if_pos (show Int.toNat 0 = 0 from rfl)]
    refine ⟨U.length, bU c b (bA (c b) 0 (r : Int) ((U.length + 10 + 73 : Nat) : Int)), U ++ wtC (U.length + 81) w0, w0, ?_, uW_new, ?_, ?_, ?_, ?_, fun h => (h rfl).elim, fun _ => rfl⟩
    · rw [app_len, List.append_assoc]
    · unfold bU
      rw [Nat.beq_refl]
      show ay_u _ _ _ _ = _
      rw [Int.toNat_natCast, ay_ue]
    · refine ⟨fun k hk => ?_, ?_, fun q hq => ?_, fun q hq => ?_⟩
      · unfold bU; rw [nbeq hk]; rfl
      · unfold bU; rw [Nat.beq_refl]; rfl
      · unfold bU; rw [Nat.beq_refl]
        show (bif Nat.beq q 0 then _ else (c b).2 q) = _
        rw [nbeq hq]; rfl
      · unfold bU; rw [Nat.beq_refl]
        show ay_u _ _ _ _ = _
        rw [Int.toNat_natCast, ay_ux hq]
    · intro k hk
      rw [at_app, if_pos hk]
    · have hen : ∀ q, en (bU c b (bA (c b) 0 (r : Int) ((U.length + 10 + 73 : Nat) : Int))) q = if q = (if b = 2 then r else r + 31) then ((U.length + 83 : Nat) : Int) else en c q := fun q => by
        unfold en
        rcases hb with h | h <;> subst h
        · rw [if_pos (show (2 : Nat) = 2 from rfl)]
          by_cases hq : q < 31
          · rw [if_pos hq, if_pos hq]
            show ay_u ((c 2).2 0) (r : Int).toNat _ q = _
            rw [Int.toNat_natCast]
            rfl
          · rw [if_neg hq, if_neg hq, if_neg (by omega)]
            rfl
        · rw [if_neg (show ¬ (5 : Nat) = 2 by decide)]
          by_cases hq : q < 31
          · rw [if_pos hq, if_pos hq, if_neg (by omega)]
            rfl
          · rw [if_neg hq, if_neg hq]
            show ay_u ((c 5).2 0) (r : Int).toNat _ (q - 31) = _
            rw [Int.toNat_natCast]
            by_cases h5 : q = r + 31
            · rw [if_pos h5, show q - 31 = r by omega, ay_ue]
            · rw [if_neg h5, ay_ux (by omega)]
      obtain ⟨h1, h2, h3, h4⟩ := H
      have hj : ∀ q, q < 62 → en c q ≠ ((U.length + 83 : Nat) : Int) := fun q hq he => by
        rcases h1 q hq with h | ⟨i, v, h, G⟩
        · omega
        · have := uW_in G; omega
      have hnw : nw (bU c b (bA (c b) 0 (r : Int) ((U.length + 10 + 73 : Nat) : Int))) = nw c + 1 := by
        unfold nw
        refine cn_one (r := if b = 2 then r else r + 31) ?_ ?_ (fun i hi => ?_) hq
        · rw [heb, h0]; rfl
        · rw [hen, if_pos rfl]; exact decide_eq_true (by omega)
        · rw [hen, if_neg hi]
      refine ⟨fun q hq' => ?_, fun q q' hq' hq2 e ne => ?_, ?_, ?_⟩
      · rw [hen]
        by_cases h : q = (if b = 2 then r else r + 31)
        · rw [if_pos h]; exact Or.inr ⟨U.length, w0, rfl, uW_new⟩
        · rw [if_neg h]
          refine (h1 q hq').imp id (fun ⟨i, v, a, G⟩ => ⟨i, v, a, ?_⟩)
          have := uW_in G
          exact uW_k G (fun k _ h2 => by rw [at_app, if_pos (by omega)])
      · rw [hen, hen] at e
        rw [hen] at ne
        by_cases h : q = (if b = 2 then r else r + 31)
        · by_cases h' : q' = (if b = 2 then r else r + 31)
          · rw [h, h']
          · rw [if_pos h, if_neg h'] at e; exact (hj q' hq2 e.symm).elim
        · by_cases h' : q' = (if b = 2 then r else r + 31)
          · rw [if_neg h, if_pos h'] at e; exact (hj q hq' e).elim
          · rw [if_neg h, if_neg h'] at e; rw [if_neg h] at ne; exact h2 q q' hq' hq2 e ne
      · rw [List.length_append, hnw]
        show U.length + 13 ≤ _
        omega
      · rw [uz_app, hnw]
        show uz U + 637 ≤ _
        omega
  · rw [heb] at h0
    rw [h0, if_neg (by omega), if_pos (by omega)]
    refine ⟨j, c, U, w, ?_, h1, h0, ⟨fun _ _ => rfl, rfl, fun _ _ => rfl, fun _ _ => rfl⟩, fun _ _ => rfl, H, fun _ => ⟨rfl, rfl⟩, fun h => by omega⟩
    rw [show (((j + 83 : Nat) : Int)).toNat - 73 = j + 10 by omega]
theorem uX_ap (H : uW U i w) (G : uX U j x) : j + 3 ≤ i ∨ i + 13 ≤ j := by
  by_cases h : i ≤ j ∧ j < i + 13
  · obtain ⟨k, hk⟩ : ∃ k, j = i + k := ⟨j - i, by omega⟩
    subst hk
    have h3 := H k (by omega)
    rw [G.1] at h3
    match k, (show k < 13 by omega) with
    | 0, _ | 1, _ | 2, _ | 3, _ | 4, _ | 5, _ | 6, _ | 7, _ | 8, _ | 9, _ | 10, _ | 11, _ | 12, _ => injection h3 with h4; cases h4
  · by_cases h1 : i = j + 1
    · subst h1
      have h3 := H 0 (by omega)
      rw [Nat.add_zero, G.2.1] at h3
      injection h3 with h4; cases h4
    · by_cases h2 : i = j + 2
      · subst h2
        have h3 := H 0 (by omega)
        rw [Nat.add_zero, G.2.2] at h3
        injection h3 with h4; cases h4
      · omega
theorem uX_k (G : uX U j x) (e : ∀ k, k < U.length → ax_at U' k = ax_at U k) : uX U' j x := by
  have h := ax_at_lt G.2.2
  exact ⟨by rw [e j (by omega)]; exact G.1, by rw [e (j + 1) (by omega)]; exact G.2.1, by rw [e (j + 2) (by omega)]; exact G.2.2⟩
theorem uX_pn (H : uW U i w) (G : uX U j x) (es : bH) : uX (ay_puts U (wtP i) es) j x := by
  have := uX_ap H G
  exact ⟨by rw [put_ne (by omega)]; exact G.1, by rw [put_ne (by omega)]; exact G.2.1, by rw [put_ne (by omega)]; exact G.2.2⟩
end
