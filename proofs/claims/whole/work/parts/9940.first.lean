/-! How it begins, what it takes, and the whole of it. -/
/-- the reference's row at first -/
def iB (i : Nat) (j : Nat) : Int := if j = 11 then 499 else if j = 2 then -1 else if 18 ≤ j ∧ j < 18 + 7 * i ∧ ((j - 18) % 7 = 0 ∨ (j - 18) % 7 = 6) then -1 else 0
def iA (f : Nat) (j : Nat) : Int := if 914 ≤ j ∧ j < 914 + 5 * f ∧ (j - 914) % 5 = 0 then -1 else iB 128 j
def iP (j : Nat) : Int := if 0 ≤ j ∧ j < 38745 then iA 64 j else 0
section
variable {n i j k f s o p : Nat} {w m : bS}
theorem iB_s (hi : i < 128) : ay_u (ay_u (iB i) (18 + 7 * i) (-1)) (18 + 7 * i + 6) (-1) = iB (i + 1) := funext fun j => by
  unfold iB
  by_cases h1 : j = 18 + 7 * i + 6
  · rw [h1, ay_ue, if_neg (by omega), if_neg (by omega), if_pos (by omega)]
  · rw [ay_ux h1]
    by_cases h2 : j = 18 + 7 * i
    · rw [h2, ay_ue, if_neg (by omega), if_neg (by omega), if_pos (by omega)]
    · rw [ay_ux h2]
      by_cases c1 : j = 11
      · rw [if_pos c1, if_pos c1]
      · rw [if_neg c1, if_neg c1]
        by_cases c2 : j = 2
        · rw [if_pos c2, if_pos c2]
        · rw [if_neg c2, if_neg c2]
          by_cases c3 : 18 ≤ j ∧ j < 18 + 7 * i ∧ ((j - 18) % 7 = 0 ∨ (j - 18) % 7 = 6)
          · rw [if_pos c3, if_pos (by omega)]
          · rw [if_neg c3, if_neg (by omega)]
theorem iA_s (hf : f < 64) : ay_u (iA f) (914 + 5 * f) (-1) = iA (f + 1) := funext fun j => by
  unfold iA
  by_cases h1 : j = 914 + 5 * f
  · rw [h1, ay_ue, if_pos (by omega)]
  · rw [ay_ux h1]
    by_cases c3 : 914 ≤ j ∧ j < 914 + 5 * f ∧ (j - 914) % 5 = 0
    · rw [if_pos c3, if_pos (by omega)]
    · rw [if_neg c3, if_neg (by omega)]
theorem w7i (hi : i < 128) : ay_w (ay_w (18 + ay_w (7 * (i : Int))) + 0) = ((18 + 7 * i : Nat) : Int) := by
  rw [ay_wi (x := 7 * (i : Int)) (by omega) (by omega), ay_wi (x := 18 + 7 * (i : Int)) (by omega) (by omega), ay_wi (by omega) (by omega)]; omega
theorem w7j (hi : i < 128) : ay_w (ay_w (18 + ay_w (7 * (i : Int))) + 6) = ((18 + 7 * i + 6 : Nat) : Int) := by
  rw [ay_wi (x := 7 * (i : Int)) (by omega) (by omega), ay_wi (x := 18 + 7 * (i : Int)) (by omega) (by omega), ay_wi (by omega) (by omega)]; omega
theorem w5f (hf : f < 64) : ay_w (ay_w (914 + ay_w (5 * (f : Int))) + 0) = ((914 + 5 * f : Nat) : Int) := by
  rw [ay_wi (x := 5 * (f : Int)) (by omega) (by omega), ay_wi (x := 914 + 5 * (f : Int)) (by omega) (by omega), ay_wi (by omega) (by omega)]; omega
theorem init116 (d : Nat) : ∀ (i n : Nat), i + d = 128 → d < n → R_init_116 n (bC mz 0 (iB i)) (i : Int) = R_init_162 (n - d - 1) (bC mz 0 (iB 128)) 0 := by
  induction d with
  | zero =>
    intro i n hi hn
    obtain ⟨n, rfl⟩ : ∃ N, n = N + 1 := ⟨n - 1, by omega⟩
    rw [R_init_116, if_pos (by omega), show i = 128 by omega]
    rfl
  | succ d ih =>
    intro i n hi hn
    obtain ⟨n, rfl⟩ : ∃ N, n = N + 1 := ⟨n - 1, by omega⟩
    rw [R_init_116, if_neg (by omega), w7i (by omega), w7j (by omega), if_pos ⟨by omega, by omega⟩, if_pos ⟨by omega, by omega⟩, bA_C, bA_C, bC_C, bC_C, Int.toNat_natCast, Int.toNat_natCast, wad1 (by omega)]
    have e : ay_u ((bC (bC mz 0 (iB i)) 0 (ay_u ((bC mz 0 (iB i)).2 0) (18 + 7 * i) (-1))).2 0) (18 + 7 * i + 6) (-1) = iB (i + 1) := iB_s (by omega)
    rw [e, ih (i + 1) n (by omega) (by omega), show n + 1 - (d + 1) - 1 = n - d - 1 by omega]
theorem init162 (d : Nat) : ∀ (f n : Nat), f + d = 64 → d + 38746 < n → R_init_162 n (bC mz 0 (iA f)) (f : Int) = some (0, bC (bC mz 0 (iA 64)) 1 iP) := by
  induction d with
  | zero =>
    intro f n hf hn
    obtain ⟨n, rfl⟩ : ∃ N, n = N + 1 := ⟨n - 1, by omega⟩
    have t : R_copyRow_3_4 n (bC mz 0 (iA 64)) = some (0, bC (bC mz 0 (iA 64)) 1 iP) := cr34 38745 n 0 (bC mz 0 (iA 64)) (by omega) (by omega)
    rw [R_init_162, if_pos (by omega), show f = 64 by omega, bb_s t]
  | succ d ih =>
    intro f n hf hn
    obtain ⟨n, rfl⟩ : ∃ N, n = N + 1 := ⟨n - 1, by omega⟩
    rw [R_init_162, if_neg (by omega), w5f (by omega), if_pos ⟨by omega, by omega⟩, bA_C, bC_C, Int.toNat_natCast, wad1 (by omega)]
    have e : ay_u ((bC mz 0 (iA f)).2 0) (914 + 5 * f) (-1) = iA (f + 1) := iA_s (by omega)
    rw [e]
    exact ih (f + 1) n (by omega) (by omega)
theorem iA_0 : iA 0 = iB 128 := funext fun j => by
  unfold iA
  exact if_neg (by omega)
theorem init_ok : R_init 40000 mz = some (0, bC (bC mz 0 (iA 64)) 1 iP) := by
  have e : bA (bA mz 0 11 499) 0 2 (-1) = bC mz 0 (iB 0) := by
    rw [bA_C, bA_C, bC_C]
    refine congrArg (bC mz 0) (funext fun j => ?_)
    show ay_u (ay_u (fun _ => 0) 11 499) 2 (-1) j = iB 0 j
    unfold iB
    by_cases h2 : j = 2
    · rw [h2, ay_ue, if_neg (by decide), if_pos rfl]
    · rw [ay_ux h2]
      by_cases h1 : j = 11
      · rw [h1, ay_ue, if_pos rfl]
      · rw [ay_ux h1, if_neg h1, if_neg h2, if_neg (by omega)]
  unfold R_init
  rw [e]
  have h := init116 128 0 40000 (by omega) (by omega)
  refine Eq.trans h ?_
  rw [← iA_0]
  exact init162 64 0 _ (by omega) (by omega)
theorem iA_z (h1 : j ≠ 11) (h2 : j ≠ 2) (h3 : ¬ (18 ≤ j ∧ j < 914 ∧ ((j - 18) % 7 = 0 ∨ (j - 18) % 7 = 6))) (h4 : ¬ (914 ≤ j ∧ j < 1234 ∧ (j - 914) % 5 = 0)) : iA 64 j = 0 := by
  unfold iA iB
  rw [if_neg (by omega), if_neg h1, if_neg h2, if_neg (by omega)]
theorem iA_m (h : (18 ≤ j ∧ j < 914 ∧ ((j - 18) % 7 = 0 ∨ (j - 18) % 7 = 6)) ∨ (914 ≤ j ∧ j < 1234 ∧ (j - 914) % 5 = 0)) : iA 64 j = -1 := by
  unfold iA iB
  rcases h with h | h
  · rw [if_neg (by omega), if_neg (by omega), if_neg (by omega), if_pos (by omega)]
  · rw [if_pos (by omega)]
theorem iA_11 : iA 64 11 = 499 := by
  unfold iA iB
  rw [if_neg (by omega), if_pos rfl]
theorem iA_2 : iA 64 2 = -1 := by
  unfold iA iB
  rw [if_neg (by omega), if_neg (by omega), if_pos rfl]
theorem w0_spn : spn w0 s = 0 := rfl
theorem w0_thr : thr w0 o p = false := bt_z p
theorem w0_drt : drt w0 o p = false := bt_z p
theorem w0_fou : fou w0 o p = false := bt_z p
theorem w0_six : six w0 o p = false := bt_z p
theorem w0_lvl : lvl w0 o p = 0 := by unfold lvl; rw [w0_thr]; rfl
theorem w0_2 (hi : i < 128) : w0.2 2 i = -1 := if_pos hi
theorem GX_0 {a : Nat → Int} (e : ∀ j, j < 1275 → a j = iA 64 j) : GB (fun _ => 0) w0 a 0 := by
  have z0' : ∀ j, j < 1275 → j ≠ 11 → j ≠ 2 → ¬ (18 ≤ j ∧ j < 914 ∧ ((j - 18) % 7 = 0 ∨ (j - 18) % 7 = 6)) → ¬ (914 ≤ j ∧ j < 1234 ∧ (j - 914) % 5 = 0) → a j = 0 := fun j h h1 h2 h3 h4 => (e j h).trans (iA_z h1 h2 h3 h4)
  have a11 : a 11 = 499 := (e 11 (by omega)).trans iA_11
  have a10 : a 10 = 0 := z0' 10 (by omega) (by omega) (by omega) (by omega) (by omega)
  have a12 : a 12 = 0 := z0' 12 (by omega) (by omega) (by omega) (by omega) (by omega)
  have a13 : a 13 = 0 := z0' 13 (by omega) (by omega) (by omega) (by omega) (by omega)
  have a14 : a 14 = 0 := z0' 14 (by omega) (by omega) (by omega) (by omega) (by omega)
  have a15 : a 15 = 0 := z0' 15 (by omega) (by omega) (by omega) (by omega) (by omega)
  have noF : ∀ f s, ¬ inF w0 f s := fun f s h => by
    have h1 := h.1; have h2 := h.2
    rw [w0_spn] at h2; omega
  have noH : ∀ f s, ¬ inH w0 f s := fun f s h => by
    have h1 := h.1; have h2 := h.2
    rw [w0_spn] at h2; omega
  have no0 : ∀ s, ¬ 0 < spn w0 s := fun s h => by rw [w0_spn] at h; omega
  refine ⟨0, ⟨⟨⟨⟨fun f hf => Or.inr ⟨fun s _ => noF f s, (e _ (by omega)).trans (iA_m (by omega))⟩, fun s hs h => absurd h (no0 s), fun i hi => Or.inr ⟨fun s _ => noH i s, (e _ (by omega)).trans (iA_m (by omega))⟩⟩, fun o p ho hp => ⟨?_, ?_, ?_, ?_, ?_, ?_⟩, ⟨0, by omega, rfl, a14, fun i hi => absurd hi (Nat.not_lt_zero _)⟩, a10.symm, Or.inr rfl⟩, ⟨fun s hs => ⟨rfl, rfl, Or.inl rfl, Nat.zero_lt_succ 127, fun h => absurd h (no0 s)⟩, fun f s s' _ _ _ h => absurd h (noF f s), fun f s s' _ _ _ h => absurd h (noH f s)⟩, fun o p _ _ h => absurd (w0_thr.symm.trans h) (by decide), fun o p _ _ => ⟨fun h => absurd (w0_drt.symm.trans h) (by decide), fun h => absurd (w0_fou.symm.trans h) (by decide), fun h => absurd (w0_six.symm.trans h) (by decide)⟩, rfl, by decide⟩, fun i hi => by rw [w0_2 hi]; decide, fun o p _ _ _ => rfl, ⟨fun o p _ _ h => absurd (w0_thr.symm.trans h) (by decide), fun s _ h => absurd h (no0 s)⟩, fun s _ h => absurd h (no0 s), ⟨Or.inl a11.symm, Or.inl a12.symm, a13.symm⟩, by rw [a11]; decide, by rw [a12]; decide⟩, ⟨a11.symm, a12.symm, a15.symm⟩, by rw [a12]; decide⟩
  · rw [w0_thr, z0' _ (by omega) (by omega) (by omega) (by omega) (by omega)]; rfl
  · rw [z0' _ (by omega) (by omega) (by omega) (by omega) (by omega)]; rfl
  · rw [z0' _ (by omega) (by omega) (by omega) (by omega) (by omega)]; rfl
  · rw [w0_drt, z0' _ (by omega) (by omega) (by omega) (by omega) (by omega)]; rfl
  · rw [w0_lvl, z0' _ (by omega) (by omega) (by omega) (by omega) (by omega)]; rfl
  · rw [w0_2 (by omega)]
    exact (e _ (by omega)).trans (iA_m (by omega))
theorem GI_0 : GI (fun _ => 0) (fun _ => 0) 0 0 p0 [] (bC (bC mz 0 (iA 64)) 1 iP) := by
  have eP : ∀ j, j < 1275 → iP j = iA 64 j := fun j hj => if_pos ⟨Nat.zero_le _, by omega⟩
  have half : ∀ (b : Nat) (a : Nat → Int) (tt : bS), (∀ j, j < 1275 → a j = iA 64 j) → p0 b = z0 → tt = bI z0 6 (-1) → GB (fun _ => 0) w0 a 0 ∧ TO (fun _ => 0) tt a ∧ ST b p0 [] (fun _ => 0) a 0 ∧ TD tt [] a (mz.2 2) := fun b a tt e hb ht => by
    have z0' : ∀ j, j < 10 → j ≠ 2 → a j = 0 := fun j h h2 => (e j (by omega)).trans (iA_z (by omega) h2 (by omega) (by omega))
    subst ht
    refine ⟨GX_0 e, ⟨fun o ho => ⟨rfl, z0' _ (by omega) (by omega), Nat.zero_le _⟩, 0, by decide, rfl, z0' 0 (by omega) (by omega), fun o ho => absurd ho (Nat.not_lt_zero _), fun _ _ _ => rfl⟩, ⟨0, 0, 0, by decide, by rw [hb]; exact ⟨rfl, rfl⟩, ⟨z0' 3 (by omega) (by omega), z0' 5 (by omega) (by omega)⟩, fun i hi => absurd hi (Nat.not_lt_zero _)⟩, ⟨0, 0, by decide, ⟨rfl, z0' 1 (by omega) (by omega)⟩, ?_, ⟨rfl, z0' 4 (by omega) (by omega)⟩, fun j hj => absurd hj (Nat.not_lt_zero _), fun j hj => absurd hj (Nat.not_lt_zero _), fun j hj => Or.inl rfl⟩⟩
    have a2 : a 2 = -1 := (e 2 (by omega)).trans iA_2
    rw [a2]
    exact ⟨rfl, by decide, by decide⟩
  have en0 : ∀ q, en p0 q = 0 := fun q => by
    unfold en
    split <;> rfl
  obtain ⟨x1, x2, x3, x4⟩ := half 2 (iA 64) (p0 1) (fun _ _ => rfl) rfl rfl
  obtain ⟨y1, y2, y3, y4⟩ := half 5 iP (p0 4) eP rfl rfl
  refine ⟨⟨x1, x2, x3, x4⟩, ⟨y1, y2, y3, y4⟩, ?_, ⟨fun q _ => Or.inl (en0 q), fun q q' _ _ _ h => absurd (en0 q) h, Nat.zero_le _, Nat.zero_le _⟩, ⟨0, ⟨rfl, by decide, fun i => by show 0 ≤ (0 : Int) ∧ (0 : Int) < 256; decide⟩, rfl, fun k hk => absurd hk (Nat.not_lt_zero _)⟩, ⟨rfl, rfl, rfl⟩, by show 0 ≤ (0 : Int) ∧ (0 : Int) ≤ ((0 : Nat) : Int); decide, Or.inl ⟨rfl, rfl, rfl⟩⟩
  show iP 1 ≤ iA 64 1
  rw [eP 1 (by omega)]
  exact Int.le_refl _
theorem cz_sz (e : bE) : ax_sz (ay_ce e) = cz e := by
  match e with
  | .inl (0, _, _) => rfl
  | .inl (1, _, _) => rfl
  | .inl (_ + 2, _, _) => rfl
  | .inr (.inl (_, _, _)) => rfl
  | .inr (.inr (_, fs)) => exact List.length_map _
theorem uz_sz : ∀ U : bH, ax_hsz (U.map ay_ce) = uz U
  | [] => rfl
  | e :: l => by
    show ((ay_ce e :: l.map ay_ce).map ax_sz).sum = cz e + uz l
    rw [List.map_cons, List.sum_cons, cz_sz]
    congr 1
    exact uz_sz l
theorem uz_hP (c : Nat → bS) (m : bS) (U : bH) : uz (hP (c, mC m ++ U)) = uz (hP (c, mC m)) + uz U := by
  have : ∀ A B : bH, uz (A ++ B) = uz A + uz B := fun A B => by
    induction A with
    | nil => exact (Nat.zero_add _).symm
    | cons x l ih =>
      show cz x + uz (l ++ B) = cz x + uz l + uz B
      rw [ih, Nat.add_assoc]
  exact this (hP (c, mC m)) U
set_option maxRecDepth 20000 in
theorem uz_b (c : Nat → bS) (m : bS) : uz (hP (c, mC m)) ≤ 100000 := by
  unfold hP mC
  simp only [uz, cz, fP_0, fP_1, fP_14, fP_19, fP_21, fP_34, fP_39, fP_41, fP_54, fP_56, fP_57, fP_60, fP_61, fP_64, List.length_cons, List.length_nil]
  decide
theorem room_ok {z zp : Nat → Nat} {B Kt : Nat} {c : Nat → bS} {U : bH} (H : GI z zp B Kt c U m) (hK : Kt ≤ 512) : (hP (c, mC m ++ U)).length ≤ 2500 ∧ ax_hsz ((hP (c, mC m ++ U)).map ay_ce) ≤ 500000 := by
  have h := H.2.2.2.1
  have hn : nw c ≤ 62 := cn_le _ _
  have h3 := h.2.2.1
  have h4 := h.2.2.2
  have hl : (hP (c, mC m ++ U)).length = 81 + U.length := by
    have : (hP (c, mC m ++ U)) = hP (c, mC m) ++ U := rfl
    rw [this, List.length_append]
    rfl
  have hb := uz_b c m
  rw [uz_sz, uz_hP, hl]
  omega
theorem law_all : ax_Law := by
  refine law_of (fun c U m t => ∃ z zp, GI z zp (100 * t) t c U m) ⟨40000, init_ok⟩ ⟨_, _, GI_0⟩ (fun c U m t ⟨z, zp, H⟩ => ⟨z, zp, GI_m (by omega) (by omega) H⟩) (fun c U m t op a1 a2 a3 a4 a5 ⟨z, zp, H⟩ ht hop h1 h2 h3 h4 h5 => ?_) (fun c U m t ht ⟨z, zp, H⟩ => room_ok H ht)
  have fin : (∃ c' U' m', LStep op c U m a1 a2 a3 a4 a5 c' U' m' ∧ NX1 (100 * t) t c' U' m') → ∃ c' U' m', LStep op c U m a1 a2 a3 a4 a5 c' U' m' ∧ ∃ z zp, GI z zp (100 * (t + 1)) (t + 1) c' U' m' := fun ⟨c', U', m', g, z', zp', G⟩ => ⟨c', U', m', g, z', zp', GI_m (by omega) (Nat.le_refl _) G⟩
  apply fin
  clear fin
  match op, hop with
  | 0, _ => exact L_object H
  | 1, _ => exact L_feed H
  | 2, _ => exact L_end H
  | 3, _ => exact L_text H
  | 4, _ => exact L_fault H
  | 5, _ => exact L_by H
  | 6, _ => exact L_touch H (by omega) h1 h2
  | 7, _ => exact L_write H (by omega) h1 h2
  | 8, _ => exact L_copy H (by omega) h1 h2 h3 h4
  | 9, _ => exact L_sweep H h1
  | 10, _ => exact L_empty H
  | 11, _ => exact L_drop H h1
  | 12, _ => exact L_day H (by omega) h1
  | 13, _ => exact L_played H (by omega) h1
  | 14, _ => exact L_years H (by omega)
  | 15, _ => exact L_undo H
  | 16, _ => exact L_page H h1 h2
  | 17, _ => exact L_frame H
  | 18, _ => exact L_reserved H h1
  | 19, _ => exact L_let H h1
  | 20, _ => exact L_is H
  | 21, _ => exact L_book H
  | 22, _ => exact L_foretold H (by omega)
  | 23, _ => exact L_would H h1 h2
  | 24, _ => exact L_victim H
  | 25, _ => exact L_next H
  | 26, _ => exact L_entries H h1
  | 27, _ => exact L_ideal H h1
  | 28, _ => exact L_pages H h1 h2
  | 29, _ => exact L_holes H
  | 30, _ => exact L_reach H
  | 31, _ => exact L_spread H
  | 32, _ => exact L_digest H h1
  | 33, _ => exact L_alike H h1 h2
  | 34, _ => exact L_eldest H h1
  | 35, _ => exact L_dirty H h1
  | 36, _ => exact L_there H h1
  | 37, _ => exact L_sound H
  | 38, _ => exact L_wants H h1 h2
  | 39, _ => exact L_spares H h1
  | 40, _ => exact L_said H h1
  | 41, _ => exact L_whose H
  | 42, _ => exact L_ledger H
  | 43, _ => exact L_image H
  | 44, _ => exact L_back H
  | 45, _ => exact L_about H
  | n + 46, h => exact absurd h (by omega)
end
