/-! A page comes, on both sides: the last stage. -/
def c70 (a : Nat → Int) (s i : Nat) (T : Int) : Nat → Int := ay_u (ay_u (ay_u (ay_u (ay_u a (914 + 5 * s + 4) T) (18 + 7 * i + 1) 1) (18 + 7 * i + 5) 1) (18 + 7 * i + 4) 0) (18 + 7 * i + 2) (a (18 + 7 * i + 3))
def cmw (w : bS) (s o p : Nat) (T : Int) : bS := bA (bA w 5 (s : Int) T) 6 (o : Int) (ay_or (w.2 6 o) (ay_shl 1 (p : Int)))
section
variable {n n' : Nat} {m w w' w0 kk xx tt : bS} {z : Nat → Nat} {a b' : Nat → Int} {o p f s N k i h g j T b c M x y : Nat} {t v : Int}
theorem cmw_thr (ho : o < 4) (hp : p < 32) {o' q' : Nat} (hq : q' < 32) : thr (cmw w s o p t) o' q' = if o' = o ∧ q' = p then true else thr w o' q' := by
  show bt ((bA (bA w 5 (s : Int) t) 6 (o : Int) (ay_or (w.2 6 o) (ay_shl 1 (p : Int)))).2 6 o') q' = _
  rw [bA_bt _ 6 ho, bt_or, bt_shl1 p hp q' hq]
  by_cases c : o' = o
  · rw [if_pos c]
    by_cases d : q' = p
    · rw [decide_eq_true d, Bool.or_true, if_pos ⟨c, d⟩]
    · rw [decide_eq_false d, Bool.or_false, if_neg (fun z => d z.2), c]; rfl
  · rw [if_neg c, if_neg (fun z => c z.1)]; rfl
theorem cmw_2 (h5 : j ≠ 5) (h6 : j ≠ 6) : (cmw w s o p t).2 j = w.2 j := by
  show (bif Nat.beq j 6 then _ else (bif Nat.beq j 5 then _ else w.2 j)) = w.2 j
  rw [nbeq h6, nbeq h5]; rfl
theorem cmw_5 : (cmw w s o p t).2 5 g = if g = s then t else w.2 5 g := by
  show ay_u (w.2 5) ((s : Int)).toNat t g = _
  rw [Int.toNat_natCast]; rfl
theorem c70_f (hg : g < 64) (hj : j < 5) (hi : i < 128) : c70 a s i t (914 + 5 * g + j) = if g = s ∧ j = 4 then t else a (914 + 5 * g + j) := by
  unfold c70
  rw [ay_ux (by omega), ay_ux (by omega), ay_ux (by omega), ay_ux (by omega)]
  by_cases c : g = s ∧ j = 4
  · rw [if_pos c, c.1, c.2, ay_ue]
  · rw [if_neg c, ay_ux (by omega)]
theorem c70_p (hg : g < 128) (hj : j < 7) : c70 a s i t (18 + 7 * g + j) = if g = i ∧ (j = 1 ∨ j = 2 ∨ j = 4 ∨ j = 5) then (if j = 1 then 1 else if j = 5 then 1 else if j = 4 then 0 else a (18 + 7 * i + 3)) else a (18 + 7 * g + j) := by
  unfold c70
  by_cases c : g = i ∧ (j = 1 ∨ j = 2 ∨ j = 4 ∨ j = 5)
  · rw [if_pos c]
    obtain ⟨e, c⟩ := c
    subst e
    rcases c with e | e | e | e <;> subst e
    · rw [ay_ux (by omega), ay_ux (by omega), ay_ux (by omega), ay_ue]; rfl
    · rw [ay_ue]; rfl
    · rw [ay_ux (by omega), ay_ue]; rfl
    · rw [ay_ux (by omega), ay_ux (by omega), ay_ue]; rfl
  · rw [if_neg c, ay_ux (by omega), ay_ux (by omega), ay_ux (by omega), ay_ux (by omega), ay_ux (by omega)]
theorem c70_pn (hg : g < 128) (hj : j < 7) (hne : g ≠ i) : c70 a s i t (18 + 7 * g + j) = a (18 + 7 * g + j) := by rw [c70_p hg hj, if_neg (fun q => hne q.1)]
theorem c70_o (hg : g < 18 ∨ 1234 ≤ g) (hs : s < 64) (hi : i < 128) : c70 a s i t g = a g := by
  unfold c70
  rw [ay_ux (by omega), ay_ux (by omega), ay_ux (by omega), ay_ux (by omega), ay_ux (by omega)]
theorem GX_c70 (X : GX z w a T) (ho : o < 4) (hp : p < 32) (hth : thr w o p = false) (hs : s < 64) (hsl : slt w o p = s) (hz : p < z o) : GX z (cmw w s o p (T : Int)) (c70 a s (32 * o + p) (T : Int)) T := by
  obtain ⟨G, U, V, S, Q, ⟨x1, x2, x3⟩, x4, x5⟩ := X
  obtain ⟨R, I, T', J, hT, hT2⟩ := id G
  have hsp : spn (cmw w s o p (T : Int)) = spn w := by funext g; unfold spn; rw [cmw_2 (by omega) (by omega)]
  have hho : hom (cmw w s o p (T : Int)) = hom w := by funext g; unfold hom; rw [cmw_2 (by omega) (by omega)]
  have hhv : hvs (cmw w s o p (T : Int)) = hvs w := hvs_same (cmw_2 (by omega) (by omega)) (cmw_2 (by omega) (by omega))
  have hdr : drt (cmw w s o p (T : Int)) = drt w := by funext g q; unfold drt; rw [cmw_2 (by omega) (by omega)]
  have hfo : fou (cmw w s o p (T : Int)) = fou w := by funext g q; unfold fou; rw [cmw_2 (by omega) (by omega)]
  have hsi : six (cmw w s o p (T : Int)) = six w := by funext g q; unfold six; rw [cmw_2 (by omega) (by omega)]
  have hth1 := fun o' q' (hq : q' < 32) => cmw_thr (w := w) (s := s) (t := (T : Int)) (o' := o') ho hp hq
  obtain ⟨j1, j2, j3⟩ := J o p ho hp
  have nd : drt w o p = false := by
    cases e : drt w o p
    · rfl
    · rw [j1 e] at hth; cases hth
  have nf : fou w o p = false := by
    cases e : fou w o p
    · rfl
    · rw [(j2 e).1] at hth; cases hth
  have ns : six w o p = false := by
    cases e : six w o p
    · rfl
    · rw [(j3 e).1] at hth; cases hth
  have ro : ∀ g, (g < 18 ∨ 1234 ≤ g) → c70 a s (32 * o + p) (T : Int) g = a g := fun g hg => c70_o hg hs (by omega)
  have up : ∀ o' q', q' < 32 → thr w o' q' = true → thr (cmw w s o p (T : Int)) o' q' = true := fun o' q' hq h => by
    rw [hth1 o' q' hq]
    by_cases c : o' = o ∧ q' = p
    · rw [if_pos c]
    · rw [if_neg c]; exact h
  have hG : GW (cmw w s o p (T : Int)) (c70 a s (32 * o + p) (T : Int)) T := by
    refine ⟨⟨⟨fun f hf => ?_, fun g hg h0 => ?_, fun i hi => ?_⟩, fun o' q' ho' hq' => ?_, ?_, ?_⟩, ?_, ?_, ?_, hT, hT2⟩
    · have := R.1.1 f hf
      rw [show 914 + 5 * f = 914 + 5 * f + 0 from rfl, c70_f hf (by omega) (by omega), if_neg (by omega)]
      unfold inF at this ⊢
      rw [hsp]; exact this
    · rw [hsp] at h0 ⊢
      rw [hho, c70_f hg (by omega) (by omega), c70_f hg (by omega) (by omega), c70_f hg (by omega) (by omega), c70_f hg (by omega) (by omega), cmw_5]
      obtain ⟨q1, q2, q3, q4⟩ := R.1.2.1 g hg h0
      rw [if_neg (by omega), if_neg (by omega), if_neg (by omega)]
      refine ⟨q1, q2, q3, ?_⟩
      by_cases e : g = s
      · rw [if_pos ⟨e, rfl⟩, if_pos e]
      · rw [if_neg (fun q => e q.1), if_neg e]; exact q4
    · have := R.1.2.2 i hi
      rw [show 18 + 7 * i = 18 + 7 * i + 0 from rfl, c70_p hi (by omega), if_neg (by omega)]
      unfold inH at this ⊢
      rw [hsp, hho]; exact this
    · obtain ⟨h1, h2, h3, h4, h5, h6⟩ := R.2.1 o' q' ho' hq'
      have hlv : lvl (cmw w s o p (T : Int)) o' q' = if o' = o ∧ q' = p then 1 else lvl w o' q' := by
        unfold lvl
        rw [hth1 o' q' hq', hsi, hfo]
        by_cases c : o' = o ∧ q' = p
        · rw [if_pos c, if_pos c, c.1, c.2, nf, ns]; rfl
        · rw [if_neg c, if_neg c]
      have hi : 32 * o' + q' < 128 := by omega
      rw [hdr, cmw_2 (j := 0) (by omega) (by omega), cmw_2 (j := 1) (by omega) (by omega), cmw_2 (j := 2) (by omega) (by omega)]
      by_cases c : o' = o ∧ q' = p
      · obtain ⟨c1, c2⟩ := c
        subst c1 c2
        have e1 : thr (cmw w s o' q' (T : Int)) o' q' = true := by rw [hth1 o' q' hq', if_pos ⟨rfl, rfl⟩]
        have e5 : lvl (cmw w s o' q' (T : Int)) o' q' = 1 := by rw [hlv, if_pos ⟨rfl, rfl⟩]
        rw [e1, e5, nd]
        refine ⟨?_, ?_, ?_, ?_, ?_, ?_⟩
        · rw [c70_p hi (by omega), if_pos ⟨rfl, by omega⟩]; rfl
        · rw [c70_p hi (by omega), if_pos ⟨rfl, by omega⟩, V o' q' ho hp hth]; exact h3
        · rw [c70_p hi (by omega), if_neg (by omega)]; exact h3
        · rw [c70_p hi (by omega), if_pos ⟨rfl, by omega⟩]; rfl
        · rw [c70_p hi (by omega), if_pos ⟨rfl, by omega⟩]; rfl
        · rw [c70_p hi (by omega), if_neg (by omega)]; exact h6
      · have ne : 32 * o' + q' ≠ 32 * o + p := fun e => c (by omega)
        rw [hlv, hth1 o' q' hq', if_neg c, if_neg c, c70_pn (j := 1) hi (by omega) ne, c70_pn (j := 2) hi (by omega) ne, c70_pn (j := 3) hi (by omega) ne, c70_pn (j := 4) hi (by omega) ne, c70_pn (j := 5) hi (by omega) ne, c70_pn (j := 6) hi (by omega) ne]
        exact ⟨h1, h2, h3, h4, h5, h6⟩
    · exact RB_c (ro 14 (by omega)) (fun i h1 h2 => ro i (by omega)) (RB_w rfl (cmw_2 (by omega) (by omega)) R.2.2.1)
    · exact RS_c (fun i h1 h2 _ => ro i (by omega)) (RS_w rfl rfl (cmw_2 (by omega) (by omega)) R.2.2.2)
    · exact IF_eq (cmw_2 (by omega) (by omega)) (cmw_2 (by omega) (by omega)) I
    · intro o' q' ho' hq' th
      rw [hth1 o' q' hq'] at th
      rw [hhv]
      by_cases c : o' = o ∧ q' = p
      · rw [c.1, c.2]
        have : hvs w (32 * o + p) = s := hsl
        rw [this]; exact hs
      · rw [if_neg c] at th; exact T' o' q' ho' hq' th
    · intro o' q' ho' hq'
      obtain ⟨k1, k2, k3⟩ := J o' q' ho' hq'
      rw [hdr, hfo, hsi, hsp]
      unfold slt
      rw [hhv]
      refine ⟨fun h => up o' q' hq' (k1 h), fun h => ?_, fun h => ?_⟩
      · obtain ⟨y1, y2⟩ := k2 h; exact ⟨up o' q' hq' y1, y2⟩
      · obtain ⟨y1, y2⟩ := k3 h; exact ⟨up o' q' hq' y1, y2⟩
  refine ⟨hG, ?_, ?_, ⟨?_, ?_⟩, ?_, ⟨?_, ?_, ?_⟩, ?_, ?_⟩
  · unfold IU; rw [cmw_2 (by omega) (by omega)]; exact U
  · intro o' q' ho' hq' h
    rw [hth1 o' q' hq'] at h
    rw [cmw_2 (by omega) (by omega), cmw_2 (by omega) (by omega)]
    by_cases c : o' = o ∧ q' = p
    · rw [if_pos c] at h; cases h
    · rw [if_neg c] at h; exact V o' q' ho' hq' h
  · intro o' q' ho' hq' h
    rw [hth1 o' q' hq'] at h
    by_cases c : o' = o ∧ q' = p
    · rw [c.1, c.2]; exact hz
    · rw [if_neg c] at h; exact S.1 o' q' ho' hq' h
  · rw [hsp, hho]; exact S.2
  · intro g hg h0
    rw [hsp] at h0
    rw [cmw_5]
    by_cases e : g = s
    · rw [if_pos e]; omega
    · rw [if_neg e]; exact Q g hg h0
  · rw [ro 11 (by omega)]; exact x1
  · rw [ro 12 (by omega)]; exact x2
  · rw [ro 13 (by omega)]; exact x3
  · rw [ro 11 (by omega)]; exact x4
  · rw [ro 12 (by omega)]; exact x5
/-- what a coming leaves as it was: values, savings, uses, dirt; numbers but the book's -/
def Kc (w w' : bS) (o p : Nat) : Prop := (∀ j, j ≠ 3 → j ≠ 4 → j ≠ 5 → j ≠ 6 → j ≠ 8 → j ≠ 9 → j ≠ 10 → w'.2 j = w.2 j) ∧ (∀ j, j ≠ 12 → w'.1 j = w.1 j) ∧ (∀ o' q', o' < 4 → q' < 32 → thr w' o' q' = if o' = o ∧ q' = p then true else thr w o' q') ∧ ∀ o' q', o' < 4 → q' < 32 → thr w o' q' = true → frm w' (32 * o' + q') = frm w (32 * o' + q')
theorem come70_ok (X : GX z w (m.2 0) T) (ho : o < 4) (hp : p < 32) (hth : thr w o p = false) (hs : s < 64) (hsl : slt w o p = s) (hz : p < z o) (k5 : kk.1 5 = (s : Int)) (hn : 100 ≤ n) (hn' : 100 ≤ n') : ∃ w' a', K_bringIn_70 tt n (kk, w, xx) o p = some (0, (kk, w', xx)) ∧ R_comeNow_70 n' m o p = some (0, bC m 0 a') ∧ GX z w' a' T ∧ Kc w w' o p ∧ Ra (m.2 0) a' := by
  have Y := GX_c70 X ho hp hth hs hsl hz
  have G := X.1
  have h10 : m.2 0 10 = (T : Int) := G.tm
  have hw14 : w.1 14 = (T : Int) := G.2.2.2.2.1
  have Y' : GX z (cmw w s o p (T : Int)) ((bC m 0 (c70 (m.2 0) s (32 * o + p) (T : Int))).2 0) T := Y
  obtain ⟨w1, a1, p1, p2, p3, p4, p5⟩ := promote_ok (tt := tt) (kk := kk) (xx := xx) Y'.1 ho hp hn hn'
  have hc4 : (0 : Int) ≤ (o : Int) ∧ (o : Int) < 4 := by omega
  have hc64 : (0 : Int) ≤ (s : Int) ∧ (s : Int) < 64 := by omega
  refine ⟨w1, a1, ?_, ?_, Y.kp p4 p3 p5, ⟨?_, ?_, ?_, ?_⟩, ?_⟩
  · unfold K_bringIn_70
    dsimp only
    rw [k5, if_pos hc64, if_pos hc4, if_pos hc4, hw14, Int.toNat_natCast]
    exact (bb_s p1).trans rfl
  · have ff : R_firstOf n' m o p = some ((s : Int), m) := by
      rw [R_firstOf_ok n' G.2.1 G.1.1 ho hp, hsl, if_pos hs]
    have hi : 32 * o + p < 128 := by omega
    unfold R_comeNow_70
    rw [bb_s ff, h10, bb_s (R_putFrame_ok n' m hs (by omega) (by omega) _)]
    rw [bb_s (R_putPage_ok n' _ ho hp (by omega) (by omega) _), bC_C]
    rw [bb_s (R_putPage_ok n' _ ho hp (by omega) (by omega) _), bC_C]
    rw [bb_s (R_putPage_ok n' _ ho hp (by omega) (by omega) _), bC_C]
    rw [bb_s (R_pageAt_ok n' _ ho hp (by omega) (by omega))]
    rw [bb_s (R_putPage_ok n' _ ho hp (by omega) (by omega) _), bC_C]
    have ev : (ay_u (ay_u (ay_u (ay_u (m.2 0) (914 + 5 * s + 4) (T : Int)) (18 + 7 * (32 * o + p) + 1) 1) (18 + 7 * (32 * o + p) + 5) 1) (18 + 7 * (32 * o + p) + 4) 0) (18 + 7 * (32 * o + p) + 3) = m.2 0 (18 + 7 * (32 * o + p) + 3) := by
      rw [ay_ux (by omega), ay_ux (by omega), ay_ux (by omega), ay_ux (by omega)]
    refine (bb_s (v := 0) (s := bC m 0 a1) ?_).trans rfl
    rw [bC_C] at p2
    refine Eq.trans ?_ p2
    show R_promote n' (bC m 0 (ay_u (ay_u (ay_u (ay_u (ay_u (m.2 0) (914 + 5 * s + 4) (T : Int)) (18 + 7 * (32 * o + p) + 1) 1) (18 + 7 * (32 * o + p) + 5) 1) (18 + 7 * (32 * o + p) + 4) 0) (18 + 7 * (32 * o + p) + 2) ((ay_u (ay_u (ay_u (ay_u (m.2 0) (914 + 5 * s + 4) (T : Int)) (18 + 7 * (32 * o + p) + 1) 1) (18 + 7 * (32 * o + p) + 5) 1) (18 + 7 * (32 * o + p) + 4) 0) (18 + 7 * (32 * o + p) + 3)))) o p = _
    rw [ev]
    rfl
  · intro j h3 h4 h5 h6 h8 h9 h10
    rw [p4.1 j h8 h9 h10, cmw_2 h5 h6]
  · intro j h12
    rw [p4.2 j h12]; rfl
  · intro o' q' ho' hq'
    rw [kp_thr p4, cmw_thr ho hp hq']
  · intro o' q' ho' hq' th
    unfold frm
    rw [kp_hvs p4, hvs_same (w' := cmw w s o p (T : Int)) (w := w) (cmw_2 (by omega) (by omega)) (cmw_2 (by omega) (by omega))]
    have : hom w1 = hom w := by funext g; unfold hom; rw [p4.1 3 (by omega) (by omega) (by omega), cmw_2 (by omega) (by omega)]
    rw [this]
  · exact Ra.tr (fun i hi => c70_o (by omega) hs (by omega)) p5
end
