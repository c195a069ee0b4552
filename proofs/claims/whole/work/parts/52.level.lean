/-! Levels of blocks, on both sides. -/
/-- a block of pages has a level from now on -/
def lvr (i : Nat) (L : Int) : Nat → (Nat → Int) → (Nat → Int)
  | 0, a => a
  | k + 1, a => ay_u (lvr i L k a) (18 + 7 * (i + k) + 5) L
/-- the slot of a page -/
def slt (w : bS) (o p : Nat) : Nat := hvs w (32 * o + p)
/-- levels: where they are, blocks are whole and of one dirt, and kept in one -/
def IL (w : bS) : Prop := ∀ o p, o < 4 → p < 32 → (drt w o p = true → thr w o p = true) ∧ (fou w o p = true → thr w o p = true ∧ six w o p = false ∧ 4 ≤ spn w (slt w o p) ∧ ∀ q, q < 32 → q / 4 = p / 4 → fou w o q = true ∧ drt w o q = drt w o p) ∧ (six w o p = true → thr w o p = true ∧ 16 ≤ spn w (slt w o p) ∧ ∀ q, q < 32 → q / 16 = p / 16 → six w o q = true ∧ drt w o q = drt w o p)
/-- two worlds that differ in levels of a block alone -/
def Lv (w w' : bS) (o b N L : Nat) : Prop := (∀ o' q, o' < 4 → q < 32 → fou w' o' q = (if o' = o ∧ b ≤ q ∧ q < b + N then decide (L = 4) else fou w o' q) ∧ six w' o' q = (if o' = o ∧ b ≤ q ∧ q < b + N then decide (L = 16) else six w o' q)) ∧ (∀ j, j ≠ 8 → j ≠ 9 → j ≠ 10 → w'.2 j = w.2 j) ∧ ∀ j, j ≠ 12 → w'.1 j = w.1 j
section
variable {n : Nat} {m w w' : bS} {a b' : Nat → Int} {o p f s N k i h g j x y T b L : Nat} {t : Int}
theorem lvr_p (hg : g < 128) (hj : j < 7) : lvr i t k a (18 + 7 * g + j) = if j = 5 ∧ i ≤ g ∧ g < i + k then t else a (18 + 7 * g + j) := by
  induction k with
  | zero => rw [if_neg (by omega)]; rfl
  | succ k ih =>
    show ay_u (lvr i t k a) (18 + 7 * (i + k) + 5) t (18 + 7 * g + j) = _
    by_cases e : j = 5 ∧ g = i + k
    · obtain ⟨rfl, rfl⟩ := e
      rw [ay_ue, if_pos (by omega)]
    · rw [ay_ux (by omega), ih]
      by_cases e2 : j = 5 ∧ i ≤ g ∧ g < i + k
      · rw [if_pos e2, if_pos (by omega)]
      · rw [if_neg e2, if_neg (by omega)]
theorem lvr_o (hg : g < 18 ∨ 914 ≤ g) (hi : i + k ≤ 128) : lvr i t k a g = a g := by
  induction k with
  | zero => rfl
  | succ k ih =>
    show ay_u (lvr i t k a) (18 + 7 * (i + k) + 5) t g = _
    rw [ay_ux (by omega), ih (by omega)]
theorem Lv.thr (H : Lv w w' o b N L) : thr w' = thr w := by
  funext x y; show bt (w'.2 6 x) y = bt (w.2 6 x) y; rw [H.2.1 6 (by omega) (by omega) (by omega)]
theorem Lv.drt (H : Lv w w' o b N L) : drt w' = drt w := by
  funext x y; show bt (w'.2 7 x) y = bt (w.2 7 x) y; rw [H.2.1 7 (by omega) (by omega) (by omega)]
theorem Lv.spn (H : Lv w w' o b N L) : spn w' = spn w := by
  funext x; show (w'.2 4 x).toNat = (w.2 4 x).toNat; rw [H.2.1 4 (by omega) (by omega) (by omega)]
theorem Lv.hom (H : Lv w w' o b N L) : hom w' = hom w := by
  funext x; show (w'.2 3 x).toNat = (w.2 3 x).toNat; rw [H.2.1 3 (by omega) (by omega) (by omega)]
theorem IF_eq (e3 : w'.2 3 = w.2 3) (e4 : w'.2 4 = w.2 4) (I : IF w) : IF w' := by
  have a : spn w' = spn w := by funext x; show (w'.2 4 x).toNat = (w.2 4 x).toNat; rw [e4]
  have c : hom w' = hom w := by funext x; show (w'.2 3 x).toNat = (w.2 3 x).toNat; rw [e3]
  unfold IF inF inH at I ⊢
  rw [a, c, e3, e4]
  exact I
theorem RF_eq (e3 : w'.2 3 = w.2 3) (e4 : w'.2 4 = w.2 4) (e5 : w'.2 5 = w.2 5) (H : RF w a) : RF w' a := by
  have x : spn w' = spn w := by funext x; show (w'.2 4 x).toNat = (w.2 4 x).toNat; rw [e4]
  have c : hom w' = hom w := by funext x; show (w'.2 3 x).toNat = (w.2 3 x).toNat; rw [e3]
  unfold RF inF inH at H ⊢
  rw [x, c, e5]
  exact H
theorem hvs_same (e3 : w'.2 3 = w.2 3) (e4 : w'.2 4 = w.2 4) : hvs w' = hvs w := by
  have a : spn w' = spn w := by funext x; show (w'.2 4 x).toNat = (w.2 4 x).toNat; rw [e4]
  have c : hom w' = hom w := by funext x; show (w'.2 3 x).toNat = (w.2 3 x).toNat; rw [e3]
  funext i; unfold hvs; rw [a, c]
theorem cvs_same (e4 : w'.2 4 = w.2 4) : cvs w' = cvs w := by
  have a : spn w' = spn w := by funext x; show (w'.2 4 x).toNat = (w.2 4 x).toNat; rw [e4]
  funext i; unfold cvs; rw [a]
theorem Lv_RP (V : Lv w w' o b N L) (H : RP w a) (ho : o < 4) (hb : b + N ≤ 32) (hL : L = 1 ∨ L = 4 ∨ L = 16) (hth : ∀ q, b ≤ q → q < b + N → thr w o q = true) : RP w' (lvr (32 * o + b) (L : Int) N a) := fun o' q ho' hq => by
  obtain ⟨h1, h2, h3, h4, h5, h6⟩ := H o' q ho' hq
  have ne : ∀ j, j < 7 → j ≠ 5 → lvr (32 * o + b) (L : Int) N a (18 + 7 * (32 * o' + q) + j) = a (18 + 7 * (32 * o' + q) + j) := fun j hj h => by rw [lvr_p (by omega) hj, if_neg (fun c => h c.1)]
  rw [ne 1 (by omega) (by omega), ne 2 (by omega) (by omega), ne 3 (by omega) (by omega), ne 4 (by omega) (by omega), ne 6 (by omega) (by omega), lvr_p (by omega) (by omega), V.thr, V.drt, V.2.1 0 (by omega) (by omega) (by omega), V.2.1 1 (by omega) (by omega) (by omega), V.2.1 2 (by omega) (by omega) (by omega)]
  refine ⟨h1, h2, h3, h4, ?_, h6⟩
  obtain ⟨v1, v2⟩ := V.1 o' q ho' hq
  unfold lvl
  rw [v1, v2, V.thr]
  by_cases c : o' = o ∧ b ≤ q ∧ q < b + N
  · rw [if_pos (by omega), if_pos c, if_pos c, c.1, hth q c.2.1 c.2.2]
    rcases hL with e | e | e <;> subst e <;> rfl
  · rw [if_neg (by omega), if_neg c, if_neg c]
    exact h5
theorem Lv_IL (V : Lv w w' o b N L) (J : IL w) (ho : o < 4) (hN : N = 4 ∨ N = 16) (hbN : b % N = 0) (hb : b + N ≤ 32) (hL : L = 1 ∨ L = 4 ∨ L = 16) (hLN : L ≤ N) (hth : ∀ q, b ≤ q → q < b + N → thr w o q = true) (hsp : 1 < L → ∀ q, b ≤ q → q < b + N → L ≤ spn w (slt w o q)) (hdr : 1 < L → ∀ q r, b ≤ q → q < b + N → b ≤ r → r < b + N → q / L = r / L → drt w o q = drt w o r) (h16 : N = 4 → ∀ q, b ≤ q → q < b + N → six w o q = false) : IL w' := fun o' q ho' hq => by
  obtain ⟨j1, j2, j3⟩ := J o' q ho' hq
  obtain ⟨v1, v2⟩ := V.1 o' q ho' hq
  have es : slt w' o' q = slt w o' q := by
    unfold slt
    rw [hvs_same (V.2.1 3 (by omega) (by omega) (by omega)) (V.2.1 4 (by omega) (by omega) (by omega))]
  rw [es, V.thr, V.drt, V.spn]
  refine ⟨j1, fun hf => ?_, fun hs => ?_⟩
  · rw [v1] at hf
    rw [v2]
    by_cases c : o' = o ∧ b ≤ q ∧ q < b + N
    · rw [if_pos c] at hf ⊢
      have e4 : L = 4 := of_decide_eq_true hf
      subst e4
      obtain ⟨rfl, c1, c2⟩ := c
      refine ⟨hth q c1 c2, rfl, hsp (by omega) q c1 c2, fun r hr e => ?_⟩
      have hr2 : b ≤ r ∧ r < b + N := by rcases hN with h | h <;> subst h <;> omega
      rw [(V.1 o' r ho' hr).1, if_pos ⟨rfl, hr2⟩]
      exact ⟨rfl, hdr (by omega) r q hr2.1 hr2.2 c1 c2 e⟩
    · rw [if_neg c] at hf ⊢
      obtain ⟨a1, a2, a3, a4⟩ := j2 hf
      refine ⟨a1, a2, a3, fun r hr e => ?_⟩
      rw [(V.1 o' r ho' hr).1, if_neg (fun d => c ⟨d.1, by rcases hN with h | h <;> subst h <;> omega⟩)]
      exact a4 r hr e
  · rw [v2] at hs
    by_cases c : o' = o ∧ b ≤ q ∧ q < b + N
    · rw [if_pos c] at hs
      have e16 : L = 16 := of_decide_eq_true hs
      subst e16
      obtain ⟨rfl, c1, c2⟩ := c
      have hN' : N = 16 := by omega
      subst hN'
      refine ⟨hth q c1 c2, hsp (by omega) q c1 c2, fun r hr e => ?_⟩
      have hr2 : b ≤ r ∧ r < b + 16 := by omega
      rw [(V.1 o' r ho' hr).2, if_pos ⟨rfl, hr2⟩]
      exact ⟨rfl, hdr (by omega) r q hr2.1 hr2.2 c1 c2 e⟩
    · rw [if_neg c] at hs
      obtain ⟨a1, a3, a4⟩ := j3 hs
      refine ⟨a1, a3, fun r hr e => ?_⟩
      have hno : ¬ (o' = o ∧ b ≤ r ∧ r < b + N) := fun d => by
        rcases hN with h | h
        · have q6 := (a4 r hr e).1
          rw [d.1] at q6
          rw [h16 h r d.2.1 d.2.2] at q6
          cases q6
        · subst h
          exact c ⟨d.1, by omega⟩
      rw [(V.1 o' r ho' hr).2, if_neg hno]
      exact a4 r hr e
/-- blocks of bits -/
theorem bk_bits : ∀ p : Nat, p < 32 → ∀ q : Nat, q < 32 → bt (ay_shl (ay_w (ay_shl 1 1 - 1)) ((p - p % 1 : Nat) : Int)) q = decide (p - p % 1 ≤ q ∧ q < p - p % 1 + 1) ∧ bt (ay_shl (ay_w (ay_shl 1 4 - 1)) ((p - p % 4 : Nat) : Int)) q = decide (p - p % 4 ≤ q ∧ q < p - p % 4 + 4) ∧ bt (ay_shl (ay_w (ay_shl 1 16 - 1)) ((p - p % 16 : Nat) : Int)) q = decide (p - p % 16 ≤ q ∧ q < p - p % 16 + 16) := by decide +kernel
def bk (p N : Nat) : Int := ay_shl (ay_w (ay_shl 1 (N : Int) - 1)) ((p - p % N : Nat) : Int)
theorem bk_bt (hN : isN N) (hp : p < 32) (hj : j < 32) : bt (bk p N) j = decide (p - p % N ≤ j ∧ j < p - p % N + N) := by
  obtain ⟨h1, h4, h16⟩ := bk_bits p hp j hj
  unfold bk
  rcases hN with h | h | h <;> subst h
  · exact h1
  · exact h4
  · exact h16
theorem pmod (hN : isN N) (hp : p < 32) : ay_rem (p : Int) (N : Int) = ((p % N : Nat) : Int) := by
  have : N ≤ 16 ∧ 0 < N := by rcases hN with h | h | h <;> omega
  rw [ay_rn' (by omega) (by omega) (by omega) (by omega)]; omega
theorem psub (hN : isN N) (hp : p < 32) : ay_w ((p : Int) - ay_rem (p : Int) (N : Int)) = ((p - p % N : Nat) : Int) := by
  have := Nat.mod_le p N
  rw [pmod hN hp, ay_wi (by omega) (by omega)]; omega
theorem P_blockBits_ok (n : Nat) (hN : isN N) (hp : p < 32) : P_blockBits n p N = some (bk p N) := by
  unfold P_blockBits
  rw [if_neg (by rcases hN with h | h | h <;> omega), psub hN hp]
  rfl
theorem bk_ok : -2147483648 ≤ bk p N ∧ bk p N < 2147483648 := ay_shl_ok _ _
/-- all or none of a block -/
def un (x : Int) (b N : Nat) : Bool := decide (fs (fun k => Bool.xor (bt x (b + k)) (bt x b)) N = N)
theorem un_iff {x : Int} : un x b N = true ↔ ∀ q, b ≤ q → q < b + N → bt x q = bt x b := by
  unfold un
  rw [decide_eq_true_iff, fs_none]
  refine ⟨fun h q h1 h2 => ?_, fun h k hk => ?_⟩
  · have := h (q - b) (by omega)
    rw [show b + (q - b) = q by omega] at this
    revert this
    cases bt x q <;> cases bt x b <;> decide
  · show Bool.xor (bt x (b + k)) (bt x b) = false
    rw [h (b + k) (by omega) (by omega)]
    cases bt x b <;> rfl
theorem P_allOrNone_ok (n : Nat) (x : Int) (hN : isN N) (hp : p < 32) : P_allOrNone n x (bk p N) = some (if un x (p - p % N) N = true then 1 else 0) := by
  unfold P_allOrNone
  have hN16 : N ≤ 16 ∧ 0 < N := by rcases hN with h | h | h <;> omega
  have hb : p - p % N + N ≤ 32 := by rcases hN with h | h | h <;> subst h <;> omega
  have e1 : ay_and x (bk p N) = 0 ↔ ∀ q, p - p % N ≤ q → q < p - p % N + N → bt x q = false := by
    rw [and_z]
    exact ⟨fun h q a b => h q (by omega) (by rw [bk_bt hN hp (by omega)]; exact decide_eq_true ⟨a, b⟩), fun h q hq a => by rw [bk_bt hN hp hq, decide_eq_true_iff] at a; exact h q a.1 a.2⟩
  have e2 : ay_and x (bk p N) = bk p N ↔ ∀ q, p - p % N ≤ q → q < p - p % N + N → bt x q = true := by
    rw [and_s _ _ bk_ok]
    exact ⟨fun h q a b => h q (by omega) (by rw [bk_bt hN hp (by omega)]; exact decide_eq_true ⟨a, b⟩), fun h q hq a => by rw [bk_bt hN hp hq, decide_eq_true_iff] at a; exact h q a.1 a.2⟩
  by_cases c1 : ay_and x (bk p N) = 0
  · have h := e1.mp c1
    rw [if_pos c1, if_pos (un_iff.mpr (fun q h1 h2 => by rw [h q h1 h2, h _ (Nat.le_refl _) (by omega)]))]
  · rw [if_neg c1]
    by_cases c2 : ay_and x (bk p N) = bk p N
    · have h := e2.mp c2
      rw [if_pos c2, if_pos (un_iff.mpr (fun q h1 h2 => by rw [h q h1 h2, h _ (Nat.le_refl _) (by omega)]))]
    · rw [if_neg c2, if_neg (fun q => ?_)]
      rw [un_iff] at q
      cases hx : bt x (p - p % N)
      · exact c1 (e1.mpr (fun r h1 h2 => by rw [q r h1 h2, hx]))
      · exact c2 (e2.mpr (fun r h1 h2 => by rw [q r h1 h2, hx]))
end
