/-! Blocks: free, full, held, hollow; what lies in a frame. -/
theorem m32_bits : ∀ f : Nat, f < 32 → bt (ay_w (ay_shl 1 1 - 1)) f = decide (f < 1) ∧ bt (ay_w (ay_shl 1 4 - 1)) f = decide (f < 4) ∧ bt (ay_w (ay_shl 1 16 - 1)) f = decide (f < 16) := by decide +kernel
theorem m32 {N f : Nat} (hN : isN N) : bt (ay_w (ay_shl 1 (N : Int) - 1)) f = decide (f < N) := by
  by_cases hf : f < 32
  · obtain ⟨b1, b4, b16⟩ := m32_bits f hf
    rcases hN with h | h | h <;> subst h
    · exact b1
    · exact b4
    · exact b16
  · rw [bt_ge (by omega), decide_eq_false (by rcases hN with h | h | h <;> omega)]
theorem i01 {c : Prop} [Decidable c] {α : Type} {A B : α} : (if (if c then (1 : Int) else 0) = 0 then A else B) = if c then B else A := by
  by_cases h : c
  · rw [if_pos h, if_pos h, if_neg (by decide)]
  · rw [if_neg h, if_neg h, if_pos rfl]
theorem cn_and_lt (p : Nat → Bool) (k : Nat) : ∀ n, k ≤ n → cn (fun i => p i && decide (i < k)) n = cn p k := fun n h => by
  rw [cn_ext h (fun i h1 _ => by rw [decide_eq_false (by omega), Bool.and_false])]
  exact cn_congr (fun i hi => by rw [decide_eq_true hi, Bool.and_true])
section
variable {n : Nat} {m w : bS} {o p f s N k i : Nat}
theorem R_areFree_ok (I : IF w) (H : RF w (m.2 0)) (hN : isN N) (hk : k * N + N ≤ 64) (hn : 20 ≤ n) : R_areFree n m ((k * N : Nat) : Int) N = some (if fre w N k = true then 1 else 0, m) := by
  unfold R_areFree
  have hN16 : N ≤ 16 := by rcases hN with h | h | h <;> omega
  obtain ⟨q1, q2, q3⟩ := fs_dec (P := fun t => cvs w (k * N + t) < 64) (n := N)
  have hfre : fre w N k = true ↔ fs (fun t => decide (cvs w (k * N + t) < 64)) N = N := decide_eq_true_iff
  generalize hj : fs (fun t => decide (cvs w (k * N + t) < 64)) N = j at q1 q2 q3 hfre
  refine Eq.trans (runs0 (fun n t => R_areFree_2 n m ((k * N : Nat) : Int) N ((k * N + t : Nat) : Int)) j 0 (r := (if fre w N k = true then 1 else 0, m)) (fun n t ht _ => ?_) (fun n _ => ?_) (n := n) (by omega)) rfl
  · show R_areFree_2 (n + 1) m ((k * N : Nat) : Int) N ((k * N + t : Nat) : Int) = R_areFree_2 n m ((k * N : Nat) : Int) N ((k * N + (t + 1) : Nat) : Int)
    rw [R_areFree_2, ay_wi (x := ((k * N : Nat) : Int) + (N : Int)) (by omega) (by omega), if_neg (by omega), bb_s (R_isFree_cv n I H (by omega)), if_neg (q2 t ht), if_neg (by decide), ay_wi (by omega) (by omega), show ((k * N + t : Nat) : Int) + 1 = ((k * N + (t + 1) : Nat) : Int) by omega]
  · show R_areFree_2 (n + 1) m ((k * N : Nat) : Int) N ((k * N + j : Nat) : Int) = _
    rw [R_areFree_2, ay_wi (x := ((k * N : Nat) : Int) + (N : Int)) (by omega) (by omega)]
    by_cases h : j = N
    · rw [if_pos (by omega), if_pos (hfre.mpr h)]
    · rw [if_neg (by omega), bb_s (R_isFree_cv n I H (by omega)), if_pos (q3 (by omega)), if_pos rfl, if_neg (fun q => h (hfre.mp q))]
theorem R_lowestFree_ok (I : IF w) (H : RF w (m.2 0)) (hN : isN N) (hn : 100 ≤ n) : R_lowestFree n m N = some (if fs (fre w N) (64 / N) < 64 / N then ((fs (fre w N) (64 / N) * N : Nat) : Int) else -1, m) := by
  unfold R_lowestFree
  have hle := fs_le (fre w N) (64 / N)
  obtain ⟨q1, q2⟩ := fs_spec (fre w N) (64 / N)
  generalize hj : fs (fre w N) (64 / N) = j at hle q1 q2
  have hj64 : j ≤ 64 := by rcases hN with h | h | h <;> subst h <;> omega
  have key := runs0 (fun n k => R_lowestFree_2 n m N ((k * N : Nat) : Int)) j 20 (r := (if j < 64 / N then ((j * N : Nat) : Int) else -1, m)) (fun n k hk hn => ?_) (fun n hn => ?_) (n := n) (by omega)
  · simp only [Nat.zero_mul] at key
    exact key
  · have hb : k * N + N ≤ 64 := by rcases hN with h | h | h <;> subst h <;> omega
    have h64 : k * N < 64 := by rcases hN with h | h | h <;> subst h <;> omega
    have hs1 : (k + 1) * N = k * N + N := Nat.succ_mul k N
    show R_lowestFree_2 (n + 1) m N ((k * N : Nat) : Int) = R_lowestFree_2 n m N (((k + 1) * N : Nat) : Int)
    rw [R_lowestFree_2, if_neg (by omega), bb_s (R_areFree_ok I H hN hb hn), i01, if_neg (by rw [q1 k hk]; decide), ay_wi (by omega) (by omega), show ((k * N : Nat) : Int) + (N : Int) = (((k + 1) * N : Nat) : Int) by omega]
  · show R_lowestFree_2 (n + 1) m N ((j * N : Nat) : Int) = _
    rw [R_lowestFree_2]
    by_cases hc : j < 64 / N
    · have hb : j * N + N ≤ 64 := by rcases hN with h | h | h <;> subst h <;> omega
      have h64 : j * N < 64 := by rcases hN with h | h | h <;> subst h <;> omega
      rw [if_neg (by omega), bb_s (R_areFree_ok I H hN hb hn), if_pos (q2 hc), if_neg (by decide), if_pos hc]
    · have h64 : 64 ≤ j * N := by rcases hN with h | h | h <;> subst h <;> omega
      rw [if_pos (by omega), if_neg hc]
theorem R_holesOf_ok (I : IF w) (H : RF w (m.2 0)) (hN : isN N) (hn : 100 ≤ n) : R_holesOf n m N = some (((cn (fre w N) (64 / N) : Nat) : Int), m) := by
  unfold R_holesOf
  have h64N : 64 / N ≤ 64 ∧ 64 / N * N = 64 := by rcases hN with h | h | h <;> subst h <;> decide
  generalize hj : 64 / N = j at h64N
  have key := runs0 (fun n k => R_holesOf_4 n m N ((cn (fre w N) k : Nat) : Int) ((k * N : Nat) : Int)) j 20 (r := (((cn (fre w N) j : Nat) : Int), m)) (fun n k hk hn => ?_) (fun n hn => ?_) (n := n) (by omega)
  · simp only [Nat.zero_mul] at key
    exact key
  · have hb : k * N + N ≤ 64 := by
      have : (k + 1) * N ≤ j * N := Nat.mul_le_mul_right N hk
      rw [Nat.succ_mul] at this; omega
    have hl := cn_le (fre w N) k
    have hN16 : N ≤ 16 ∧ 0 < N := by rcases hN with h | h | h <;> omega
    have hs1 : (k + 1) * N = k * N + N := Nat.succ_mul k N
    show R_holesOf_4 (n + 1) m N ((cn (fre w N) k : Nat) : Int) ((k * N : Nat) : Int) = R_holesOf_4 n m N ((cn (fre w N) (k + 1) : Nat) : Int) (((k + 1) * N : Nat) : Int)
    rw [R_holesOf_4, if_neg (by omega), bb_s (R_areFree_ok I H hN hb hn), cn_s]
    simp (disch := omega) only [ay_wi]
    rw [show ((k * N : Nat) : Int) + (N : Int) = (((k + 1) * N : Nat) : Int) by omega]
    by_cases h : fre w N k = true
    · rw [if_pos h, if_pos h, if_neg (by decide)]; rfl
    · rw [if_neg h, if_neg h, if_pos rfl]; rfl
  · show R_holesOf_4 (n + 1) m N ((cn (fre w N) j : Nat) : Int) ((j * N : Nat) : Int) = _
    rw [R_holesOf_4, if_pos (by omega)]
theorem W_freeBlocks_ok (I : IF w) (hN : isN N) (hn : 140 ≤ n) : W_freeBlocks n w N = some (((cn (fre w N) (64 / N) : Nat) : Int), w) := by
  unfold W_freeBlocks
  rw [bb_s (W_busyFrames_ok I (by omega))]
  have h64N : 64 / N ≤ 64 ∧ 64 / N * N = 64 := by rcases hN with h | h | h <;> subst h <;> decide
  have hst : (if (1 : Int) < (N : Int) then (N : Int) else 1) = (N : Int) := by rcases hN with h | h | h <;> subst h <;> rfl
  generalize hj : 64 / N = j at h64N
  have key := runs0 (fun n k => W_freeBlocks_11 n w N (bz w 64) ((cn (fre w N) k : Nat) : Int) ((k * N : Nat) : Int)) j 0 (r := (((cn (fre w N) j : Nat) : Int), w)) (fun n k hk _ => ?_) (fun n _ => ?_) (n := n) (by omega)
  · simp only [Nat.zero_mul] at key
    exact key
  · have hb : k * N + N ≤ 64 := by
      have : (k + 1) * N ≤ j * N := Nat.mul_le_mul_right N hk
      rw [Nat.succ_mul] at this; omega
    have hl := cn_le (fre w N) k
    have hN16 : N ≤ 16 ∧ 0 < N := by rcases hN with h | h | h <;> omega
    have hs1 : (k + 1) * N = k * N + N := Nat.succ_mul k N
    show W_freeBlocks_11 (n + 1) w N (bz w 64) ((cn (fre w N) k : Nat) : Int) ((k * N : Nat) : Int) = W_freeBlocks_11 n w N (bz w 64) ((cn (fre w N) (k + 1) : Nat) : Int) (((k + 1) * N : Nat) : Int)
    rw [W_freeBlocks_11, if_neg (by omega), cn_s]
    unfold W_freeBlocks_36
    rw [hst]
    simp (disch := omega) only [ay_wi]
    rw [show ((k * N : Nat) : Int) + (N : Int) = (((k + 1) * N : Nat) : Int) by omega]
    by_cases h : fre w N k = true
    · rw [if_pos ((blk_free I hN hb).mpr h), if_pos h]; rfl
    · rw [if_neg (fun q => h ((blk_free I hN hb).mp q)), if_neg h]; rfl
  · show W_freeBlocks_11 (n + 1) w N (bz w 64) ((cn (fre w N) j : Nat) : Int) ((j * N : Nat) : Int) = _
    rw [W_freeBlocks_11, if_pos (by omega)]
/-- a page there in a frame -/
def pgs (w : bS) (s t : Nat) : Bool := thr w (hom w s / 32) (hom w s % 32 + t)
def ful (w : bS) (f : Nat) : Bool := decide (cvs w f < 64) && pgs w (cvs w f) (f - cvs w f)
theorem R_isFull_ok (n : Nat) (I : IF w) (HF : RF w (m.2 0)) (HP : RP w (m.2 0)) (hf : f < 64) : R_isFull n m f = some (if ful w f = true then 1 else 0, m) := by
  unfold ful
  by_cases h : cvs w f < 64
  · rw [R_isFull_in n I HF HP hf h (cvs_in h), decide_eq_true h, Bool.true_and]; rfl
  · rw [R_isFull_out n HF hf (cvs_no h), decide_eq_false h, Bool.false_and]; rfl
theorem ful_in (I : IF w) (hs : s < 64) (ht : k < spn w s) : ful w (s + k) = pgs w s k := by
  have hin : inF w (s + k) s := ⟨by omega, by omega⟩
  have hf := (I.in hs hin).2
  unfold ful
  rw [cvs_eq I hf hs hin, decide_eq_true hs, Bool.true_and, show s + k - s = k by omega]
/-- how many pages are there of what begins at a slot -/
def hld (w : bS) (s : Nat) : Nat := cn (pgs w s) (spn w s)
theorem R_holdsOf_ok (I : IF w) (HF : RF w (m.2 0)) (HP : RP w (m.2 0)) (hs : s < 64) (h0 : 0 < spn w s) (hn : 20 ≤ n) : R_holdsOf n m s = some ((hld w s : Int), m) := by
  have ha := I.at hs h0
  have hS : spn w s ≤ 16 := by rcases (I.1 s hs).2.2.1 with h | h | h | h <;> omega
  unfold R_holdsOf hld
  have key := runs0 (fun n t => R_holdsOf_4 n m s ((cn (pgs w s) t : Nat) : Int) ((s + t : Nat) : Int)) (spn w s) 0 (r := (((cn (pgs w s) (spn w s) : Nat) : Int), m)) (fun n t ht _ => ?_) (fun n _ => ?_) (n := n) (by omega)
  · exact key
  · have hl := cn_le (pgs w s) t
    show R_holdsOf_4 (n + 1) m s ((cn (pgs w s) t : Nat) : Int) ((s + t : Nat) : Int) = R_holdsOf_4 n m s ((cn (pgs w s) (t + 1) : Nat) : Int) ((s + (t + 1) : Nat) : Int)
    rw [R_holdsOf_4, bb_s (R_frameAt_ok n m hs (by omega) (by omega)), show m.2 0 (914 + 5 * s + (3 : Int).toNat) = (spn w s : Int) from (HF.2.1 s hs h0).2.2.1]
    simp (disch := omega) only [ay_wi]
    rw [if_neg (by omega), bb_s (R_isFull_ok n I HF HP (by omega)), ful_in I hs ht, cn_s, show ((s + t : Nat) : Int) + 1 = ((s + (t + 1) : Nat) : Int) by omega]
    by_cases h : pgs w s t = true
    · rw [if_pos h, if_pos h, if_neg (by decide)]; rfl
    · rw [if_neg h, if_neg h, if_pos rfl]; rfl
  · show R_holdsOf_4 (n + 1) m s ((cn (pgs w s) (spn w s) : Nat) : Int) ((s + spn w s : Nat) : Int) = _
    rw [R_holdsOf_4, bb_s (R_frameAt_ok n m hs (by omega) (by omega)), show m.2 0 (914 + 5 * s + (3 : Int).toNat) = (spn w s : Int) from (HF.2.1 s hs h0).2.2.1]
    simp (disch := omega) only [ay_wi]
    rw [if_pos (by omega)]
theorem hd32 (h : f < 128) : ay_w (Int.tdiv (f : Int) 32) = ((f / 32 : Nat) : Int) := by rw [ay_dn (by omega) (by omega) (by omega)]; omega
theorem hm32 (h : f < 128) : ay_rem (f : Int) 32 = ((f % 32 : Nat) : Int) := by rw [ay_rn' (by omega) (by omega) (by omega) (by omega)]; omega
theorem isN_of (I : IF w) (hs : s < 64) (h0 : 0 < spn w s) : isN (spn w s) := by
  rcases (I.1 s hs).2.2.1 with h | h | h | h
  · omega
  · exact Or.inl h
  · exact Or.inr (Or.inl h)
  · exact Or.inr (Or.inr h)
theorem W_holds_ok (n : Nat) (I : IF w) (hs : s < 64) (h0 : 0 < spn w s) : W_holds n w s = some ((hld w s : Int), w) := by
  obtain ⟨a1, a2, a3, a4, a5⟩ := I.1 s hs
  have ha := I.at hs h0
  unfold W_holds
  rw [Int.toNat_natCast, a1, a2, hd32 a4, hm32 a4, if_pos (by omega), if_pos (by omega), if_pos (by omega), if_pos (by omega), Int.toNat_natCast, b1_s (bitCount_ok n _)]
  unfold hld
  congr 3
  rw [← cn_and_lt (pgs w s) (spn w s) 32 (by omega)]
  exact cn_congr (fun i hi => by rw [bt_and, bt_ushr _ (by omega), m32 (isN_of I hs h0)]; rfl)
/-- the block of a reservation that starts at its k-th N is empty -/
def emp (w : bS) (s N k : Nat) : Bool := decide (fs (fun t => pgs w s (k * N + t)) N = N)
theorem emp_iff : emp w s N k = true ↔ ∀ t, t < N → pgs w s (k * N + t) = false := by
  unfold emp; rw [decide_eq_true_iff, fs_none]
theorem R_areEmpty_ok (I : IF w) (HF : RF w (m.2 0)) (HP : RP w (m.2 0)) (hN : isN N) (hs : s < 64) (hk : k * N + N ≤ spn w s) (hn : 20 ≤ n) : R_areEmpty n m ((s + k * N : Nat) : Int) N = some (if emp w s N k = true then 1 else 0, m) := by
  unfold R_areEmpty
  have hN16 : N ≤ 16 ∧ 0 < N := by rcases hN with h | h | h <;> omega
  have ha := I.at hs (show 0 < spn w s by omega)
  obtain ⟨q2, q3⟩ := fs_spec (fun t => pgs w s (k * N + t)) N
  have q1 := fs_le (fun t => pgs w s (k * N + t)) N
  have hemp : emp w s N k = true ↔ fs (fun t => pgs w s (k * N + t)) N = N := decide_eq_true_iff
  generalize hj : fs (fun t => pgs w s (k * N + t)) N = j at q1 q2 q3 hemp
  refine Eq.trans (runs0 (fun n t => R_areEmpty_2 n m ((s + k * N : Nat) : Int) N ((s + k * N + t : Nat) : Int)) j 0 (r := (if emp w s N k = true then 1 else 0, m)) (fun n t ht _ => ?_) (fun n _ => ?_) (n := n) (by omega)) rfl
  · have hq : pgs w s (k * N + t) = false := q2 t ht
    show R_areEmpty_2 (n + 1) m ((s + k * N : Nat) : Int) N ((s + k * N + t : Nat) : Int) = R_areEmpty_2 n m ((s + k * N : Nat) : Int) N ((s + k * N + (t + 1) : Nat) : Int)
    rw [R_areEmpty_2, ay_wi (x := ((s + k * N : Nat) : Int) + (N : Int)) (by omega) (by omega), if_neg (by omega), bb_s (R_isFull_ok n I HF HP (by omega)), show s + k * N + t = s + (k * N + t) by omega, ful_in I hs (by omega), hq, i01, if_neg (by decide), ay_wi (by omega) (by omega), show ((s + (k * N + t) : Nat) : Int) + 1 = ((s + k * N + (t + 1) : Nat) : Int) by omega]
  · show R_areEmpty_2 (n + 1) m ((s + k * N : Nat) : Int) N ((s + k * N + j : Nat) : Int) = _
    rw [R_areEmpty_2, ay_wi (x := ((s + k * N : Nat) : Int) + (N : Int)) (by omega) (by omega)]
    by_cases h : j = N
    · rw [if_pos (by omega), if_pos (hemp.mpr h)]
    · have hq : pgs w s (k * N + j) = true := q3 (by omega)
      rw [if_neg (by omega), bb_s (R_isFull_ok n I HF HP (by omega)), show s + k * N + j = s + (k * N + j) by omega, ful_in I hs (by omega), hq, if_pos rfl, if_neg (by decide), if_neg (fun q => h (hemp.mp q))]
theorem W_hollow_ok (I : IF w) (hs : s < 64) (h0 : 0 < spn w s) (hN : isN N) (hn : 20 ≤ n) : W_hollow n w s N = some (if fs (emp w s N) (spn w s / N) < spn w s / N then ((s + fs (emp w s N) (spn w s / N) * N : Nat) : Int) else -1, w) := by
  obtain ⟨a1, a2, a3, a4, a5⟩ := I.1 s hs
  have ha := I.at hs h0
  unfold W_hollow
  rw [Int.toNat_natCast, a2, hd32 a4, hm32 a4, if_pos (by omega), if_pos (by omega), if_pos (by omega), Int.toNat_natCast]
  have hN16 : N ≤ 16 ∧ 0 < N := by rcases hN with h | h | h <;> omega
  have hst : (if (1 : Int) < (N : Int) then (N : Int) else 1) = (N : Int) := by rcases hN with h | h | h <;> subst h <;> rfl
  have hle := fs_le (emp w s N) (spn w s / N)
  obtain ⟨q1, q2⟩ := fs_spec (emp w s N) (spn w s / N)
  generalize hj : fs (emp w s N) (spn w s / N) = j at hle q1 q2
  have hj16 : j ≤ 16 ∧ j * N ≤ 16 := by
    have h1 : j * N ≤ spn w s / N * N := Nat.mul_le_mul_right N hle
    have h2 : spn w s / N * N ≤ spn w s := Nat.div_mul_le_self _ _
    have h3 : j ≤ j * N := Nat.le_mul_of_pos_right j hN16.2
    omega
  have test : ∀ k, k * N + N ≤ spn w s → (ay_and (ay_ushr (ay_ushr (w.2 6 (hom w s / 32)) ((hom w s % 32 : Nat) : Int)) ((k * N : Nat) : Int)) (ay_w (ay_shl 1 (N : Int) - 1)) = 0 ↔ emp w s N k = true) := fun k hk => by
    rw [and_z, emp_iff]
    refine ⟨fun h t ht => ?_, fun h p hp hy => ?_⟩
    · have := h t (by omega) (by rw [m32 hN, decide_eq_true ht])
      rw [bt_ushr _ (by omega), bt_ushr _ (by omega)] at this
      exact this
    · rw [m32 hN, decide_eq_true_iff] at hy
      rw [bt_ushr _ (by omega), bt_ushr _ (by omega)]
      exact h p hy
  have key := runs0 (fun n k => W_hollow_28 n w s N (ay_ushr (w.2 6 (hom w s / 32)) ((hom w s % 32 : Nat) : Int)) ((k * N : Nat) : Int)) j 0 (r := (if j < spn w s / N then ((s + j * N : Nat) : Int) else -1, w)) (fun n k hk _ => ?_) (fun n _ => ?_) (n := n) (by omega)
  · simp only [Nat.zero_mul] at key
    exact key
  · have hb : k * N + N ≤ spn w s := by
      have h1 : (k + 1) * N ≤ spn w s / N * N := Nat.mul_le_mul_right N (by omega)
      have h2 : spn w s / N * N ≤ spn w s := Nat.div_mul_le_self _ _
      rw [Nat.succ_mul] at h1; omega
    have hs1 : (k + 1) * N = k * N + N := Nat.succ_mul k N
    show W_hollow_28 (n + 1) w s N (ay_ushr (w.2 6 (hom w s / 32)) ((hom w s % 32 : Nat) : Int)) ((k * N : Nat) : Int) = W_hollow_28 n w s N (ay_ushr (w.2 6 (hom w s / 32)) ((hom w s % 32 : Nat) : Int)) (((k + 1) * N : Nat) : Int)
    rw [W_hollow_28, if_pos (by omega), Int.toNat_natCast, a1, ay_wi (x := ((k * N : Nat) : Int) + (N : Int)) (by omega) (by omega), if_neg (by omega), if_neg (by rw [test k hb, q1 k hk]; decide), hst, ay_wi (by omega) (by omega), show ((k * N : Nat) : Int) + (N : Int) = (((k + 1) * N : Nat) : Int) by omega]
  · show W_hollow_28 (n + 1) w s N (ay_ushr (w.2 6 (hom w s / 32)) ((hom w s % 32 : Nat) : Int)) ((j * N : Nat) : Int) = _
    rw [W_hollow_28, if_pos (by omega), Int.toNat_natCast, a1, ay_wi (x := ((j * N : Nat) : Int) + (N : Int)) (by omega) (by omega)]
    by_cases hc : j < spn w s / N
    · have hb : j * N + N ≤ spn w s := by
        have h1 : (j + 1) * N ≤ spn w s / N * N := Nat.mul_le_mul_right N (by omega)
        have h2 : spn w s / N * N ≤ spn w s := Nat.div_mul_le_self _ _
        rw [Nat.succ_mul] at h1; omega
      rw [if_neg (by omega), if_pos ((test j hb).mpr (q2 hc)), if_pos hc, ay_wi (by omega) (by omega)]
      congr 2
    · have hb : spn w s < j * N + N := by
        have e : j = spn w s / N := by omega
        have := Nat.lt_div_mul_add (a := spn w s) hN16.2
        rw [e]; exact this
      rw [if_pos (by omega), if_neg hc]
end
