/-! Copies: who is let go. -/
section
variable {n n' : Nat} {m m' m0 m1 w w' w1 w2 w0 kk k1 xx tt tx : bS} {z : Nat → Nat} {a b' : Nat → Int} {o p f s N k i h g j T b c M q B : Nat} {t v x : Int}
theorem GX_g (X : GX z w a T) (e1 : ∀ j, j ≠ 13 → w'.1 j = w.1 j) (e2 : ∀ j, j ≠ 11 → w'.2 j = w.2 j) (ea : ∀ i, i < 15 ∨ 18 ≤ i → b' i = a i) (hg : RG w' b' ∨ w'.1 13 = 0) : GX z w' b' T := by
  obtain ⟨G, U, V, S, Q, ⟨x1, x2, x3⟩, x4, x5⟩ := X
  obtain ⟨R, I, T', J, hT, hT2⟩ := id G
  have ht : thr w' = thr w := by funext x y; unfold thr; rw [e2 6 (by omega)]
  have hsp : spn w' = spn w := by funext x; unfold spn; rw [e2 4 (by omega)]
  have hho : hom w' = hom w := by funext x; unfold hom; rw [e2 3 (by omega)]
  refine ⟨⟨⟨?_, ?_, ?_, ?_, hg⟩, ?_, ?_, ?_, ?_, hT2⟩, ?_, ?_, ?_, ?_, ⟨?_, ?_, ?_⟩, ?_, ?_⟩
  · exact RF_c (fun i h1 h2 => ea i (by omega)) (RF_eq (e2 3 (by omega)) (e2 4 (by omega)) (e2 5 (by omega)) R.1)
  · exact RP_c (fun i h1 h2 => ea i (by omega)) (RP_w (e2 0 (by omega)) (e2 1 (by omega)) (e2 2 (by omega)) (e2 6 (by omega)) (e2 7 (by omega)) (e2 8 (by omega)) (e2 9 (by omega)) R.2.1)
  · exact RB_c (ea 14 (by omega)) (fun i h1 h2 => ea i (by omega)) (RB_w (e1 12 (by omega)) (e2 10 (by omega)) R.2.2.1)
  · rw [e1 14 (by omega), ea 10 (by omega)]; exact R.2.2.2.1
  · exact IF_eq (e2 3 (by omega)) (e2 4 (by omega)) I
  · unfold IT; rw [ht, hvs_same (e2 3 (by omega)) (e2 4 (by omega))]; exact T'
  · exact IL_same (e2 3 (by omega)) (e2 4 (by omega)) (e2 6 (by omega)) (e2 7 (by omega)) (e2 8 (by omega)) (e2 9 (by omega)) J
  · rw [e1 14 (by omega)]; exact hT
  · unfold IU; rw [e2 2 (by omega)]; exact U
  · unfold IV; rw [ht, e2 0 (by omega), e2 1 (by omega)]; exact V
  · unfold SZ; rw [ht, hsp, hho]; exact S
  · unfold IS; rw [hsp, e2 5 (by omega)]; exact Q
  · rw [e1 15 (by omega), ea 11 (by omega)]; exact x1
  · rw [e1 16 (by omega), ea 12 (by omega)]; exact x2
  · rw [e1 17 (by omega), ea 13 (by omega)]; exact x3
  · rw [ea 11 (by omega)]; exact x4
  · rw [ea 12 (by omega)]; exact x5
/-- one more is let go -/
def lgw (w : bS) (G : Nat) (v : Int) : bS := bI (bA w 11 (G : Int) v) 13 ((G + 1 : Nat) : Int)
theorem lgw_1 (h : j ≠ 13) : (lgw w g v).1 j = w.1 j := bI_1 h
theorem lgw_13 : (lgw w g v).1 13 = ((g + 1 : Nat) : Int) := bI_e
theorem lgw_2 (h : j ≠ 11) : (lgw w g v).2 j = w.2 j := by
  show (bA w 11 (g : Int) v).2 j = w.2 j
  exact bA_2 h
theorem lgw_11 (hg : g < 1000000) : (lgw w g v).2 11 i = if i = g then v else w.2 11 i := by
  show (bA w 11 (g : Int) v).2 11 i = _
  exact bA_e hg
theorem K_letGo_ok (I : IF w) (T' : IT w) (ho : o < 4) (hp : p < 32) (th : thr w o p = true) (hg : g < 2) (h13 : w.1 13 = (g : Int)) (hn : 66 ≤ n) : K_letGo tt n (kk, w, xx) ((32 * o + p : Nat) : Int) = some (0, (kk, lgw w g ((frm w (32 * o + p) : Nat) : Int), xx)) := by
  unfold K_letGo
  dsimp only
  rw [h13, if_neg (by omega), hd32 (show 32 * o + p < 128 by omega), hm32 (show 32 * o + p < 128 by omega), show (32 * o + p) / 32 = o by omega, show (32 * o + p) % 32 = p by omega, bb_s (W_frameOf_frm I T' ho hp th hn), if_pos (by omega)]
  show some ((0 : Int), (kk, bI (bA w 11 (g : Int) ((frm w (32 * o + p) : Nat) : Int)) 13 (ay_w (w.1 13 + 1)), xx)) = _
  rw [h13, wad1 (by omega)]
  rfl
end
