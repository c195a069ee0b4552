/-! Numbers of a world that change alone. -/
section
variable {n n' : Nat} {m m' m0 m1 w w' w1 w2 w0 kk k1 xx tt tx : bS} {z : Nat → Nat} {a b' : Nat → Int} {o p f s N k i h g j T b c M q B : Nat} {t v x : Int}
theorem GX_n (X : GX z w a T) (e2 : w'.2 = w.2) (e1 : ∀ j, j ≠ 15 → j ≠ 16 → w'.1 j = w.1 j) (ea : ∀ i, i ≠ 11 → i ≠ 12 → b' i = a i) (c1 : w'.1 15 = b' 11 ∨ w'.1 15 = nxx (b' 11)) (c2 : w'.1 16 = b' 12 ∨ w'.1 16 = b' 12 + 1) (c3 : 0 ≤ b' 11 ∧ b' 11 < 31121) (c4 : 0 ≤ b' 12 ∧ b' 12 ≤ 9999) : GX z w' b' T := by
  obtain ⟨G, U, V, S, Q, ⟨x1, x2, x3⟩, x4, x5⟩ := X
  obtain ⟨R, I, T', J, hT, hT2⟩ := id G
  have r : ∀ j, w'.2 j = w.2 j := fun j => by rw [e2]
  have ht : thr w' = thr w := by funext x y; unfold thr; rw [r 6]
  have hsp : spn w' = spn w := by funext x; unfold spn; rw [r 4]
  have hho : hom w' = hom w := by funext x; unfold hom; rw [r 3]
  refine ⟨⟨⟨?_, ?_, ?_, ?_⟩, ?_, ?_, ?_, ?_, hT2⟩, ?_, ?_, ?_, ?_, ⟨c1, c2, ?_⟩, c3, c4⟩
  · exact RF_c (fun i h1 h2 => ea i (by omega) (by omega)) (RF_eq (r 3) (r 4) (r 5) R.1)
  · exact RP_c (fun i h1 h2 => ea i (by omega) (by omega)) (RP_w (r 0) (r 1) (r 2) (r 6) (r 7) (r 8) (r 9) R.2.1)
  · exact RB_c (ea 14 (by omega) (by omega)) (fun i h1 h2 => ea i (by omega) (by omega)) (RB_w (e1 12 (by omega) (by omega)) (r 10) R.2.2.1)
  · refine ⟨by rw [e1 14 (by omega) (by omega), ea 10 (by omega) (by omega)]; exact R.2.2.2.1, R.2.2.2.2.imp (fun H => RG_w (e1 13 (by omega) (by omega)) (r 11) (RG_c (fun i h1 h2 => ea i (by omega) (by omega)) H)) (fun H => by rw [e1 13 (by omega) (by omega)]; exact H)⟩
  · exact IF_eq (r 3) (r 4) I
  · unfold IT; rw [ht, hvs_same (r 3) (r 4)]; exact T'
  · exact IL_same (r 3) (r 4) (r 6) (r 7) (r 8) (r 9) J
  · rw [e1 14 (by omega) (by omega)]; exact hT
  · unfold IU; rw [r 2]; exact U
  · unfold IV; rw [ht, r 0, r 1]; exact V
  · unfold SZ; rw [ht, hsp, hho]; exact S
  · unfold IS; rw [hsp, r 5]; exact Q
  · rw [e1 17 (by omega) (by omega), ea 13 (by omega) (by omega)]; exact x3
theorem Mq.bIx (Q : Mq m m') : Mq (bI m k v) (bI m' k v) := by
  refine ⟨?_, Q.2⟩
  show (fun j => bif Nat.beq j k then v else m'.1 j) = (fun j => bif Nat.beq j k then v else m.1 j)
  rw [Q.1]
theorem Mq.bI24 (Q : Mq m m') (e : t = v) : Mq (bI m 24 (ay_w (m.1 24 + t))) (bI m' 24 (ay_w (m'.1 24 + v))) := by
  rw [e, Q.1]; exact Q.bIx
/-- what a day leaves as it was of the row -/
def Rd (a a' : Nat → Int) : Prop := ∀ i, i < 10 ∨ 1259 ≤ i → a' i = a i
theorem Rd.tr {c : Nat → Int} (h1 : Rd a b') (h2 : Rd b' c) : Rd a c := fun i hi => (h2 i hi).trans (h1 i hi)
theorem Ra.rd (H : Ra a b') : Rd a b' := fun i hi => H i (by omega)
theorem TO.rd (H : TO z tt a) (R : Rd a b') : TO z tt b' := TO_c (fun i hi => R i (by omega)) H
theorem sh2 : ∀ v : Nat, v < 3 → ay_shl 1 (ay_w (2 * (v : Int))) = (((if v = 0 then 1 else if v = 1 then 4 else 16) : Nat) : Int) := by decide +kernel
end
