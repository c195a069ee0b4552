/-! Calls that are steps, as calls. -/
section
variable {B Kt : Nat} {z zp : Nat → Nat} {c : Nat → bS} {U : bH} {m : bS} {a1 a2 a3 a4 a5 : Int}
theorem L_object (H : GI z zp B Kt c U m) : ∃ c' U' m', LStep 0 c U m a1 a2 a3 a4 a5 c' U' m' ∧ NX1 B Kt c' U' m' := by
  obtain ⟨v, c', m', z', y1, y2, y3, y4, y5⟩ := object_ok H a1
  exact ⟨c', U, m', ⟨0, 0, v, y1 _ _, y2 _⟩, ⟨z', zp, GI_m (by omega) (by omega) y3⟩⟩
theorem L_touch (H : GI z zp B Kt c U m) (hB : B ≤ 60000) (ha : -2147483648 ≤ a1 ∧ a1 < 2147483648) (ha2 : -2147483648 ≤ a2 ∧ a2 < 2147483648) : ∃ c' U' m', LStep 6 c U m a1 a2 a3 a4 a5 c' U' m' ∧ NX1 B Kt c' U' m' := by
  obtain ⟨v, c', U', m', y1, y2, y3, y4, y5⟩ := touch_ok (m0 := m) (n := 2000) (n' := 2000) H hB ha ha2 (Nat.le_refl _) (Nat.le_refl _)
  exact ⟨c', U', m', ⟨_, _, v, y1, y2⟩, ⟨z, zp, GI_m (by omega) (by omega) y3⟩⟩
theorem L_write (H : GI z zp B Kt c U m) (hB : B ≤ 60000) (ha : -2147483648 ≤ a1 ∧ a1 < 2147483648) (ha2 : -2147483648 ≤ a2 ∧ a2 < 2147483648) : ∃ c' U' m', LStep 7 c U m a1 a2 a3 a4 a5 c' U' m' ∧ NX1 B Kt c' U' m' := by
  obtain ⟨v, c', U', m', y1, y2, y3, y4, y5⟩ := write_ok (m0 := m) (n := 2000) (n' := 2000) (a3 := a3) H hB ha ha2 (Nat.le_refl _) (Nat.le_refl _)
  exact ⟨c', U', m', ⟨_, _, v, y1, y2⟩, ⟨z, zp, GI_m (by omega) (by omega) y3⟩⟩
theorem L_copy (H : GI z zp B Kt c U m) (hB : B ≤ 60000) (ha : -2147483648 ≤ a1 ∧ a1 < 2147483648) (ha2 : -2147483648 ≤ a2 ∧ a2 < 2147483648) (ha3 : -2147483648 ≤ a3 ∧ a3 < 2147483648) (ha4 : -2147483648 ≤ a4 ∧ a4 < 2147483648) : ∃ c' U' m', LStep 8 c U m a1 a2 a3 a4 a5 c' U' m' ∧ NX1 B Kt c' U' m' := by
  obtain ⟨v, c', U', m', y1, y2, y3⟩ := copy_ok (m0 := m) (n := 2000) (n' := 2000) H hB ha ha2 ha3 ha4 (Nat.le_refl _) (Nat.le_refl _)
  exact ⟨c', U', m', ⟨_, _, v, y1, y2⟩, ⟨z, zp, GI_m (by omega) (by omega) y3⟩⟩
theorem L_sweep (H : GI z zp B Kt c U m) (ha : -2147483648 ≤ a1 ∧ a1 < 2147483648) : ∃ c' U' m', LStep 9 c U m a1 a2 a3 a4 a5 c' U' m' ∧ NX1 B Kt c' U' m' := by
  obtain ⟨v, c', U', m', y1, y2, y3, y4, y5⟩ := sweepc_ok (m0 := m) (n := 2000) (n' := 2000) H ha (Nat.le_refl _) (Nat.le_refl _)
  exact ⟨c', U', m', ⟨_, _, v, y1, y2⟩, ⟨z, zp, GI_m (by omega) (by omega) y3⟩⟩
theorem L_empty (H : GI z zp B Kt c U m) : ∃ c' U' m', LStep 10 c U m a1 a2 a3 a4 a5 c' U' m' ∧ NX1 B Kt c' U' m' := by
  obtain ⟨v, c', U', m', y1, y2, y3, y4, y5⟩ := emptyc_ok (m0 := m) (n := 2000) (n' := 2000) H (Nat.le_refl _) (Nat.le_refl _)
  exact ⟨c', U', m', ⟨_, _, v, y1, y2⟩, ⟨z, zp, GI_m (by omega) (by omega) y3⟩⟩
theorem L_drop (H : GI z zp B Kt c U m) (ha : -2147483648 ≤ a1 ∧ a1 < 2147483648) : ∃ c' U' m', LStep 11 c U m a1 a2 a3 a4 a5 c' U' m' ∧ NX1 B Kt c' U' m' := by
  obtain ⟨v, c', U', m', y1, y2, y3, y4, y5⟩ := dropc_ok (m0 := m) (n := 2000) (n' := 2000) H ha (Nat.le_refl _) (Nat.le_refl _)
  exact ⟨c', U', m', ⟨_, _, v, y1, y2⟩, ⟨z, zp, GI_m (by omega) (by omega) y3⟩⟩
end
