/-! The claim out of the pure claim and the text constants' methods. -/
set_option maxHeartbeats 4000000 in
theorem whole_start_of (FS : ax_FS) (LAW : ax_Law) {p : Program} {e : Env} {s : State} {m : MethodId} {below : List Frame} {meth : Method} {c : Code} (l : Launch) {b L : Nat} {xs : Nat → Int32} (hL : L ≤ 3072) (C0 : lw_At p s m meth c b L xs) : W p l e room_1 s m #[Value.ref b] below meth c s.heap [] 0 0 (lw_Z below #[Value.ref b] s) (entryFrame m ([Value.ref b] : List Value).toArray 4) := by
  obtain ⟨G, hG1, hG2, C⟩ := ax_start C0
  obtain ⟨hx, hb, hr0, hml, hown, hts, hX, hbl, hlocks, hgv⟩ := C0
  obtain ⟨n, h', hr, hc, hs⟩ := LAW L xs hL
  have hc := Nat.le_trans hc (show 2500 ≤ room_1.cells by decide +kernel)
  have hs := Nat.le_trans hs (show 500000 ≤ room_1.slots by decide +kernel)
  have F := ax_ff_all FS
  have eA : ([Value.ref b] : List Value) = [Value.ref 0].map (ax_cv G) := by rw [← hG1]; rfl
  rw [eA, lg_entry_eq]
  refine (ax_main F l G (L, xs) n 30 308 0 _ [] [] _ h' hr).2 p e room_1 s m _ below meth c _ _ s.heap [] 0 0 h'.length (ax_hsz h') (by decide) (by decide) hc hs (by rw [← eA]; exact C) (ax_Lv.entry (As := [.ref 0]) (nL := 4) (by decide)) ⟨by rw [hG2]; rfl, fun k e he => by cases he⟩ va_S.rf (by simp) (by simp [ax_hsz]) ?_
  intro pc1 i st1 lsM1 H1 locs1 hf he hR1 hS1
  obtain ⟨len, hd, hln⟩ := F.1.2.2.2.1 308 pc1 i hf
  have key : i = .ireturn ∧ st1 = [.int 1] := by
    unfold ax_end at he
    split at he
    · split at he
      · split at he
        · rename_i hk; exact absurd hk (by decide +kernel)
        · split at he
          · cases he
          · split at he
            · rename_i hv; subst hv; exact ⟨rfl, rfl⟩
            · cases he
        · cases he
      · cases he
    · split at he
      · rcases ax_bif_s he with ⟨hk, he⟩ | ⟨_, he⟩ <;> cases he
      · cases he
    · split at he
      · rcases ax_bif_s he with ⟨hk, he⟩ | ⟨_, he⟩ <;> cases he
      · rcases ax_bif_s he with ⟨hk, he⟩ | ⟨_, he⟩ <;> cases he
      · cases he
    · split at he
      · rcases ax_bif_s he with ⟨hk, he⟩ | ⟨_, he⟩ <;> cases he
      · cases he
    · cases he
  obtain ⟨rfl, rfl⟩ := key
  obtain rfl := Nat.eq_of_beq_eq_true hln
  rw [← eA]
  refine va_forget (fun q hq => by have := hS1.2.2 q hq; rw [← hG2]; exact this) ?_
  refine W.widen hc hs ?_
  exact lw_ret hx hb hr0 hlocks hd
