/-! From the law's entry to the abstract machine. -/
def ax_Pd (m : Nat) : Prop := ∀ pc, ax_Gd (ax_mt m).2.1 (ax_maxL m) pc (ax_fetch m pc)
theorem ax_fdA_24 : ∀ a, a < 24 → ax_Pd a := lt_s (lt_s (lt_s (lt_s (lt_s (lt_s (lt_s (lt_s (lt_s (lt_s (lt_s (lt_s (lt_s (lt_s (lt_s (lt_s (lt_s (lt_s (lt_s (lt_s (lt_s (lt_s (lt_s (lt_s (lt_0) (ax_d0)) (ax_d1)) (ax_d2)) (ax_d3)) (ax_d4)) (ax_d5)) (ax_d6)) (ax_d7)) (ax_d8)) (ax_d9)) (ax_d10)) (ax_d11)) (ax_d12)) (ax_d13)) (ax_d14)) (ax_d15)) (ax_d16)) (ax_d17)) (ax_d18)) (ax_d19)) (ax_d20)) (ax_d21)) (ax_d22)) (ax_d23)
theorem ax_fdA_48 : ∀ a, a < 48 → ax_Pd a := lt_s (lt_s (lt_s (lt_s (lt_s (lt_s (lt_s (lt_s (lt_s (lt_s (lt_s (lt_s (lt_s (lt_s (lt_s (lt_s (lt_s (lt_s (lt_s (lt_s (lt_s (lt_s (lt_s (lt_s (ax_fdA_24) (ax_d24)) (ax_d25)) (ax_d26)) (ax_d27)) (ax_d28)) (ax_d29)) (ax_d30)) (ax_d31)) (ax_d32)) (ax_d33)) (ax_d34)) (ax_d35)) (ax_d36)) (ax_d37)) (ax_d38)) (ax_d39)) (ax_d40)) (ax_d41)) (ax_d42)) (ax_d43)) (ax_d44)) (ax_d45)) (ax_d46)) (ax_d47)
theorem ax_fdA_72 : ∀ a, a < 72 → ax_Pd a := lt_s (lt_s (lt_s (lt_s (lt_s (lt_s (lt_s (lt_s (lt_s (lt_s (lt_s (lt_s (lt_s (lt_s (lt_s (lt_s (lt_s (lt_s (lt_s (lt_s (lt_s (lt_s (lt_s (lt_s (ax_fdA_48) (ax_d48)) (ax_d49)) (ax_d50)) (ax_d51)) (ax_d52)) (ax_d53)) (ax_d54)) (ax_d55)) (ax_d56)) (ax_d57)) (ax_d58)) (ax_d59)) (ax_d60)) (ax_d61)) (ax_d62)) (ax_d63)) (ax_d64)) (ax_d65)) (ax_d66)) (ax_d67)) (ax_d68)) (ax_d69)) (ax_d70)) (ax_d71)
theorem ax_fdA_96 : ∀ a, a < 96 → ax_Pd a := lt_s (lt_s (lt_s (lt_s (lt_s (lt_s (lt_s (lt_s (lt_s (lt_s (lt_s (lt_s (lt_s (lt_s (lt_s (lt_s (lt_s (lt_s (lt_s (lt_s (lt_s (lt_s (lt_s (lt_s (ax_fdA_72) (ax_d72)) (ax_d73)) (ax_d74)) (ax_d75)) (ax_d76)) (ax_d77)) (ax_d78)) (ax_d79)) (ax_d80)) (ax_d81)) (ax_d82)) (ax_d83)) (ax_d84)) (ax_d85)) (ax_d86)) (ax_d87)) (ax_d88)) (ax_d89)) (ax_d90)) (ax_d91)) (ax_d92)) (ax_d93)) (ax_d94)) (ax_d95)
theorem ax_fdA_120 : ∀ a, a < 120 → ax_Pd a := lt_s (lt_s (lt_s (lt_s (lt_s (lt_s (lt_s (lt_s (lt_s (lt_s (lt_s (lt_s (lt_s (lt_s (lt_s (lt_s (lt_s (lt_s (lt_s (lt_s (lt_s (lt_s (lt_s (lt_s (ax_fdA_96) (ax_d96)) (ax_d97)) (ax_d98)) (ax_d99)) (ax_d100)) (ax_d101)) (ax_d102)) (ax_d103)) (ax_d104)) (ax_d105)) (ax_d106)) (ax_d107)) (ax_d108)) (ax_d109)) (ax_d110)) (ax_d111)) (ax_d112)) (ax_d113)) (ax_d114)) (ax_d115)) (ax_d116)) (ax_d117)) (ax_d118)) (ax_d119)
theorem ax_fdA_144 : ∀ a, a < 144 → ax_Pd a := lt_s (lt_s (lt_s (lt_s (lt_s (lt_s (lt_s (lt_s (lt_s (lt_s (lt_s (lt_s (lt_s (lt_s (lt_s (lt_s (lt_s (lt_s (lt_s (lt_s (lt_s (lt_s (lt_s (lt_s (ax_fdA_120) (ax_d120)) (ax_d121)) (ax_d122)) (ax_d123)) (ax_d124)) (ax_d125)) (ax_d126)) (ax_d127)) (ax_d128)) (ax_d129)) (ax_d130)) (ax_d131)) (ax_d132)) (ax_d133)) (ax_d134)) (ax_d135)) (ax_d136)) (ax_d137)) (ax_d138)) (ax_d139)) (ax_d140)) (ax_d141)) (ax_d142)) (ax_d143)
theorem ax_fdA_168 : ∀ a, a < 168 → ax_Pd a := lt_s (lt_s (lt_s (lt_s (lt_s (lt_s (lt_s (lt_s (lt_s (lt_s (lt_s (lt_s (lt_s (lt_s (lt_s (lt_s (lt_s (lt_s (lt_s (lt_s (lt_s (lt_s (lt_s (lt_s (ax_fdA_144) (ax_d144)) (ax_d145)) (ax_d146)) (ax_d147)) (ax_d148)) (ax_d149)) (ax_d150)) (ax_d151)) (ax_d152)) (ax_d153)) (ax_d154)) (ax_d155)) (ax_d156)) (ax_d157)) (ax_d158)) (ax_d159)) (ax_d160)) (ax_d161)) (ax_d162)) (ax_d163)) (ax_d164)) (ax_d165)) (ax_d166)) (ax_d167)
theorem ax_fdA_192 : ∀ a, a < 192 → ax_Pd a := lt_s (lt_s (lt_s (lt_s (lt_s (lt_s (lt_s (lt_s (lt_s (lt_s (lt_s (lt_s (lt_s (lt_s (lt_s (lt_s (lt_s (lt_s (lt_s (lt_s (lt_s (lt_s (lt_s (lt_s (ax_fdA_168) (ax_d168)) (ax_d169)) (ax_d170)) (ax_d171)) (ax_d172)) (ax_d173)) (ax_d174)) (ax_d175)) (ax_d176)) (ax_d177)) (ax_d178)) (ax_d179)) (ax_d180)) (ax_d181)) (ax_d182)) (ax_d183)) (ax_d184)) (ax_d185)) (ax_d186)) (ax_d187)) (ax_d188)) (ax_d189)) (ax_d190)) (ax_d191)
theorem ax_fdA_216 : ∀ a, a < 216 → ax_Pd a := lt_s (lt_s (lt_s (lt_s (lt_s (lt_s (lt_s (lt_s (lt_s (lt_s (lt_s (lt_s (lt_s (lt_s (lt_s (lt_s (lt_s (lt_s (lt_s (lt_s (lt_s (lt_s (lt_s (lt_s (ax_fdA_192) (ax_d192)) (ax_d193)) (ax_d194)) (ax_d195)) (ax_d196)) (ax_d197)) (ax_d198)) (ax_d199)) (ax_d200)) (ax_d201)) (ax_d202)) (ax_d203)) (ax_d204)) (ax_d205)) (ax_d206)) (ax_d207)) (ax_d208)) (ax_d209)) (ax_d210)) (ax_d211)) (ax_d212)) (ax_d213)) (ax_d214)) (ax_d215)
theorem ax_fdA_240 : ∀ a, a < 240 → ax_Pd a := lt_s (lt_s (lt_s (lt_s (lt_s (lt_s (lt_s (lt_s (lt_s (lt_s (lt_s (lt_s (lt_s (lt_s (lt_s (lt_s (lt_s (lt_s (lt_s (lt_s (lt_s (lt_s (lt_s (lt_s (ax_fdA_216) (ax_d216)) (ax_d217)) (ax_d218)) (ax_d219)) (ax_d220)) (ax_d221)) (ax_d222)) (ax_d223)) (ax_d224)) (ax_d225)) (ax_d226)) (ax_d227)) (ax_d228)) (ax_d229)) (ax_d230)) (ax_d231)) (ax_d232)) (ax_d233)) (ax_d234)) (ax_d235)) (ax_d236)) (ax_d237)) (ax_d238)) (ax_d239)
theorem ax_fdA_264 : ∀ a, a < 264 → ax_Pd a := lt_s (lt_s (lt_s (lt_s (lt_s (lt_s (lt_s (lt_s (lt_s (lt_s (lt_s (lt_s (lt_s (lt_s (lt_s (lt_s (lt_s (lt_s (lt_s (lt_s (lt_s (lt_s (lt_s (lt_s (ax_fdA_240) (ax_d240)) (ax_d241)) (ax_d242)) (ax_d243)) (ax_d244)) (ax_d245)) (ax_d246)) (ax_d247)) (ax_d248)) (ax_d249)) (ax_d250)) (ax_d251)) (ax_d252)) (ax_d253)) (ax_d254)) (ax_d255)) (ax_d256)) (ax_d257)) (ax_d258)) (ax_d259)) (ax_d260)) (ax_d261)) (ax_d262)) (ax_d263)
theorem ax_fdA_288 : ∀ a, a < 288 → ax_Pd a := lt_s (lt_s (lt_s (lt_s (lt_s (lt_s (lt_s (lt_s (lt_s (lt_s (lt_s (lt_s (lt_s (lt_s (lt_s (lt_s (lt_s (lt_s (lt_s (lt_s (lt_s (lt_s (lt_s (lt_s (ax_fdA_264) (ax_d264)) (ax_d265)) (ax_d266)) (ax_d267)) (ax_d268)) (ax_d269)) (ax_d270)) (ax_d271)) (ax_d272)) (ax_d273)) (ax_d274)) (ax_d275)) (ax_d276)) (ax_d277)) (ax_d278)) (ax_d279)) (ax_d280)) (ax_d281)) (ax_d282)) (ax_d283)) (ax_d284)) (ax_d285)) (ax_d286)) (ax_d287)
theorem ax_fdA : ∀ a, a < 312 → ax_Pd a := lt_s (lt_s (lt_s (lt_s (lt_s (lt_s (lt_s (lt_s (lt_s (lt_s (lt_s (lt_s (lt_s (lt_s (lt_s (lt_s (lt_s (lt_s (lt_s (lt_s (lt_s (lt_s (lt_s (lt_s (ax_fdA_288) (ax_d288)) (ax_d289)) (ax_d290)) (ax_d291)) (ax_d292)) (ax_d293)) (ax_d294)) (ax_d295)) (ax_d296)) (ax_d297)) (ax_d298)) (ax_d299)) (ax_d300)) (ax_d301)) (ax_d302)) (ax_d303)) (ax_d304)) (ax_d305)) (ax_d306)) (ax_d307)) (ax_d308)) (ax_d309)) (ax_d310)) (ax_d311)
theorem ax_arrP {s : State} {args : Array Value} {ty : FieldType} (h : (Cond.arrayClass ty).before args s = true) : ∃ cA, ArrOfT s cA ty ∧ s.vm.findClass ("[" ++ ty.toString) = some cA := by
  obtain ⟨cA, kA, comp, h1, h2, h3⟩ := Cond.arrayClass_spec h
  exact ⟨cA, fun n z => ⟨fun k h => (by cases h), kA, h2, comp, h3⟩, h1⟩
theorem ax_arrQ {s : State} {C : String} (h : va_AO C s) : ∃ cA, ArrOfT s cA (.object C) ∧ va_RA s cA (.object C) := by
  obtain ⟨comp, cA, kA, h1, h2, h3, h4, h5⟩ := Cond.arrayOver_spec h
  exact ⟨cA, fun n z => ⟨fun k h => (by cases h), kA, h3, comp, h4⟩, kA, comp, h3, h4, h1, h5⟩
def ax_tm (i : Nat) : Term := .string "LargePages$Reader" (if i = 0 then 122 else 115)
theorem ax_ow0 : Cond.arrayOver (.object "LargePages$World") ∈ lw_tbl := ax_t1 _ (List.mem_of_getElem? (i := 178) rfl)
theorem ax_ow1 : Cond.arrayOver (.object "LargePages$Text") ∈ lw_tbl := ax_t1 _ (List.mem_of_getElem? (i := 135) rfl)
theorem ax_sr0 : Cond.stringRef "LargePages$Reader" 122 "wants spares object touch write sweep empty drop day of by has soiled if then else end or and not time free number size page idle holds span" ∈ lw_tbl := ax_t2 _ (List.mem_of_getElem? (i := 156) rfl)
theorem ax_sr1 : Cond.stringRef "LargePages$Reader" 115 "<>=#+-*/();" ∈ lw_tbl := ax_t2 _ (List.mem_of_getElem? (i := 209) rfl)
theorem ax_ls0 : Cond.laysStatic "java/lang/String" "COMPACT_STRINGS" "Z" ∈ lw_tbl := ax_t2 _ (List.mem_of_getElem? (i := 166) rfl)
theorem ax_ls1 : Cond.initialized "java/lang/String" ∈ lw_tbl := ax_t1 _ (List.mem_of_getElem? (i := 12) rfl)
theorem ax_ls2 : Cond.laysStatic "jdk/internal/util/Preconditions" "SIOOBE_FORMATTER" "Ljava/util/function/BiFunction;" ∈ lw_tbl := ax_t2 _ (List.mem_of_getElem? (i := 182) rfl)
theorem ax_ls3 : Cond.initialized "jdk/internal/util/Preconditions" ∈ lw_tbl := ax_t1 _ (List.mem_of_getElem? (i := 14) rfl)
abbrev ax_sl : List Nat := [(ax_str 0).length, (ax_str 1).length]
abbrev ax_sb : List (List Int32) := [(ax_str 0).map Int32.ofNat, (ax_str 1).map Int32.ofNat]
set_option maxRecDepth 20000 in
abbrev ax_hP0 (j : Nat) : Prop := Cond.eq (.elem (.field (ax_tm 0) "java/lang/String" "value" "[B") (.int (Int32.ofNat j))) (.int ((ax_sb.getD 0 []).getD j 0)) ∈ flatC (Cond.and given_1 narrow_1)
theorem ax_hel0_0 : ∀ j, j < 10 → ax_hP0 (j + 0) := by decide +kernel
theorem ax_hel0_1 : ∀ j, j < 10 → ax_hP0 (j + 10) := by decide +kernel
theorem ax_hel0_2 : ∀ j, j < 10 → ax_hP0 (j + 20) := by decide +kernel
theorem ax_hel0_3 : ∀ j, j < 10 → ax_hP0 (j + 30) := by decide +kernel
theorem ax_hel0_4 : ∀ j, j < 10 → ax_hP0 (j + 40) := by decide +kernel
theorem ax_hel0_5 : ∀ j, j < 10 → ax_hP0 (j + 50) := by decide +kernel
theorem ax_hel0_6 : ∀ j, j < 10 → ax_hP0 (j + 60) := by decide +kernel
theorem ax_hel0_7 : ∀ j, j < 10 → ax_hP0 (j + 70) := by decide +kernel
theorem ax_hel0_8 : ∀ j, j < 10 → ax_hP0 (j + 80) := by decide +kernel
theorem ax_hel0_9 : ∀ j, j < 10 → ax_hP0 (j + 90) := by decide +kernel
theorem ax_hel0_10 : ∀ j, j < 10 → ax_hP0 (j + 100) := by decide +kernel
theorem ax_hel0_11 : ∀ j, j < 10 → ax_hP0 (j + 110) := by decide +kernel
theorem ax_hel0_12 : ∀ j, j < 10 → ax_hP0 (j + 120) := by decide +kernel
theorem ax_hel0_13 : ∀ j, j < 10 → ax_hP0 (j + 130) := by decide +kernel
theorem ax_hel0 : ∀ j, j < 140 → Cond.eq (.elem (.field (ax_tm 0) "java/lang/String" "value" "[B") (.int (Int32.ofNat j))) (.int ((ax_sb.getD 0 []).getD j 0)) ∈ flatC (Cond.and given_1 narrow_1) := fun j h => by
  show ax_hP0 j
  rcases Nat.lt_or_ge j 10 with h0 | h0
  · have := ax_hel0_0 (j - 0) (by omega)
    rw [Nat.sub_add_cancel (by omega)] at this
    exact this
  rcases Nat.lt_or_ge j 20 with h1 | h1
  · have := ax_hel0_1 (j - 10) (by omega)
    rw [Nat.sub_add_cancel (by omega)] at this
    exact this
  rcases Nat.lt_or_ge j 30 with h2 | h2
  · have := ax_hel0_2 (j - 20) (by omega)
    rw [Nat.sub_add_cancel (by omega)] at this
    exact this
  rcases Nat.lt_or_ge j 40 with h3 | h3
  · have := ax_hel0_3 (j - 30) (by omega)
    rw [Nat.sub_add_cancel (by omega)] at this
    exact this
  rcases Nat.lt_or_ge j 50 with h4 | h4
  · have := ax_hel0_4 (j - 40) (by omega)
    rw [Nat.sub_add_cancel (by omega)] at this
    exact this
  rcases Nat.lt_or_ge j 60 with h5 | h5
  · have := ax_hel0_5 (j - 50) (by omega)
    rw [Nat.sub_add_cancel (by omega)] at this
    exact this
  rcases Nat.lt_or_ge j 70 with h6 | h6
  · have := ax_hel0_6 (j - 60) (by omega)
    rw [Nat.sub_add_cancel (by omega)] at this
    exact this
  rcases Nat.lt_or_ge j 80 with h7 | h7
  · have := ax_hel0_7 (j - 70) (by omega)
    rw [Nat.sub_add_cancel (by omega)] at this
    exact this
  rcases Nat.lt_or_ge j 90 with h8 | h8
  · have := ax_hel0_8 (j - 80) (by omega)
    rw [Nat.sub_add_cancel (by omega)] at this
    exact this
  rcases Nat.lt_or_ge j 100 with h9 | h9
  · have := ax_hel0_9 (j - 90) (by omega)
    rw [Nat.sub_add_cancel (by omega)] at this
    exact this
  rcases Nat.lt_or_ge j 110 with h10 | h10
  · have := ax_hel0_10 (j - 100) (by omega)
    rw [Nat.sub_add_cancel (by omega)] at this
    exact this
  rcases Nat.lt_or_ge j 120 with h11 | h11
  · have := ax_hel0_11 (j - 110) (by omega)
    rw [Nat.sub_add_cancel (by omega)] at this
    exact this
  rcases Nat.lt_or_ge j 130 with h12 | h12
  · have := ax_hel0_12 (j - 120) (by omega)
    rw [Nat.sub_add_cancel (by omega)] at this
    exact this
  have := ax_hel0_13 (j - 130) (by omega)
  rw [Nat.sub_add_cancel (by omega)] at this
  exact this
set_option maxRecDepth 20000 in
theorem ax_hel1 : ∀ j, j < 11 → Cond.eq (.elem (.field (ax_tm 1) "java/lang/String" "value" "[B") (.int (Int32.ofNat j))) (.int ((ax_sb.getD 1 []).getD j 0)) ∈ flatC (Cond.and given_1 narrow_1) := by decide +kernel
theorem ax_sl0 : ax_sl.getD 0 0 = 140 := by decide +kernel
theorem ax_sl1 : ax_sl.getD 1 0 = 11 := by decide +kernel
theorem ax_two {P : Nat → Prop} (h0 : P 0) (h1 : P 1) : ∀ i, i < 2 → P i := fun i hi => by
  rcases (by omega : i = 0 ∨ i = 1) with rfl | rfl
  · exact h0
  · exact h1
set_option maxHeartbeats 4000000 in
theorem ax_start {p : Program} {s : State} {mid : MethodId} {meth : Method} {c : Code} {b L : Nat} {xs : Nat → Int32} (C0 : lw_At p s mid meth c b L xs) : ∃ G : ax_G, G.1 = b ∧ G.2.1 = s.heap.size ∧ ax_Cx G (L, xs) p s mid #[Value.ref b] meth c 308 := by
  obtain ⟨hx, hb, hr, hml, hown, hts, hX, hbl, hlocks, hgv⟩ := C0
  have hs := flat_of_before _ hgv
  have htg : ∀ w ∈ ax_tb, w.before #[Value.ref b] s = true := fun w hw => hts w (List.mem_filter.mp hw).1
  have hk : ∀ ci : Nat, ∃ q : ClassId × (Nat → Nat), ci ≤ 9 → u_Kn s (ax_cn ci) (ax_T ci) (ax_N ci) q.1 q.2 := by
    intro ci
    by_cases h : ci ≤ 9
    · obtain ⟨-, -, -, hin, h1, -⟩ := ax_fc_ok ci h
      obtain ⟨cC, iS, hK⟩ := u_known htg hin (htg _ h1)
      exact ⟨(cC, iS), fun _ => hK⟩
    · exact ⟨(0, fun _ => 0), fun q => absurd q h⟩
  obtain ⟨dd, hdd⟩ := Classical.axiomOfChoice hk
  obtain ⟨a0, p0, q0⟩ := ax_arrP (htg _ ax_fk_ok.2.2.2.2.1)
  obtain ⟨a1, p1, q1⟩ := ax_arrP (htg _ ax_fk_ok.2.2.2.2.2.1)
  obtain ⟨a2, p2, q2⟩ := ax_arrP (htg _ ax_fk_ok.2.2.2.2.2.2)
  have hA0 : va_AO "LargePages$World" s := va_AO.of (hts _ ax_ow0)
  have hA1 : va_AO "LargePages$Text" s := va_AO.of (hts _ ax_ow1)
  obtain ⟨a3, p3, q3⟩ := ax_arrQ hA0
  obtain ⟨a4, p4, q4⟩ := ax_arrQ hA1
  obtain ⟨adK, adV, hV, hT⟩ := vk_Sof (args := #[Value.ref b]) (s := s) (N := 2) (tm := ax_tm) (len := ax_sl) (byt := ax_sb) (A := fun q => s.heap.size ≤ q) (ax_two (by rw [ax_sl0]; decide) (by rw [ax_sl1]; decide)) (ax_two (hs _ (by decide +kernel)) (hs _ (by decide +kernel))) (ax_two (hs _ (by decide +kernel)) (hs _ (by decide +kernel))) (ax_two (hs _ (by decide +kernel)) (hs _ (by decide +kernel))) (ax_two (by rw [ax_sl0]; exact hs _ (by decide +kernel)) (by rw [ax_sl1]; exact hs _ (by decide +kernel))) (ax_two (fun j hj => by rw [ax_sl0] at hj; exact hs _ (ax_hel0 j hj)) (fun j hj => by rw [ax_sl1] at hj; exact hs _ (ax_hel1 j hj)))
    (fun i j hi hj hne => by
      rcases (by omega : (i = 0 ∧ j = 1) ∨ (i = 1 ∧ j = 0)) with ⟨rfl, rfl⟩ | ⟨rfl, rfl⟩
      · exact Or.inl (hs _ (by decide +kernel))
      · exact Or.inr (hs _ (by decide +kernel))) (fun a ha => Nat.not_le.mpr ha)
  refine ⟨(b, s.heap.size, adK, fun t => match t with | 0 => a0 | 1 => a1 | 2 => a2 | 3 => a3 | _ => a4, (fun ci => (dd ci).1, fun ci => (dd ci).2)), rfl, rfl, hx, hb, hml, hown, htg, fun h => absurd h (by decide +kernel), ⟨fun ci q hq => ?_, fun k q hq => ?_⟩, hX, hbl, Nat.le_refl _, fun w hw => ?_, hA0, hA1, fun own idx q hq => ?_, ⟨adV, hV⟩, va_Zof (hts _ ax_ls0) (hts _ ax_ls1) (va_eqi (hs _ (by decide +kernel))) (fun a ha => Nat.not_le.mpr ha), va_Zqof (hts _ ax_ls2) (hts _ ax_ls3) (hs _ (by decide +kernel)) (fun a ha => Nat.not_le.mpr ha)⟩
  · have h9 := ax_cls_lt hq
    have := (ax_fc_ok ci h9).1
    cases hq.symm.trans this
    exact hdd ci h9
  · have hl : k < 5 := (List.getElem?_eq_some_iff.mp hq).1
    rcases (by omega : k = 0 ∨ k = 1 ∨ k = 2 ∨ k = 3 ∨ k = 4) with rfl | rfl | rfl | rfl | rfl <;> cases hq
    · exact ⟨p0, q0⟩
    · exact ⟨p1, q1⟩
    · exact ⟨p2, q2⟩
    · exact ⟨p3, q3⟩
    · exact ⟨p4, q4⟩
  · obtain ⟨hw1, hw2⟩ := List.mem_filter.mp hw
    have := hts w hw1
    cases w <;> first | exact va_Nw.of rfl this | cases hw2
  · unfold ax_ks at hq
    rcases ax_bif_s hq with ⟨_, h1⟩ | ⟨_, h1⟩
    · cases h1
    rcases ax_bif_s h1 with ⟨_, h2⟩ | ⟨_, h2⟩
    · cases h2
    rcases ax_bif_s h2 with ⟨ho, h3⟩ | ⟨_, h3⟩
    · have eo := Nat.eq_of_beq_eq_true ho
      subst eo
      rcases ax_bif_s h3 with ⟨_, h4⟩ | ⟨_, h4⟩
      · rcases ax_bif_s h4 with ⟨hi, h5⟩ | ⟨_, h5⟩
        · have ei := Nat.eq_of_beq_eq_true hi
          subst ei
          cases h5
          exact ⟨_, vk_R.of (hts _ ax_sr1) (hT 1 (by decide))⟩
        · cases h5
      · rcases ax_bif_s h4 with ⟨hi, h5⟩ | ⟨_, h5⟩
        · have ei := Nat.eq_of_beq_eq_true hi
          subst ei
          cases h5
          exact ⟨_, vk_R.of (hts _ ax_sr0) (hT 0 (by decide))⟩
        · cases h5
    · cases h3
theorem ax_fd_ok : ax_Fd := by
  intro m pc
  rcases Nat.lt_or_ge m 312 with h | h
  · exact ax_fdA m h pc
  · have hb : Nat.ble 312 m = true := Nat.ble_eq_true_of_le h
    intro i hi
    unfold ax_fetch at hi
    rw [hb] at hi
    cases hi
/-- what is left to show of the machine: the text constants' methods -/
theorem ax_ff_all (FS : ax_FS) : ax_FF := ⟨⟨ax_fc_ok, ax_ff_ok, ax_fk_ok, ax_fd_ok, ax_fm_ok⟩, ax_fn_ok, ax_fl_ok, FS⟩
/-- THE PURE CLAIM: for every script there is a run of the law that answers 1 within the room -/
def ax_Law : Prop := ∀ (L : Nat) (xs : Nat → Int32), L ≤ 3072 → ∃ n h', ax_run (L, xs) n 30 308 0 (ax_pad 4 (ax_ent [.ref 0])) [] [] = some (some (.int 1), h') ∧ h'.length ≤ 2500 ∧ ax_hsz h' ≤ 500000
