/-! The text constants' methods: String.length, charAt, indexOf on the two literals. -/
theorem js_good {w : Cond} (h : w ∈ ax_tb) : GoodIn ax_tb (w :: ax_tb) := fun v hv => by
  rcases List.mem_cons.mp hv with rfl | hv
  · exact ⟨h, good_of_word (List.mem_filter.mp h).2⟩
  · exact ⟨hv, good_of_word (List.mem_filter.mp hv).2⟩
/-- what the methods rest on -/
def js_V (G : ax_G) (adV : Nat → Nat) (U : State) : Prop := vk_S 2 ax_sl ax_sb G.2.2.1 adV (ax_A G) U U.heap ∧ va_Z "java/lang/String" "COMPACT_STRINGS" "Z" (.int 1) (ax_A G) U U.heap ∧ va_Zq "jdk/internal/util/Preconditions" "SIOOBE_FORMATTER" "Ljava/util/function/BiFunction;" (ax_A G) U U.heap
theorem js_V.same {G : ax_G} {adV : Nat → Nat} {u U : State} (h : js_V G adV u) (hv : U.vm = u.vm) (hh : U.heap = u.heap) : js_V G adV U := by
  have al : u.vm.Alike U.vm := by rw [hv]; exact Vm.Alike.refl _
  exact ⟨by rw [hh]; exact vk_S.moved al h.1, by rw [hh]; exact va_Z.moved al h.2.1, by rw [hh]; exact va_Zq.moved al h.2.2⟩
theorem js_V.warm {G : ax_G} {adV : Nat → Nat} {s U : State} {H : Heap} {locs : List Loc} (h : js_V G adV s) (hS : va_S (ax_A G) s.heap H locs) (hU : U.heap = H) (hW : s.WarmedH U.vm) : js_V G adV U := by
  have al := hW.alike
  exact ⟨by rw [hU]; exact vk_S.moved al (h.1.kept (fun a h3 h4 => hS.2.1 a h3 h4)), by rw [hU]; exact va_Z.moved al (h.2.1.kept (fun a h3 h4 => hS.2.1 a h3 h4)), by rw [hU]; exact va_Zq.moved al (h.2.2.kept (fun a h3 h4 => hS.2.1 a h3 h4))⟩
def js_Q (v : Option Value) : Array Value → State → Outcome → State → Prop := fun _ st oc t => oc = .returned v ∧ t.heap = st.heap
def js_rm (k : Nat) : Room := { frames := k, cells := 0, slots := 0, locals := 40 * k }
theorem js_blind {G : ax_G} {adV : Nat → Nat} {av : List Value} : FrameBlind (va_Pc av (js_V G adV)) := fun _ _ _ _ q => ⟨q.1, q.2.same rfl rfl⟩
theorem js_call {p : Program} {l : Launch} {e : Env} {R : Room} {s : State} {m : MethodId} {args : Array Value} {below : List Frame} {meth : Method} {c : Code} {H : Heap} {locs : List Loc} {cells slots : Nat} {Q : State → Prop} {pc : Nat} {ls : Array Slot} {st0 rest : List Value} {a : Array Value} {v : Option Value} (hr : va_Run p l e R s m args below meth c H locs cells slots 0 0 (F0 m pc ls st0) rest (js_Q v a) (fun _ => False))
    (kk : W p l e R s m args below meth c H locs cells slots Q (F0 m (pc + 3) ls (v.toList ++ rest))) : W p l e R s m args below meth c H locs cells slots Q (F0 m pc ls st0) := by
  intro T hT X
  obtain ⟨v', st₀, t, T', L, h0, X', hL, e1, e2, ⟨hv, hh⟩, st⟩ := hr T hT X
  cases hv
  obtain ⟨t2, a1, b1⟩ := kk T' (by rw [e1, hh, h0]) (Stand.forget X' (fun q h => (hL q h).elim))
  exact ⟨t2, st t2 a1, b1⟩
def jy_coder : MethodName := ⟨"java/lang/String", "coder", "()B"⟩
abbrev jc_coder : ByteArray := prog_16_method_152_code
def jw_coder : List Cond := Cond.code jy_coder jc_coder 1 (some FieldType.byte) :: ax_tb
theorem ji_coder : Cond.code jy_coder jc_coder 1 (some FieldType.byte) ∈ ax_tb := ax_inT ax_t2 (i := 164) rfl rfl
theorem jd_coder_0 : decode jc_coder 0 = .ok (.getstatic 38, 3) := by decide +kernel
theorem jd_coder_3 : decode jc_coder 3 = .ok (.ifCond .eq 10, 3) := by decide +kernel
theorem jd_coder_6 : decode jc_coder 6 = .ok (.aload_n 0, 1) := by decide +kernel
theorem jd_coder_7 : decode jc_coder 7 = .ok (.getfield 15, 3) := by decide +kernel
theorem jd_coder_10 : decode jc_coder 10 = .ok (.goto 4, 3) := by decide +kernel
theorem jd_coder_13 : decode jc_coder 13 = .ok (.iconst 1, 1) := by decide +kernel
theorem jd_coder_14 : decode jc_coder 14 = .ok (.ireturn, 1) := by decide +kernel
theorem jg_coder : GoodIn ax_tb jw_coder := js_good ji_coder
theorem jh_coder {w0 : Cond} : GoodIn (w0 :: ax_tb) jw_coder := fun w h => ⟨List.mem_cons_of_mem _ (jg_coder w h).1, (jg_coder w h).2⟩
def jy_isLatin1 : MethodName := ⟨"java/lang/String", "isLatin1", "()Z"⟩
abbrev jc_isLatin1 : ByteArray := prog_16_method_154_code
def jw_isLatin1 : List Cond := Cond.code jy_isLatin1 jc_isLatin1 1 (some FieldType.boolean) :: ax_tb
theorem ji_isLatin1 : Cond.code jy_isLatin1 jc_isLatin1 1 (some FieldType.boolean) ∈ ax_tb := ax_inT ax_t2 (i := 174) rfl rfl
theorem jd_isLatin1_0 : decode jc_isLatin1 0 = .ok (.getstatic 38, 3) := by decide +kernel
theorem jd_isLatin1_3 : decode jc_isLatin1 3 = .ok (.ifCond .eq 14, 3) := by decide +kernel
theorem jd_isLatin1_6 : decode jc_isLatin1 6 = .ok (.aload_n 0, 1) := by decide +kernel
theorem jd_isLatin1_7 : decode jc_isLatin1 7 = .ok (.getfield 15, 3) := by decide +kernel
theorem jd_isLatin1_10 : decode jc_isLatin1 10 = .ok (.ifCond .ne 7, 3) := by decide +kernel
theorem jd_isLatin1_13 : decode jc_isLatin1 13 = .ok (.iconst 1, 1) := by decide +kernel
theorem jd_isLatin1_14 : decode jc_isLatin1 14 = .ok (.goto 4, 3) := by decide +kernel
theorem jd_isLatin1_17 : decode jc_isLatin1 17 = .ok (.iconst 0, 1) := by decide +kernel
theorem jd_isLatin1_18 : decode jc_isLatin1 18 = .ok (.ireturn, 1) := by decide +kernel
theorem jg_isLatin1 : GoodIn ax_tb jw_isLatin1 := js_good ji_isLatin1
theorem jh_isLatin1 {w0 : Cond} : GoodIn (w0 :: ax_tb) jw_isLatin1 := fun w h => ⟨List.mem_cons_of_mem _ (jg_isLatin1 w h).1, (jg_isLatin1 w h).2⟩
def jy_length : MethodName := ⟨"java/lang/String", "length", "()I"⟩
abbrev jc_length : ByteArray := prog_16_method_54_code
def jw_length : List Cond := Cond.code jy_length jc_length 1 (some FieldType.int) :: ax_tb
theorem ji_length : Cond.code jy_length jc_length 1 (some FieldType.int) ∈ ax_tb := ax_inT ax_t2 (i := 160) rfl rfl
theorem jd_length_0 : decode jc_length 0 = .ok (.aload_n 0, 1) := by decide +kernel
theorem jd_length_1 : decode jc_length 1 = .ok (.getfield 9, 3) := by decide +kernel
theorem jd_length_4 : decode jc_length 4 = .ok (.arraylength, 1) := by decide +kernel
theorem jd_length_5 : decode jc_length 5 = .ok (.aload_n 0, 1) := by decide +kernel
theorem jd_length_6 : decode jc_length 6 = .ok (.invokevirtual 335, 3) := by decide +kernel
theorem jd_length_9 : decode jc_length 9 = .ok (.ishr, 1) := by decide +kernel
theorem jd_length_10 : decode jc_length 10 = .ok (.ireturn, 1) := by decide +kernel
theorem jg_length : GoodIn ax_tb jw_length := js_good ji_length
theorem jh_length {w0 : Cond} : GoodIn (w0 :: ax_tb) jw_length := fun w h => ⟨List.mem_cons_of_mem _ (jg_length w h).1, (jg_length w h).2⟩
def jy_pcheck : MethodName := ⟨"jdk/internal/util/Preconditions", "checkIndex", "(IILjava/util/function/BiFunction;)I"⟩
abbrev jc_pcheck : ByteArray := prog_21_method_11_code
def jw_pcheck : List Cond := Cond.code jy_pcheck jc_pcheck 3 (some FieldType.int) :: ax_tb
theorem ji_pcheck : Cond.code jy_pcheck jc_pcheck 3 (some FieldType.int) ∈ ax_tb := ax_inT ax_t2 (i := 185) rfl rfl
theorem jd_pcheck_0 : decode jc_pcheck 0 = .ok (.iload_n 0, 1) := by decide +kernel
theorem jd_pcheck_1 : decode jc_pcheck 1 = .ok (.ifCond .lt 8, 3) := by decide +kernel
theorem jd_pcheck_4 : decode jc_pcheck 4 = .ok (.iload_n 0, 1) := by decide +kernel
theorem jd_pcheck_5 : decode jc_pcheck 5 = .ok (.iload_n 1, 1) := by decide +kernel
theorem jd_pcheck_6 : decode jc_pcheck 6 = .ok (.if_icmp .lt 10, 3) := by decide +kernel
theorem jd_pcheck_9 : decode jc_pcheck 9 = .ok (.aload_n 2, 1) := by decide +kernel
theorem jd_pcheck_10 : decode jc_pcheck 10 = .ok (.iload_n 0, 1) := by decide +kernel
theorem jd_pcheck_11 : decode jc_pcheck 11 = .ok (.iload_n 1, 1) := by decide +kernel
theorem jd_pcheck_12 : decode jc_pcheck 12 = .ok (.invokestatic 95, 3) := by decide +kernel
theorem jd_pcheck_15 : decode jc_pcheck 15 = .ok (.athrow, 1) := by decide +kernel
theorem jd_pcheck_16 : decode jc_pcheck 16 = .ok (.iload_n 0, 1) := by decide +kernel
theorem jd_pcheck_17 : decode jc_pcheck 17 = .ok (.ireturn, 1) := by decide +kernel
theorem jg_pcheck : GoodIn ax_tb jw_pcheck := js_good ji_pcheck
theorem jh_pcheck {w0 : Cond} : GoodIn (w0 :: ax_tb) jw_pcheck := fun w h => ⟨List.mem_cons_of_mem _ (jg_pcheck w h).1, (jg_pcheck w h).2⟩
def jy_check : MethodName := ⟨"java/lang/String", "checkIndex", "(II)V"⟩
abbrev jc_check : ByteArray := prog_16_method_155_code
def jw_check : List Cond := Cond.code jy_check jc_check 2 none :: ax_tb
theorem ji_check : Cond.code jy_check jc_check 2 none ∈ ax_tb := ax_inT ax_t2 (i := 180) rfl rfl
theorem jd_check_0 : decode jc_check 0 = .ok (.iload_n 0, 1) := by decide +kernel
theorem jd_check_1 : decode jc_check 1 = .ok (.iload_n 1, 1) := by decide +kernel
theorem jd_check_2 : decode jc_check 2 = .ok (.getstatic 1053, 3) := by decide +kernel
theorem jd_check_5 : decode jc_check 5 = .ok (.invokestatic 1059, 3) := by decide +kernel
theorem jd_check_8 : decode jc_check 8 = .ok (.pop, 1) := by decide +kernel
theorem jd_check_9 : decode jc_check 9 = .ok (.return_, 1) := by decide +kernel
theorem jg_check : GoodIn ax_tb jw_check := js_good ji_check
theorem jh_check {w0 : Cond} : GoodIn (w0 :: ax_tb) jw_check := fun w h => ⟨List.mem_cons_of_mem _ (jg_check w h).1, (jg_check w h).2⟩
def jy_lcharAt : MethodName := ⟨"java/lang/StringLatin1", "charAt", "([BI)C"⟩
abbrev jc_lcharAt : ByteArray := prog_17_method_2_code
def jw_lcharAt : List Cond := Cond.code jy_lcharAt jc_lcharAt 2 (some FieldType.char) :: ax_tb
theorem ji_lcharAt : Cond.code jy_lcharAt jc_lcharAt 2 (some FieldType.char) ∈ ax_tb := ax_inT ax_t2 (i := 177) rfl rfl
theorem jd_lcharAt_0 : decode jc_lcharAt 0 = .ok (.iload_n 1, 1) := by decide +kernel
theorem jd_lcharAt_1 : decode jc_lcharAt 1 = .ok (.aload_n 0, 1) := by decide +kernel
theorem jd_lcharAt_2 : decode jc_lcharAt 2 = .ok (.arraylength, 1) := by decide +kernel
theorem jd_lcharAt_3 : decode jc_lcharAt 3 = .ok (.invokestatic 9, 3) := by decide +kernel
theorem jd_lcharAt_6 : decode jc_lcharAt 6 = .ok (.aload_n 0, 1) := by decide +kernel
theorem jd_lcharAt_7 : decode jc_lcharAt 7 = .ok (.iload_n 1, 1) := by decide +kernel
theorem jd_lcharAt_8 : decode jc_lcharAt 8 = .ok (.baload, 1) := by decide +kernel
theorem jd_lcharAt_9 : decode jc_lcharAt 9 = .ok (.sipush 255, 3) := by decide +kernel
theorem jd_lcharAt_12 : decode jc_lcharAt 12 = .ok (.iand, 1) := by decide +kernel
theorem jd_lcharAt_13 : decode jc_lcharAt 13 = .ok (.i2c, 1) := by decide +kernel
theorem jd_lcharAt_14 : decode jc_lcharAt 14 = .ok (.ireturn, 1) := by decide +kernel
theorem jg_lcharAt : GoodIn ax_tb jw_lcharAt := js_good ji_lcharAt
theorem jh_lcharAt {w0 : Cond} : GoodIn (w0 :: ax_tb) jw_lcharAt := fun w h => ⟨List.mem_cons_of_mem _ (jg_lcharAt w h).1, (jg_lcharAt w h).2⟩
def jy_charAt : MethodName := ⟨"java/lang/String", "charAt", "(I)C"⟩
abbrev jc_charAt : ByteArray := prog_16_method_56_code
def jw_charAt : List Cond := Cond.code jy_charAt jc_charAt 2 (some FieldType.char) :: ax_tb
theorem ji_charAt : Cond.code jy_charAt jc_charAt 2 (some FieldType.char) ∈ ax_tb := ax_inT ax_t2 (i := 170) rfl rfl
theorem jd_charAt_0 : decode jc_charAt 0 = .ok (.aload_n 0, 1) := by decide +kernel
theorem jd_charAt_1 : decode jc_charAt 1 = .ok (.invokevirtual 492, 3) := by decide +kernel
theorem jd_charAt_4 : decode jc_charAt 4 = .ok (.ifCond .eq 12, 3) := by decide +kernel
theorem jd_charAt_7 : decode jc_charAt 7 = .ok (.aload_n 0, 1) := by decide +kernel
theorem jd_charAt_8 : decode jc_charAt 8 = .ok (.getfield 9, 3) := by decide +kernel
theorem jd_charAt_11 : decode jc_charAt 11 = .ok (.iload_n 1, 1) := by decide +kernel
theorem jd_charAt_12 : decode jc_charAt 12 = .ok (.invokestatic 495, 3) := by decide +kernel
theorem jd_charAt_15 : decode jc_charAt 15 = .ok (.ireturn, 1) := by decide +kernel
theorem jd_charAt_16 : decode jc_charAt 16 = .ok (.aload_n 0, 1) := by decide +kernel
theorem jd_charAt_17 : decode jc_charAt 17 = .ok (.getfield 9, 3) := by decide +kernel
theorem jd_charAt_20 : decode jc_charAt 20 = .ok (.iload_n 1, 1) := by decide +kernel
theorem jd_charAt_21 : decode jc_charAt 21 = .ok (.invokestatic 498, 3) := by decide +kernel
theorem jd_charAt_24 : decode jc_charAt 24 = .ok (.ireturn, 1) := by decide +kernel
theorem jg_charAt : GoodIn ax_tb jw_charAt := js_good ji_charAt
theorem jh_charAt {w0 : Cond} : GoodIn (w0 :: ax_tb) jw_charAt := fun w h => ⟨List.mem_cons_of_mem _ (jg_charAt w h).1, (jg_charAt w h).2⟩
def jy_canEncode : MethodName := ⟨"java/lang/StringLatin1", "canEncode", "(I)Z"⟩
abbrev jc_canEncode : ByteArray := prog_17_method_4_code
def jw_canEncode : List Cond := Cond.code jy_canEncode jc_canEncode 1 (some FieldType.boolean) :: ax_tb
theorem ji_canEncode : Cond.code jy_canEncode jc_canEncode 1 (some FieldType.boolean) ∈ ax_tb := ax_inT ax_t2 (i := 224) rfl rfl
theorem jd_canEncode_0 : decode jc_canEncode 0 = .ok (.iload_n 0, 1) := by decide +kernel
theorem jd_canEncode_1 : decode jc_canEncode 1 = .ok (.ifCond .lt 14, 3) := by decide +kernel
theorem jd_canEncode_4 : decode jc_canEncode 4 = .ok (.iload_n 0, 1) := by decide +kernel
theorem jd_canEncode_5 : decode jc_canEncode 5 = .ok (.sipush 255, 3) := by decide +kernel
theorem jd_canEncode_8 : decode jc_canEncode 8 = .ok (.if_icmp .gt 7, 3) := by decide +kernel
theorem jd_canEncode_11 : decode jc_canEncode 11 = .ok (.iconst 1, 1) := by decide +kernel
theorem jd_canEncode_12 : decode jc_canEncode 12 = .ok (.goto 4, 3) := by decide +kernel
theorem jd_canEncode_15 : decode jc_canEncode 15 = .ok (.iconst 0, 1) := by decide +kernel
theorem jd_canEncode_16 : decode jc_canEncode 16 = .ok (.ireturn, 1) := by decide +kernel
theorem jg_canEncode : GoodIn ax_tb jw_canEncode := js_good ji_canEncode
theorem jh_canEncode {w0 : Cond} : GoodIn (w0 :: ax_tb) jw_canEncode := fun w h => ⟨List.mem_cons_of_mem _ (jg_canEncode w h).1, (jg_canEncode w h).2⟩
def jy_ichar : MethodName := ⟨"java/lang/StringLatin1", "indexOfChar", "([BIII)I"⟩
abbrev jc_ichar : ByteArray := prog_17_method_23_code
def jw_ichar : List Cond := Cond.code jy_ichar jc_ichar 6 (some FieldType.int) :: ax_tb
theorem ji_ichar : Cond.code jy_ichar jc_ichar 6 (some FieldType.int) ∈ ax_tb := ax_inT ax_t2 (i := 231) rfl rfl
theorem jd_ichar_0 : decode jc_ichar 0 = .ok (.iload_n 1, 1) := by decide +kernel
theorem jd_ichar_1 : decode jc_ichar 1 = .ok (.i2b, 1) := by decide +kernel
theorem jd_ichar_2 : decode jc_ichar 2 = .ok (.istore 4, 2) := by decide +kernel
theorem jd_ichar_4 : decode jc_ichar 4 = .ok (.iload_n 2, 1) := by decide +kernel
theorem jd_ichar_5 : decode jc_ichar 5 = .ok (.istore 5, 2) := by decide +kernel
theorem jd_ichar_7 : decode jc_ichar 7 = .ok (.iload 5, 2) := by decide +kernel
theorem jd_ichar_9 : decode jc_ichar 9 = .ok (.iload_n 3, 1) := by decide +kernel
theorem jd_ichar_10 : decode jc_ichar 10 = .ok (.if_icmp .ge 21, 3) := by decide +kernel
theorem jd_ichar_13 : decode jc_ichar 13 = .ok (.aload_n 0, 1) := by decide +kernel
theorem jd_ichar_14 : decode jc_ichar 14 = .ok (.iload 5, 2) := by decide +kernel
theorem jd_ichar_16 : decode jc_ichar 16 = .ok (.baload, 1) := by decide +kernel
theorem jd_ichar_17 : decode jc_ichar 17 = .ok (.iload 4, 2) := by decide +kernel
theorem jd_ichar_19 : decode jc_ichar 19 = .ok (.if_icmp .ne 6, 3) := by decide +kernel
theorem jd_ichar_22 : decode jc_ichar 22 = .ok (.iload 5, 2) := by decide +kernel
theorem jd_ichar_24 : decode jc_ichar 24 = .ok (.ireturn, 1) := by decide +kernel
theorem jd_ichar_25 : decode jc_ichar 25 = .ok (.iinc 5 1, 3) := by decide +kernel
theorem jd_ichar_28 : decode jc_ichar 28 = .ok (.goto (-21), 3) := by decide +kernel
theorem jd_ichar_31 : decode jc_ichar 31 = .ok (.iconst (-1), 1) := by decide +kernel
theorem jd_ichar_32 : decode jc_ichar 32 = .ok (.ireturn, 1) := by decide +kernel
theorem jg_ichar : GoodIn ax_tb jw_ichar := js_good ji_ichar
theorem jh_ichar {w0 : Cond} : GoodIn (w0 :: ax_tb) jw_ichar := fun w h => ⟨List.mem_cons_of_mem _ (jg_ichar w h).1, (jg_ichar w h).2⟩
def jy_lindexOf : MethodName := ⟨"java/lang/StringLatin1", "indexOf", "([BIII)I"⟩
abbrev jc_lindexOf : ByteArray := prog_17_method_22_code
def jw_lindexOf : List Cond := Cond.code jy_lindexOf jc_lindexOf 4 (some FieldType.int) :: ax_tb
theorem ji_lindexOf : Cond.code jy_lindexOf jc_lindexOf 4 (some FieldType.int) ∈ ax_tb := ax_inT ax_t2 (i := 221) rfl rfl
theorem jd_lindexOf_0 : decode jc_lindexOf 0 = .ok (.iload_n 1, 1) := by decide +kernel
theorem jd_lindexOf_1 : decode jc_lindexOf 1 = .ok (.invokestatic 88, 3) := by decide +kernel
theorem jd_lindexOf_4 : decode jc_lindexOf 4 = .ok (.ifCond .ne 5, 3) := by decide +kernel
theorem jd_lindexOf_7 : decode jc_lindexOf 7 = .ok (.iconst (-1), 1) := by decide +kernel
theorem jd_lindexOf_8 : decode jc_lindexOf 8 = .ok (.ireturn, 1) := by decide +kernel
theorem jd_lindexOf_9 : decode jc_lindexOf 9 = .ok (.iload_n 2, 1) := by decide +kernel
theorem jd_lindexOf_10 : decode jc_lindexOf 10 = .ok (.iconst 0, 1) := by decide +kernel
theorem jd_lindexOf_11 : decode jc_lindexOf 11 = .ok (.invokestatic 92, 3) := by decide +kernel
theorem jd_lindexOf_14 : decode jc_lindexOf 14 = .ok (.istore_n 2, 1) := by decide +kernel
theorem jd_lindexOf_15 : decode jc_lindexOf 15 = .ok (.iload_n 3, 1) := by decide +kernel
theorem jd_lindexOf_16 : decode jc_lindexOf 16 = .ok (.aload_n 0, 1) := by decide +kernel
theorem jd_lindexOf_17 : decode jc_lindexOf 17 = .ok (.arraylength, 1) := by decide +kernel
theorem jd_lindexOf_18 : decode jc_lindexOf 18 = .ok (.invokestatic 38, 3) := by decide +kernel
theorem jd_lindexOf_21 : decode jc_lindexOf 21 = .ok (.istore_n 3, 1) := by decide +kernel
theorem jd_lindexOf_22 : decode jc_lindexOf 22 = .ok (.iload_n 2, 1) := by decide +kernel
theorem jd_lindexOf_23 : decode jc_lindexOf 23 = .ok (.iload_n 3, 1) := by decide +kernel
theorem jd_lindexOf_24 : decode jc_lindexOf 24 = .ok (.if_icmp .lt 5, 3) := by decide +kernel
theorem jd_lindexOf_27 : decode jc_lindexOf 27 = .ok (.iconst (-1), 1) := by decide +kernel
theorem jd_lindexOf_28 : decode jc_lindexOf 28 = .ok (.ireturn, 1) := by decide +kernel
theorem jd_lindexOf_29 : decode jc_lindexOf 29 = .ok (.aload_n 0, 1) := by decide +kernel
theorem jd_lindexOf_30 : decode jc_lindexOf 30 = .ok (.iload_n 1, 1) := by decide +kernel
theorem jd_lindexOf_31 : decode jc_lindexOf 31 = .ok (.iload_n 2, 1) := by decide +kernel
theorem jd_lindexOf_32 : decode jc_lindexOf 32 = .ok (.iload_n 3, 1) := by decide +kernel
theorem jd_lindexOf_33 : decode jc_lindexOf 33 = .ok (.invokestatic 95, 3) := by decide +kernel
theorem jd_lindexOf_36 : decode jc_lindexOf 36 = .ok (.ireturn, 1) := by decide +kernel
theorem jg_lindexOf : GoodIn ax_tb jw_lindexOf := js_good ji_lindexOf
theorem jh_lindexOf {w0 : Cond} : GoodIn (w0 :: ax_tb) jw_lindexOf := fun w h => ⟨List.mem_cons_of_mem _ (jg_lindexOf w h).1, (jg_lindexOf w h).2⟩
def jy_indexOf2 : MethodName := ⟨"java/lang/String", "indexOf", "(II)I"⟩
abbrev jc_indexOf2 : ByteArray := prog_16_method_80_code
def jw_indexOf2 : List Cond := Cond.code jy_indexOf2 jc_indexOf2 3 (some FieldType.int) :: ax_tb
theorem ji_indexOf2 : Cond.code jy_indexOf2 jc_indexOf2 3 (some FieldType.int) ∈ ax_tb := ax_inT ax_t2 (i := 217) rfl rfl
theorem jd_indexOf2_0 : decode jc_indexOf2 0 = .ok (.aload_n 0, 1) := by decide +kernel
theorem jd_indexOf2_1 : decode jc_indexOf2 1 = .ok (.invokevirtual 492, 3) := by decide +kernel
theorem jd_indexOf2_4 : decode jc_indexOf2 4 = .ok (.ifCond .eq 19, 3) := by decide +kernel
theorem jd_indexOf2_7 : decode jc_indexOf2 7 = .ok (.aload_n 0, 1) := by decide +kernel
theorem jd_indexOf2_8 : decode jc_indexOf2 8 = .ok (.getfield 9, 3) := by decide +kernel
theorem jd_indexOf2_11 : decode jc_indexOf2 11 = .ok (.iload_n 1, 1) := by decide +kernel
theorem jd_indexOf2_12 : decode jc_indexOf2 12 = .ok (.iload_n 2, 1) := by decide +kernel
theorem jd_indexOf2_13 : decode jc_indexOf2 13 = .ok (.aload_n 0, 1) := by decide +kernel
theorem jd_indexOf2_14 : decode jc_indexOf2 14 = .ok (.invokevirtual 505, 3) := by decide +kernel
theorem jd_indexOf2_17 : decode jc_indexOf2 17 = .ok (.invokestatic 637, 3) := by decide +kernel
theorem jd_indexOf2_20 : decode jc_indexOf2 20 = .ok (.goto 16, 3) := by decide +kernel
theorem jd_indexOf2_23 : decode jc_indexOf2 23 = .ok (.aload_n 0, 1) := by decide +kernel
theorem jd_indexOf2_24 : decode jc_indexOf2 24 = .ok (.getfield 9, 3) := by decide +kernel
theorem jd_indexOf2_27 : decode jc_indexOf2 27 = .ok (.iload_n 1, 1) := by decide +kernel
theorem jd_indexOf2_28 : decode jc_indexOf2 28 = .ok (.iload_n 2, 1) := by decide +kernel
theorem jd_indexOf2_29 : decode jc_indexOf2 29 = .ok (.aload_n 0, 1) := by decide +kernel
theorem jd_indexOf2_30 : decode jc_indexOf2 30 = .ok (.invokevirtual 505, 3) := by decide +kernel
theorem jd_indexOf2_33 : decode jc_indexOf2 33 = .ok (.invokestatic 640, 3) := by decide +kernel
theorem jd_indexOf2_36 : decode jc_indexOf2 36 = .ok (.ireturn, 1) := by decide +kernel
theorem jg_indexOf2 : GoodIn ax_tb jw_indexOf2 := js_good ji_indexOf2
theorem jh_indexOf2 {w0 : Cond} : GoodIn (w0 :: ax_tb) jw_indexOf2 := fun w h => ⟨List.mem_cons_of_mem _ (jg_indexOf2 w h).1, (jg_indexOf2 w h).2⟩
def jy_indexOf1 : MethodName := ⟨"java/lang/String", "indexOf", "(I)I"⟩
abbrev jc_indexOf1 : ByteArray := prog_16_method_79_code
def jw_indexOf1 : List Cond := Cond.code jy_indexOf1 jc_indexOf1 2 (some FieldType.int) :: ax_tb
theorem ji_indexOf1 : Cond.code jy_indexOf1 jc_indexOf1 2 (some FieldType.int) ∈ ax_tb := ax_inT ax_t2 (i := 213) rfl rfl
theorem jd_indexOf1_0 : decode jc_indexOf1 0 = .ok (.aload_n 0, 1) := by decide +kernel
theorem jd_indexOf1_1 : decode jc_indexOf1 1 = .ok (.iload_n 1, 1) := by decide +kernel
theorem jd_indexOf1_2 : decode jc_indexOf1 2 = .ok (.iconst 0, 1) := by decide +kernel
theorem jd_indexOf1_3 : decode jc_indexOf1 3 = .ok (.invokevirtual 633, 3) := by decide +kernel
theorem jd_indexOf1_6 : decode jc_indexOf1 6 = .ok (.ireturn, 1) := by decide +kernel
theorem jg_indexOf1 : GoodIn ax_tb jw_indexOf1 := js_good ji_indexOf1
theorem jh_indexOf1 {w0 : Cond} : GoodIn (w0 :: ax_tb) jw_indexOf1 := fun w h => ⟨List.mem_cons_of_mem _ (jg_indexOf1 w h).1, (jg_indexOf1 w h).2⟩
set_option maxHeartbeats 4000000 in
theorem jm_coder (l : Launch) (G : ax_G) (adV : Nat → Nat) (i : Nat) (hi : i < 2) : Met l jy_coder jw_coder (js_rm 1) (va_Pc [.ref (G.2.2.1 i)] (js_V G adV)) (js_Q (some (.int 0))) 0 0 (fun _ => False) := by
  refine va_MetF (cc := jc_coder) (maxL := 1) (ret := (some FieldType.byte)) (by decide +kernel) rfl ?_
  intro p e s m args below meth c s₁ B hml hv
  obtain ⟨rfl, hV⟩ := hv
  have hx := B.exec
  have hb := B.bytes
  have hr := B.returns
  have hts := atoms_spec (ws := jw_coder) B.pre
  have htb : ∀ w ∈ ax_tb, w.before _ s = true := fun w hw => hts w (List.mem_cons_of_mem _ hw)
  have hown : s.vm.findClass "java/lang/String" = some m.cls := findClass_of_methodNamed B.named
  have hlocks := B.notSynchronized
  have hS : va_S (ax_A G) s.heap s.heap [] := va_S.rf
  have hl := lv_entry ([.ref (G.2.2.1 i)]) (n := 1) (Nat.le_of_ble_eq_true rfl)
  rw [lg_entry_eq]
  generalize (lg_sl ([.ref (G.2.2.1 i)]) ++ List.replicate (1 - (lg_sl ([.ref (G.2.2.1 i)])).length) Slot.unset).toArray = ls at hl ⊢
  refine va_gets hx hb hV.2.1 hS hown (htb _ (ax_inT ax_t2 (i := 165) rfl rfl)) (fun _ h => h) jd_coder_0 ?_
  refine lv_if_eq (tgt := 13) hx hb jd_coder_3 (by decide) (fun q => absurd q (by decide)) (fun _ => ?_)
  refine lv_aload_n hx hb jd_coder_6 rfl (lv_at hl 0 rfl) ?_
  refine vk_getf hx hb (hV.1.1 i hi).2.1 hS hown (htb _ (ax_inT ax_t8 (i := 152) rfl rfl)) (fun _ h => h) jd_coder_7 ?_
  refine lv_goto (tgt := 14) hx hb jd_coder_10 (by decide) ?_
  exact W.zret (ty := .byte) (v := 0) hx hb hr rfl (fun t ht _ => ⟨rfl, ht⟩) (fun q hq => by cases hq) jd_coder_14
set_option maxHeartbeats 4000000 in
theorem jm_isLatin1 (l : Launch) (G : ax_G) (adV : Nat → Nat) (i : Nat) (hi : i < 2) : Met l jy_isLatin1 jw_isLatin1 (js_rm 1) (va_Pc [.ref (G.2.2.1 i)] (js_V G adV)) (js_Q (some (.int 1))) 0 0 (fun _ => False) := by
  refine va_MetF (cc := jc_isLatin1) (maxL := 1) (ret := (some FieldType.boolean)) (by decide +kernel) rfl ?_
  intro p e s m args below meth c s₁ B hml hv
  obtain ⟨rfl, hV⟩ := hv
  have hx := B.exec
  have hb := B.bytes
  have hr := B.returns
  have hts := atoms_spec (ws := jw_isLatin1) B.pre
  have htb : ∀ w ∈ ax_tb, w.before _ s = true := fun w hw => hts w (List.mem_cons_of_mem _ hw)
  have hown : s.vm.findClass "java/lang/String" = some m.cls := findClass_of_methodNamed B.named
  have hlocks := B.notSynchronized
  have hS : va_S (ax_A G) s.heap s.heap [] := va_S.rf
  have hl := lv_entry ([.ref (G.2.2.1 i)]) (n := 1) (Nat.le_of_ble_eq_true rfl)
  rw [lg_entry_eq]
  generalize (lg_sl ([.ref (G.2.2.1 i)]) ++ List.replicate (1 - (lg_sl ([.ref (G.2.2.1 i)])).length) Slot.unset).toArray = ls at hl ⊢
  refine va_gets hx hb hV.2.1 hS hown (htb _ (ax_inT ax_t2 (i := 165) rfl rfl)) (fun _ h => h) jd_isLatin1_0 ?_
  refine lv_if_eq (tgt := 17) hx hb jd_isLatin1_3 (by decide) (fun q => absurd q (by decide)) (fun _ => ?_)
  refine lv_aload_n hx hb jd_isLatin1_6 rfl (lv_at hl 0 rfl) ?_
  refine vk_getf hx hb (hV.1.1 i hi).2.1 hS hown (htb _ (ax_inT ax_t8 (i := 152) rfl rfl)) (fun _ h => h) jd_isLatin1_7 ?_
  refine lv_if_ne (tgt := 17) hx hb jd_isLatin1_10 (by decide) (fun q => absurd rfl q) (fun _ => ?_)
  refine lv_iconst (v := 1) hx hb jd_isLatin1_13 (by decide) ?_
  refine lv_goto (tgt := 18) hx hb jd_isLatin1_14 (by decide) ?_
  exact W.zret (ty := .boolean) (v := 1) hx hb hr rfl (fun t ht _ => ⟨rfl, ht⟩) (fun q hq => by cases hq) jd_isLatin1_18
theorem js_len : ∀ i, i < 2 → ax_sl.getD i 0 = (ax_str i).length ∧ (ax_str i).length < 1000 ∧ (ax_str i).length ≠ 0 := by decide +kernel
theorem js_chr : ∀ i, i < 2 → ∀ k, k < ax_sl.getD i 0 → ((((ax_sb.getD i []).getD k 0) &&& 255).toUInt32 % 65536).toInt32 = Int32.ofNat ((ax_str i).getD k 0) ∧ narrow .char (.int (Int32.ofNat ((ax_str i).getD k 0))) = .int (Int32.ofNat ((ax_str i).getD k 0)) ∧ ((ax_sb.getD i []).getD k 0).toInt8.toInt32 = (ax_sb.getD i []).getD k 0 ∧ ((ax_sb.getD i []).getD k 0) &&& 255 = Int32.ofNat ((ax_str i).getD k 0) ∧ (ax_str i).getD k 0 < 128 := by decide +kernel
set_option maxHeartbeats 4000000 in
theorem jm_length (l : Launch) (G : ax_G) (adV : Nat → Nat) (i : Nat) (hi : i < 2) : Met l jy_length jw_length (js_rm 2) (va_Pc [.ref (G.2.2.1 i)] (js_V G adV)) (js_Q (some (.int (Int32.ofNat (ax_str i).length)))) 0 0 (fun _ => False) := by
  refine va_MetF (cc := jc_length) (maxL := 1) (ret := (some FieldType.int)) (by decide +kernel) rfl ?_
  intro p e s m args below meth c s₁ B hml hv
  obtain ⟨rfl, hV⟩ := hv
  have hx := B.exec
  have hb := B.bytes
  have hr := B.returns
  have hts := atoms_spec (ws := jw_length) B.pre
  have htb : ∀ w ∈ ax_tb, w.before _ s = true := fun w hw => hts w (List.mem_cons_of_mem _ hw)
  have hown : s.vm.findClass "java/lang/String" = some m.cls := findClass_of_methodNamed B.named
  have hlocks := B.notSynchronized
  have hS : va_S (ax_A G) s.heap s.heap [] := va_S.rf
  have hl := lv_entry ([.ref (G.2.2.1 i)]) (n := 1) (Nat.le_of_ble_eq_true rfl)
  rw [lg_entry_eq]
  generalize (lg_sl ([.ref (G.2.2.1 i)]) ++ List.replicate (1 - (lg_sl ([.ref (G.2.2.1 i)])).length) Slot.unset).toArray = ls at hl ⊢
  obtain ⟨hq1, hq2, -⟩ := js_len i hi
  refine lv_aload_n hx hb jd_length_0 rfl (lv_at hl 0 rfl) ?_
  refine vk_getf hx hb (hV.1.1 i hi).2.2.1 hS hown (htb _ (ax_inT ax_t8 (i := 151) rfl rfl)) (fun _ h => h) jd_length_1 ?_
  refine va_tlen (v := Int32.ofNat (ax_str i).length) hx hb (hV.1.1 i hi).2.2.2 hS (by rw [hq1]) jd_length_4 ?_
  refine lv_aload_n hx hb jd_length_5 rfl (lv_at hl 0 rfl) ?_
  refine js_call (va_runV (As := []) (rest := [.int (Int32.ofNat (ax_str i).length)]) (b := G.2.2.1 i) (C := "java/lang/String") (n := 0) ⟨hx, hb, hml, hown, htb⟩ (jm_coder l G adV i hi) ⟨callB_of 0 htb jg_coder rfl rfl rfl (htb _ (ax_inT ax_t1 (i := 12) rfl rfl)) (htb _ (ax_inT ax_t2 (i := 161) rfl rfl)) (by decide +kernel) ⟨by decide, by decide⟩, htb _ (ax_inT ax_t2 (i := 162) rfl rfl), htb _ (ax_inT ax_t2 (i := 163) rfl rfl)⟩ ⟨js_blind, vk_recv hV.1 hi hS, fun U hU hW => ⟨rfl, hV.warm hS hU hW⟩⟩ rfl rfl hl.1 rfl (lv_room (Nat.le_of_ble_eq_true rfl)) jd_length_6 ⟨Nat.le_refl _, Nat.le_refl _⟩) ?_
  refine lv_ishr hx hb jd_length_9 ?_
  have e0 : Int32.ofNat (ax_str i).length >>> ((0 : Int32) &&& 31) = Int32.ofNat (ax_str i).length := sc_shr0 (n := (ax_str i).length) (by omega)
  rw [e0]
  exact W.iret (v := Int32.ofNat (ax_str i).length) hx hb hr (fun t ht _ => ⟨rfl, ht⟩) (fun q hq => by cases hq) jd_length_10
set_option maxHeartbeats 4000000 in
theorem jm_pcheck (l : Launch) (G : ax_G) (adV : Nat → Nat) (x n : Int32) (fv : Value) (hf : fv = .null ∨ ∃ t, fv = .ref t) (h0 : ¬ x < 0) (h1 : x < n) : Met l jy_pcheck jw_pcheck (js_rm 1) (va_Pc [.int x, .int n, fv] (js_V G adV)) (js_Q (some (.int x))) 0 0 (fun _ => False) := by
  rcases hf with rfl | ⟨tt, rfl⟩
  · refine va_MetF (cc := jc_pcheck) (maxL := 3) (ret := (some FieldType.int)) (by decide +kernel) rfl ?_
    intro p e s m args below meth c s₁ B hml hv
    obtain ⟨rfl, hV⟩ := hv
    have hx := B.exec
    have hb := B.bytes
    have hr := B.returns
    have hts := atoms_spec (ws := jw_pcheck) B.pre
    have htb : ∀ w ∈ ax_tb, w.before _ s = true := fun w hw => hts w (List.mem_cons_of_mem _ hw)
    have hown : s.vm.findClass "jdk/internal/util/Preconditions" = some m.cls := findClass_of_methodNamed B.named
    have hlocks := B.notSynchronized
    have hS : va_S (ax_A G) s.heap s.heap [] := va_S.rf
    have hl := lv_entry ([.int x, .int n, .null]) (n := 3) (Nat.le_of_ble_eq_true rfl)
    rw [lg_entry_eq]
    generalize (lg_sl ([.int x, .int n, .null]) ++ List.replicate (3 - (lg_sl ([.int x, .int n, .null])).length) Slot.unset).toArray = ls at hl ⊢
    refine lv_iload_n hx hb jd_pcheck_0 rfl (lv_at hl 0 rfl) ?_
    refine lv_if_lt (tgt := 9) hx hb jd_pcheck_1 (by decide) (fun q => absurd q h0) (fun _ => ?_)
    refine lv_iload_n hx hb jd_pcheck_4 rfl (lv_at hl 0 rfl) ?_
    refine lv_iload_n hx hb jd_pcheck_5 rfl (lv_at hl 1 rfl) ?_
    refine lv_icmp_lt (tgt := 16) hx hb jd_pcheck_6 (by decide) (fun _ => ?_) (fun q => absurd h1 q)
    refine lv_iload_n hx hb jd_pcheck_16 rfl (lv_at hl 0 rfl) ?_
    exact W.iret (v := x) hx hb hr (fun t ht _ => ⟨rfl, ht⟩) (fun q hq => by cases hq) jd_pcheck_17
  · refine va_MetF (cc := jc_pcheck) (maxL := 3) (ret := (some FieldType.int)) (by decide +kernel) rfl ?_
    intro p e s m args below meth c s₁ B hml hv
    obtain ⟨rfl, hV⟩ := hv
    have hx := B.exec
    have hb := B.bytes
    have hr := B.returns
    have hts := atoms_spec (ws := jw_pcheck) B.pre
    have htb : ∀ w ∈ ax_tb, w.before _ s = true := fun w hw => hts w (List.mem_cons_of_mem _ hw)
    have hown : s.vm.findClass "jdk/internal/util/Preconditions" = some m.cls := findClass_of_methodNamed B.named
    have hlocks := B.notSynchronized
    have hS : va_S (ax_A G) s.heap s.heap [] := va_S.rf
    have hl := lv_entry ([.int x, .int n, .ref tt]) (n := 3) (Nat.le_of_ble_eq_true rfl)
    rw [lg_entry_eq]
    generalize (lg_sl ([.int x, .int n, .ref tt]) ++ List.replicate (3 - (lg_sl ([.int x, .int n, .ref tt])).length) Slot.unset).toArray = ls at hl ⊢
    refine lv_iload_n hx hb jd_pcheck_0 rfl (lv_at hl 0 rfl) ?_
    refine lv_if_lt (tgt := 9) hx hb jd_pcheck_1 (by decide) (fun q => absurd q h0) (fun _ => ?_)
    refine lv_iload_n hx hb jd_pcheck_4 rfl (lv_at hl 0 rfl) ?_
    refine lv_iload_n hx hb jd_pcheck_5 rfl (lv_at hl 1 rfl) ?_
    refine lv_icmp_lt (tgt := 16) hx hb jd_pcheck_6 (by decide) (fun _ => ?_) (fun q => absurd h1 q)
    refine lv_iload_n hx hb jd_pcheck_16 rfl (lv_at hl 0 rfl) ?_
    exact W.iret (v := x) hx hb hr (fun t ht _ => ⟨rfl, ht⟩) (fun q hq => by cases hq) jd_pcheck_17
set_option maxHeartbeats 4000000 in
theorem jm_check (l : Launch) (G : ax_G) (adV : Nat → Nat) (x n : Int32) (h0 : ¬ x < 0) (h1 : x < n) : Met l jy_check jw_check (js_rm 2) (va_Pc [.int x, .int n] (js_V G adV)) (js_Q none) 0 0 (fun _ => False) := by
  refine va_MetF (cc := jc_check) (maxL := 2) (ret := none) (by decide +kernel) rfl ?_
  intro p e s m args below meth c s₁ B hml hv
  obtain ⟨rfl, hV⟩ := hv
  have hx := B.exec
  have hb := B.bytes
  have hr := B.returns
  have hts := atoms_spec (ws := jw_check) B.pre
  have htb : ∀ w ∈ ax_tb, w.before _ s = true := fun w hw => hts w (List.mem_cons_of_mem _ hw)
  have hown : s.vm.findClass "java/lang/String" = some m.cls := findClass_of_methodNamed B.named
  have hlocks := B.notSynchronized
  have hS : va_S (ax_A G) s.heap s.heap [] := va_S.rf
  have hl := lv_entry ([.int x, .int n]) (n := 2) (Nat.le_of_ble_eq_true rfl)
  rw [lg_entry_eq]
  generalize (lg_sl ([.int x, .int n]) ++ List.replicate (2 - (lg_sl ([.int x, .int n])).length) Slot.unset).toArray = ls at hl ⊢
  refine lv_iload_n hx hb jd_check_0 rfl (lv_at hl 0 rfl) ?_
  refine lv_iload_n hx hb jd_check_1 rfl (lv_at hl 1 rfl) ?_
  obtain ⟨fv, hf, hZ⟩ : ∃ fv : Value, (fv = .null ∨ ∃ t, fv = .ref t) ∧ va_Z "jdk/internal/util/Preconditions" "SIOOBE_FORMATTER" "Ljava/util/function/BiFunction;" fv (ax_A G) s s.heap := by
    rcases hV.2.2 with h | ⟨t, h⟩
    · exact ⟨_, Or.inl rfl, h⟩
    · exact ⟨_, Or.inr ⟨t, rfl⟩, h⟩
  refine va_gets hx hb hZ hS hown (htb _ (ax_inT ax_t2 (i := 181) rfl rfl)) (fun _ h => h) jd_check_2 ?_
  refine js_call (va_runS (As := [.int x, .int n, fv]) (rest := []) (n := 3) ⟨hx, hb, hml, hown, htb⟩ (jm_pcheck l G adV x n fv hf h0 h1) ⟨callB_of 3 htb jg_pcheck rfl rfl rfl (htb _ (ax_inT ax_t1 (i := 14) rfl rfl)) (htb _ (ax_inT ax_t2 (i := 183) rfl rfl)) (by decide +kernel) ⟨by decide, by decide⟩, htb _ (ax_inT ax_t2 (i := 184) rfl rfl)⟩ ⟨js_blind, fun U hU hW => ⟨rfl, hV.warm hS hU hW⟩⟩ rfl rfl hl.1 rfl (lv_room (Nat.le_of_ble_eq_true rfl)) jd_check_5 ⟨Nat.le_refl _, Nat.le_refl _⟩) ?_
  refine lv_pop hx hb jd_check_8 rfl ?_
  exact W.vret hx hb hr (fun t ht _ => ⟨rfl, ht⟩) (fun q hq => by cases hq) jd_check_9
set_option maxHeartbeats 4000000 in
theorem jm_lcharAt (l : Launch) (G : ax_G) (adV : Nat → Nat) (i : Nat) (hi : i < 2) (x : Int32) (hin : vp_in x (ax_str i).length) : Met l jy_lcharAt jw_lcharAt (js_rm 3) (va_Pc [.ref (adV i), .int x] (js_V G adV)) (js_Q (some (.int (Int32.ofNat ((ax_str i).getD x.toNatClampNeg 0))))) 0 0 (fun _ => False) := by
  refine va_MetF (cc := jc_lcharAt) (maxL := 2) (ret := (some FieldType.char)) (by decide +kernel) rfl ?_
  intro p e s m args below meth c s₁ B hml hv
  obtain ⟨rfl, hV⟩ := hv
  have hx := B.exec
  have hb := B.bytes
  have hr := B.returns
  have hts := atoms_spec (ws := jw_lcharAt) B.pre
  have htb : ∀ w ∈ ax_tb, w.before _ s = true := fun w hw => hts w (List.mem_cons_of_mem _ hw)
  have hown : s.vm.findClass "java/lang/StringLatin1" = some m.cls := findClass_of_methodNamed B.named
  have hlocks := B.notSynchronized
  have hS : va_S (ax_A G) s.heap s.heap [] := va_S.rf
  have hl := lv_entry ([.ref (adV i), .int x]) (n := 2) (Nat.le_of_ble_eq_true rfl)
  rw [lg_entry_eq]
  generalize (lg_sl ([.ref (adV i), .int x]) ++ List.replicate (2 - (lg_sl ([.ref (adV i), .int x])).length) Slot.unset).toArray = ls at hl ⊢
  obtain ⟨hq1, hq2, -⟩ := js_len i hi
  have hlt : x.toNatClampNeg < (ax_str i).length := Nat.not_le.mp fun q => hin (Or.inr q)
  obtain ⟨k1, k2, -⟩ := js_chr i hi x.toNatClampNeg (by rw [hq1]; exact hlt)
  have h0 : ¬ x < 0 := fun q => hin (Or.inl q)
  have hxn : x = nI x.toNatClampNeg := by obtain ⟨j, hj, e⟩ := vp_in_of hin (by omega); rw [e, nI_clamp (by omega)]
  have h1 : x < Int32.ofNat (ax_str i).length := by rw [hxn]; exact nI_lt hlt (by omega)
  refine lv_iload_n hx hb jd_lcharAt_0 rfl (lv_at hl 1 rfl) ?_
  refine lv_aload_n hx hb jd_lcharAt_1 rfl (lv_at hl 0 rfl) ?_
  refine va_tlen (v := Int32.ofNat (ax_str i).length) hx hb (hV.1.1 i hi).2.2.2 hS (by rw [hq1]) jd_lcharAt_2 ?_
  refine js_call (va_runS (As := [.int x, .int (Int32.ofNat (ax_str i).length)]) (rest := []) (n := 2) ⟨hx, hb, hml, hown, htb⟩ (jm_check l G adV x (Int32.ofNat (ax_str i).length) h0 h1) ⟨callB_of 2 htb jg_check rfl rfl rfl (htb _ (ax_inT ax_t1 (i := 12) rfl rfl)) (htb _ (ax_inT ax_t2 (i := 178) rfl rfl)) (by decide +kernel) ⟨by decide, by decide⟩, htb _ (ax_inT ax_t2 (i := 179) rfl rfl)⟩ ⟨js_blind, fun U hU hW => ⟨rfl, hV.warm hS hU hW⟩⟩ rfl rfl hl.1 rfl (lv_room (Nat.le_of_ble_eq_true rfl)) jd_lcharAt_3 ⟨Nat.le_refl _, Nat.le_refl _⟩) ?_
  refine lv_aload_n hx hb jd_lcharAt_6 rfl (lv_at hl 0 rfl) ?_
  refine lv_iload_n hx hb jd_lcharAt_7 rfl (lv_at hl 1 rfl) ?_
  refine va_tb (v := .int ((ax_sb.getD i []).getD x.toNatClampNeg 0)) hx hb (hV.1.1 i hi).2.2.2 hS (by rw [hq1]; exact hin) rfl jd_lcharAt_8 ?_
  refine lv_sipush (v := 255) hx hb jd_lcharAt_9 (by decide) ?_
  refine lv_iand hx hb jd_lcharAt_12 ?_
  refine lv_i2c hx hb jd_lcharAt_13 k1 ?_
  exact W.zret (ty := .char) (v := Int32.ofNat ((ax_str i).getD x.toNatClampNeg 0)) hx hb hr k2 (fun t ht _ => ⟨rfl, ht⟩) (fun q hq => by cases hq) jd_lcharAt_14
set_option maxHeartbeats 4000000 in
theorem jm_charAt (l : Launch) (G : ax_G) (adV : Nat → Nat) (i : Nat) (hi : i < 2) (x : Int32) (hin : vp_in x (ax_str i).length) : Met l jy_charAt jw_charAt (js_rm 4) (va_Pc [.ref (G.2.2.1 i), .int x] (js_V G adV)) (js_Q (some (.int (Int32.ofNat ((ax_str i).getD x.toNatClampNeg 0))))) 0 0 (fun _ => False) := by
  refine va_MetF (cc := jc_charAt) (maxL := 2) (ret := (some FieldType.char)) (by decide +kernel) rfl ?_
  intro p e s m args below meth c s₁ B hml hv
  obtain ⟨rfl, hV⟩ := hv
  have hx := B.exec
  have hb := B.bytes
  have hr := B.returns
  have hts := atoms_spec (ws := jw_charAt) B.pre
  have htb : ∀ w ∈ ax_tb, w.before _ s = true := fun w hw => hts w (List.mem_cons_of_mem _ hw)
  have hown : s.vm.findClass "java/lang/String" = some m.cls := findClass_of_methodNamed B.named
  have hlocks := B.notSynchronized
  have hS : va_S (ax_A G) s.heap s.heap [] := va_S.rf
  have hl := lv_entry ([.ref (G.2.2.1 i), .int x]) (n := 2) (Nat.le_of_ble_eq_true rfl)
  rw [lg_entry_eq]
  generalize (lg_sl ([.ref (G.2.2.1 i), .int x]) ++ List.replicate (2 - (lg_sl ([.ref (G.2.2.1 i), .int x])).length) Slot.unset).toArray = ls at hl ⊢
  obtain ⟨hq1, hq2, -⟩ := js_len i hi
  have hlt : x.toNatClampNeg < (ax_str i).length := Nat.not_le.mp fun q => hin (Or.inr q)
  obtain ⟨k1, k2, -⟩ := js_chr i hi x.toNatClampNeg (by rw [hq1]; exact hlt)
  refine lv_aload_n hx hb jd_charAt_0 rfl (lv_at hl 0 rfl) ?_
  refine js_call (va_runV (As := []) (rest := []) (b := G.2.2.1 i) (C := "java/lang/String") (n := 0) ⟨hx, hb, hml, hown, htb⟩ (jm_isLatin1 l G adV i hi) ⟨callB_of 0 htb jg_isLatin1 rfl rfl rfl (htb _ (ax_inT ax_t1 (i := 12) rfl rfl)) (htb _ (ax_inT ax_t2 (i := 171) rfl rfl)) (by decide +kernel) ⟨by decide, by decide⟩, htb _ (ax_inT ax_t2 (i := 172) rfl rfl), htb _ (ax_inT ax_t2 (i := 173) rfl rfl)⟩ ⟨js_blind, vk_recv hV.1 hi hS, fun U hU hW => ⟨rfl, hV.warm hS hU hW⟩⟩ rfl rfl hl.1 rfl (lv_room (Nat.le_of_ble_eq_true rfl)) jd_charAt_1 ⟨Nat.le_refl _, Nat.le_refl _⟩) ?_
  refine lv_if_eq (tgt := 16) hx hb jd_charAt_4 (by decide) (fun q => absurd q (by decide)) (fun _ => ?_)
  refine lv_aload_n hx hb jd_charAt_7 rfl (lv_at hl 0 rfl) ?_
  refine vk_getf hx hb (hV.1.1 i hi).2.2.1 hS hown (htb _ (ax_inT ax_t8 (i := 151) rfl rfl)) (fun _ h => h) jd_charAt_8 ?_
  refine lv_iload_n hx hb jd_charAt_11 rfl (lv_at hl 1 rfl) ?_
  refine js_call (va_runS (As := [.ref (adV i), .int x]) (rest := []) (n := 2) ⟨hx, hb, hml, hown, htb⟩ (jm_lcharAt l G adV i hi x hin) ⟨callB_of 2 htb jg_lcharAt rfl rfl rfl (htb _ (ax_inT ax_t1 (i := 13) rfl rfl)) (htb _ (ax_inT ax_t2 (i := 175) rfl rfl)) (by decide +kernel) ⟨by decide, by decide⟩, htb _ (ax_inT ax_t2 (i := 176) rfl rfl)⟩ ⟨js_blind, fun U hU hW => ⟨rfl, hV.warm hS hU hW⟩⟩ rfl rfl hl.1 rfl (lv_room (Nat.le_of_ble_eq_true rfl)) jd_charAt_12 ⟨Nat.le_refl _, Nat.le_refl _⟩) ?_
  exact W.zret (ty := .char) (v := Int32.ofNat ((ax_str i).getD x.toNatClampNeg 0)) hx hb hr k2 (fun t ht _ => ⟨rfl, ht⟩) (fun q hq => by cases hq) jd_charAt_15
set_option maxHeartbeats 4000000 in
theorem jm_canEncode (l : Launch) (G : ax_G) (adV : Nat → Nat) (n : Nat) (hn : n < 256) : Met l jy_canEncode jw_canEncode (js_rm 1) (va_Pc [.int (nI n)] (js_V G adV)) (js_Q (some (.int 1))) 0 0 (fun _ => False) := by
  refine va_MetF (cc := jc_canEncode) (maxL := 1) (ret := (some FieldType.boolean)) (by decide +kernel) rfl ?_
  intro p e s m args below meth c s₁ B hml hv
  obtain ⟨rfl, hV⟩ := hv
  have hx := B.exec
  have hb := B.bytes
  have hr := B.returns
  have hts := atoms_spec (ws := jw_canEncode) B.pre
  have htb : ∀ w ∈ ax_tb, w.before _ s = true := fun w hw => hts w (List.mem_cons_of_mem _ hw)
  have hown : s.vm.findClass "java/lang/StringLatin1" = some m.cls := findClass_of_methodNamed B.named
  have hlocks := B.notSynchronized
  have hS : va_S (ax_A G) s.heap s.heap [] := va_S.rf
  have hl := lv_entry ([.int (nI n)]) (n := 1) (Nat.le_of_ble_eq_true rfl)
  rw [lg_entry_eq]
  generalize (lg_sl ([.int (nI n)]) ++ List.replicate (1 - (lg_sl ([.int (nI n)])).length) Slot.unset).toArray = ls at hl ⊢
  refine lv_iload_n hx hb jd_canEncode_0 rfl (lv_at hl 0 rfl) ?_
  refine lv_if_lt (tgt := 15) hx hb jd_canEncode_1 (by decide) (fun q => absurd q (nI_pos (by omega))) (fun _ => ?_)
  refine lv_iload_n hx hb jd_canEncode_4 rfl (lv_at hl 0 rfl) ?_
  refine lv_sipush (v := 255) hx hb jd_canEncode_5 (by decide) ?_
  refine lv_icmp_gt (tgt := 15) hx hb jd_canEncode_8 (by decide) (fun q => absurd q (nI_nlt (a := 255) (b := n) (by omega) (by omega))) (fun _ => ?_)
  refine lv_iconst (v := 1) hx hb jd_canEncode_11 (by decide) ?_
  refine lv_goto (tgt := 16) hx hb jd_canEncode_12 (by decide) ?_
  exact W.zret (ty := .boolean) (v := 1) hx hb hr rfl (fun t ht _ => ⟨rfl, ht⟩) (fun q hq => by cases hq) jd_canEncode_16
theorem js_drop {l : List Nat} {k : Nat} (h : k < l.length) : l.drop k = l.getD k 0 :: l.drop (k + 1) := by
  rw [List.drop_eq_getElem_cons h]
  simp [h]
set_option maxHeartbeats 4000000 in
theorem jm_ichar (l : Launch) (G : ax_G) (adV : Nat → Nat) (i : Nat) (hi : i < 2) (n : Nat) (hn : n < 256) : Met l jy_ichar jw_ichar (js_rm 1) (va_Pc [.ref (adV i), .int (nI n), .int 0, .int (Int32.ofNat (ax_str i).length)] (js_V G adV)) (js_Q (some (.int (ax_find n (ax_str i) 0)))) 0 0 (fun _ => False) := by
  refine va_MetF (cc := jc_ichar) (maxL := 6) (ret := (some FieldType.int)) (by decide +kernel) rfl ?_
  intro p e s m args below meth c s₁ B hml hv
  obtain ⟨rfl, hV⟩ := hv
  have hx := B.exec
  have hb := B.bytes
  have hr := B.returns
  have hts := atoms_spec (ws := jw_ichar) B.pre
  have htb : ∀ w ∈ ax_tb, w.before _ s = true := fun w hw => hts w (List.mem_cons_of_mem _ hw)
  have hown : s.vm.findClass "java/lang/StringLatin1" = some m.cls := findClass_of_methodNamed B.named
  have hlocks := B.notSynchronized
  have hS : va_S (ax_A G) s.heap s.heap [] := va_S.rf
  have hl := lv_entry ([.ref (adV i), .int (nI n), .int 0, .int (Int32.ofNat (ax_str i).length)]) (n := 6) (Nat.le_of_ble_eq_true rfl)
  rw [lg_entry_eq]
  generalize (lg_sl ([.ref (adV i), .int (nI n), .int 0, .int (Int32.ofNat (ax_str i).length)]) ++ List.replicate (6 - (lg_sl ([.ref (adV i), .int (nI n), .int 0, .int (Int32.ofNat (ax_str i).length)])).length) Slot.unset).toArray = ls at hl ⊢
  obtain ⟨hq1, hq2, -⟩ := js_len i hi
  have loop : ∀ (rem k : Nat) (ls : Array Slot), k + rem = (ax_str i).length → lv_has ls 6 [(0, .ref (adV i)), (3, .int (Int32.ofNat (ax_str i).length)), (4, .int (nI n).toInt8.toInt32), (5, .int (nI k))] → ax_find n ((ax_str i).drop k) k = ax_find n (ax_str i) 0 → W p l e (headSpec jw_ichar (js_rm 1)).room s m #[Value.ref (adV i), Value.int (nI n), Value.int 0, Value.int (Int32.ofNat (ax_str i).length)] below meth c s.heap [] 0 0 (MQ below (js_Q (some (.int (ax_find n (ax_str i) 0)))) #[Value.ref (adV i), Value.int (nI n), Value.int 0, Value.int (Int32.ofNat (ax_str i).length)] s 0 0 (fun _ => False)) (F0 m 7 ls []) := by
    intro rem
    induction rem with
    | zero =>
      intro k ls hk hl hf
      refine lv_iload hx hb jd_ichar_7 (lv_at hl 3 rfl) ?_
      refine lv_iload_n hx hb jd_ichar_9 rfl (lv_at hl 1 rfl) ?_
      refine lv_icmp_ge (tgt := 31) hx hb jd_ichar_10 (by decide) (fun _ => ?_) (fun q => absurd (nI_le (a := (ax_str i).length) (b := k) (by omega) (by omega)) q)
      refine lv_iconst (v := -1) hx hb jd_ichar_31 (by decide) ?_
      rw [List.drop_eq_nil_of_le (by omega)] at hf
      exact W.iret (v := -1) hx hb hr (fun t ht _ => ⟨by rw [← hf]; rfl, ht⟩) (fun q hq => by cases hq) jd_ichar_32
    | succ rem ih =>
      intro k ls hk hl hf
      have hlt : k < (ax_str i).length := by omega
      obtain ⟨-, -, k3, k4, k5⟩ := js_chr i hi k (by rw [hq1]; exact hlt)
      refine lv_iload hx hb jd_ichar_7 (lv_at hl 3 rfl) ?_
      refine lv_iload_n hx hb jd_ichar_9 rfl (lv_at hl 1 rfl) ?_
      refine lv_icmp_ge (tgt := 31) hx hb jd_ichar_10 (by decide) (fun q => absurd q (nI_ge (a := k) (b := (ax_str i).length) hlt (by omega))) (fun _ => ?_)
      refine lv_aload_n hx hb jd_ichar_13 rfl (lv_at hl 0 rfl) ?_
      refine lv_iload hx hb jd_ichar_14 (lv_at hl 3 rfl) ?_
      refine va_tb (v := .int ((ax_sb.getD i []).getD k 0)) hx hb (hV.1.1 i hi).2.2.2 hS (by rw [hq1]; exact vp_in_nI hlt (by omega)) (by rw [nI_clamp (by omega)]) jd_ichar_16 ?_
      refine lv_iload hx hb jd_ichar_17 (lv_at hl 2 rfl) ?_
      rw [js_drop hlt] at hf
      have hiff : (ax_sb.getD i []).getD k 0 = (nI n).toInt8.toInt32 ↔ (ax_str i).getD k 0 = n := by
        rw [sc_eq k3 hn, k4]
        exact nI_eq (a := (ax_str i).getD k 0) (b := n) (by omega) (by omega)
      refine lv_icmp_ne (tgt := 25) hx hb jd_ichar_19 (by decide) (fun q => ?_) (fun q => ?_)
      · have hne : ¬ (ax_str i).getD k 0 = n := fun z => q (hiff.mpr z)
        have hb0 : Nat.beq ((ax_str i).getD k 0) n = false := by
          cases hbq : Nat.beq ((ax_str i).getD k 0) n with
          | false => rfl
          | true => exact absurd (Nat.eq_of_beq_eq_true hbq) hne
        refine lv_iinc (v := nI (k + 1)) (lv' := [(5, .int (nI (k + 1))), (0, .ref (adV i)), (3, .int (Int32.ofNat (ax_str i).length)), (4, .int (nI n).toInt8.toInt32)]) hx hb jd_ichar_25 hl (k := 3) rfl (nI_1 k) (by decide) rfl (fun ls hl => ?_)
        refine lv_goto (tgt := 7) hx hb jd_ichar_28 (by decide) ?_
        refine ih (k + 1) ls (by omega) (lv_sub hl [1, 2, 3, 0] rfl) ?_
        rw [← hf]
        show _ = (bif Nat.beq ((ax_str i).getD k 0) n then Int32.ofNat k else ax_find n ((ax_str i).drop (k + 1)) (k + 1))
        rw [hb0]
        rfl
      · have heq := hiff.mp q
        have hb1 : Nat.beq ((ax_str i).getD k 0) n = true := by rw [heq]; exact Nat.beq_refl n
        refine lv_iload hx hb jd_ichar_22 (lv_at hl 3 rfl) ?_
        have hR : ax_find n (ax_str i) 0 = nI k := by
          rw [← hf]
          show (bif Nat.beq ((ax_str i).getD k 0) n then Int32.ofNat k else ax_find n ((ax_str i).drop (k + 1)) (k + 1)) = _
          rw [hb1]
          rfl
        exact W.iret (v := nI k) hx hb hr (fun t ht _ => ⟨by rw [hR], ht⟩) (fun q hq => by cases hq) jd_ichar_24
  refine lv_iload_n hx hb jd_ichar_0 rfl (lv_at hl 1 rfl) ?_
  refine lv_i2b hx hb jd_ichar_1 rfl ?_
  refine lv_istore (lv' := _) hx hb jd_ichar_2 hl (by decide) rfl (fun ls hl => ?_)
  refine lv_iload_n hx hb jd_ichar_4 rfl (lv_at hl 3 rfl) ?_
  refine lv_istore (lv' := _) hx hb jd_ichar_5 hl (by decide) rfl (fun ls hl => ?_)
  exact loop (ax_str i).length 0 ls (Nat.zero_add _) (lv_sub hl [2, 5, 1, 0] rfl) rfl
set_option maxHeartbeats 4000000 in
theorem jm_lindexOf (l : Launch) (G : ax_G) (adV : Nat → Nat) (i : Nat) (hi : i < 2) (n : Nat) (hn : n < 256) : Met l jy_lindexOf jw_lindexOf (js_rm 2) (va_Pc [.ref (adV i), .int (nI n), .int 0, .int (Int32.ofNat (ax_str i).length)] (js_V G adV)) (js_Q (some (.int (ax_find n (ax_str i) 0)))) 0 0 (fun _ => False) := by
  refine va_MetF (cc := jc_lindexOf) (maxL := 4) (ret := (some FieldType.int)) (by decide +kernel) rfl ?_
  intro p e s m args below meth c s₁ B hml hv
  obtain ⟨rfl, hV⟩ := hv
  have hx := B.exec
  have hb := B.bytes
  have hr := B.returns
  have hts := atoms_spec (ws := jw_lindexOf) B.pre
  have htb : ∀ w ∈ ax_tb, w.before _ s = true := fun w hw => hts w (List.mem_cons_of_mem _ hw)
  have hown : s.vm.findClass "java/lang/StringLatin1" = some m.cls := findClass_of_methodNamed B.named
  have hlocks := B.notSynchronized
  have hS : va_S (ax_A G) s.heap s.heap [] := va_S.rf
  have hl := lv_entry ([.ref (adV i), .int (nI n), .int 0, .int (Int32.ofNat (ax_str i).length)]) (n := 4) (Nat.le_of_ble_eq_true rfl)
  rw [lg_entry_eq]
  generalize (lg_sl ([.ref (adV i), .int (nI n), .int 0, .int (Int32.ofNat (ax_str i).length)]) ++ List.replicate (4 - (lg_sl ([.ref (adV i), .int (nI n), .int 0, .int (Int32.ofNat (ax_str i).length)])).length) Slot.unset).toArray = ls at hl ⊢
  obtain ⟨hq1, hq2, hq3⟩ := js_len i hi
  refine lv_iload_n hx hb jd_lindexOf_0 rfl (lv_at hl 1 rfl) ?_
  refine js_call (va_runS (As := [.int (nI n)]) (rest := []) (n := 1) ⟨hx, hb, hml, hown, htb⟩ (jm_canEncode l G adV n hn) ⟨callB_of 1 htb jg_canEncode rfl rfl rfl (htb _ (ax_inT ax_t1 (i := 13) rfl rfl)) (htb _ (ax_inT ax_t2 (i := 222) rfl rfl)) (by decide +kernel) ⟨by decide, by decide⟩, htb _ (ax_inT ax_t2 (i := 223) rfl rfl)⟩ ⟨js_blind, fun U hU hW => ⟨rfl, hV.warm hS hU hW⟩⟩ rfl rfl hl.1 rfl (lv_room (Nat.le_of_ble_eq_true rfl)) jd_lindexOf_1 ⟨Nat.le_refl _, Nat.le_refl _⟩) ?_
  refine lv_if_ne (tgt := 9) hx hb jd_lindexOf_4 (by decide) (fun _ => ?_) (fun q => absurd q (by decide))
  refine lv_iload_n hx hb jd_lindexOf_9 rfl (lv_at hl 2 rfl) ?_
  refine lv_iconst (v := 0) hx hb jd_lindexOf_10 (by decide) ?_
  refine va_mmax hx hb (by rw [hml]; exact hl.1.symm) hown (htb _ (ax_inT ax_t2 (i := 225) rfl rfl)) (htb _ (ax_inT ax_t2 (i := 146) rfl rfl)) (htb _ (ax_inT ax_t1 (i := 11) rfl rfl)) (htb _ (ax_inT ax_t2 (i := 147) rfl rfl)) (Nat.le_of_ble_eq_true rfl) (Nat.le_of_ble_eq_true rfl) (Nat.le_refl _) (Nat.le_refl _) jd_lindexOf_11 ?_
  rw [if_neg (by decide : ¬ (0 : Int32) < 0)]
  refine lv_istore_n (lv' := [(2, .int 0), (0, .ref (adV i)), (1, .int (nI n)), (3, .int (Int32.ofNat (ax_str i).length))]) hx hb jd_lindexOf_14 rfl hl (by decide) rfl (fun ls hl => ?_)
  refine lv_iload_n hx hb jd_lindexOf_15 rfl (lv_at hl 3 rfl) ?_
  refine lv_aload_n hx hb jd_lindexOf_16 rfl (lv_at hl 1 rfl) ?_
  refine va_tlen (v := Int32.ofNat (ax_str i).length) hx hb (hV.1.1 i hi).2.2.2 hS (by rw [hq1]) jd_lindexOf_17 ?_
  refine va_mmin hx hb (by rw [hml]; exact hl.1.symm) hown (htb _ (ax_inT ax_t2 (i := 226) rfl rfl)) (htb _ (ax_inT ax_t2 (i := 227) rfl rfl)) (htb _ (ax_inT ax_t1 (i := 11) rfl rfl)) (htb _ (ax_inT ax_t2 (i := 228) rfl rfl)) (Nat.le_of_ble_eq_true rfl) (Nat.le_of_ble_eq_true rfl) (Nat.le_refl _) (Nat.le_refl _) jd_lindexOf_18 ?_
  rw [if_neg Int32.lt_irrefl]
  refine lv_istore_n (lv' := [(3, .int (Int32.ofNat (ax_str i).length)), (2, .int 0), (0, .ref (adV i)), (1, .int (nI n))]) hx hb jd_lindexOf_21 rfl hl (by decide) rfl (fun ls hl => ?_)
  refine lv_iload_n hx hb jd_lindexOf_22 rfl (lv_at hl 1 rfl) ?_
  refine lv_iload_n hx hb jd_lindexOf_23 rfl (lv_at hl 0 rfl) ?_
  refine lv_icmp_lt (tgt := 29) hx hb jd_lindexOf_24 (by decide) (fun _ => ?_) (fun q => absurd (nI_lt (a := 0) (b := (ax_str i).length) (by omega) (by omega)) q)
  refine lv_aload_n hx hb jd_lindexOf_29 rfl (lv_at hl 2 rfl) ?_
  refine lv_iload_n hx hb jd_lindexOf_30 rfl (lv_at hl 3 rfl) ?_
  refine lv_iload_n hx hb jd_lindexOf_31 rfl (lv_at hl 1 rfl) ?_
  refine lv_iload_n hx hb jd_lindexOf_32 rfl (lv_at hl 0 rfl) ?_
  refine js_call (va_runS (As := [.ref (adV i), .int (nI n), .int 0, .int (Int32.ofNat (ax_str i).length)]) (rest := []) (n := 4) ⟨hx, hb, hml, hown, htb⟩ (jm_ichar l G adV i hi n hn) ⟨callB_of 4 htb jg_ichar rfl rfl rfl (htb _ (ax_inT ax_t1 (i := 13) rfl rfl)) (htb _ (ax_inT ax_t2 (i := 229) rfl rfl)) (by decide +kernel) ⟨by decide, by decide⟩, htb _ (ax_inT ax_t2 (i := 230) rfl rfl)⟩ ⟨js_blind, fun U hU hW => ⟨rfl, hV.warm hS hU hW⟩⟩ rfl rfl hl.1 rfl (lv_room (Nat.le_of_ble_eq_true rfl)) jd_lindexOf_33 ⟨Nat.le_refl _, Nat.le_refl _⟩) ?_
  exact W.iret (v := ax_find n (ax_str i) 0) hx hb hr (fun t ht _ => ⟨rfl, ht⟩) (fun q hq => by cases hq) jd_lindexOf_36
set_option maxHeartbeats 4000000 in
theorem jm_indexOf2 (l : Launch) (G : ax_G) (adV : Nat → Nat) (i : Nat) (hi : i < 2) (n : Nat) (hn : n < 256) : Met l jy_indexOf2 jw_indexOf2 (js_rm 3) (va_Pc [.ref (G.2.2.1 i), .int (nI n), .int 0] (js_V G adV)) (js_Q (some (.int (ax_find n (ax_str i) 0)))) 0 0 (fun _ => False) := by
  refine va_MetF (cc := jc_indexOf2) (maxL := 3) (ret := (some FieldType.int)) (by decide +kernel) rfl ?_
  intro p e s m args below meth c s₁ B hml hv
  obtain ⟨rfl, hV⟩ := hv
  have hx := B.exec
  have hb := B.bytes
  have hr := B.returns
  have hts := atoms_spec (ws := jw_indexOf2) B.pre
  have htb : ∀ w ∈ ax_tb, w.before _ s = true := fun w hw => hts w (List.mem_cons_of_mem _ hw)
  have hown : s.vm.findClass "java/lang/String" = some m.cls := findClass_of_methodNamed B.named
  have hlocks := B.notSynchronized
  have hS : va_S (ax_A G) s.heap s.heap [] := va_S.rf
  have hl := lv_entry ([.ref (G.2.2.1 i), .int (nI n), .int 0]) (n := 3) (Nat.le_of_ble_eq_true rfl)
  rw [lg_entry_eq]
  generalize (lg_sl ([.ref (G.2.2.1 i), .int (nI n), .int 0]) ++ List.replicate (3 - (lg_sl ([.ref (G.2.2.1 i), .int (nI n), .int 0])).length) Slot.unset).toArray = ls at hl ⊢
  refine lv_aload_n hx hb jd_indexOf2_0 rfl (lv_at hl 0 rfl) ?_
  refine js_call (va_runV (As := []) (rest := []) (b := G.2.2.1 i) (C := "java/lang/String") (n := 0) ⟨hx, hb, hml, hown, htb⟩ (jm_isLatin1 l G adV i hi) ⟨callB_of 0 htb jg_isLatin1 rfl rfl rfl (htb _ (ax_inT ax_t1 (i := 12) rfl rfl)) (htb _ (ax_inT ax_t2 (i := 171) rfl rfl)) (by decide +kernel) ⟨by decide, by decide⟩, htb _ (ax_inT ax_t2 (i := 172) rfl rfl), htb _ (ax_inT ax_t2 (i := 173) rfl rfl)⟩ ⟨js_blind, vk_recv hV.1 hi hS, fun U hU hW => ⟨rfl, hV.warm hS hU hW⟩⟩ rfl rfl hl.1 rfl (lv_room (Nat.le_of_ble_eq_true rfl)) jd_indexOf2_1 ⟨Nat.le_refl _, Nat.le_refl _⟩) ?_
  refine lv_if_eq (tgt := 23) hx hb jd_indexOf2_4 (by decide) (fun q => absurd q (by decide)) (fun _ => ?_)
  refine lv_aload_n hx hb jd_indexOf2_7 rfl (lv_at hl 0 rfl) ?_
  refine vk_getf hx hb (hV.1.1 i hi).2.2.1 hS hown (htb _ (ax_inT ax_t8 (i := 151) rfl rfl)) (fun _ h => h) jd_indexOf2_8 ?_
  refine lv_iload_n hx hb jd_indexOf2_11 rfl (lv_at hl 1 rfl) ?_
  refine lv_iload_n hx hb jd_indexOf2_12 rfl (lv_at hl 2 rfl) ?_
  refine lv_aload_n hx hb jd_indexOf2_13 rfl (lv_at hl 0 rfl) ?_
  refine js_call (va_runV (As := []) (rest := [.int 0, .int (nI n), .ref (adV i)]) (b := G.2.2.1 i) (C := "java/lang/String") (n := 0) ⟨hx, hb, hml, hown, htb⟩ (jm_length l G adV i hi) ⟨callB_of 0 htb jg_length rfl rfl rfl (htb _ (ax_inT ax_t1 (i := 12) rfl rfl)) (htb _ (ax_inT ax_t2 (i := 218) rfl rfl)) (by decide +kernel) ⟨by decide, by decide⟩, htb _ (ax_inT ax_t2 (i := 158) rfl rfl), htb _ (ax_inT ax_t2 (i := 159) rfl rfl)⟩ ⟨js_blind, vk_recv hV.1 hi hS, fun U hU hW => ⟨rfl, hV.warm hS hU hW⟩⟩ rfl rfl hl.1 rfl (lv_room (Nat.le_of_ble_eq_true rfl)) jd_indexOf2_14 ⟨Nat.le_refl _, Nat.le_refl _⟩) ?_
  refine js_call (va_runS (As := [.ref (adV i), .int (nI n), .int 0, .int (Int32.ofNat (ax_str i).length)]) (rest := []) (n := 4) ⟨hx, hb, hml, hown, htb⟩ (jm_lindexOf l G adV i hi n hn) ⟨callB_of 4 htb jg_lindexOf rfl rfl rfl (htb _ (ax_inT ax_t1 (i := 13) rfl rfl)) (htb _ (ax_inT ax_t2 (i := 219) rfl rfl)) (by decide +kernel) ⟨by decide, by decide⟩, htb _ (ax_inT ax_t2 (i := 220) rfl rfl)⟩ ⟨js_blind, fun U hU hW => ⟨rfl, hV.warm hS hU hW⟩⟩ rfl rfl hl.1 rfl (lv_room (Nat.le_of_ble_eq_true rfl)) jd_indexOf2_17 ⟨Nat.le_refl _, Nat.le_refl _⟩) ?_
  refine lv_goto (tgt := 36) hx hb jd_indexOf2_20 (by decide) ?_
  exact W.iret (v := ax_find n (ax_str i) 0) hx hb hr (fun t ht _ => ⟨rfl, ht⟩) (fun q hq => by cases hq) jd_indexOf2_36
set_option maxHeartbeats 4000000 in
theorem jm_indexOf1 (l : Launch) (G : ax_G) (adV : Nat → Nat) (i : Nat) (hi : i < 2) (n : Nat) (hn : n < 256) : Met l jy_indexOf1 jw_indexOf1 (js_rm 4) (va_Pc [.ref (G.2.2.1 i), .int (nI n)] (js_V G adV)) (js_Q (some (.int (ax_find n (ax_str i) 0)))) 0 0 (fun _ => False) := by
  refine va_MetF (cc := jc_indexOf1) (maxL := 2) (ret := (some FieldType.int)) (by decide +kernel) rfl ?_
  intro p e s m args below meth c s₁ B hml hv
  obtain ⟨rfl, hV⟩ := hv
  have hx := B.exec
  have hb := B.bytes
  have hr := B.returns
  have hts := atoms_spec (ws := jw_indexOf1) B.pre
  have htb : ∀ w ∈ ax_tb, w.before _ s = true := fun w hw => hts w (List.mem_cons_of_mem _ hw)
  have hown : s.vm.findClass "java/lang/String" = some m.cls := findClass_of_methodNamed B.named
  have hlocks := B.notSynchronized
  have hS : va_S (ax_A G) s.heap s.heap [] := va_S.rf
  have hl := lv_entry ([.ref (G.2.2.1 i), .int (nI n)]) (n := 2) (Nat.le_of_ble_eq_true rfl)
  rw [lg_entry_eq]
  generalize (lg_sl ([.ref (G.2.2.1 i), .int (nI n)]) ++ List.replicate (2 - (lg_sl ([.ref (G.2.2.1 i), .int (nI n)])).length) Slot.unset).toArray = ls at hl ⊢
  refine lv_aload_n hx hb jd_indexOf1_0 rfl (lv_at hl 0 rfl) ?_
  refine lv_iload_n hx hb jd_indexOf1_1 rfl (lv_at hl 1 rfl) ?_
  refine lv_iconst (v := 0) hx hb jd_indexOf1_2 (by decide) ?_
  refine js_call (va_runV (As := [.int (nI n), .int 0]) (rest := []) (b := G.2.2.1 i) (C := "java/lang/String") (n := 2) ⟨hx, hb, hml, hown, htb⟩ (jm_indexOf2 l G adV i hi n hn) ⟨callB_of 2 htb jg_indexOf2 rfl rfl rfl (htb _ (ax_inT ax_t1 (i := 12) rfl rfl)) (htb _ (ax_inT ax_t2 (i := 214) rfl rfl)) (by decide +kernel) ⟨by decide, by decide⟩, htb _ (ax_inT ax_t2 (i := 215) rfl rfl), htb _ (ax_inT ax_t2 (i := 216) rfl rfl)⟩ ⟨js_blind, vk_recv hV.1 hi hS, fun U hU hW => ⟨rfl, hV.warm hS hU hW⟩⟩ rfl rfl hl.1 rfl (lv_room (Nat.le_of_ble_eq_true rfl)) jd_indexOf1_3 ⟨Nat.le_refl _, Nat.le_refl _⟩) ?_
  exact W.iret (v := ax_find n (ax_str i) 0) hx hb hr (fun t ht _ => ⟨rfl, ht⟩) (fun q hq => by cases hq) jd_indexOf1_6
set_option maxHeartbeats 4000000 in
theorem ax_fs_ok : ax_FS := by
  intro p l e R s mid args below meth c H locs cells slots Q G X m pc j k lsM rest C hS hml2 hfr hlo hcat hc hs hd hk
  obtain ⟨hx, hb, hml, hown, hts, hini, hSt⟩ := C
  have hk2 : k < 2 := by omega
  obtain ⟨adV, hV1⟩ := hSt.2.2.2.2.2.2.2.2.1
  have hV : js_V G adV s := ⟨hV1, hSt.2.2.2.2.2.2.2.2.2.1, hSt.2.2.2.2.2.2.2.2.2.2⟩
  have hroom : 2 * 0 + (rest.map fun v => v.category).sum ≤ 8 := by omega
  refine ⟨fun hlk w => ?_, fun i hlk hin w => ?_, fun i hlk hin w => ?_⟩
  · have hF := ax_fl_ok (ax_own m) j
    rw [hlk] at hF
    refine js_call (va_runV (As := []) (rest := rest) (b := G.2.2.1 k) (C := "java/lang/String") (n := 0) ⟨hx, hb, hml2, hown, hts⟩ (jm_length l G adV k hk2) ⟨callB_of 0 hts jg_length rfl rfl rfl (hts _ (ax_inT ax_t1 (i := 12) rfl rfl)) (hts _ hF) (by decide +kernel) ⟨by show 2 + 1 ≤ _; omega, by show 8 + (1 + 11) + 40 * 2 ≤ _; omega⟩, hts _ (ax_inT ax_t2 (i := 158) rfl rfl), hts _ (ax_inT ax_t2 (i := 159) rfl rfl)⟩ ⟨js_blind, vk_recv hV.1 hk2 hS, fun U hU hW => ⟨rfl, hV.warm hS hU hW⟩⟩ rfl rfl rfl rfl hroom hd ⟨hc, hs⟩) w
  · have hF := ax_fl_ok (ax_own m) j
    rw [hlk] at hF
    refine js_call (va_runV (As := [.int i]) (rest := rest) (b := G.2.2.1 k) (C := "java/lang/String") (n := 1) ⟨hx, hb, hml2, hown, hts⟩ (jm_charAt l G adV k hk2 i hin) ⟨callB_of 1 hts jg_charAt rfl rfl rfl (hts _ (ax_inT ax_t1 (i := 12) rfl rfl)) (hts _ hF) (by decide +kernel) ⟨by show 4 + 1 ≤ _; omega, by show 8 + (2 + 11) + 40 * 4 ≤ _; omega⟩, hts _ (ax_inT ax_t2 (i := 168) rfl rfl), hts _ (ax_inT ax_t2 (i := 169) rfl rfl)⟩ ⟨js_blind, vk_recv hV.1 hk2 hS, fun U hU hW => ⟨rfl, hV.warm hS hU hW⟩⟩ rfl rfl rfl rfl hroom hd ⟨hc, hs⟩) w
  · have hF := ax_fl_ok (ax_own m) j
    rw [hlk] at hF
    have hn : i.toNatClampNeg < 256 := Nat.not_le.mp fun q => hin (Or.inr q)
    have hiN : i = nI i.toNatClampNeg := by obtain ⟨j, hj, e⟩ := vp_in_of (n := 256) hin (by omega); rw [e, nI_clamp (by omega)]
    generalize i.toNatClampNeg = n at hn hiN w
    subst hiN
    refine js_call (va_runV (As := [.int (nI n)]) (rest := rest) (b := G.2.2.1 k) (C := "java/lang/String") (n := 1) ⟨hx, hb, hml2, hown, hts⟩ (jm_indexOf1 l G adV k hk2 n hn) ⟨callB_of 1 hts jg_indexOf1 rfl rfl rfl (hts _ (ax_inT ax_t1 (i := 12) rfl rfl)) (hts _ hF) (by decide +kernel) ⟨by show 4 + 1 ≤ _; omega, by show 8 + (2 + 11) + 40 * 4 ≤ _; omega⟩, hts _ (ax_inT ax_t2 (i := 211) rfl rfl), hts _ (ax_inT ax_t2 (i := 212) rfl rfl)⟩ ⟨js_blind, vk_recv hV.1 hk2 hS, fun U hU hW => ⟨rfl, hV.warm hS hU hW⟩⟩ rfl rfl rfl rfl hroom hd ⟨hc, hs⟩) w
