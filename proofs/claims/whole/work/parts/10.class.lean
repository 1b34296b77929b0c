/-! the methods, as continuations, and their contracts (by program out of the bytecode) -/
theorem cok_0 : clsOk 0 "BusTelegrams$Ear" TX0 16 tyX0 := ⟨rfl, cu_0, rfl, by decide, tyX0_ok, nmX0⟩
theorem cok_1 : clsOk 1 "BusTelegrams$Station" TX1 15 tyX1 := ⟨rfl, cu_1, rfl, by decide, tyX1_ok, nmX1⟩
theorem cok_2 : clsOk 2 "BusTelegrams$Telegram" TX2 4 tyX2 := ⟨rfl, cu_2, rfl, by decide, tyX2_ok, nmX2⟩
theorem cok_3 : clsOk 3 "BusTelegrams" TX3 7 tyX3 := ⟨rfl, cu_3, rfl, by decide, tyX3_ok, nmX3⟩
theorem cok_4 : clsOk 4 "BusTelegramsModel" TX4 35 tyX4 := ⟨rfl, cu_4, rfl, by decide, tyX4_ok, nmX4⟩
theorem d_B_answer_0 : decode prog_1_method_12_code 0 = .ok (.aload_n 0, 1) := by decide +kernel
theorem d_B_answer_1 : decode prog_1_method_12_code 1 = .ok (.getfield 18, 3) := by decide +kernel
theorem d_B_answer_4 : decode prog_1_method_12_code 4 = .ok (.getfield 139, 3) := by decide +kernel
theorem d_B_answer_7 : decode prog_1_method_12_code 7 = .ok (.ireturn, 1) := by decide +kernel
def b_B_answer_0 (post : Option Value → Mm → Prop) : Kk := (i_aload 0 (i_getR 3 1 (i_getI 0 14 (i_iret post))))
theorem t_B_answer_0 {Z : Zt} {X0 : Mm} {post : Option Value → Mm → Prop} (g : Good Z prog_1_method_12_code 1 "BusTelegrams" 0) (hq : RetZ Z true X0 0 0 post) (hr : (zM Z).sig.returnType = (some .int)) : Snd Z 1 0 (b_B_answer_0 post) := by
  unfold b_B_answer_0
  exact (s_aload_n g d_B_answer_0 rfl (s_getR g (c := 3) (j := 1) cok_3 (by decide) rfl mw_160 rfl d_B_answer_1 (s_getIN g (c := 0) (j := 14) cok_0 (by decide) rfl mn_46 rfl d_B_answer_4 (s_iret0 g hq hr d_B_answer_7))))
def w_B_answer : Wp := wpOf 1 (fun _ post => b_B_answer_0 post)
theorem C_B_answer (l : Launch) : MetS l ({ cls := "BusTelegrams", name := "answer", desc := "()I" } : Jvm.MethodName) prog_1_method_12_code 1 (some .int) true 0 0 0 w_B_answer := metS_of (by decide +kernel) (fun Z X0 post hZ g hq hr _ => t_B_answer_0 g hq hr)
theorem hd_B_answer : (({ cls := "BusTelegrams", name := "answer", desc := "()I" } : Jvm.MethodName)).cls = "BusTelegrams" ∧ (({ cls := "BusTelegrams", name := "answer", desc := "()I" } : Jvm.MethodName)).cls ≠ "java/lang/invoke/MethodHandle" ∧ (({ cls := "BusTelegrams", name := "answer", desc := "()I" } : Jvm.MethodName)).cls ≠ "java/lang/invoke/VarHandle" ∧ (parseMethodDescriptor (({ cls := "BusTelegrams", name := "answer", desc := "()I" } : Jvm.MethodName)).desc).map (fun d => d.parameters.length) = some 0 := ⟨rfl, by decide, by decide, by decide +kernel⟩
theorem d_B_wholeNotAbove_0 : decode prog_1_method_19_code 0 = .ok (.dload_n 0, 1) := by decide +kernel
theorem d_B_wholeNotAbove_1 : decode prog_1_method_19_code 1 = .ok (.d2i, 1) := by decide +kernel
theorem d_B_wholeNotAbove_2 : decode prog_1_method_19_code 2 = .ok (.istore_n 2, 1) := by decide +kernel
theorem d_B_wholeNotAbove_3 : decode prog_1_method_19_code 3 = .ok (.iload_n 2, 1) := by decide +kernel
theorem d_B_wholeNotAbove_4 : decode prog_1_method_19_code 4 = .ok (.i2d, 1) := by decide +kernel
theorem d_B_wholeNotAbove_5 : decode prog_1_method_19_code 5 = .ok (.dload_n 0, 1) := by decide +kernel
theorem d_B_wholeNotAbove_6 : decode prog_1_method_19_code 6 = .ok (.dcmp .l, 1) := by decide +kernel
theorem d_B_wholeNotAbove_7 : decode prog_1_method_19_code 7 = .ok (.ifCond .le 9, 3) := by decide +kernel
theorem d_B_wholeNotAbove_10 : decode prog_1_method_19_code 10 = .ok (.iload_n 2, 1) := by decide +kernel
theorem d_B_wholeNotAbove_11 : decode prog_1_method_19_code 11 = .ok (.iconst 1, 1) := by decide +kernel
theorem d_B_wholeNotAbove_12 : decode prog_1_method_19_code 12 = .ok (.isub, 1) := by decide +kernel
theorem d_B_wholeNotAbove_13 : decode prog_1_method_19_code 13 = .ok (.goto 4, 3) := by decide +kernel
theorem d_B_wholeNotAbove_16 : decode prog_1_method_19_code 16 = .ok (.iload_n 2, 1) := by decide +kernel
theorem d_B_wholeNotAbove_17 : decode prog_1_method_19_code 17 = .ok (.ireturn, 1) := by decide +kernel
def b_B_wholeNotAbove_17 (post : Option Value → Mm → Prop) : Kk := (i_iret post)
theorem t_B_wholeNotAbove_17 {Z : Zt} {X0 : Mm} {post : Option Value → Mm → Prop} (g : Good Z prog_1_method_19_code 3 "BusTelegrams" 0) (hq : RetZ Z true X0 0 0 post) (hr : (zM Z).sig.returnType = (some .int)) : Snd Z 3 17 (b_B_wholeNotAbove_17 post) := by
  unfold b_B_wholeNotAbove_17
  exact (s_iret0 g hq hr d_B_wholeNotAbove_17)
def b_B_wholeNotAbove_0 (post : Option Value → Mm → Prop) : Kk := (i_dload 0 (i_d2i (i_istore 2 (i_iload 2 (i_i2d (i_dload 0 (i_dcmp .l (i_if (fun x y => x ≤ y) (i_iload 2 (b_B_wholeNotAbove_17 post)) (i_iload 2 (i_push (.int 1) (i_bin (fun x y => x - y) (b_B_wholeNotAbove_17 post))))))))))))
theorem t_B_wholeNotAbove_0 {Z : Zt} {X0 : Mm} {post : Option Value → Mm → Prop} (g : Good Z prog_1_method_19_code 3 "BusTelegrams" 0) (hq : RetZ Z true X0 0 0 post) (hr : (zM Z).sig.returnType = (some .int)) : Snd Z 3 0 (b_B_wholeNotAbove_0 post) := by
  unfold b_B_wholeNotAbove_0
  exact (s_dload_n g d_B_wholeNotAbove_0 rfl (s_d2i g d_B_wholeNotAbove_1 (s_istore_n g (by decide) d_B_wholeNotAbove_2 rfl (s_iload_n g d_B_wholeNotAbove_3 rfl (s_i2d g d_B_wholeNotAbove_4 (s_dload_n g d_B_wholeNotAbove_5 rfl (s_dcmp g d_B_wholeNotAbove_6 (s_if_le g d_B_wholeNotAbove_7 (by decide) (s_iload_n g d_B_wholeNotAbove_16 rfl (t_B_wholeNotAbove_17 g hq hr)) (s_iload_n g d_B_wholeNotAbove_10 rfl (s_push_iconst g d_B_wholeNotAbove_11 (by decide) (s_isub g d_B_wholeNotAbove_12 (s_goto g d_B_wholeNotAbove_13 (by decide) (t_B_wholeNotAbove_17 g hq hr)))))))))))))
def w_B_wholeNotAbove : Wp := wpOf 3 (fun _ post => b_B_wholeNotAbove_0 post)
theorem C_B_wholeNotAbove (l : Launch) : MetS l ({ cls := "BusTelegrams", name := "wholeNotAbove", desc := "(D)I" } : Jvm.MethodName) prog_1_method_19_code 3 (some .int) true 0 0 0 w_B_wholeNotAbove := metS_of (by decide +kernel) (fun Z X0 post hZ g hq hr _ => t_B_wholeNotAbove_0 g hq hr)
theorem hd_B_wholeNotAbove : (({ cls := "BusTelegrams", name := "wholeNotAbove", desc := "(D)I" } : Jvm.MethodName)).cls ≠ "java/lang/invoke/MethodHandle" ∧ (({ cls := "BusTelegrams", name := "wholeNotAbove", desc := "(D)I" } : Jvm.MethodName)).cls ≠ "java/lang/invoke/VarHandle" ∧ (parseMethodDescriptor (({ cls := "BusTelegrams", name := "wholeNotAbove", desc := "(D)I" } : Jvm.MethodName)).desc).map (fun d => d.parameters.length) = some 1 := ⟨by decide, by decide, by decide +kernel⟩
theorem d_B_packedOf_0 : decode prog_1_method_18_code 0 = .ok (.iload_n 0, 1) := by decide +kernel
theorem d_B_packedOf_1 : decode prog_1_method_18_code 1 = .ok (.ifCond .ge 8, 3) := by decide +kernel
theorem d_B_packedOf_4 : decode prog_1_method_18_code 4 = .ok (.ldc 160, 2) := by decide +kernel
theorem d_B_packedOf_6 : decode prog_1_method_18_code 6 = .ok (.goto 4, 3) := by decide +kernel
theorem d_B_packedOf_9 : decode prog_1_method_18_code 9 = .ok (.iconst 0, 1) := by decide +kernel
theorem d_B_packedOf_10 : decode prog_1_method_18_code 10 = .ok (.sipush 2048, 3) := by decide +kernel
theorem d_B_packedOf_13 : decode prog_1_method_18_code 13 = .ok (.iload_n 1, 1) := by decide +kernel
theorem d_B_packedOf_14 : decode prog_1_method_18_code 14 = .ok (.imul, 1) := by decide +kernel
theorem d_B_packedOf_15 : decode prog_1_method_18_code 15 = .ok (.iadd, 1) := by decide +kernel
theorem d_B_packedOf_16 : decode prog_1_method_18_code 16 = .ok (.iload_n 0, 1) := by decide +kernel
theorem d_B_packedOf_17 : decode prog_1_method_18_code 17 = .ok (.sipush 2047, 3) := by decide +kernel
theorem d_B_packedOf_20 : decode prog_1_method_18_code 20 = .ok (.iand, 1) := by decide +kernel
theorem d_B_packedOf_21 : decode prog_1_method_18_code 21 = .ok (.iadd, 1) := by decide +kernel
theorem d_B_packedOf_22 : decode prog_1_method_18_code 22 = .ok (.ireturn, 1) := by decide +kernel
def b_B_packedOf_10 (post : Option Value → Mm → Prop) : Kk := (i_push (.int 2048) (i_iload 1 (i_bin (fun x y => x * y) (i_bin (fun x y => x + y) (i_iload 0 (i_push (.int 2047) (i_bin (fun x y => x &&& y) (i_bin (fun x y => x + y) (i_iret post)))))))))
theorem t_B_packedOf_10 {Z : Zt} {X0 : Mm} {post : Option Value → Mm → Prop} (g : Good Z prog_1_method_18_code 2 "BusTelegrams" 0) (hq : RetZ Z true X0 0 0 post) (hr : (zM Z).sig.returnType = (some .int)) : Snd Z 2 10 (b_B_packedOf_10 post) := by
  unfold b_B_packedOf_10
  exact (s_push_sipush g d_B_packedOf_10 (by decide) (s_iload_n g d_B_packedOf_13 rfl (s_imul g d_B_packedOf_14 (s_iadd g d_B_packedOf_15 (s_iload_n g d_B_packedOf_16 rfl (s_push_sipush g d_B_packedOf_17 (by decide) (s_iand g d_B_packedOf_20 (s_iadd g d_B_packedOf_21 (s_iret0 g hq hr d_B_packedOf_22)))))))))
def b_B_packedOf_0 (post : Option Value → Mm → Prop) : Kk := (i_iload 0 (i_if (fun x y => y ≤ x) (i_push (.int 0) (b_B_packedOf_10 post)) (i_push (.int 32768) (b_B_packedOf_10 post))))
theorem t_B_packedOf_0 {Z : Zt} {X0 : Mm} {post : Option Value → Mm → Prop} (g : Good Z prog_1_method_18_code 2 "BusTelegrams" 0) (hq : RetZ Z true X0 0 0 post) (hr : (zM Z).sig.returnType = (some .int)) : Snd Z 2 0 (b_B_packedOf_0 post) := by
  unfold b_B_packedOf_0
  exact (s_iload_n g d_B_packedOf_0 rfl (s_if_ge g d_B_packedOf_1 (by decide) (s_push_iconst g d_B_packedOf_9 (by decide) (t_B_packedOf_10 g hq hr)) (s_push_ldc g mw_199 d_B_packedOf_4 (s_goto g d_B_packedOf_6 (by decide) (t_B_packedOf_10 g hq hr)))))
def w_B_packedOf : Wp := wpOf 2 (fun _ post => b_B_packedOf_0 post)
theorem C_B_packedOf (l : Launch) : MetS l ({ cls := "BusTelegrams", name := "packedOf", desc := "(II)I" } : Jvm.MethodName) prog_1_method_18_code 2 (some .int) true 0 0 0 w_B_packedOf := metS_of (by decide +kernel) (fun Z X0 post hZ g hq hr _ => t_B_packedOf_0 g hq hr)
theorem hd_B_packedOf : (({ cls := "BusTelegrams", name := "packedOf", desc := "(II)I" } : Jvm.MethodName)).cls ≠ "java/lang/invoke/MethodHandle" ∧ (({ cls := "BusTelegrams", name := "packedOf", desc := "(II)I" } : Jvm.MethodName)).cls ≠ "java/lang/invoke/VarHandle" ∧ (parseMethodDescriptor (({ cls := "BusTelegrams", name := "packedOf", desc := "(II)I" } : Jvm.MethodName)).desc).map (fun d => d.parameters.length) = some 2 := ⟨by decide, by decide, by decide +kernel⟩
theorem d_B_isOutside_0 : decode prog_1_method_15_code 0 = .ok (.iload_n 0, 1) := by decide +kernel
theorem d_B_isOutside_1 : decode prog_1_method_15_code 1 = .ok (.ifCond .lt 8, 3) := by decide +kernel
theorem d_B_isOutside_4 : decode prog_1_method_15_code 4 = .ok (.iload_n 0, 1) := by decide +kernel
theorem d_B_isOutside_5 : decode prog_1_method_15_code 5 = .ok (.iload_n 1, 1) := by decide +kernel
theorem d_B_isOutside_6 : decode prog_1_method_15_code 6 = .ok (.if_icmp .lt 7, 3) := by decide +kernel
theorem d_B_isOutside_9 : decode prog_1_method_15_code 9 = .ok (.iconst 1, 1) := by decide +kernel
theorem d_B_isOutside_10 : decode prog_1_method_15_code 10 = .ok (.goto 4, 3) := by decide +kernel
theorem d_B_isOutside_13 : decode prog_1_method_15_code 13 = .ok (.iconst 0, 1) := by decide +kernel
theorem d_B_isOutside_14 : decode prog_1_method_15_code 14 = .ok (.ireturn, 1) := by decide +kernel
def b_B_isOutside_14 (post : Option Value → Mm → Prop) : Kk := (i_zret post)
theorem t_B_isOutside_14 {Z : Zt} {X0 : Mm} {post : Option Value → Mm → Prop} (g : Good Z prog_1_method_15_code 2 "BusTelegrams" 0) (hq : RetZ Z true X0 0 0 post) (hr : (zM Z).sig.returnType = (some .boolean)) : Snd Z 2 14 (b_B_isOutside_14 post) := by
  unfold b_B_isOutside_14
  exact (s_zret0 g hq hr d_B_isOutside_14)
def b_B_isOutside_9 (post : Option Value → Mm → Prop) : Kk := (i_push (.int 1) (b_B_isOutside_14 post))
theorem t_B_isOutside_9 {Z : Zt} {X0 : Mm} {post : Option Value → Mm → Prop} (g : Good Z prog_1_method_15_code 2 "BusTelegrams" 0) (hq : RetZ Z true X0 0 0 post) (hr : (zM Z).sig.returnType = (some .boolean)) : Snd Z 2 9 (b_B_isOutside_9 post) := by
  unfold b_B_isOutside_9
  exact (s_push_iconst g d_B_isOutside_9 (by decide) (s_goto g d_B_isOutside_10 (by decide) (t_B_isOutside_14 g hq hr)))
def b_B_isOutside_0 (post : Option Value → Mm → Prop) : Kk := (i_iload 0 (i_if (fun x y => x < y) (b_B_isOutside_9 post) (i_iload 0 (i_iload 1 (i_icmp (fun x y => x < y) (i_push (.int 0) (b_B_isOutside_14 post)) (b_B_isOutside_9 post))))))
theorem t_B_isOutside_0 {Z : Zt} {X0 : Mm} {post : Option Value → Mm → Prop} (g : Good Z prog_1_method_15_code 2 "BusTelegrams" 0) (hq : RetZ Z true X0 0 0 post) (hr : (zM Z).sig.returnType = (some .boolean)) : Snd Z 2 0 (b_B_isOutside_0 post) := by
  unfold b_B_isOutside_0
  exact (s_iload_n g d_B_isOutside_0 rfl (s_if_lt g d_B_isOutside_1 (by decide) (t_B_isOutside_9 g hq hr) (s_iload_n g d_B_isOutside_4 rfl (s_iload_n g d_B_isOutside_5 rfl (s_icmp_lt g d_B_isOutside_6 (by decide) (s_push_iconst g d_B_isOutside_13 (by decide) (t_B_isOutside_14 g hq hr)) (t_B_isOutside_9 g hq hr))))))
def w_B_isOutside : Wp := wpOf 2 (fun _ post => b_B_isOutside_0 post)
theorem C_B_isOutside (l : Launch) : MetS l ({ cls := "BusTelegrams", name := "isOutside", desc := "(II)Z" } : Jvm.MethodName) prog_1_method_15_code 2 (some .boolean) true 0 0 0 w_B_isOutside := metS_of (by decide +kernel) (fun Z X0 post hZ g hq hr _ => t_B_isOutside_0 g hq hr)
theorem hd_B_isOutside : (({ cls := "BusTelegrams", name := "isOutside", desc := "(II)Z" } : Jvm.MethodName)).cls ≠ "java/lang/invoke/MethodHandle" ∧ (({ cls := "BusTelegrams", name := "isOutside", desc := "(II)Z" } : Jvm.MethodName)).cls ≠ "java/lang/invoke/VarHandle" ∧ (parseMethodDescriptor (({ cls := "BusTelegrams", name := "isOutside", desc := "(II)Z" } : Jvm.MethodName)).desc).map (fun d => d.parameters.length) = some 2 := ⟨by decide, by decide, by decide +kernel⟩
theorem d_J_floorMod_0 : decode prog_11_method_50_code 0 = .ok (.iload_n 0, 1) := by decide +kernel
theorem d_J_floorMod_1 : decode prog_11_method_50_code 1 = .ok (.iload_n 1, 1) := by decide +kernel
theorem d_J_floorMod_2 : decode prog_11_method_50_code 2 = .ok (.irem, 1) := by decide +kernel
theorem d_J_floorMod_3 : decode prog_11_method_50_code 3 = .ok (.istore_n 2, 1) := by decide +kernel
theorem d_J_floorMod_4 : decode prog_11_method_50_code 4 = .ok (.iload_n 0, 1) := by decide +kernel
theorem d_J_floorMod_5 : decode prog_11_method_50_code 5 = .ok (.iload_n 1, 1) := by decide +kernel
theorem d_J_floorMod_6 : decode prog_11_method_50_code 6 = .ok (.ixor, 1) := by decide +kernel
theorem d_J_floorMod_7 : decode prog_11_method_50_code 7 = .ok (.ifCond .ge 11, 3) := by decide +kernel
theorem d_J_floorMod_10 : decode prog_11_method_50_code 10 = .ok (.iload_n 2, 1) := by decide +kernel
theorem d_J_floorMod_11 : decode prog_11_method_50_code 11 = .ok (.ifCond .eq 7, 3) := by decide +kernel
theorem d_J_floorMod_14 : decode prog_11_method_50_code 14 = .ok (.iload_n 2, 1) := by decide +kernel
theorem d_J_floorMod_15 : decode prog_11_method_50_code 15 = .ok (.iload_n 1, 1) := by decide +kernel
theorem d_J_floorMod_16 : decode prog_11_method_50_code 16 = .ok (.iadd, 1) := by decide +kernel
theorem d_J_floorMod_17 : decode prog_11_method_50_code 17 = .ok (.ireturn, 1) := by decide +kernel
theorem d_J_floorMod_18 : decode prog_11_method_50_code 18 = .ok (.iload_n 2, 1) := by decide +kernel
theorem d_J_floorMod_19 : decode prog_11_method_50_code 19 = .ok (.ireturn, 1) := by decide +kernel
def b_J_floorMod_18 (post : Option Value → Mm → Prop) : Kk := (i_iload 2 (i_iret post))
theorem t_J_floorMod_18 {Z : Zt} {X0 : Mm} {post : Option Value → Mm → Prop} (g : Good Z prog_11_method_50_code 3 "java/lang/Math" 0) (hq : RetZ Z true X0 0 0 post) (hr : (zM Z).sig.returnType = (some .int)) : Snd Z 3 18 (b_J_floorMod_18 post) := by
  unfold b_J_floorMod_18
  exact (s_iload_n g d_J_floorMod_18 rfl (s_iret0 g hq hr d_J_floorMod_19))
def b_J_floorMod_0 (post : Option Value → Mm → Prop) : Kk := (i_iload 0 (i_iload 1 (i_binz (fun x y => x - x / y * y) (i_istore 2 (i_iload 0 (i_iload 1 (i_bin (fun x y => x ^^^ y) (i_if (fun x y => y ≤ x) (b_J_floorMod_18 post) (i_iload 2 (i_if (fun x y => x = y) (b_J_floorMod_18 post) (i_iload 2 (i_iload 1 (i_bin (fun x y => x + y) (i_iret post))))))))))))))
theorem t_J_floorMod_0 {Z : Zt} {X0 : Mm} {post : Option Value → Mm → Prop} (g : Good Z prog_11_method_50_code 3 "java/lang/Math" 0) (hq : RetZ Z true X0 0 0 post) (hr : (zM Z).sig.returnType = (some .int)) : Snd Z 3 0 (b_J_floorMod_0 post) := by
  unfold b_J_floorMod_0
  exact (s_iload_n g d_J_floorMod_0 rfl (s_iload_n g d_J_floorMod_1 rfl (s_irem g d_J_floorMod_2 (s_istore_n g (by decide) d_J_floorMod_3 rfl (s_iload_n g d_J_floorMod_4 rfl (s_iload_n g d_J_floorMod_5 rfl (s_ixor g d_J_floorMod_6 (s_if_ge g d_J_floorMod_7 (by decide) (t_J_floorMod_18 g hq hr) (s_iload_n g d_J_floorMod_10 rfl (s_if_eq g d_J_floorMod_11 (by decide) (t_J_floorMod_18 g hq hr) (s_iload_n g d_J_floorMod_14 rfl (s_iload_n g d_J_floorMod_15 rfl (s_iadd g d_J_floorMod_16 (s_iret0 g hq hr d_J_floorMod_17))))))))))))))
def w_J_floorMod : Wp := wpOf 3 (fun _ post => b_J_floorMod_0 post)
theorem C_J_floorMod (l : Launch) : MetS l ({ cls := "java/lang/Math", name := "floorMod", desc := "(II)I" } : Jvm.MethodName) prog_11_method_50_code 3 (some .int) true 0 0 0 w_J_floorMod := metS_of (by decide +kernel) (fun Z X0 post hZ g hq hr _ => t_J_floorMod_0 g hq hr)
theorem hd_J_floorMod : (({ cls := "java/lang/Math", name := "floorMod", desc := "(II)I" } : Jvm.MethodName)).cls ≠ "java/lang/invoke/MethodHandle" ∧ (({ cls := "java/lang/Math", name := "floorMod", desc := "(II)I" } : Jvm.MethodName)).cls ≠ "java/lang/invoke/VarHandle" ∧ (parseMethodDescriptor (({ cls := "java/lang/Math", name := "floorMod", desc := "(II)I" } : Jvm.MethodName)).desc).map (fun d => d.parameters.length) = some 2 := ⟨by decide, by decide, by decide +kernel⟩
theorem d_T_setHead_0 : decode prog_4_method_2_code 0 = .ok (.aload_n 0, 1) := by decide +kernel
theorem d_T_setHead_1 : decode prog_4_method_2_code 1 = .ok (.iload_n 1, 1) := by decide +kernel
theorem d_T_setHead_2 : decode prog_4_method_2_code 2 = .ok (.putfield 19, 3) := by decide +kernel
theorem d_T_setHead_5 : decode prog_4_method_2_code 5 = .ok (.aload_n 0, 1) := by decide +kernel
theorem d_T_setHead_6 : decode prog_4_method_2_code 6 = .ok (.iconst 0, 1) := by decide +kernel
theorem d_T_setHead_7 : decode prog_4_method_2_code 7 = .ok (.putfield 22, 3) := by decide +kernel
theorem d_T_setHead_10 : decode prog_4_method_2_code 10 = .ok (.aload_n 0, 1) := by decide +kernel
theorem d_T_setHead_11 : decode prog_4_method_2_code 11 = .ok (.getfield 9, 3) := by decide +kernel
theorem d_T_setHead_14 : decode prog_4_method_2_code 14 = .ok (.iconst 1, 1) := by decide +kernel
theorem d_T_setHead_15 : decode prog_4_method_2_code 15 = .ok (.iload_n 2, 1) := by decide +kernel
theorem d_T_setHead_16 : decode prog_4_method_2_code 16 = .ok (.bipush 8, 2) := by decide +kernel
theorem d_T_setHead_18 : decode prog_4_method_2_code 18 = .ok (.ishr, 1) := by decide +kernel
theorem d_T_setHead_19 : decode prog_4_method_2_code 19 = .ok (.sipush 255, 3) := by decide +kernel
theorem d_T_setHead_22 : decode prog_4_method_2_code 22 = .ok (.iand, 1) := by decide +kernel
theorem d_T_setHead_23 : decode prog_4_method_2_code 23 = .ok (.iastore, 1) := by decide +kernel
theorem d_T_setHead_24 : decode prog_4_method_2_code 24 = .ok (.aload_n 0, 1) := by decide +kernel
theorem d_T_setHead_25 : decode prog_4_method_2_code 25 = .ok (.getfield 9, 3) := by decide +kernel
theorem d_T_setHead_28 : decode prog_4_method_2_code 28 = .ok (.iconst 2, 1) := by decide +kernel
theorem d_T_setHead_29 : decode prog_4_method_2_code 29 = .ok (.iload_n 2, 1) := by decide +kernel
theorem d_T_setHead_30 : decode prog_4_method_2_code 30 = .ok (.sipush 255, 3) := by decide +kernel
theorem d_T_setHead_33 : decode prog_4_method_2_code 33 = .ok (.iand, 1) := by decide +kernel
theorem d_T_setHead_34 : decode prog_4_method_2_code 34 = .ok (.iastore, 1) := by decide +kernel
theorem d_T_setHead_35 : decode prog_4_method_2_code 35 = .ok (.aload_n 0, 1) := by decide +kernel
theorem d_T_setHead_36 : decode prog_4_method_2_code 36 = .ok (.getfield 9, 3) := by decide +kernel
theorem d_T_setHead_39 : decode prog_4_method_2_code 39 = .ok (.iconst 3, 1) := by decide +kernel
theorem d_T_setHead_40 : decode prog_4_method_2_code 40 = .ok (.iload_n 3, 1) := by decide +kernel
theorem d_T_setHead_41 : decode prog_4_method_2_code 41 = .ok (.bipush 8, 2) := by decide +kernel
theorem d_T_setHead_43 : decode prog_4_method_2_code 43 = .ok (.ishr, 1) := by decide +kernel
theorem d_T_setHead_44 : decode prog_4_method_2_code 44 = .ok (.sipush 255, 3) := by decide +kernel
theorem d_T_setHead_47 : decode prog_4_method_2_code 47 = .ok (.iand, 1) := by decide +kernel
theorem d_T_setHead_48 : decode prog_4_method_2_code 48 = .ok (.iastore, 1) := by decide +kernel
theorem d_T_setHead_49 : decode prog_4_method_2_code 49 = .ok (.aload_n 0, 1) := by decide +kernel
theorem d_T_setHead_50 : decode prog_4_method_2_code 50 = .ok (.getfield 9, 3) := by decide +kernel
theorem d_T_setHead_53 : decode prog_4_method_2_code 53 = .ok (.iconst 4, 1) := by decide +kernel
theorem d_T_setHead_54 : decode prog_4_method_2_code 54 = .ok (.iload_n 3, 1) := by decide +kernel
theorem d_T_setHead_55 : decode prog_4_method_2_code 55 = .ok (.sipush 255, 3) := by decide +kernel
theorem d_T_setHead_58 : decode prog_4_method_2_code 58 = .ok (.iand, 1) := by decide +kernel
theorem d_T_setHead_59 : decode prog_4_method_2_code 59 = .ok (.iastore, 1) := by decide +kernel
theorem d_T_setHead_60 : decode prog_4_method_2_code 60 = .ok (.return_, 1) := by decide +kernel
def b_T_setHead_0 (post : Option Value → Mm → Prop) : Kk := (i_aload 0 (i_iload 1 (i_putI 2 2 (i_aload 0 (i_push (.int 0) (i_putI 2 3 (i_aload 0 (i_getR 2 0 (i_push (.int 1) (i_iload 2 (i_push (.int 8) (i_bin (fun x y => x >>> (y &&& 31)) (i_push (.int 255) (i_bin (fun x y => x &&& y) (i_ast (i_aload 0 (i_getR 2 0 (i_push (.int 2) (i_iload 2 (i_push (.int 255) (i_bin (fun x y => x &&& y) (i_ast (i_aload 0 (i_getR 2 0 (i_push (.int 3) (i_iload 3 (i_push (.int 8) (i_bin (fun x y => x >>> (y &&& 31)) (i_push (.int 255) (i_bin (fun x y => x &&& y) (i_ast (i_aload 0 (i_getR 2 0 (i_push (.int 4) (i_iload 3 (i_push (.int 255) (i_bin (fun x y => x &&& y) (i_ast (i_vret post)))))))))))))))))))))))))))))))))))))))
theorem t_T_setHead_0 {Z : Zt} {X0 : Mm} {post : Option Value → Mm → Prop} (g : Good Z prog_4_method_2_code 4 "BusTelegrams$Telegram" 0) (hq : RetZ Z true X0 0 0 post) (hr : (zM Z).sig.returnType = none) : Snd Z 4 0 (b_T_setHead_0 post) := by
  unfold b_T_setHead_0
  exact (s_aload_n g d_T_setHead_0 rfl (s_iload_n g d_T_setHead_1 rfl (s_putI g (c := 2) (j := 2) cok_2 (by decide) rfl rfl rfl mw_96 rfl d_T_setHead_2 (s_aload_n g d_T_setHead_5 rfl (s_push_iconst g d_T_setHead_6 (by decide) (s_putI g (c := 2) (j := 3) cok_2 (by decide) rfl rfl rfl mw_97 rfl d_T_setHead_7 (s_aload_n g d_T_setHead_10 rfl (s_getR g (c := 2) (j := 0) cok_2 (by decide) rfl mw_94 rfl d_T_setHead_11 (s_push_iconst g d_T_setHead_14 (by decide) (s_iload_n g d_T_setHead_15 rfl (s_push_bipush g d_T_setHead_16 (by decide) (s_ishr g d_T_setHead_18 (s_push_sipush g d_T_setHead_19 (by decide) (s_iand g d_T_setHead_22 (s_iast g d_T_setHead_23 (s_aload_n g d_T_setHead_24 rfl (s_getR g (c := 2) (j := 0) cok_2 (by decide) rfl mw_94 rfl d_T_setHead_25 (s_push_iconst g d_T_setHead_28 (by decide) (s_iload_n g d_T_setHead_29 rfl (s_push_sipush g d_T_setHead_30 (by decide) (s_iand g d_T_setHead_33 (s_iast g d_T_setHead_34 (s_aload_n g d_T_setHead_35 rfl (s_getR g (c := 2) (j := 0) cok_2 (by decide) rfl mw_94 rfl d_T_setHead_36 (s_push_iconst g d_T_setHead_39 (by decide) (s_iload_n g d_T_setHead_40 rfl (s_push_bipush g d_T_setHead_41 (by decide) (s_ishr g d_T_setHead_43 (s_push_sipush g d_T_setHead_44 (by decide) (s_iand g d_T_setHead_47 (s_iast g d_T_setHead_48 (s_aload_n g d_T_setHead_49 rfl (s_getR g (c := 2) (j := 0) cok_2 (by decide) rfl mw_94 rfl d_T_setHead_50 (s_push_iconst g d_T_setHead_53 (by decide) (s_iload_n g d_T_setHead_54 rfl (s_push_sipush g d_T_setHead_55 (by decide) (s_iand g d_T_setHead_58 (s_iast g d_T_setHead_59 (s_vret0 g hq hr d_T_setHead_60)))))))))))))))))))))))))))))))))))))))
def w_T_setHead : Wp := wpOf 4 (fun _ post => b_T_setHead_0 post)
theorem C_T_setHead (l : Launch) : MetS l ({ cls := "BusTelegrams$Telegram", name := "setHead", desc := "(III)V" } : Jvm.MethodName) prog_4_method_2_code 4 none true 0 0 0 w_T_setHead := metS_of (by decide +kernel) (fun Z X0 post hZ g hq hr _ => t_T_setHead_0 g hq hr)
theorem hd_T_setHead : (({ cls := "BusTelegrams$Telegram", name := "setHead", desc := "(III)V" } : Jvm.MethodName)).cls = "BusTelegrams$Telegram" ∧ (({ cls := "BusTelegrams$Telegram", name := "setHead", desc := "(III)V" } : Jvm.MethodName)).cls ≠ "java/lang/invoke/MethodHandle" ∧ (({ cls := "BusTelegrams$Telegram", name := "setHead", desc := "(III)V" } : Jvm.MethodName)).cls ≠ "java/lang/invoke/VarHandle" ∧ (parseMethodDescriptor (({ cls := "BusTelegrams$Telegram", name := "setHead", desc := "(III)V" } : Jvm.MethodName)).desc).map (fun d => d.parameters.length) = some 3 := ⟨rfl, by decide, by decide, by decide +kernel⟩
theorem d_J_min_0 : decode prog_11_method_69_code 0 = .ok (.iload_n 0, 1) := by decide +kernel
theorem d_J_min_1 : decode prog_11_method_69_code 1 = .ok (.iload_n 1, 1) := by decide +kernel
theorem d_J_min_2 : decode prog_11_method_69_code 2 = .ok (.if_icmp .gt 7, 3) := by decide +kernel
theorem d_J_min_5 : decode prog_11_method_69_code 5 = .ok (.iload_n 0, 1) := by decide +kernel
theorem d_J_min_6 : decode prog_11_method_69_code 6 = .ok (.goto 4, 3) := by decide +kernel
theorem d_J_min_9 : decode prog_11_method_69_code 9 = .ok (.iload_n 1, 1) := by decide +kernel
theorem d_J_min_10 : decode prog_11_method_69_code 10 = .ok (.ireturn, 1) := by decide +kernel
def b_J_min_10 (post : Option Value → Mm → Prop) : Kk := (i_iret post)
theorem t_J_min_10 {Z : Zt} {X0 : Mm} {post : Option Value → Mm → Prop} (g : Good Z prog_11_method_69_code 2 "java/lang/Math" 0) (hq : RetZ Z true X0 0 0 post) (hr : (zM Z).sig.returnType = (some .int)) : Snd Z 2 10 (b_J_min_10 post) := by
  unfold b_J_min_10
  exact (s_iret0 g hq hr d_J_min_10)
def b_J_min_0 (post : Option Value → Mm → Prop) : Kk := (i_iload 0 (i_iload 1 (i_icmp (fun x y => y < x) (i_iload 1 (b_J_min_10 post)) (i_iload 0 (b_J_min_10 post)))))
theorem t_J_min_0 {Z : Zt} {X0 : Mm} {post : Option Value → Mm → Prop} (g : Good Z prog_11_method_69_code 2 "java/lang/Math" 0) (hq : RetZ Z true X0 0 0 post) (hr : (zM Z).sig.returnType = (some .int)) : Snd Z 2 0 (b_J_min_0 post) := by
  unfold b_J_min_0
  exact (s_iload_n g d_J_min_0 rfl (s_iload_n g d_J_min_1 rfl (s_icmp_gt g d_J_min_2 (by decide) (s_iload_n g d_J_min_9 rfl (t_J_min_10 g hq hr)) (s_iload_n g d_J_min_5 rfl (s_goto g d_J_min_6 (by decide) (t_J_min_10 g hq hr))))))
def w_J_min : Wp := wpOf 2 (fun _ post => b_J_min_0 post)
theorem C_J_min (l : Launch) : MetS l ({ cls := "java/lang/Math", name := "min", desc := "(II)I" } : Jvm.MethodName) prog_11_method_69_code 2 (some .int) true 0 0 0 w_J_min := metS_of (by decide +kernel) (fun Z X0 post hZ g hq hr _ => t_J_min_0 g hq hr)
theorem hd_J_min : (({ cls := "java/lang/Math", name := "min", desc := "(II)I" } : Jvm.MethodName)).cls ≠ "java/lang/invoke/MethodHandle" ∧ (({ cls := "java/lang/Math", name := "min", desc := "(II)I" } : Jvm.MethodName)).cls ≠ "java/lang/invoke/VarHandle" ∧ (parseMethodDescriptor (({ cls := "java/lang/Math", name := "min", desc := "(II)I" } : Jvm.MethodName)).desc).map (fun d => d.parameters.length) = some 2 := ⟨by decide, by decide, by decide +kernel⟩
theorem d_J_max_0 : decode prog_11_method_65_code 0 = .ok (.iload_n 0, 1) := by decide +kernel
theorem d_J_max_1 : decode prog_11_method_65_code 1 = .ok (.iload_n 1, 1) := by decide +kernel
theorem d_J_max_2 : decode prog_11_method_65_code 2 = .ok (.if_icmp .lt 7, 3) := by decide +kernel
theorem d_J_max_5 : decode prog_11_method_65_code 5 = .ok (.iload_n 0, 1) := by decide +kernel
theorem d_J_max_6 : decode prog_11_method_65_code 6 = .ok (.goto 4, 3) := by decide +kernel
theorem d_J_max_9 : decode prog_11_method_65_code 9 = .ok (.iload_n 1, 1) := by decide +kernel
theorem d_J_max_10 : decode prog_11_method_65_code 10 = .ok (.ireturn, 1) := by decide +kernel
def b_J_max_10 (post : Option Value → Mm → Prop) : Kk := (i_iret post)
theorem t_J_max_10 {Z : Zt} {X0 : Mm} {post : Option Value → Mm → Prop} (g : Good Z prog_11_method_65_code 2 "java/lang/Math" 0) (hq : RetZ Z true X0 0 0 post) (hr : (zM Z).sig.returnType = (some .int)) : Snd Z 2 10 (b_J_max_10 post) := by
  unfold b_J_max_10
  exact (s_iret0 g hq hr d_J_max_10)
def b_J_max_0 (post : Option Value → Mm → Prop) : Kk := (i_iload 0 (i_iload 1 (i_icmp (fun x y => x < y) (i_iload 1 (b_J_max_10 post)) (i_iload 0 (b_J_max_10 post)))))
theorem t_J_max_0 {Z : Zt} {X0 : Mm} {post : Option Value → Mm → Prop} (g : Good Z prog_11_method_65_code 2 "java/lang/Math" 0) (hq : RetZ Z true X0 0 0 post) (hr : (zM Z).sig.returnType = (some .int)) : Snd Z 2 0 (b_J_max_0 post) := by
  unfold b_J_max_0
  exact (s_iload_n g d_J_max_0 rfl (s_iload_n g d_J_max_1 rfl (s_icmp_lt g d_J_max_2 (by decide) (s_iload_n g d_J_max_9 rfl (t_J_max_10 g hq hr)) (s_iload_n g d_J_max_5 rfl (s_goto g d_J_max_6 (by decide) (t_J_max_10 g hq hr))))))
def w_J_max : Wp := wpOf 2 (fun _ post => b_J_max_0 post)
theorem C_J_max (l : Launch) : MetS l ({ cls := "java/lang/Math", name := "max", desc := "(II)I" } : Jvm.MethodName) prog_11_method_65_code 2 (some .int) true 0 0 0 w_J_max := metS_of (by decide +kernel) (fun Z X0 post hZ g hq hr _ => t_J_max_0 g hq hr)
theorem hd_J_max : (({ cls := "java/lang/Math", name := "max", desc := "(II)I" } : Jvm.MethodName)).cls ≠ "java/lang/invoke/MethodHandle" ∧ (({ cls := "java/lang/Math", name := "max", desc := "(II)I" } : Jvm.MethodName)).cls ≠ "java/lang/invoke/VarHandle" ∧ (parseMethodDescriptor (({ cls := "java/lang/Math", name := "max", desc := "(II)I" } : Jvm.MethodName)).desc).map (fun d => d.parameters.length) = some 2 := ⟨by decide, by decide, by decide +kernel⟩
theorem d_B_disturbancePlace_0 : decode prog_1_method_16_code 0 = .ok (.iload_n 0, 1) := by decide +kernel
theorem d_B_disturbancePlace_1 : decode prog_1_method_16_code 1 = .ok (.sipush 2047, 3) := by decide +kernel
theorem d_B_disturbancePlace_4 : decode prog_1_method_16_code 4 = .ok (.iand, 1) := by decide +kernel
theorem d_B_disturbancePlace_5 : decode prog_1_method_16_code 5 = .ok (.ireturn, 1) := by decide +kernel
def b_B_disturbancePlace_0 (post : Option Value → Mm → Prop) : Kk := (i_iload 0 (i_push (.int 2047) (i_bin (fun x y => x &&& y) (i_iret post))))
theorem t_B_disturbancePlace_0 {Z : Zt} {X0 : Mm} {post : Option Value → Mm → Prop} (g : Good Z prog_1_method_16_code 1 "BusTelegrams" 0) (hq : RetZ Z true X0 0 0 post) (hr : (zM Z).sig.returnType = (some .int)) : Snd Z 1 0 (b_B_disturbancePlace_0 post) := by
  unfold b_B_disturbancePlace_0
  exact (s_iload_n g d_B_disturbancePlace_0 rfl (s_push_sipush g d_B_disturbancePlace_1 (by decide) (s_iand g d_B_disturbancePlace_4 (s_iret0 g hq hr d_B_disturbancePlace_5))))
def w_B_disturbancePlace : Wp := wpOf 1 (fun _ post => b_B_disturbancePlace_0 post)
theorem C_B_disturbancePlace (l : Launch) : MetS l ({ cls := "BusTelegrams", name := "disturbancePlace", desc := "(I)I" } : Jvm.MethodName) prog_1_method_16_code 1 (some .int) true 0 0 0 w_B_disturbancePlace := metS_of (by decide +kernel) (fun Z X0 post hZ g hq hr _ => t_B_disturbancePlace_0 g hq hr)
theorem hd_B_disturbancePlace : (({ cls := "BusTelegrams", name := "disturbancePlace", desc := "(I)I" } : Jvm.MethodName)).cls ≠ "java/lang/invoke/MethodHandle" ∧ (({ cls := "BusTelegrams", name := "disturbancePlace", desc := "(I)I" } : Jvm.MethodName)).cls ≠ "java/lang/invoke/VarHandle" ∧ (parseMethodDescriptor (({ cls := "BusTelegrams", name := "disturbancePlace", desc := "(I)I" } : Jvm.MethodName)).desc).map (fun d => d.parameters.length) = some 1 := ⟨by decide, by decide, by decide +kernel⟩
theorem d_E_isAnswerDue_0 : decode prog_2_method_10_code 0 = .ok (.iload_n 1, 1) := by decide +kernel
theorem d_E_isAnswerDue_1 : decode prog_2_method_10_code 1 = .ok (.aload_n 0, 1) := by decide +kernel
theorem d_E_isAnswerDue_2 : decode prog_2_method_10_code 2 = .ok (.getfield 50, 3) := by decide +kernel
theorem d_E_isAnswerDue_5 : decode prog_2_method_10_code 5 = .ok (.bipush 14, 2) := by decide +kernel
theorem d_E_isAnswerDue_7 : decode prog_2_method_10_code 7 = .ok (.iadd, 1) := by decide +kernel
theorem d_E_isAnswerDue_8 : decode prog_2_method_10_code 8 = .ok (.if_icmp .ne 14, 3) := by decide +kernel
theorem d_E_isAnswerDue_11 : decode prog_2_method_10_code 11 = .ok (.aload_n 0, 1) := by decide +kernel
theorem d_E_isAnswerDue_12 : decode prog_2_method_10_code 12 = .ok (.getfield 59, 3) := by decide +kernel
theorem d_E_isAnswerDue_15 : decode prog_2_method_10_code 15 = .ok (.ifCond .ne 7, 3) := by decide +kernel
theorem d_E_isAnswerDue_18 : decode prog_2_method_10_code 18 = .ok (.iconst 1, 1) := by decide +kernel
theorem d_E_isAnswerDue_19 : decode prog_2_method_10_code 19 = .ok (.goto 4, 3) := by decide +kernel
theorem d_E_isAnswerDue_22 : decode prog_2_method_10_code 22 = .ok (.iconst 0, 1) := by decide +kernel
theorem d_E_isAnswerDue_23 : decode prog_2_method_10_code 23 = .ok (.ireturn, 1) := by decide +kernel
def b_E_isAnswerDue_23 (post : Option Value → Mm → Prop) : Kk := (i_zret post)
theorem t_E_isAnswerDue_23 {Z : Zt} {X0 : Mm} {post : Option Value → Mm → Prop} (g : Good Z prog_2_method_10_code 2 "BusTelegrams$Ear" 0) (hq : RetZ Z true X0 0 0 post) (hr : (zM Z).sig.returnType = (some .boolean)) : Snd Z 2 23 (b_E_isAnswerDue_23 post) := by
  unfold b_E_isAnswerDue_23
  exact (s_zret0 g hq hr d_E_isAnswerDue_23)
def b_E_isAnswerDue_22 (post : Option Value → Mm → Prop) : Kk := (i_push (.int 0) (b_E_isAnswerDue_23 post))
theorem t_E_isAnswerDue_22 {Z : Zt} {X0 : Mm} {post : Option Value → Mm → Prop} (g : Good Z prog_2_method_10_code 2 "BusTelegrams$Ear" 0) (hq : RetZ Z true X0 0 0 post) (hr : (zM Z).sig.returnType = (some .boolean)) : Snd Z 2 22 (b_E_isAnswerDue_22 post) := by
  unfold b_E_isAnswerDue_22
  exact (s_push_iconst g d_E_isAnswerDue_22 (by decide) (t_E_isAnswerDue_23 g hq hr))
def b_E_isAnswerDue_0 (post : Option Value → Mm → Prop) : Kk := (i_iload 1 (i_aload 0 (i_getI 0 12 (i_push (.int 14) (i_bin (fun x y => x + y) (i_icmp (fun x y => x = y) (i_aload 0 (i_getI 0 15 (i_if (fun x y => x = y) (i_push (.int 1) (b_E_isAnswerDue_23 post)) (b_E_isAnswerDue_22 post)))) (b_E_isAnswerDue_22 post)))))))
theorem t_E_isAnswerDue_0 {Z : Zt} {X0 : Mm} {post : Option Value → Mm → Prop} (g : Good Z prog_2_method_10_code 2 "BusTelegrams$Ear" 0) (hq : RetZ Z true X0 0 0 post) (hr : (zM Z).sig.returnType = (some .boolean)) : Snd Z 2 0 (b_E_isAnswerDue_0 post) := by
  unfold b_E_isAnswerDue_0
  exact (s_iload_n g d_E_isAnswerDue_0 rfl (s_aload_n g d_E_isAnswerDue_1 rfl (s_getI g (c := 0) (j := 12) cok_0 (by decide) rfl mw_42 rfl d_E_isAnswerDue_2 (s_push_bipush g d_E_isAnswerDue_5 (by decide) (s_iadd g d_E_isAnswerDue_7 (s_icmp_ne g d_E_isAnswerDue_8 (by decide) (t_E_isAnswerDue_22 g hq hr) (s_aload_n g d_E_isAnswerDue_11 rfl (s_getI g (c := 0) (j := 15) cok_0 (by decide) rfl mw_47 rfl d_E_isAnswerDue_12 (s_if_ne g d_E_isAnswerDue_15 (by decide) (t_E_isAnswerDue_22 g hq hr) (s_push_iconst g d_E_isAnswerDue_18 (by decide) (s_goto g d_E_isAnswerDue_19 (by decide) (t_E_isAnswerDue_23 g hq hr))))))))))))
def w_E_isAnswerDue : Wp := wpOf 2 (fun _ post => b_E_isAnswerDue_0 post)
theorem C_E_isAnswerDue (l : Launch) : MetS l ({ cls := "BusTelegrams$Ear", name := "isAnswerDue", desc := "(I)Z" } : Jvm.MethodName) prog_2_method_10_code 2 (some .boolean) true 0 0 0 w_E_isAnswerDue := metS_of (by decide +kernel) (fun Z X0 post hZ g hq hr _ => t_E_isAnswerDue_0 g hq hr)
theorem hd_E_isAnswerDue : (({ cls := "BusTelegrams$Ear", name := "isAnswerDue", desc := "(I)Z" } : Jvm.MethodName)).cls = "BusTelegrams$Ear" ∧ (({ cls := "BusTelegrams$Ear", name := "isAnswerDue", desc := "(I)Z" } : Jvm.MethodName)).cls ≠ "java/lang/invoke/MethodHandle" ∧ (({ cls := "BusTelegrams$Ear", name := "isAnswerDue", desc := "(I)Z" } : Jvm.MethodName)).cls ≠ "java/lang/invoke/VarHandle" ∧ (parseMethodDescriptor (({ cls := "BusTelegrams$Ear", name := "isAnswerDue", desc := "(I)Z" } : Jvm.MethodName)).desc).map (fun d => d.parameters.length) = some 1 := ⟨rfl, by decide, by decide, by decide +kernel⟩
theorem d_E_latestAim_0 : decode prog_2_method_12_code 0 = .ok (.sipush 256, 3) := by decide +kernel
theorem d_E_latestAim_3 : decode prog_2_method_12_code 3 = .ok (.aload_n 0, 1) := by decide +kernel
theorem d_E_latestAim_4 : decode prog_2_method_12_code 4 = .ok (.getfield 15, 3) := by decide +kernel
theorem d_E_latestAim_7 : decode prog_2_method_12_code 7 = .ok (.iconst 3, 1) := by decide +kernel
theorem d_E_latestAim_8 : decode prog_2_method_12_code 8 = .ok (.iaload, 1) := by decide +kernel
theorem d_E_latestAim_9 : decode prog_2_method_12_code 9 = .ok (.imul, 1) := by decide +kernel
theorem d_E_latestAim_10 : decode prog_2_method_12_code 10 = .ok (.aload_n 0, 1) := by decide +kernel
theorem d_E_latestAim_11 : decode prog_2_method_12_code 11 = .ok (.getfield 15, 3) := by decide +kernel
theorem d_E_latestAim_14 : decode prog_2_method_12_code 14 = .ok (.iconst 4, 1) := by decide +kernel
theorem d_E_latestAim_15 : decode prog_2_method_12_code 15 = .ok (.iaload, 1) := by decide +kernel
theorem d_E_latestAim_16 : decode prog_2_method_12_code 16 = .ok (.iadd, 1) := by decide +kernel
theorem d_E_latestAim_17 : decode prog_2_method_12_code 17 = .ok (.ireturn, 1) := by decide +kernel
def b_E_latestAim_0 (post : Option Value → Mm → Prop) : Kk := (i_push (.int 256) (i_aload 0 (i_getR 0 1 (i_push (.int 3) (i_ald 10 (i_bin (fun x y => x * y) (i_aload 0 (i_getR 0 1 (i_push (.int 4) (i_ald 10 (i_bin (fun x y => x + y) (i_iret post))))))))))))
theorem t_E_latestAim_0 {Z : Zt} {X0 : Mm} {post : Option Value → Mm → Prop} (g : Good Z prog_2_method_12_code 1 "BusTelegrams$Ear" 0) (hq : RetZ Z true X0 0 0 post) (hr : (zM Z).sig.returnType = (some .int)) : Snd Z 1 0 (b_E_latestAim_0 post) := by
  unfold b_E_latestAim_0
  exact (s_push_sipush g d_E_latestAim_0 (by decide) (s_aload_n g d_E_latestAim_3 rfl (s_getR g (c := 0) (j := 1) cok_0 (by decide) rfl mw_30 rfl d_E_latestAim_4 (s_push_iconst g d_E_latestAim_7 (by decide) (s_iald g d_E_latestAim_8 (s_imul g d_E_latestAim_9 (s_aload_n g d_E_latestAim_10 rfl (s_getR g (c := 0) (j := 1) cok_0 (by decide) rfl mw_30 rfl d_E_latestAim_11 (s_push_iconst g d_E_latestAim_14 (by decide) (s_iald g d_E_latestAim_15 (s_iadd g d_E_latestAim_16 (s_iret0 g hq hr d_E_latestAim_17))))))))))))
def w_E_latestAim : Wp := wpOf 1 (fun _ post => b_E_latestAim_0 post)
theorem C_E_latestAim (l : Launch) : MetS l ({ cls := "BusTelegrams$Ear", name := "latestAim", desc := "()I" } : Jvm.MethodName) prog_2_method_12_code 1 (some .int) true 0 0 0 w_E_latestAim := metS_of (by decide +kernel) (fun Z X0 post hZ g hq hr _ => t_E_latestAim_0 g hq hr)
theorem hd_E_latestAim : (({ cls := "BusTelegrams$Ear", name := "latestAim", desc := "()I" } : Jvm.MethodName)).cls = "BusTelegrams$Ear" ∧ (({ cls := "BusTelegrams$Ear", name := "latestAim", desc := "()I" } : Jvm.MethodName)).cls ≠ "java/lang/invoke/MethodHandle" ∧ (({ cls := "BusTelegrams$Ear", name := "latestAim", desc := "()I" } : Jvm.MethodName)).cls ≠ "java/lang/invoke/VarHandle" ∧ (parseMethodDescriptor (({ cls := "BusTelegrams$Ear", name := "latestAim", desc := "()I" } : Jvm.MethodName)).desc).map (fun d => d.parameters.length) = some 0 := ⟨rfl, by decide, by decide, by decide +kernel⟩
theorem d_E_isLatestForGroup_0 : decode prog_2_method_13_code 0 = .ok (.aload_n 0, 1) := by decide +kernel
theorem d_E_isLatestForGroup_1 : decode prog_2_method_13_code 1 = .ok (.getfield 15, 3) := by decide +kernel
theorem d_E_isLatestForGroup_4 : decode prog_2_method_13_code 4 = .ok (.iconst 5, 1) := by decide +kernel
theorem d_E_isLatestForGroup_5 : decode prog_2_method_13_code 5 = .ok (.iaload, 1) := by decide +kernel
theorem d_E_isLatestForGroup_6 : decode prog_2_method_13_code 6 = .ok (.sipush 128, 3) := by decide +kernel
theorem d_E_isLatestForGroup_9 : decode prog_2_method_13_code 9 = .ok (.if_icmp .lt 7, 3) := by decide +kernel
theorem d_E_isLatestForGroup_12 : decode prog_2_method_13_code 12 = .ok (.iconst 1, 1) := by decide +kernel
theorem d_E_isLatestForGroup_13 : decode prog_2_method_13_code 13 = .ok (.goto 4, 3) := by decide +kernel
theorem d_E_isLatestForGroup_16 : decode prog_2_method_13_code 16 = .ok (.iconst 0, 1) := by decide +kernel
theorem d_E_isLatestForGroup_17 : decode prog_2_method_13_code 17 = .ok (.ireturn, 1) := by decide +kernel
def b_E_isLatestForGroup_17 (post : Option Value → Mm → Prop) : Kk := (i_zret post)
theorem t_E_isLatestForGroup_17 {Z : Zt} {X0 : Mm} {post : Option Value → Mm → Prop} (g : Good Z prog_2_method_13_code 1 "BusTelegrams$Ear" 0) (hq : RetZ Z true X0 0 0 post) (hr : (zM Z).sig.returnType = (some .boolean)) : Snd Z 1 17 (b_E_isLatestForGroup_17 post) := by
  unfold b_E_isLatestForGroup_17
  exact (s_zret0 g hq hr d_E_isLatestForGroup_17)
def b_E_isLatestForGroup_0 (post : Option Value → Mm → Prop) : Kk := (i_aload 0 (i_getR 0 1 (i_push (.int 5) (i_ald 10 (i_push (.int 128) (i_icmp (fun x y => x < y) (i_push (.int 0) (b_E_isLatestForGroup_17 post)) (i_push (.int 1) (b_E_isLatestForGroup_17 post))))))))
theorem t_E_isLatestForGroup_0 {Z : Zt} {X0 : Mm} {post : Option Value → Mm → Prop} (g : Good Z prog_2_method_13_code 1 "BusTelegrams$Ear" 0) (hq : RetZ Z true X0 0 0 post) (hr : (zM Z).sig.returnType = (some .boolean)) : Snd Z 1 0 (b_E_isLatestForGroup_0 post) := by
  unfold b_E_isLatestForGroup_0
  exact (s_aload_n g d_E_isLatestForGroup_0 rfl (s_getR g (c := 0) (j := 1) cok_0 (by decide) rfl mw_30 rfl d_E_isLatestForGroup_1 (s_push_iconst g d_E_isLatestForGroup_4 (by decide) (s_iald g d_E_isLatestForGroup_5 (s_push_sipush g d_E_isLatestForGroup_6 (by decide) (s_icmp_lt g d_E_isLatestForGroup_9 (by decide) (s_push_iconst g d_E_isLatestForGroup_16 (by decide) (t_E_isLatestForGroup_17 g hq hr)) (s_push_iconst g d_E_isLatestForGroup_12 (by decide) (s_goto g d_E_isLatestForGroup_13 (by decide) (t_E_isLatestForGroup_17 g hq hr)))))))))
def w_E_isLatestForGroup : Wp := wpOf 1 (fun _ post => b_E_isLatestForGroup_0 post)
theorem C_E_isLatestForGroup (l : Launch) : MetS l ({ cls := "BusTelegrams$Ear", name := "isLatestForGroup", desc := "()Z" } : Jvm.MethodName) prog_2_method_13_code 1 (some .boolean) true 0 0 0 w_E_isLatestForGroup := metS_of (by decide +kernel) (fun Z X0 post hZ g hq hr _ => t_E_isLatestForGroup_0 g hq hr)
theorem hd_E_isLatestForGroup : (({ cls := "BusTelegrams$Ear", name := "isLatestForGroup", desc := "()Z" } : Jvm.MethodName)).cls = "BusTelegrams$Ear" ∧ (({ cls := "BusTelegrams$Ear", name := "isLatestForGroup", desc := "()Z" } : Jvm.MethodName)).cls ≠ "java/lang/invoke/MethodHandle" ∧ (({ cls := "BusTelegrams$Ear", name := "isLatestForGroup", desc := "()Z" } : Jvm.MethodName)).cls ≠ "java/lang/invoke/VarHandle" ∧ (parseMethodDescriptor (({ cls := "BusTelegrams$Ear", name := "isLatestForGroup", desc := "()Z" } : Jvm.MethodName)).desc).map (fun d => d.parameters.length) = some 0 := ⟨rfl, by decide, by decide, by decide +kernel⟩
theorem d_S_isMeant_0 : decode prog_3_method_4_code 0 = .ok (.aload_n 0, 1) := by decide +kernel
theorem d_S_isMeant_1 : decode prog_3_method_4_code 1 = .ok (.getfield 38, 3) := by decide +kernel
theorem d_S_isMeant_4 : decode prog_3_method_4_code 4 = .ok (.ifCond .ne 11, 3) := by decide +kernel
theorem d_S_isMeant_7 : decode prog_3_method_4_code 7 = .ok (.aload_n 0, 1) := by decide +kernel
theorem d_S_isMeant_8 : decode prog_3_method_4_code 8 = .ok (.getfield 32, 3) := by decide +kernel
theorem d_S_isMeant_11 : decode prog_3_method_4_code 11 = .ok (.iconst (-1), 1) := by decide +kernel
theorem d_S_isMeant_12 : decode prog_3_method_4_code 12 = .ok (.if_icmp .eq 5, 3) := by decide +kernel
theorem d_S_isMeant_15 : decode prog_3_method_4_code 15 = .ok (.iconst 0, 1) := by decide +kernel
theorem d_S_isMeant_16 : decode prog_3_method_4_code 16 = .ok (.ireturn, 1) := by decide +kernel
theorem d_S_isMeant_17 : decode prog_3_method_4_code 17 = .ok (.iload_n 2, 1) := by decide +kernel
theorem d_S_isMeant_18 : decode prog_3_method_4_code 18 = .ok (.ifCond .ne 17, 3) := by decide +kernel
theorem d_S_isMeant_21 : decode prog_3_method_4_code 21 = .ok (.aload_n 0, 1) := by decide +kernel
theorem d_S_isMeant_22 : decode prog_3_method_4_code 22 = .ok (.getfield 59, 3) := by decide +kernel
theorem d_S_isMeant_25 : decode prog_3_method_4_code 25 = .ok (.iload_n 1, 1) := by decide +kernel
theorem d_S_isMeant_26 : decode prog_3_method_4_code 26 = .ok (.if_icmp .ne 7, 3) := by decide +kernel
theorem d_S_isMeant_29 : decode prog_3_method_4_code 29 = .ok (.iconst 1, 1) := by decide +kernel
theorem d_S_isMeant_30 : decode prog_3_method_4_code 30 = .ok (.goto 4, 3) := by decide +kernel
theorem d_S_isMeant_33 : decode prog_3_method_4_code 33 = .ok (.iconst 0, 1) := by decide +kernel
theorem d_S_isMeant_34 : decode prog_3_method_4_code 34 = .ok (.ireturn, 1) := by decide +kernel
theorem d_S_isMeant_35 : decode prog_3_method_4_code 35 = .ok (.iload_n 1, 1) := by decide +kernel
theorem d_S_isMeant_36 : decode prog_3_method_4_code 36 = .ok (.ifCond .lt 23, 3) := by decide +kernel
theorem d_S_isMeant_39 : decode prog_3_method_4_code 39 = .ok (.iload_n 1, 1) := by decide +kernel
theorem d_S_isMeant_40 : decode prog_3_method_4_code 40 = .ok (.sipush 256, 3) := by decide +kernel
theorem d_S_isMeant_43 : decode prog_3_method_4_code 43 = .ok (.if_icmp .ge 16, 3) := by decide +kernel
theorem d_S_isMeant_46 : decode prog_3_method_4_code 46 = .ok (.aload_n 0, 1) := by decide +kernel
theorem d_S_isMeant_47 : decode prog_3_method_4_code 47 = .ok (.getfield 9, 3) := by decide +kernel
theorem d_S_isMeant_50 : decode prog_3_method_4_code 50 = .ok (.iload_n 1, 1) := by decide +kernel
theorem d_S_isMeant_51 : decode prog_3_method_4_code 51 = .ok (.baload, 1) := by decide +kernel
theorem d_S_isMeant_52 : decode prog_3_method_4_code 52 = .ok (.ifCond .eq 7, 3) := by decide +kernel
theorem d_S_isMeant_55 : decode prog_3_method_4_code 55 = .ok (.iconst 1, 1) := by decide +kernel
theorem d_S_isMeant_56 : decode prog_3_method_4_code 56 = .ok (.goto 4, 3) := by decide +kernel
theorem d_S_isMeant_59 : decode prog_3_method_4_code 59 = .ok (.iconst 0, 1) := by decide +kernel
theorem d_S_isMeant_60 : decode prog_3_method_4_code 60 = .ok (.ireturn, 1) := by decide +kernel
def b_S_isMeant_15 (post : Option Value → Mm → Prop) : Kk := (i_push (.int 0) (i_zret post))
theorem t_S_isMeant_15 {Z : Zt} {X0 : Mm} {post : Option Value → Mm → Prop} (g : Good Z prog_3_method_4_code 3 "BusTelegrams$Station" 0) (hq : RetZ Z true X0 0 0 post) (hr : (zM Z).sig.returnType = (some .boolean)) : Snd Z 3 15 (b_S_isMeant_15 post) := by
  unfold b_S_isMeant_15
  exact (s_push_iconst g d_S_isMeant_15 (by decide) (s_zret0 g hq hr d_S_isMeant_16))
def b_S_isMeant_60 (post : Option Value → Mm → Prop) : Kk := (i_zret post)
theorem t_S_isMeant_60 {Z : Zt} {X0 : Mm} {post : Option Value → Mm → Prop} (g : Good Z prog_3_method_4_code 3 "BusTelegrams$Station" 0) (hq : RetZ Z true X0 0 0 post) (hr : (zM Z).sig.returnType = (some .boolean)) : Snd Z 3 60 (b_S_isMeant_60 post) := by
  unfold b_S_isMeant_60
  exact (s_zret0 g hq hr d_S_isMeant_60)
def b_S_isMeant_59 (post : Option Value → Mm → Prop) : Kk := (i_push (.int 0) (b_S_isMeant_60 post))
theorem t_S_isMeant_59 {Z : Zt} {X0 : Mm} {post : Option Value → Mm → Prop} (g : Good Z prog_3_method_4_code 3 "BusTelegrams$Station" 0) (hq : RetZ Z true X0 0 0 post) (hr : (zM Z).sig.returnType = (some .boolean)) : Snd Z 3 59 (b_S_isMeant_59 post) := by
  unfold b_S_isMeant_59
  exact (s_push_iconst g d_S_isMeant_59 (by decide) (t_S_isMeant_60 g hq hr))
def b_S_isMeant_34 (post : Option Value → Mm → Prop) : Kk := (i_zret post)
theorem t_S_isMeant_34 {Z : Zt} {X0 : Mm} {post : Option Value → Mm → Prop} (g : Good Z prog_3_method_4_code 3 "BusTelegrams$Station" 0) (hq : RetZ Z true X0 0 0 post) (hr : (zM Z).sig.returnType = (some .boolean)) : Snd Z 3 34 (b_S_isMeant_34 post) := by
  unfold b_S_isMeant_34
  exact (s_zret0 g hq hr d_S_isMeant_34)
def b_S_isMeant_0 (post : Option Value → Mm → Prop) : Kk := (i_aload 0 (i_getI 1 8 (i_if (fun x y => x = y) (i_aload 0 (i_getI 1 6 (i_push (.int (-1)) (i_icmp (fun x y => x = y) (i_iload 2 (i_if (fun x y => x = y) (i_aload 0 (i_getI 1 2 (i_iload 1 (i_icmp (fun x y => x = y) (i_push (.int 1) (b_S_isMeant_34 post)) (i_push (.int 0) (b_S_isMeant_34 post)))))) (i_iload 1 (i_if (fun x y => x < y) (b_S_isMeant_59 post) (i_iload 1 (i_push (.int 256) (i_icmp (fun x y => y ≤ x) (b_S_isMeant_59 post) (i_aload 0 (i_getR 1 0 (i_iload 1 (i_ald 11 (i_if (fun x y => x = y) (b_S_isMeant_59 post) (i_push (.int 1) (b_S_isMeant_60 post)))))))))))))) (b_S_isMeant_15 post))))) (b_S_isMeant_15 post))))
theorem t_S_isMeant_0 {Z : Zt} {X0 : Mm} {post : Option Value → Mm → Prop} (g : Good Z prog_3_method_4_code 3 "BusTelegrams$Station" 0) (hq : RetZ Z true X0 0 0 post) (hr : (zM Z).sig.returnType = (some .boolean)) : Snd Z 3 0 (b_S_isMeant_0 post) := by
  unfold b_S_isMeant_0
  exact (s_aload_n g d_S_isMeant_0 rfl (s_getI g (c := 1) (j := 8) cok_1 (by decide) rfl mw_121 rfl d_S_isMeant_1 (s_if_ne g d_S_isMeant_4 (by decide) (t_S_isMeant_15 g hq hr) (s_aload_n g d_S_isMeant_7 rfl (s_getI g (c := 1) (j := 6) cok_1 (by decide) rfl mw_119 rfl d_S_isMeant_8 (s_push_iconst g d_S_isMeant_11 (by decide) (s_icmp_eq g d_S_isMeant_12 (by decide) (s_iload_n g d_S_isMeant_17 rfl (s_if_ne g d_S_isMeant_18 (by decide) (s_iload_n g d_S_isMeant_35 rfl (s_if_lt g d_S_isMeant_36 (by decide) (t_S_isMeant_59 g hq hr) (s_iload_n g d_S_isMeant_39 rfl (s_push_sipush g d_S_isMeant_40 (by decide) (s_icmp_ge g d_S_isMeant_43 (by decide) (t_S_isMeant_59 g hq hr) (s_aload_n g d_S_isMeant_46 rfl (s_getR g (c := 1) (j := 0) cok_1 (by decide) rfl mw_109 rfl d_S_isMeant_47 (s_iload_n g d_S_isMeant_50 rfl (s_zald g d_S_isMeant_51 (s_if_eq g d_S_isMeant_52 (by decide) (t_S_isMeant_59 g hq hr) (s_push_iconst g d_S_isMeant_55 (by decide) (s_goto g d_S_isMeant_56 (by decide) (t_S_isMeant_60 g hq hr))))))))))))) (s_aload_n g d_S_isMeant_21 rfl (s_getI g (c := 1) (j := 2) cok_1 (by decide) rfl mw_112 rfl d_S_isMeant_22 (s_iload_n g d_S_isMeant_25 rfl (s_icmp_ne g d_S_isMeant_26 (by decide) (s_push_iconst g d_S_isMeant_33 (by decide) (t_S_isMeant_34 g hq hr)) (s_push_iconst g d_S_isMeant_29 (by decide) (s_goto g d_S_isMeant_30 (by decide) (t_S_isMeant_34 g hq hr))))))))) (t_S_isMeant_15 g hq hr))))))))
def w_S_isMeant : Wp := wpOf 3 (fun _ post => b_S_isMeant_0 post)
theorem C_S_isMeant (l : Launch) : MetS l ({ cls := "BusTelegrams$Station", name := "isMeant", desc := "(IZ)Z" } : Jvm.MethodName) prog_3_method_4_code 3 (some .boolean) true 0 0 0 w_S_isMeant := metS_of (by decide +kernel) (fun Z X0 post hZ g hq hr _ => t_S_isMeant_0 g hq hr)
theorem hd_S_isMeant : (({ cls := "BusTelegrams$Station", name := "isMeant", desc := "(IZ)Z" } : Jvm.MethodName)).cls = "BusTelegrams$Station" ∧ (({ cls := "BusTelegrams$Station", name := "isMeant", desc := "(IZ)Z" } : Jvm.MethodName)).cls ≠ "java/lang/invoke/MethodHandle" ∧ (({ cls := "BusTelegrams$Station", name := "isMeant", desc := "(IZ)Z" } : Jvm.MethodName)).cls ≠ "java/lang/invoke/VarHandle" ∧ (parseMethodDescriptor (({ cls := "BusTelegrams$Station", name := "isMeant", desc := "(IZ)Z" } : Jvm.MethodName)).desc).map (fun d => d.parameters.length) = some 2 := ⟨rfl, by decide, by decide, by decide +kernel⟩
theorem d_S_beginAnswer_0 : decode prog_3_method_5_code 0 = .ok (.aload_n 0, 1) := by decide +kernel
theorem d_S_beginAnswer_1 : decode prog_3_method_5_code 1 = .ok (.iconst 0, 1) := by decide +kernel
theorem d_S_beginAnswer_2 : decode prog_3_method_5_code 2 = .ok (.putfield 44, 3) := by decide +kernel
theorem d_S_beginAnswer_5 : decode prog_3_method_5_code 5 = .ok (.aload_n 0, 1) := by decide +kernel
theorem d_S_beginAnswer_6 : decode prog_3_method_5_code 6 = .ok (.iload_n 1, 1) := by decide +kernel
theorem d_S_beginAnswer_7 : decode prog_3_method_5_code 7 = .ok (.ifCond .ne 8, 3) := by decide +kernel
theorem d_S_beginAnswer_10 : decode prog_3_method_5_code 10 = .ok (.bipush 12, 2) := by decide +kernel
theorem d_S_beginAnswer_12 : decode prog_3_method_5_code 12 = .ok (.goto 19, 3) := by decide +kernel
theorem d_S_beginAnswer_15 : decode prog_3_method_5_code 15 = .ok (.aload_n 0, 1) := by decide +kernel
theorem d_S_beginAnswer_16 : decode prog_3_method_5_code 16 = .ok (.getfield 21, 3) := by decide +kernel
theorem d_S_beginAnswer_19 : decode prog_3_method_5_code 19 = .ok (.ifCond .eq 9, 3) := by decide +kernel
theorem d_S_beginAnswer_22 : decode prog_3_method_5_code 22 = .ok (.sipush 192, 3) := by decide +kernel
theorem d_S_beginAnswer_25 : decode prog_3_method_5_code 25 = .ok (.goto 6, 3) := by decide +kernel
theorem d_S_beginAnswer_28 : decode prog_3_method_5_code 28 = .ok (.sipush 204, 3) := by decide +kernel
theorem d_S_beginAnswer_31 : decode prog_3_method_5_code 31 = .ok (.putfield 47, 3) := by decide +kernel
theorem d_S_beginAnswer_34 : decode prog_3_method_5_code 34 = .ok (.return_, 1) := by decide +kernel
def b_S_beginAnswer_31 (post : Option Value → Mm → Prop) : Kk := (i_putI 1 11 (i_vret post))
theorem t_S_beginAnswer_31 {Z : Zt} {X0 : Mm} {post : Option Value → Mm → Prop} (g : Good Z prog_3_method_5_code 2 "BusTelegrams$Station" 0) (hq : RetZ Z true X0 0 0 post) (hr : (zM Z).sig.returnType = none) : Snd Z 2 31 (b_S_beginAnswer_31 post) := by
  unfold b_S_beginAnswer_31
  exact (s_putI g (c := 1) (j := 11) cok_1 (by decide) rfl rfl rfl mw_124 rfl d_S_beginAnswer_31 (s_vret0 g hq hr d_S_beginAnswer_34))
def b_S_beginAnswer_0 (post : Option Value → Mm → Prop) : Kk := (i_aload 0 (i_push (.int 0) (i_putI 1 10 (i_aload 0 (i_iload 1 (i_if (fun x y => x = y) (i_push (.int 12) (b_S_beginAnswer_31 post)) (i_aload 0 (i_getI 1 3 (i_if (fun x y => x = y) (i_push (.int 204) (b_S_beginAnswer_31 post)) (i_push (.int 192) (b_S_beginAnswer_31 post)))))))))))
theorem t_S_beginAnswer_0 {Z : Zt} {X0 : Mm} {post : Option Value → Mm → Prop} (g : Good Z prog_3_method_5_code 2 "BusTelegrams$Station" 0) (hq : RetZ Z true X0 0 0 post) (hr : (zM Z).sig.returnType = none) : Snd Z 2 0 (b_S_beginAnswer_0 post) := by
  unfold b_S_beginAnswer_0
  exact (s_aload_n g d_S_beginAnswer_0 rfl (s_push_iconst g d_S_beginAnswer_1 (by decide) (s_putI g (c := 1) (j := 10) cok_1 (by decide) rfl rfl rfl mw_123 rfl d_S_beginAnswer_2 (s_aload_n g d_S_beginAnswer_5 rfl (s_iload_n g d_S_beginAnswer_6 rfl (s_if_ne g d_S_beginAnswer_7 (by decide) (s_aload_n g d_S_beginAnswer_15 rfl (s_getI g (c := 1) (j := 3) cok_1 (by decide) rfl mw_114 rfl d_S_beginAnswer_16 (s_if_eq g d_S_beginAnswer_19 (by decide) (s_push_sipush g d_S_beginAnswer_28 (by decide) (t_S_beginAnswer_31 g hq hr)) (s_push_sipush g d_S_beginAnswer_22 (by decide) (s_goto g d_S_beginAnswer_25 (by decide) (t_S_beginAnswer_31 g hq hr)))))) (s_push_bipush g d_S_beginAnswer_10 (by decide) (s_goto g d_S_beginAnswer_12 (by decide) (t_S_beginAnswer_31 g hq hr)))))))))
def w_S_beginAnswer : Wp := wpOf 2 (fun _ post => b_S_beginAnswer_0 post)
theorem C_S_beginAnswer (l : Launch) : MetS l ({ cls := "BusTelegrams$Station", name := "beginAnswer", desc := "(Z)V" } : Jvm.MethodName) prog_3_method_5_code 2 none true 0 0 0 w_S_beginAnswer := metS_of (by decide +kernel) (fun Z X0 post hZ g hq hr _ => t_S_beginAnswer_0 g hq hr)
theorem hd_S_beginAnswer : (({ cls := "BusTelegrams$Station", name := "beginAnswer", desc := "(Z)V" } : Jvm.MethodName)).cls = "BusTelegrams$Station" ∧ (({ cls := "BusTelegrams$Station", name := "beginAnswer", desc := "(Z)V" } : Jvm.MethodName)).cls ≠ "java/lang/invoke/MethodHandle" ∧ (({ cls := "BusTelegrams$Station", name := "beginAnswer", desc := "(Z)V" } : Jvm.MethodName)).cls ≠ "java/lang/invoke/VarHandle" ∧ (parseMethodDescriptor (({ cls := "BusTelegrams$Station", name := "beginAnswer", desc := "(Z)V" } : Jvm.MethodName)).desc).map (fun d => d.parameters.length) = some 1 := ⟨rfl, by decide, by decide, by decide +kernel⟩
theorem d_J_bitCount_0 : decode prog_10_method_49_code 0 = .ok (.iload_n 0, 1) := by decide +kernel
theorem d_J_bitCount_1 : decode prog_10_method_49_code 1 = .ok (.iload_n 0, 1) := by decide +kernel
theorem d_J_bitCount_2 : decode prog_10_method_49_code 2 = .ok (.iconst 1, 1) := by decide +kernel
theorem d_J_bitCount_3 : decode prog_10_method_49_code 3 = .ok (.iushr, 1) := by decide +kernel
theorem d_J_bitCount_4 : decode prog_10_method_49_code 4 = .ok (.ldc_w 265, 3) := by decide +kernel
theorem d_J_bitCount_7 : decode prog_10_method_49_code 7 = .ok (.iand, 1) := by decide +kernel
theorem d_J_bitCount_8 : decode prog_10_method_49_code 8 = .ok (.isub, 1) := by decide +kernel
theorem d_J_bitCount_9 : decode prog_10_method_49_code 9 = .ok (.istore_n 0, 1) := by decide +kernel
theorem d_J_bitCount_10 : decode prog_10_method_49_code 10 = .ok (.iload_n 0, 1) := by decide +kernel
theorem d_J_bitCount_11 : decode prog_10_method_49_code 11 = .ok (.ldc_w 266, 3) := by decide +kernel
theorem d_J_bitCount_14 : decode prog_10_method_49_code 14 = .ok (.iand, 1) := by decide +kernel
theorem d_J_bitCount_15 : decode prog_10_method_49_code 15 = .ok (.iload_n 0, 1) := by decide +kernel
theorem d_J_bitCount_16 : decode prog_10_method_49_code 16 = .ok (.iconst 2, 1) := by decide +kernel
theorem d_J_bitCount_17 : decode prog_10_method_49_code 17 = .ok (.iushr, 1) := by decide +kernel
theorem d_J_bitCount_18 : decode prog_10_method_49_code 18 = .ok (.ldc_w 266, 3) := by decide +kernel
theorem d_J_bitCount_21 : decode prog_10_method_49_code 21 = .ok (.iand, 1) := by decide +kernel
theorem d_J_bitCount_22 : decode prog_10_method_49_code 22 = .ok (.iadd, 1) := by decide +kernel
theorem d_J_bitCount_23 : decode prog_10_method_49_code 23 = .ok (.istore_n 0, 1) := by decide +kernel
theorem d_J_bitCount_24 : decode prog_10_method_49_code 24 = .ok (.iload_n 0, 1) := by decide +kernel
theorem d_J_bitCount_25 : decode prog_10_method_49_code 25 = .ok (.iload_n 0, 1) := by decide +kernel
theorem d_J_bitCount_26 : decode prog_10_method_49_code 26 = .ok (.iconst 4, 1) := by decide +kernel
theorem d_J_bitCount_27 : decode prog_10_method_49_code 27 = .ok (.iushr, 1) := by decide +kernel
theorem d_J_bitCount_28 : decode prog_10_method_49_code 28 = .ok (.iadd, 1) := by decide +kernel
theorem d_J_bitCount_29 : decode prog_10_method_49_code 29 = .ok (.ldc_w 267, 3) := by decide +kernel
theorem d_J_bitCount_32 : decode prog_10_method_49_code 32 = .ok (.iand, 1) := by decide +kernel
theorem d_J_bitCount_33 : decode prog_10_method_49_code 33 = .ok (.istore_n 0, 1) := by decide +kernel
theorem d_J_bitCount_34 : decode prog_10_method_49_code 34 = .ok (.iload_n 0, 1) := by decide +kernel
theorem d_J_bitCount_35 : decode prog_10_method_49_code 35 = .ok (.iload_n 0, 1) := by decide +kernel
theorem d_J_bitCount_36 : decode prog_10_method_49_code 36 = .ok (.bipush 8, 2) := by decide +kernel
theorem d_J_bitCount_38 : decode prog_10_method_49_code 38 = .ok (.iushr, 1) := by decide +kernel
theorem d_J_bitCount_39 : decode prog_10_method_49_code 39 = .ok (.iadd, 1) := by decide +kernel
theorem d_J_bitCount_40 : decode prog_10_method_49_code 40 = .ok (.istore_n 0, 1) := by decide +kernel
theorem d_J_bitCount_41 : decode prog_10_method_49_code 41 = .ok (.iload_n 0, 1) := by decide +kernel
theorem d_J_bitCount_42 : decode prog_10_method_49_code 42 = .ok (.iload_n 0, 1) := by decide +kernel
theorem d_J_bitCount_43 : decode prog_10_method_49_code 43 = .ok (.bipush 16, 2) := by decide +kernel
theorem d_J_bitCount_45 : decode prog_10_method_49_code 45 = .ok (.iushr, 1) := by decide +kernel
theorem d_J_bitCount_46 : decode prog_10_method_49_code 46 = .ok (.iadd, 1) := by decide +kernel
theorem d_J_bitCount_47 : decode prog_10_method_49_code 47 = .ok (.istore_n 0, 1) := by decide +kernel
theorem d_J_bitCount_48 : decode prog_10_method_49_code 48 = .ok (.iload_n 0, 1) := by decide +kernel
theorem d_J_bitCount_49 : decode prog_10_method_49_code 49 = .ok (.bipush 63, 2) := by decide +kernel
theorem d_J_bitCount_51 : decode prog_10_method_49_code 51 = .ok (.iand, 1) := by decide +kernel
theorem d_J_bitCount_52 : decode prog_10_method_49_code 52 = .ok (.ireturn, 1) := by decide +kernel
def b_J_bitCount_0 (post : Option Value → Mm → Prop) : Kk := (i_iload 0 (i_iload 0 (i_push (.int 1) (i_bin (fun x y => (x.toUInt32 >>> (y.toUInt32 &&& Int32.toUInt32 31)).toInt32) (i_push (.int 1431655765) (i_bin (fun x y => x &&& y) (i_bin (fun x y => x - y) (i_istore 0 (i_iload 0 (i_push (.int 858993459) (i_bin (fun x y => x &&& y) (i_iload 0 (i_push (.int 2) (i_bin (fun x y => (x.toUInt32 >>> (y.toUInt32 &&& Int32.toUInt32 31)).toInt32) (i_push (.int 858993459) (i_bin (fun x y => x &&& y) (i_bin (fun x y => x + y) (i_istore 0 (i_iload 0 (i_iload 0 (i_push (.int 4) (i_bin (fun x y => (x.toUInt32 >>> (y.toUInt32 &&& Int32.toUInt32 31)).toInt32) (i_bin (fun x y => x + y) (i_push (.int 252645135) (i_bin (fun x y => x &&& y) (i_istore 0 (i_iload 0 (i_iload 0 (i_push (.int 8) (i_bin (fun x y => (x.toUInt32 >>> (y.toUInt32 &&& Int32.toUInt32 31)).toInt32) (i_bin (fun x y => x + y) (i_istore 0 (i_iload 0 (i_iload 0 (i_push (.int 16) (i_bin (fun x y => (x.toUInt32 >>> (y.toUInt32 &&& Int32.toUInt32 31)).toInt32) (i_bin (fun x y => x + y) (i_istore 0 (i_iload 0 (i_push (.int 63) (i_bin (fun x y => x &&& y) (i_iret post))))))))))))))))))))))))))))))))))))))))))
theorem t_J_bitCount_0 {Z : Zt} {X0 : Mm} {post : Option Value → Mm → Prop} (g : Good Z prog_10_method_49_code 1 "java/lang/Integer" 0) (hq : RetZ Z true X0 0 0 post) (hr : (zM Z).sig.returnType = (some .int)) : Snd Z 1 0 (b_J_bitCount_0 post) := by
  unfold b_J_bitCount_0
  exact (s_iload_n g d_J_bitCount_0 rfl (s_iload_n g d_J_bitCount_1 rfl (s_push_iconst g d_J_bitCount_2 (by decide) (s_iushr g d_J_bitCount_3 (s_push_ldcw g mw_419 d_J_bitCount_4 (s_iand g d_J_bitCount_7 (s_isub g d_J_bitCount_8 (s_istore_n g (by decide) d_J_bitCount_9 rfl (s_iload_n g d_J_bitCount_10 rfl (s_push_ldcw g mw_420 d_J_bitCount_11 (s_iand g d_J_bitCount_14 (s_iload_n g d_J_bitCount_15 rfl (s_push_iconst g d_J_bitCount_16 (by decide) (s_iushr g d_J_bitCount_17 (s_push_ldcw g mw_420 d_J_bitCount_18 (s_iand g d_J_bitCount_21 (s_iadd g d_J_bitCount_22 (s_istore_n g (by decide) d_J_bitCount_23 rfl (s_iload_n g d_J_bitCount_24 rfl (s_iload_n g d_J_bitCount_25 rfl (s_push_iconst g d_J_bitCount_26 (by decide) (s_iushr g d_J_bitCount_27 (s_iadd g d_J_bitCount_28 (s_push_ldcw g mw_421 d_J_bitCount_29 (s_iand g d_J_bitCount_32 (s_istore_n g (by decide) d_J_bitCount_33 rfl (s_iload_n g d_J_bitCount_34 rfl (s_iload_n g d_J_bitCount_35 rfl (s_push_bipush g d_J_bitCount_36 (by decide) (s_iushr g d_J_bitCount_38 (s_iadd g d_J_bitCount_39 (s_istore_n g (by decide) d_J_bitCount_40 rfl (s_iload_n g d_J_bitCount_41 rfl (s_iload_n g d_J_bitCount_42 rfl (s_push_bipush g d_J_bitCount_43 (by decide) (s_iushr g d_J_bitCount_45 (s_iadd g d_J_bitCount_46 (s_istore_n g (by decide) d_J_bitCount_47 rfl (s_iload_n g d_J_bitCount_48 rfl (s_push_bipush g d_J_bitCount_49 (by decide) (s_iand g d_J_bitCount_51 (s_iret0 g hq hr d_J_bitCount_52))))))))))))))))))))))))))))))))))))))))))
def w_J_bitCount : Wp := wpOf 1 (fun _ post => b_J_bitCount_0 post)
theorem C_J_bitCount (l : Launch) : MetS l ({ cls := "java/lang/Integer", name := "bitCount", desc := "(I)I" } : Jvm.MethodName) prog_10_method_49_code 1 (some .int) true 0 0 0 w_J_bitCount := metS_of (by decide +kernel) (fun Z X0 post hZ g hq hr _ => t_J_bitCount_0 g hq hr)
theorem hd_J_bitCount : (({ cls := "java/lang/Integer", name := "bitCount", desc := "(I)I" } : Jvm.MethodName)).cls ≠ "java/lang/invoke/MethodHandle" ∧ (({ cls := "java/lang/Integer", name := "bitCount", desc := "(I)I" } : Jvm.MethodName)).cls ≠ "java/lang/invoke/VarHandle" ∧ (parseMethodDescriptor (({ cls := "java/lang/Integer", name := "bitCount", desc := "(I)I" } : Jvm.MethodName)).desc).map (fun d => d.parameters.length) = some 1 := ⟨by decide, by decide, by decide +kernel⟩
theorem d_T_idleNeeded_0 : decode prog_4_method_5_code 0 = .ok (.aload_n 0, 1) := by decide +kernel
theorem d_T_idleNeeded_1 : decode prog_4_method_5_code 1 = .ok (.getfield 19, 3) := by decide +kernel
theorem d_T_idleNeeded_4 : decode prog_4_method_5_code 4 = .ok (.iconst 2, 1) := by decide +kernel
theorem d_T_idleNeeded_5 : decode prog_4_method_5_code 5 = .ok (.if_icmp .lt 15, 3) := by decide +kernel
theorem d_T_idleNeeded_8 : decode prog_4_method_5_code 8 = .ok (.aload_n 0, 1) := by decide +kernel
theorem d_T_idleNeeded_9 : decode prog_4_method_5_code 9 = .ok (.getfield 22, 3) := by decide +kernel
theorem d_T_idleNeeded_12 : decode prog_4_method_5_code 12 = .ok (.ifCond .ne 8, 3) := by decide +kernel
theorem d_T_idleNeeded_15 : decode prog_4_method_5_code 15 = .ok (.bipush 53, 2) := by decide +kernel
theorem d_T_idleNeeded_17 : decode prog_4_method_5_code 17 = .ok (.goto 5, 3) := by decide +kernel
theorem d_T_idleNeeded_20 : decode prog_4_method_5_code 20 = .ok (.bipush 50, 2) := by decide +kernel
theorem d_T_idleNeeded_22 : decode prog_4_method_5_code 22 = .ok (.ireturn, 1) := by decide +kernel
def b_T_idleNeeded_22 (post : Option Value → Mm → Prop) : Kk := (i_iret post)
theorem t_T_idleNeeded_22 {Z : Zt} {X0 : Mm} {post : Option Value → Mm → Prop} (g : Good Z prog_4_method_5_code 1 "BusTelegrams$Telegram" 0) (hq : RetZ Z true X0 0 0 post) (hr : (zM Z).sig.returnType = (some .int)) : Snd Z 1 22 (b_T_idleNeeded_22 post) := by
  unfold b_T_idleNeeded_22
  exact (s_iret0 g hq hr d_T_idleNeeded_22)
def b_T_idleNeeded_20 (post : Option Value → Mm → Prop) : Kk := (i_push (.int 50) (b_T_idleNeeded_22 post))
theorem t_T_idleNeeded_20 {Z : Zt} {X0 : Mm} {post : Option Value → Mm → Prop} (g : Good Z prog_4_method_5_code 1 "BusTelegrams$Telegram" 0) (hq : RetZ Z true X0 0 0 post) (hr : (zM Z).sig.returnType = (some .int)) : Snd Z 1 20 (b_T_idleNeeded_20 post) := by
  unfold b_T_idleNeeded_20
  exact (s_push_bipush g d_T_idleNeeded_20 (by decide) (t_T_idleNeeded_22 g hq hr))
def b_T_idleNeeded_0 (post : Option Value → Mm → Prop) : Kk := (i_aload 0 (i_getI 2 2 (i_push (.int 2) (i_icmp (fun x y => x < y) (b_T_idleNeeded_20 post) (i_aload 0 (i_getI 2 3 (i_if (fun x y => x = y) (i_push (.int 53) (b_T_idleNeeded_22 post)) (b_T_idleNeeded_20 post))))))))
theorem t_T_idleNeeded_0 {Z : Zt} {X0 : Mm} {post : Option Value → Mm → Prop} (g : Good Z prog_4_method_5_code 1 "BusTelegrams$Telegram" 0) (hq : RetZ Z true X0 0 0 post) (hr : (zM Z).sig.returnType = (some .int)) : Snd Z 1 0 (b_T_idleNeeded_0 post) := by
  unfold b_T_idleNeeded_0
  exact (s_aload_n g d_T_idleNeeded_0 rfl (s_getI g (c := 2) (j := 2) cok_2 (by decide) rfl mw_96 rfl d_T_idleNeeded_1 (s_push_iconst g d_T_idleNeeded_4 (by decide) (s_icmp_lt g d_T_idleNeeded_5 (by decide) (t_T_idleNeeded_20 g hq hr) (s_aload_n g d_T_idleNeeded_8 rfl (s_getI g (c := 2) (j := 3) cok_2 (by decide) rfl mw_97 rfl d_T_idleNeeded_9 (s_if_ne g d_T_idleNeeded_12 (by decide) (t_T_idleNeeded_20 g hq hr) (s_push_bipush g d_T_idleNeeded_15 (by decide) (s_goto g d_T_idleNeeded_17 (by decide) (t_T_idleNeeded_22 g hq hr))))))))))
def w_T_idleNeeded : Wp := wpOf 1 (fun _ post => b_T_idleNeeded_0 post)
theorem C_T_idleNeeded (l : Launch) : MetS l ({ cls := "BusTelegrams$Telegram", name := "idleNeeded", desc := "()I" } : Jvm.MethodName) prog_4_method_5_code 1 (some .int) true 0 0 0 w_T_idleNeeded := metS_of (by decide +kernel) (fun Z X0 post hZ g hq hr _ => t_T_idleNeeded_0 g hq hr)
theorem hd_T_idleNeeded : (({ cls := "BusTelegrams$Telegram", name := "idleNeeded", desc := "()I" } : Jvm.MethodName)).cls = "BusTelegrams$Telegram" ∧ (({ cls := "BusTelegrams$Telegram", name := "idleNeeded", desc := "()I" } : Jvm.MethodName)).cls ≠ "java/lang/invoke/MethodHandle" ∧ (({ cls := "BusTelegrams$Telegram", name := "idleNeeded", desc := "()I" } : Jvm.MethodName)).cls ≠ "java/lang/invoke/VarHandle" ∧ (parseMethodDescriptor (({ cls := "BusTelegrams$Telegram", name := "idleNeeded", desc := "()I" } : Jvm.MethodName)).desc).map (fun d => d.parameters.length) = some 0 := ⟨rfl, by decide, by decide, by decide +kernel⟩
theorem d_T_bitCount_0 : decode prog_4_method_7_code 0 = .ok (.bipush 13, 2) := by decide +kernel
theorem d_T_bitCount_2 : decode prog_4_method_7_code 2 = .ok (.aload_n 0, 1) := by decide +kernel
theorem d_T_bitCount_3 : decode prog_4_method_7_code 3 = .ok (.getfield 15, 3) := by decide +kernel
theorem d_T_bitCount_6 : decode prog_4_method_7_code 6 = .ok (.imul, 1) := by decide +kernel
theorem d_T_bitCount_7 : decode prog_4_method_7_code 7 = .ok (.iconst 2, 1) := by decide +kernel
theorem d_T_bitCount_8 : decode prog_4_method_7_code 8 = .ok (.isub, 1) := by decide +kernel
theorem d_T_bitCount_9 : decode prog_4_method_7_code 9 = .ok (.ireturn, 1) := by decide +kernel
def b_T_bitCount_0 (post : Option Value → Mm → Prop) : Kk := (i_push (.int 13) (i_aload 0 (i_getI 2 1 (i_bin (fun x y => x * y) (i_push (.int 2) (i_bin (fun x y => x - y) (i_iret post)))))))
theorem t_T_bitCount_0 {Z : Zt} {X0 : Mm} {post : Option Value → Mm → Prop} (g : Good Z prog_4_method_7_code 1 "BusTelegrams$Telegram" 0) (hq : RetZ Z true X0 0 0 post) (hr : (zM Z).sig.returnType = (some .int)) : Snd Z 1 0 (b_T_bitCount_0 post) := by
  unfold b_T_bitCount_0
  exact (s_push_bipush g d_T_bitCount_0 (by decide) (s_aload_n g d_T_bitCount_2 rfl (s_getI g (c := 2) (j := 1) cok_2 (by decide) rfl mw_95 rfl d_T_bitCount_3 (s_imul g d_T_bitCount_6 (s_push_iconst g d_T_bitCount_7 (by decide) (s_isub g d_T_bitCount_8 (s_iret0 g hq hr d_T_bitCount_9)))))))
def w_T_bitCount : Wp := wpOf 1 (fun _ post => b_T_bitCount_0 post)
theorem C_T_bitCount (l : Launch) : MetS l ({ cls := "BusTelegrams$Telegram", name := "bitCount", desc := "()I" } : Jvm.MethodName) prog_4_method_7_code 1 (some .int) true 0 0 0 w_T_bitCount := metS_of (by decide +kernel) (fun Z X0 post hZ g hq hr _ => t_T_bitCount_0 g hq hr)
theorem hd_T_bitCount : (({ cls := "BusTelegrams$Telegram", name := "bitCount", desc := "()I" } : Jvm.MethodName)).cls = "BusTelegrams$Telegram" ∧ (({ cls := "BusTelegrams$Telegram", name := "bitCount", desc := "()I" } : Jvm.MethodName)).cls ≠ "java/lang/invoke/MethodHandle" ∧ (({ cls := "BusTelegrams$Telegram", name := "bitCount", desc := "()I" } : Jvm.MethodName)).cls ≠ "java/lang/invoke/VarHandle" ∧ (parseMethodDescriptor (({ cls := "BusTelegrams$Telegram", name := "bitCount", desc := "()I" } : Jvm.MethodName)).desc).map (fun d => d.parameters.length) = some 0 := ⟨rfl, by decide, by decide, by decide +kernel⟩
theorem d_E_endCharacter_0 : decode prog_2_method_6_code 0 = .ok (.iload_n 1, 1) := by decide +kernel
theorem d_E_endCharacter_1 : decode prog_2_method_6_code 1 = .ok (.ifCond .eq 23, 3) := by decide +kernel
theorem d_E_endCharacter_4 : decode prog_2_method_6_code 4 = .ok (.aload_n 0, 1) := by decide +kernel
theorem d_E_endCharacter_5 : decode prog_2_method_6_code 5 = .ok (.getfield 31, 3) := by decide +kernel
theorem d_E_endCharacter_8 : decode prog_2_method_6_code 8 = .ok (.iconst 1, 1) := by decide +kernel
theorem d_E_endCharacter_9 : decode prog_2_method_6_code 9 = .ok (.iand, 1) := by decide +kernel
theorem d_E_endCharacter_10 : decode prog_2_method_6_code 10 = .ok (.iconst 1, 1) := by decide +kernel
theorem d_E_endCharacter_11 : decode prog_2_method_6_code 11 = .ok (.if_icmp .eq 13, 3) := by decide +kernel
theorem d_E_endCharacter_14 : decode prog_2_method_6_code 14 = .ok (.aload_n 0, 1) := by decide +kernel
theorem d_E_endCharacter_15 : decode prog_2_method_6_code 15 = .ok (.getfield 34, 3) := by decide +kernel
theorem d_E_endCharacter_18 : decode prog_2_method_6_code 18 = .ok (.sipush 600, 3) := by decide +kernel
theorem d_E_endCharacter_21 : decode prog_2_method_6_code 21 = .ok (.if_icmp .lt 8, 3) := by decide +kernel
theorem d_E_endCharacter_24 : decode prog_2_method_6_code 24 = .ok (.aload_n 0, 1) := by decide +kernel
theorem d_E_endCharacter_25 : decode prog_2_method_6_code 25 = .ok (.iconst 1, 1) := by decide +kernel
theorem d_E_endCharacter_26 : decode prog_2_method_6_code 26 = .ok (.putfield 37, 3) := by decide +kernel
theorem d_E_endCharacter_29 : decode prog_2_method_6_code 29 = .ok (.aload_n 0, 1) := by decide +kernel
theorem d_E_endCharacter_30 : decode prog_2_method_6_code 30 = .ok (.getfield 34, 3) := by decide +kernel
theorem d_E_endCharacter_33 : decode prog_2_method_6_code 33 = .ok (.sipush 600, 3) := by decide +kernel
theorem d_E_endCharacter_36 : decode prog_2_method_6_code 36 = .ok (.if_icmp .ge 26, 3) := by decide +kernel
theorem d_E_endCharacter_39 : decode prog_2_method_6_code 39 = .ok (.aload_n 0, 1) := by decide +kernel
theorem d_E_endCharacter_40 : decode prog_2_method_6_code 40 = .ok (.getfield 11, 3) := by decide +kernel
theorem d_E_endCharacter_43 : decode prog_2_method_6_code 43 = .ok (.aload_n 0, 1) := by decide +kernel
theorem d_E_endCharacter_44 : decode prog_2_method_6_code 44 = .ok (.getfield 34, 3) := by decide +kernel
theorem d_E_endCharacter_47 : decode prog_2_method_6_code 47 = .ok (.aload_n 0, 1) := by decide +kernel
theorem d_E_endCharacter_48 : decode prog_2_method_6_code 48 = .ok (.getfield 28, 3) := by decide +kernel
theorem d_E_endCharacter_51 : decode prog_2_method_6_code 51 = .ok (.iastore, 1) := by decide +kernel
theorem d_E_endCharacter_52 : decode prog_2_method_6_code 52 = .ok (.aload_n 0, 1) := by decide +kernel
theorem d_E_endCharacter_53 : decode prog_2_method_6_code 53 = .ok (.dup, 1) := by decide +kernel
theorem d_E_endCharacter_54 : decode prog_2_method_6_code 54 = .ok (.getfield 34, 3) := by decide +kernel
theorem d_E_endCharacter_57 : decode prog_2_method_6_code 57 = .ok (.iconst 1, 1) := by decide +kernel
theorem d_E_endCharacter_58 : decode prog_2_method_6_code 58 = .ok (.iadd, 1) := by decide +kernel
theorem d_E_endCharacter_59 : decode prog_2_method_6_code 59 = .ok (.putfield 34, 3) := by decide +kernel
theorem d_E_endCharacter_62 : decode prog_2_method_6_code 62 = .ok (.aload_n 0, 1) := by decide +kernel
theorem d_E_endCharacter_63 : decode prog_2_method_6_code 63 = .ok (.iload_n 2, 1) := by decide +kernel
theorem d_E_endCharacter_64 : decode prog_2_method_6_code 64 = .ok (.putfield 44, 3) := by decide +kernel
theorem d_E_endCharacter_67 : decode prog_2_method_6_code 67 = .ok (.aload_n 0, 1) := by decide +kernel
theorem d_E_endCharacter_68 : decode prog_2_method_6_code 68 = .ok (.iconst 2, 1) := by decide +kernel
theorem d_E_endCharacter_69 : decode prog_2_method_6_code 69 = .ok (.putfield 21, 3) := by decide +kernel
theorem d_E_endCharacter_72 : decode prog_2_method_6_code 72 = .ok (.aload_n 0, 1) := by decide +kernel
theorem d_E_endCharacter_73 : decode prog_2_method_6_code 73 = .ok (.iconst 0, 1) := by decide +kernel
theorem d_E_endCharacter_74 : decode prog_2_method_6_code 74 = .ok (.putfield 25, 3) := by decide +kernel
theorem d_E_endCharacter_77 : decode prog_2_method_6_code 77 = .ok (.return_, 1) := by decide +kernel
def b_E_endCharacter_62 (post : Option Value → Mm → Prop) : Kk := (i_aload 0 (i_iload 2 (i_putI 0 10 (i_aload 0 (i_push (.int 2) (i_putI 0 3 (i_aload 0 (i_push (.int 0) (i_putI 0 4 (i_vret post))))))))))
theorem t_E_endCharacter_62 {Z : Zt} {X0 : Mm} {post : Option Value → Mm → Prop} (g : Good Z prog_2_method_6_code 3 "BusTelegrams$Ear" 0) (hq : RetZ Z true X0 0 0 post) (hr : (zM Z).sig.returnType = none) : Snd Z 3 62 (b_E_endCharacter_62 post) := by
  unfold b_E_endCharacter_62
  exact (s_aload_n g d_E_endCharacter_62 rfl (s_iload_n g d_E_endCharacter_63 rfl (s_putI g (c := 0) (j := 10) cok_0 (by decide) rfl rfl rfl mw_39 rfl d_E_endCharacter_64 (s_aload_n g d_E_endCharacter_67 rfl (s_push_iconst g d_E_endCharacter_68 (by decide) (s_putI g (c := 0) (j := 3) cok_0 (by decide) rfl rfl rfl mw_32 rfl d_E_endCharacter_69 (s_aload_n g d_E_endCharacter_72 rfl (s_push_iconst g d_E_endCharacter_73 (by decide) (s_putI g (c := 0) (j := 4) cok_0 (by decide) rfl rfl rfl mw_33 rfl d_E_endCharacter_74 (s_vret0 g hq hr d_E_endCharacter_77))))))))))
def b_E_endCharacter_29 (post : Option Value → Mm → Prop) : Kk := (i_aload 0 (i_getI 0 7 (i_push (.int 600) (i_icmp (fun x y => y ≤ x) (b_E_endCharacter_62 post) (i_aload 0 (i_getR 0 0 (i_aload 0 (i_getI 0 7 (i_aload 0 (i_getI 0 5 (i_ast (i_aload 0 (i_dup (i_getI 0 7 (i_push (.int 1) (i_bin (fun x y => x + y) (i_putI 0 7 (b_E_endCharacter_62 post))))))))))))))))))
theorem t_E_endCharacter_29 {Z : Zt} {X0 : Mm} {post : Option Value → Mm → Prop} (g : Good Z prog_2_method_6_code 3 "BusTelegrams$Ear" 0) (hq : RetZ Z true X0 0 0 post) (hr : (zM Z).sig.returnType = none) : Snd Z 3 29 (b_E_endCharacter_29 post) := by
  unfold b_E_endCharacter_29
  exact (s_aload_n g d_E_endCharacter_29 rfl (s_getI g (c := 0) (j := 7) cok_0 (by decide) rfl mw_36 rfl d_E_endCharacter_30 (s_push_sipush g d_E_endCharacter_33 (by decide) (s_icmp_ge g d_E_endCharacter_36 (by decide) (t_E_endCharacter_62 g hq hr) (s_aload_n g d_E_endCharacter_39 rfl (s_getR g (c := 0) (j := 0) cok_0 (by decide) rfl mw_29 rfl d_E_endCharacter_40 (s_aload_n g d_E_endCharacter_43 rfl (s_getI g (c := 0) (j := 7) cok_0 (by decide) rfl mw_36 rfl d_E_endCharacter_44 (s_aload_n g d_E_endCharacter_47 rfl (s_getI g (c := 0) (j := 5) cok_0 (by decide) rfl mw_34 rfl d_E_endCharacter_48 (s_iast g d_E_endCharacter_51 (s_aload_n g d_E_endCharacter_52 rfl (s_dup g d_E_endCharacter_53 (s_getI g (c := 0) (j := 7) cok_0 (by decide) rfl mw_36 rfl d_E_endCharacter_54 (s_push_iconst g d_E_endCharacter_57 (by decide) (s_iadd g d_E_endCharacter_58 (s_putI g (c := 0) (j := 7) cok_0 (by decide) rfl rfl rfl mw_36 rfl d_E_endCharacter_59 (t_E_endCharacter_62 g hq hr))))))))))))))))))
def b_E_endCharacter_24 (post : Option Value → Mm → Prop) : Kk := (i_aload 0 (i_push (.int 1) (i_putZ 0 8 (b_E_endCharacter_29 post))))
theorem t_E_endCharacter_24 {Z : Zt} {X0 : Mm} {post : Option Value → Mm → Prop} (g : Good Z prog_2_method_6_code 3 "BusTelegrams$Ear" 0) (hq : RetZ Z true X0 0 0 post) (hr : (zM Z).sig.returnType = none) : Snd Z 3 24 (b_E_endCharacter_24 post) := by
  unfold b_E_endCharacter_24
  exact (s_aload_n g d_E_endCharacter_24 rfl (s_push_iconst g d_E_endCharacter_25 (by decide) (s_putZ g (c := 0) (j := 8) cok_0 (by decide) rfl rfl rfl mw_37 rfl d_E_endCharacter_26 (t_E_endCharacter_29 g hq hr))))
def b_E_endCharacter_0 (post : Option Value → Mm → Prop) : Kk := (i_iload 1 (i_if (fun x y => x = y) (b_E_endCharacter_24 post) (i_aload 0 (i_getI 0 6 (i_push (.int 1) (i_bin (fun x y => x &&& y) (i_push (.int 1) (i_icmp (fun x y => x = y) (b_E_endCharacter_24 post) (i_aload 0 (i_getI 0 7 (i_push (.int 600) (i_icmp (fun x y => x < y) (b_E_endCharacter_29 post) (b_E_endCharacter_24 post)))))))))))))
theorem t_E_endCharacter_0 {Z : Zt} {X0 : Mm} {post : Option Value → Mm → Prop} (g : Good Z prog_2_method_6_code 3 "BusTelegrams$Ear" 0) (hq : RetZ Z true X0 0 0 post) (hr : (zM Z).sig.returnType = none) : Snd Z 3 0 (b_E_endCharacter_0 post) := by
  unfold b_E_endCharacter_0
  exact (s_iload_n g d_E_endCharacter_0 rfl (s_if_eq g d_E_endCharacter_1 (by decide) (t_E_endCharacter_24 g hq hr) (s_aload_n g d_E_endCharacter_4 rfl (s_getI g (c := 0) (j := 6) cok_0 (by decide) rfl mw_35 rfl d_E_endCharacter_5 (s_push_iconst g d_E_endCharacter_8 (by decide) (s_iand g d_E_endCharacter_9 (s_push_iconst g d_E_endCharacter_10 (by decide) (s_icmp_eq g d_E_endCharacter_11 (by decide) (t_E_endCharacter_24 g hq hr) (s_aload_n g d_E_endCharacter_14 rfl (s_getI g (c := 0) (j := 7) cok_0 (by decide) rfl mw_36 rfl d_E_endCharacter_15 (s_push_sipush g d_E_endCharacter_18 (by decide) (s_icmp_lt g d_E_endCharacter_21 (by decide) (t_E_endCharacter_29 g hq hr) (t_E_endCharacter_24 g hq hr)))))))))))))
def w_E_endCharacter : Wp := wpOf 3 (fun _ post => b_E_endCharacter_0 post)
theorem C_E_endCharacter (l : Launch) : MetS l ({ cls := "BusTelegrams$Ear", name := "endCharacter", desc := "(II)V" } : Jvm.MethodName) prog_2_method_6_code 3 none true 0 0 0 w_E_endCharacter := metS_of (by decide +kernel) (fun Z X0 post hZ g hq hr _ => t_E_endCharacter_0 g hq hr)
theorem hd_E_endCharacter : (({ cls := "BusTelegrams$Ear", name := "endCharacter", desc := "(II)V" } : Jvm.MethodName)).cls = "BusTelegrams$Ear" ∧ (({ cls := "BusTelegrams$Ear", name := "endCharacter", desc := "(II)V" } : Jvm.MethodName)).cls ≠ "java/lang/invoke/MethodHandle" ∧ (({ cls := "BusTelegrams$Ear", name := "endCharacter", desc := "(II)V" } : Jvm.MethodName)).cls ≠ "java/lang/invoke/VarHandle" ∧ (parseMethodDescriptor (({ cls := "BusTelegrams$Ear", name := "endCharacter", desc := "(II)V" } : Jvm.MethodName)).desc).map (fun d => d.parameters.length) = some 2 := ⟨rfl, by decide, by decide, by decide +kernel⟩
theorem d_E_beginCharacter_0 : decode prog_2_method_4_code 0 = .ok (.aload_n 0, 1) := by decide +kernel
theorem d_E_beginCharacter_1 : decode prog_2_method_4_code 1 = .ok (.iconst 1, 1) := by decide +kernel
theorem d_E_beginCharacter_2 : decode prog_2_method_4_code 2 = .ok (.putfield 21, 3) := by decide +kernel
theorem d_E_beginCharacter_5 : decode prog_2_method_4_code 5 = .ok (.aload_n 0, 1) := by decide +kernel
theorem d_E_beginCharacter_6 : decode prog_2_method_4_code 6 = .ok (.iconst 1, 1) := by decide +kernel
theorem d_E_beginCharacter_7 : decode prog_2_method_4_code 7 = .ok (.putfield 25, 3) := by decide +kernel
theorem d_E_beginCharacter_10 : decode prog_2_method_4_code 10 = .ok (.aload_n 0, 1) := by decide +kernel
theorem d_E_beginCharacter_11 : decode prog_2_method_4_code 11 = .ok (.iconst 0, 1) := by decide +kernel
theorem d_E_beginCharacter_12 : decode prog_2_method_4_code 12 = .ok (.putfield 28, 3) := by decide +kernel
theorem d_E_beginCharacter_15 : decode prog_2_method_4_code 15 = .ok (.aload_n 0, 1) := by decide +kernel
theorem d_E_beginCharacter_16 : decode prog_2_method_4_code 16 = .ok (.iconst 0, 1) := by decide +kernel
theorem d_E_beginCharacter_17 : decode prog_2_method_4_code 17 = .ok (.putfield 31, 3) := by decide +kernel
theorem d_E_beginCharacter_20 : decode prog_2_method_4_code 20 = .ok (.return_, 1) := by decide +kernel
def b_E_beginCharacter_0 (post : Option Value → Mm → Prop) : Kk := (i_aload 0 (i_push (.int 1) (i_putI 0 3 (i_aload 0 (i_push (.int 1) (i_putI 0 4 (i_aload 0 (i_push (.int 0) (i_putI 0 5 (i_aload 0 (i_push (.int 0) (i_putI 0 6 (i_vret post)))))))))))))
theorem t_E_beginCharacter_0 {Z : Zt} {X0 : Mm} {post : Option Value → Mm → Prop} (g : Good Z prog_2_method_4_code 1 "BusTelegrams$Ear" 0) (hq : RetZ Z true X0 0 0 post) (hr : (zM Z).sig.returnType = none) : Snd Z 1 0 (b_E_beginCharacter_0 post) := by
  unfold b_E_beginCharacter_0
  exact (s_aload_n g d_E_beginCharacter_0 rfl (s_push_iconst g d_E_beginCharacter_1 (by decide) (s_putI g (c := 0) (j := 3) cok_0 (by decide) rfl rfl rfl mw_32 rfl d_E_beginCharacter_2 (s_aload_n g d_E_beginCharacter_5 rfl (s_push_iconst g d_E_beginCharacter_6 (by decide) (s_putI g (c := 0) (j := 4) cok_0 (by decide) rfl rfl rfl mw_33 rfl d_E_beginCharacter_7 (s_aload_n g d_E_beginCharacter_10 rfl (s_push_iconst g d_E_beginCharacter_11 (by decide) (s_putI g (c := 0) (j := 5) cok_0 (by decide) rfl rfl rfl mw_34 rfl d_E_beginCharacter_12 (s_aload_n g d_E_beginCharacter_15 rfl (s_push_iconst g d_E_beginCharacter_16 (by decide) (s_putI g (c := 0) (j := 6) cok_0 (by decide) rfl rfl rfl mw_35 rfl d_E_beginCharacter_17 (s_vret0 g hq hr d_E_beginCharacter_20)))))))))))))
def w_E_beginCharacter : Wp := wpOf 1 (fun _ post => b_E_beginCharacter_0 post)
theorem C_E_beginCharacter (l : Launch) : MetS l ({ cls := "BusTelegrams$Ear", name := "beginCharacter", desc := "()V" } : Jvm.MethodName) prog_2_method_4_code 1 none true 0 0 0 w_E_beginCharacter := metS_of (by decide +kernel) (fun Z X0 post hZ g hq hr _ => t_E_beginCharacter_0 g hq hr)
theorem hd_E_beginCharacter : (({ cls := "BusTelegrams$Ear", name := "beginCharacter", desc := "()V" } : Jvm.MethodName)).cls = "BusTelegrams$Ear" ∧ (({ cls := "BusTelegrams$Ear", name := "beginCharacter", desc := "()V" } : Jvm.MethodName)).cls ≠ "java/lang/invoke/MethodHandle" ∧ (({ cls := "BusTelegrams$Ear", name := "beginCharacter", desc := "()V" } : Jvm.MethodName)).cls ≠ "java/lang/invoke/VarHandle" ∧ (parseMethodDescriptor (({ cls := "BusTelegrams$Ear", name := "beginCharacter", desc := "()V" } : Jvm.MethodName)).desc).map (fun d => d.parameters.length) = some 0 := ⟨rfl, by decide, by decide, by decide +kernel⟩
theorem d_E_completeTelegram_0 : decode prog_2_method_9_code 0 = .ok (.iconst 0, 1) := by decide +kernel
theorem d_E_completeTelegram_1 : decode prog_2_method_9_code 1 = .ok (.istore_n 1, 1) := by decide +kernel
theorem d_E_completeTelegram_2 : decode prog_2_method_9_code 2 = .ok (.iconst 0, 1) := by decide +kernel
theorem d_E_completeTelegram_3 : decode prog_2_method_9_code 3 = .ok (.istore_n 2, 1) := by decide +kernel
theorem d_E_completeTelegram_4 : decode prog_2_method_9_code 4 = .ok (.iload_n 2, 1) := by decide +kernel
theorem d_E_completeTelegram_5 : decode prog_2_method_9_code 5 = .ok (.aload_n 0, 1) := by decide +kernel
theorem d_E_completeTelegram_6 : decode prog_2_method_9_code 6 = .ok (.getfield 34, 3) := by decide +kernel
theorem d_E_completeTelegram_9 : decode prog_2_method_9_code 9 = .ok (.if_icmp .ge 37, 3) := by decide +kernel
theorem d_E_completeTelegram_12 : decode prog_2_method_9_code 12 = .ok (.iload_n 2, 1) := by decide +kernel
theorem d_E_completeTelegram_13 : decode prog_2_method_9_code 13 = .ok (.sipush 600, 3) := by decide +kernel
theorem d_E_completeTelegram_16 : decode prog_2_method_9_code 16 = .ok (.if_icmp .ge 30, 3) := by decide +kernel
theorem d_E_completeTelegram_19 : decode prog_2_method_9_code 19 = .ok (.aload_n 0, 1) := by decide +kernel
theorem d_E_completeTelegram_20 : decode prog_2_method_9_code 20 = .ok (.getfield 15, 3) := by decide +kernel
theorem d_E_completeTelegram_23 : decode prog_2_method_9_code 23 = .ok (.iload_n 2, 1) := by decide +kernel
theorem d_E_completeTelegram_24 : decode prog_2_method_9_code 24 = .ok (.aload_n 0, 1) := by decide +kernel
theorem d_E_completeTelegram_25 : decode prog_2_method_9_code 25 = .ok (.getfield 11, 3) := by decide +kernel
theorem d_E_completeTelegram_28 : decode prog_2_method_9_code 28 = .ok (.iload_n 2, 1) := by decide +kernel
theorem d_E_completeTelegram_29 : decode prog_2_method_9_code 29 = .ok (.iaload, 1) := by decide +kernel
theorem d_E_completeTelegram_30 : decode prog_2_method_9_code 30 = .ok (.iastore, 1) := by decide +kernel
theorem d_E_completeTelegram_31 : decode prog_2_method_9_code 31 = .ok (.iload_n 1, 1) := by decide +kernel
theorem d_E_completeTelegram_32 : decode prog_2_method_9_code 32 = .ok (.aload_n 0, 1) := by decide +kernel
theorem d_E_completeTelegram_33 : decode prog_2_method_9_code 33 = .ok (.getfield 11, 3) := by decide +kernel
theorem d_E_completeTelegram_36 : decode prog_2_method_9_code 36 = .ok (.iload_n 2, 1) := by decide +kernel
theorem d_E_completeTelegram_37 : decode prog_2_method_9_code 37 = .ok (.iaload, 1) := by decide +kernel
theorem d_E_completeTelegram_38 : decode prog_2_method_9_code 38 = .ok (.ixor, 1) := by decide +kernel
theorem d_E_completeTelegram_39 : decode prog_2_method_9_code 39 = .ok (.istore_n 1, 1) := by decide +kernel
theorem d_E_completeTelegram_40 : decode prog_2_method_9_code 40 = .ok (.iinc 2 1, 3) := by decide +kernel
theorem d_E_completeTelegram_43 : decode prog_2_method_9_code 43 = .ok (.goto (-39), 3) := by decide +kernel
theorem d_E_completeTelegram_46 : decode prog_2_method_9_code 46 = .ok (.aload_n 0, 1) := by decide +kernel
theorem d_E_completeTelegram_47 : decode prog_2_method_9_code 47 = .ok (.aload_n 0, 1) := by decide +kernel
theorem d_E_completeTelegram_48 : decode prog_2_method_9_code 48 = .ok (.getfield 34, 3) := by decide +kernel
theorem d_E_completeTelegram_51 : decode prog_2_method_9_code 51 = .ok (.putfield 47, 3) := by decide +kernel
theorem d_E_completeTelegram_54 : decode prog_2_method_9_code 54 = .ok (.aload_n 0, 1) := by decide +kernel
theorem d_E_completeTelegram_55 : decode prog_2_method_9_code 55 = .ok (.aload_n 0, 1) := by decide +kernel
theorem d_E_completeTelegram_56 : decode prog_2_method_9_code 56 = .ok (.getfield 44, 3) := by decide +kernel
theorem d_E_completeTelegram_59 : decode prog_2_method_9_code 59 = .ok (.putfield 50, 3) := by decide +kernel
theorem d_E_completeTelegram_62 : decode prog_2_method_9_code 62 = .ok (.aload_n 0, 1) := by decide +kernel
theorem d_E_completeTelegram_63 : decode prog_2_method_9_code 63 = .ok (.iconst (-1), 1) := by decide +kernel
theorem d_E_completeTelegram_64 : decode prog_2_method_9_code 64 = .ok (.putfield 56, 3) := by decide +kernel
theorem d_E_completeTelegram_67 : decode prog_2_method_9_code 67 = .ok (.aload_n 0, 1) := by decide +kernel
theorem d_E_completeTelegram_68 : decode prog_2_method_9_code 68 = .ok (.iconst 0, 1) := by decide +kernel
theorem d_E_completeTelegram_69 : decode prog_2_method_9_code 69 = .ok (.putfield 59, 3) := by decide +kernel
theorem d_E_completeTelegram_72 : decode prog_2_method_9_code 72 = .ok (.bipush 8, 2) := by decide +kernel
theorem d_E_completeTelegram_74 : decode prog_2_method_9_code 74 = .ok (.aload_n 0, 1) := by decide +kernel
theorem d_E_completeTelegram_75 : decode prog_2_method_9_code 75 = .ok (.getfield 15, 3) := by decide +kernel
theorem d_E_completeTelegram_78 : decode prog_2_method_9_code 78 = .ok (.iconst 5, 1) := by decide +kernel
theorem d_E_completeTelegram_79 : decode prog_2_method_9_code 79 = .ok (.iaload, 1) := by decide +kernel
theorem d_E_completeTelegram_80 : decode prog_2_method_9_code 80 = .ok (.sipush 128, 3) := by decide +kernel
theorem d_E_completeTelegram_83 : decode prog_2_method_9_code 83 = .ok (.irem, 1) := by decide +kernel
theorem d_E_completeTelegram_84 : decode prog_2_method_9_code 84 = .ok (.iadd, 1) := by decide +kernel
theorem d_E_completeTelegram_85 : decode prog_2_method_9_code 85 = .ok (.istore_n 2, 1) := by decide +kernel
theorem d_E_completeTelegram_86 : decode prog_2_method_9_code 86 = .ok (.aload_n 0, 1) := by decide +kernel
theorem d_E_completeTelegram_87 : decode prog_2_method_9_code 87 = .ok (.iload_n 1, 1) := by decide +kernel
theorem d_E_completeTelegram_88 : decode prog_2_method_9_code 88 = .ok (.sipush 255, 3) := by decide +kernel
theorem d_E_completeTelegram_91 : decode prog_2_method_9_code 91 = .ok (.if_icmp .ne 15, 3) := by decide +kernel
theorem d_E_completeTelegram_94 : decode prog_2_method_9_code 94 = .ok (.aload_n 0, 1) := by decide +kernel
theorem d_E_completeTelegram_95 : decode prog_2_method_9_code 95 = .ok (.getfield 34, 3) := by decide +kernel
theorem d_E_completeTelegram_98 : decode prog_2_method_9_code 98 = .ok (.iload_n 2, 1) := by decide +kernel
theorem d_E_completeTelegram_99 : decode prog_2_method_9_code 99 = .ok (.if_icmp .ne 7, 3) := by decide +kernel
theorem d_E_completeTelegram_102 : decode prog_2_method_9_code 102 = .ok (.iconst 1, 1) := by decide +kernel
theorem d_E_completeTelegram_103 : decode prog_2_method_9_code 103 = .ok (.goto 4, 3) := by decide +kernel
theorem d_E_completeTelegram_106 : decode prog_2_method_9_code 106 = .ok (.iconst 0, 1) := by decide +kernel
theorem d_E_completeTelegram_107 : decode prog_2_method_9_code 107 = .ok (.putfield 53, 3) := by decide +kernel
theorem d_E_completeTelegram_110 : decode prog_2_method_9_code 110 = .ok (.aload_n 0, 1) := by decide +kernel
theorem d_E_completeTelegram_111 : decode prog_2_method_9_code 111 = .ok (.getfield 18, 3) := by decide +kernel
theorem d_E_completeTelegram_114 : decode prog_2_method_9_code 114 = .ok (.iconst 0, 1) := by decide +kernel
theorem d_E_completeTelegram_115 : decode prog_2_method_9_code 115 = .ok (.dup2, 1) := by decide +kernel
theorem d_E_completeTelegram_116 : decode prog_2_method_9_code 116 = .ok (.iaload, 1) := by decide +kernel
theorem d_E_completeTelegram_117 : decode prog_2_method_9_code 117 = .ok (.iconst 1, 1) := by decide +kernel
theorem d_E_completeTelegram_118 : decode prog_2_method_9_code 118 = .ok (.iadd, 1) := by decide +kernel
theorem d_E_completeTelegram_119 : decode prog_2_method_9_code 119 = .ok (.iastore, 1) := by decide +kernel
theorem d_E_completeTelegram_120 : decode prog_2_method_9_code 120 = .ok (.aload_n 0, 1) := by decide +kernel
theorem d_E_completeTelegram_121 : decode prog_2_method_9_code 121 = .ok (.getfield 53, 3) := by decide +kernel
theorem d_E_completeTelegram_124 : decode prog_2_method_9_code 124 = .ok (.ifCond .eq 13, 3) := by decide +kernel
theorem d_E_completeTelegram_127 : decode prog_2_method_9_code 127 = .ok (.aload_n 0, 1) := by decide +kernel
theorem d_E_completeTelegram_128 : decode prog_2_method_9_code 128 = .ok (.getfield 18, 3) := by decide +kernel
theorem d_E_completeTelegram_131 : decode prog_2_method_9_code 131 = .ok (.iconst 1, 1) := by decide +kernel
theorem d_E_completeTelegram_132 : decode prog_2_method_9_code 132 = .ok (.dup2, 1) := by decide +kernel
theorem d_E_completeTelegram_133 : decode prog_2_method_9_code 133 = .ok (.iaload, 1) := by decide +kernel
theorem d_E_completeTelegram_134 : decode prog_2_method_9_code 134 = .ok (.iconst 1, 1) := by decide +kernel
theorem d_E_completeTelegram_135 : decode prog_2_method_9_code 135 = .ok (.iadd, 1) := by decide +kernel
theorem d_E_completeTelegram_136 : decode prog_2_method_9_code 136 = .ok (.iastore, 1) := by decide +kernel
theorem d_E_completeTelegram_137 : decode prog_2_method_9_code 137 = .ok (.return_, 1) := by decide +kernel
def b_E_completeTelegram_137 (post : Option Value → Mm → Prop) : Kk := (i_vret post)
theorem t_E_completeTelegram_137 {Z : Zt} {X0 : Mm} {post : Option Value → Mm → Prop} (g : Good Z prog_2_method_9_code 3 "BusTelegrams$Ear" 0) (hq : RetZ Z true X0 0 0 post) (hr : (zM Z).sig.returnType = none) : Snd Z 3 137 (b_E_completeTelegram_137 post) := by
  unfold b_E_completeTelegram_137
  exact (s_vret0 g hq hr d_E_completeTelegram_137)
def b_E_completeTelegram_107 (post : Option Value → Mm → Prop) : Kk := (i_putZ 0 13 (i_aload 0 (i_getR 0 2 (i_push (.int 0) (i_dup2 (i_ald 10 (i_push (.int 1) (i_bin (fun x y => x + y) (i_ast (i_aload 0 (i_getI 0 13 (i_if (fun x y => x = y) (b_E_completeTelegram_137 post) (i_aload 0 (i_getR 0 2 (i_push (.int 1) (i_dup2 (i_ald 10 (i_push (.int 1) (i_bin (fun x y => x + y) (i_ast (b_E_completeTelegram_137 post)))))))))))))))))))))
theorem t_E_completeTelegram_107 {Z : Zt} {X0 : Mm} {post : Option Value → Mm → Prop} (g : Good Z prog_2_method_9_code 3 "BusTelegrams$Ear" 0) (hq : RetZ Z true X0 0 0 post) (hr : (zM Z).sig.returnType = none) : Snd Z 3 107 (b_E_completeTelegram_107 post) := by
  unfold b_E_completeTelegram_107
  exact (s_putZ g (c := 0) (j := 13) cok_0 (by decide) rfl rfl rfl mw_43 rfl d_E_completeTelegram_107 (s_aload_n g d_E_completeTelegram_110 rfl (s_getR g (c := 0) (j := 2) cok_0 (by decide) rfl mw_31 rfl d_E_completeTelegram_111 (s_push_iconst g d_E_completeTelegram_114 (by decide) (s_dup2 g d_E_completeTelegram_115 (s_iald g d_E_completeTelegram_116 (s_push_iconst g d_E_completeTelegram_117 (by decide) (s_iadd g d_E_completeTelegram_118 (s_iast g d_E_completeTelegram_119 (s_aload_n g d_E_completeTelegram_120 rfl (s_getI g (c := 0) (j := 13) cok_0 (by decide) rfl mw_43 rfl d_E_completeTelegram_121 (s_if_eq g d_E_completeTelegram_124 (by decide) (t_E_completeTelegram_137 g hq hr) (s_aload_n g d_E_completeTelegram_127 rfl (s_getR g (c := 0) (j := 2) cok_0 (by decide) rfl mw_31 rfl d_E_completeTelegram_128 (s_push_iconst g d_E_completeTelegram_131 (by decide) (s_dup2 g d_E_completeTelegram_132 (s_iald g d_E_completeTelegram_133 (s_push_iconst g d_E_completeTelegram_134 (by decide) (s_iadd g d_E_completeTelegram_135 (s_iast g d_E_completeTelegram_136 (t_E_completeTelegram_137 g hq hr)))))))))))))))))))))
def b_E_completeTelegram_106 (post : Option Value → Mm → Prop) : Kk := (i_push (.int 0) (b_E_completeTelegram_107 post))
theorem t_E_completeTelegram_106 {Z : Zt} {X0 : Mm} {post : Option Value → Mm → Prop} (g : Good Z prog_2_method_9_code 3 "BusTelegrams$Ear" 0) (hq : RetZ Z true X0 0 0 post) (hr : (zM Z).sig.returnType = none) : Snd Z 3 106 (b_E_completeTelegram_106 post) := by
  unfold b_E_completeTelegram_106
  exact (s_push_iconst g d_E_completeTelegram_106 (by decide) (t_E_completeTelegram_107 g hq hr))
def b_E_completeTelegram_46 (post : Option Value → Mm → Prop) : Kk := (i_aload 0 (i_aload 0 (i_getI 0 7 (i_putI 0 11 (i_aload 0 (i_aload 0 (i_getI 0 10 (i_putI 0 12 (i_aload 0 (i_push (.int (-1)) (i_putI 0 14 (i_aload 0 (i_push (.int 0) (i_putZ 0 15 (i_push (.int 8) (i_aload 0 (i_getR 0 1 (i_push (.int 5) (i_ald 10 (i_push (.int 128) (i_binz (fun x y => x - x / y * y) (i_bin (fun x y => x + y) (i_istore 2 (i_aload 0 (i_iload 1 (i_push (.int 255) (i_icmp (fun x y => x = y) (i_aload 0 (i_getI 0 7 (i_iload 2 (i_icmp (fun x y => x = y) (i_push (.int 1) (b_E_completeTelegram_107 post)) (b_E_completeTelegram_106 post))))) (b_E_completeTelegram_106 post))))))))))))))))))))))))))))
theorem t_E_completeTelegram_46 {Z : Zt} {X0 : Mm} {post : Option Value → Mm → Prop} (g : Good Z prog_2_method_9_code 3 "BusTelegrams$Ear" 0) (hq : RetZ Z true X0 0 0 post) (hr : (zM Z).sig.returnType = none) : Snd Z 3 46 (b_E_completeTelegram_46 post) := by
  unfold b_E_completeTelegram_46
  exact (s_aload_n g d_E_completeTelegram_46 rfl (s_aload_n g d_E_completeTelegram_47 rfl (s_getI g (c := 0) (j := 7) cok_0 (by decide) rfl mw_36 rfl d_E_completeTelegram_48 (s_putI g (c := 0) (j := 11) cok_0 (by decide) rfl rfl rfl mw_40 rfl d_E_completeTelegram_51 (s_aload_n g d_E_completeTelegram_54 rfl (s_aload_n g d_E_completeTelegram_55 rfl (s_getI g (c := 0) (j := 10) cok_0 (by decide) rfl mw_39 rfl d_E_completeTelegram_56 (s_putI g (c := 0) (j := 12) cok_0 (by decide) rfl rfl rfl mw_42 rfl d_E_completeTelegram_59 (s_aload_n g d_E_completeTelegram_62 rfl (s_push_iconst g d_E_completeTelegram_63 (by decide) (s_putI g (c := 0) (j := 14) cok_0 (by decide) rfl rfl rfl mw_45 rfl d_E_completeTelegram_64 (s_aload_n g d_E_completeTelegram_67 rfl (s_push_iconst g d_E_completeTelegram_68 (by decide) (s_putZ g (c := 0) (j := 15) cok_0 (by decide) rfl rfl rfl mw_47 rfl d_E_completeTelegram_69 (s_push_bipush g d_E_completeTelegram_72 (by decide) (s_aload_n g d_E_completeTelegram_74 rfl (s_getR g (c := 0) (j := 1) cok_0 (by decide) rfl mw_30 rfl d_E_completeTelegram_75 (s_push_iconst g d_E_completeTelegram_78 (by decide) (s_iald g d_E_completeTelegram_79 (s_push_sipush g d_E_completeTelegram_80 (by decide) (s_irem g d_E_completeTelegram_83 (s_iadd g d_E_completeTelegram_84 (s_istore_n g (by decide) d_E_completeTelegram_85 rfl (s_aload_n g d_E_completeTelegram_86 rfl (s_iload_n g d_E_completeTelegram_87 rfl (s_push_sipush g d_E_completeTelegram_88 (by decide) (s_icmp_ne g d_E_completeTelegram_91 (by decide) (t_E_completeTelegram_106 g hq hr) (s_aload_n g d_E_completeTelegram_94 rfl (s_getI g (c := 0) (j := 7) cok_0 (by decide) rfl mw_36 rfl d_E_completeTelegram_95 (s_iload_n g d_E_completeTelegram_98 rfl (s_icmp_ne g d_E_completeTelegram_99 (by decide) (t_E_completeTelegram_106 g hq hr) (s_push_iconst g d_E_completeTelegram_102 (by decide) (s_goto g d_E_completeTelegram_103 (by decide) (t_E_completeTelegram_107 g hq hr))))))))))))))))))))))))))))))))))
def f_E_completeTelegram_4 (post : Option Value → Mm → Prop) (k4 : Kk) : Kk := (i_iload 2 (i_aload 0 (i_getI 0 7 (i_icmp (fun x y => y ≤ x) (b_E_completeTelegram_46 post) (i_iload 2 (i_push (.int 600) (i_icmp (fun x y => y ≤ x) (b_E_completeTelegram_46 post) (i_aload 0 (i_getR 0 1 (i_iload 2 (i_aload 0 (i_getR 0 0 (i_iload 2 (i_ald 10 (i_ast (i_iload 1 (i_aload 0 (i_getR 0 0 (i_iload 2 (i_ald 10 (i_bin (fun x y => x ^^^ y) (i_istore 1 (i_iinc 2 1 k4)))))))))))))))))))))))
def b_E_completeTelegram_4 (post : Option Value → Mm → Prop) : Kk := i_loop [0, 1, 2] (f_E_completeTelegram_4 post)
theorem t_E_completeTelegram_4 {Z : Zt} {X0 : Mm} {post : Option Value → Mm → Prop} (g : Good Z prog_2_method_9_code 3 "BusTelegrams$Ear" 0) (hq : RetZ Z true X0 0 0 post) (hr : (zM Z).sig.returnType = none) : Snd Z 3 4 (b_E_completeTelegram_4 post) := by
  unfold b_E_completeTelegram_4
  exact s_loop (fun k4 hk4 => by unfold f_E_completeTelegram_4; exact (s_iload_n g d_E_completeTelegram_4 rfl (s_aload_n g d_E_completeTelegram_5 rfl (s_getI g (c := 0) (j := 7) cok_0 (by decide) rfl mw_36 rfl d_E_completeTelegram_6 (s_icmp_ge g d_E_completeTelegram_9 (by decide) (t_E_completeTelegram_46 g hq hr) (s_iload_n g d_E_completeTelegram_12 rfl (s_push_sipush g d_E_completeTelegram_13 (by decide) (s_icmp_ge g d_E_completeTelegram_16 (by decide) (t_E_completeTelegram_46 g hq hr) (s_aload_n g d_E_completeTelegram_19 rfl (s_getR g (c := 0) (j := 1) cok_0 (by decide) rfl mw_30 rfl d_E_completeTelegram_20 (s_iload_n g d_E_completeTelegram_23 rfl (s_aload_n g d_E_completeTelegram_24 rfl (s_getR g (c := 0) (j := 0) cok_0 (by decide) rfl mw_29 rfl d_E_completeTelegram_25 (s_iload_n g d_E_completeTelegram_28 rfl (s_iald g d_E_completeTelegram_29 (s_iast g d_E_completeTelegram_30 (s_iload_n g d_E_completeTelegram_31 rfl (s_aload_n g d_E_completeTelegram_32 rfl (s_getR g (c := 0) (j := 0) cok_0 (by decide) rfl mw_29 rfl d_E_completeTelegram_33 (s_iload_n g d_E_completeTelegram_36 rfl (s_iald g d_E_completeTelegram_37 (s_ixor g d_E_completeTelegram_38 (s_istore_n g (by decide) d_E_completeTelegram_39 rfl (s_iinc g (by decide) d_E_completeTelegram_40 (by decide) (s_goto g d_E_completeTelegram_43 (by decide) hk4)))))))))))))))))))))))))
def b_E_completeTelegram_0 (post : Option Value → Mm → Prop) : Kk := (i_push (.int 0) (i_istore 1 (i_push (.int 0) (i_istore 2 (b_E_completeTelegram_4 post)))))
theorem t_E_completeTelegram_0 {Z : Zt} {X0 : Mm} {post : Option Value → Mm → Prop} (g : Good Z prog_2_method_9_code 3 "BusTelegrams$Ear" 0) (hq : RetZ Z true X0 0 0 post) (hr : (zM Z).sig.returnType = none) : Snd Z 3 0 (b_E_completeTelegram_0 post) := by
  unfold b_E_completeTelegram_0
  exact (s_push_iconst g d_E_completeTelegram_0 (by decide) (s_istore_n g (by decide) d_E_completeTelegram_1 rfl (s_push_iconst g d_E_completeTelegram_2 (by decide) (s_istore_n g (by decide) d_E_completeTelegram_3 rfl (t_E_completeTelegram_4 g hq hr)))))
def w_E_completeTelegram : Wp := wpOf 3 (fun _ post => b_E_completeTelegram_0 post)
theorem C_E_completeTelegram (l : Launch) : MetS l ({ cls := "BusTelegrams$Ear", name := "completeTelegram", desc := "()V" } : Jvm.MethodName) prog_2_method_9_code 3 none true 0 0 0 w_E_completeTelegram := metS_of (by decide +kernel) (fun Z X0 post hZ g hq hr _ => t_E_completeTelegram_0 g hq hr)
theorem hd_E_completeTelegram : (({ cls := "BusTelegrams$Ear", name := "completeTelegram", desc := "()V" } : Jvm.MethodName)).cls = "BusTelegrams$Ear" ∧ (({ cls := "BusTelegrams$Ear", name := "completeTelegram", desc := "()V" } : Jvm.MethodName)).cls ≠ "java/lang/invoke/MethodHandle" ∧ (({ cls := "BusTelegrams$Ear", name := "completeTelegram", desc := "()V" } : Jvm.MethodName)).cls ≠ "java/lang/invoke/VarHandle" ∧ (parseMethodDescriptor (({ cls := "BusTelegrams$Ear", name := "completeTelegram", desc := "()V" } : Jvm.MethodName)).desc).map (fun d => d.parameters.length) = some 0 := ⟨rfl, by decide, by decide, by decide +kernel⟩
theorem d_E_isAccepted_0 : decode prog_2_method_11_code 0 = .ok (.iload_n 1, 1) := by decide +kernel
theorem d_E_isAccepted_1 : decode prog_2_method_11_code 1 = .ok (.aload_n 0, 1) := by decide +kernel
theorem d_E_isAccepted_2 : decode prog_2_method_11_code 2 = .ok (.getfield 50, 3) := by decide +kernel
theorem d_E_isAccepted_5 : decode prog_2_method_11_code 5 = .ok (.bipush 28, 2) := by decide +kernel
theorem d_E_isAccepted_7 : decode prog_2_method_11_code 7 = .ok (.iadd, 1) := by decide +kernel
theorem d_E_isAccepted_8 : decode prog_2_method_11_code 8 = .ok (.if_icmp .ne 17, 3) := by decide +kernel
theorem d_E_isAccepted_11 : decode prog_2_method_11_code 11 = .ok (.aload_n 0, 1) := by decide +kernel
theorem d_E_isAccepted_12 : decode prog_2_method_11_code 12 = .ok (.getfield 56, 3) := by decide +kernel
theorem d_E_isAccepted_15 : decode prog_2_method_11_code 15 = .ok (.sipush 204, 3) := by decide +kernel
theorem d_E_isAccepted_18 : decode prog_2_method_11_code 18 = .ok (.if_icmp .ne 7, 3) := by decide +kernel
theorem d_E_isAccepted_21 : decode prog_2_method_11_code 21 = .ok (.iconst 1, 1) := by decide +kernel
theorem d_E_isAccepted_22 : decode prog_2_method_11_code 22 = .ok (.goto 4, 3) := by decide +kernel
theorem d_E_isAccepted_25 : decode prog_2_method_11_code 25 = .ok (.iconst 0, 1) := by decide +kernel
theorem d_E_isAccepted_26 : decode prog_2_method_11_code 26 = .ok (.ireturn, 1) := by decide +kernel
def b_E_isAccepted_26 (post : Option Value → Mm → Prop) : Kk := (i_zret post)
theorem t_E_isAccepted_26 {Z : Zt} {X0 : Mm} {post : Option Value → Mm → Prop} (g : Good Z prog_2_method_11_code 2 "BusTelegrams$Ear" 0) (hq : RetZ Z true X0 0 0 post) (hr : (zM Z).sig.returnType = (some .boolean)) : Snd Z 2 26 (b_E_isAccepted_26 post) := by
  unfold b_E_isAccepted_26
  exact (s_zret0 g hq hr d_E_isAccepted_26)
def b_E_isAccepted_25 (post : Option Value → Mm → Prop) : Kk := (i_push (.int 0) (b_E_isAccepted_26 post))
theorem t_E_isAccepted_25 {Z : Zt} {X0 : Mm} {post : Option Value → Mm → Prop} (g : Good Z prog_2_method_11_code 2 "BusTelegrams$Ear" 0) (hq : RetZ Z true X0 0 0 post) (hr : (zM Z).sig.returnType = (some .boolean)) : Snd Z 2 25 (b_E_isAccepted_25 post) := by
  unfold b_E_isAccepted_25
  exact (s_push_iconst g d_E_isAccepted_25 (by decide) (t_E_isAccepted_26 g hq hr))
def b_E_isAccepted_0 (post : Option Value → Mm → Prop) : Kk := (i_iload 1 (i_aload 0 (i_getI 0 12 (i_push (.int 28) (i_bin (fun x y => x + y) (i_icmp (fun x y => x = y) (i_aload 0 (i_getI 0 14 (i_push (.int 204) (i_icmp (fun x y => x = y) (i_push (.int 1) (b_E_isAccepted_26 post)) (b_E_isAccepted_25 post))))) (b_E_isAccepted_25 post)))))))
theorem t_E_isAccepted_0 {Z : Zt} {X0 : Mm} {post : Option Value → Mm → Prop} (g : Good Z prog_2_method_11_code 2 "BusTelegrams$Ear" 0) (hq : RetZ Z true X0 0 0 post) (hr : (zM Z).sig.returnType = (some .boolean)) : Snd Z 2 0 (b_E_isAccepted_0 post) := by
  unfold b_E_isAccepted_0
  exact (s_iload_n g d_E_isAccepted_0 rfl (s_aload_n g d_E_isAccepted_1 rfl (s_getI g (c := 0) (j := 12) cok_0 (by decide) rfl mw_42 rfl d_E_isAccepted_2 (s_push_bipush g d_E_isAccepted_5 (by decide) (s_iadd g d_E_isAccepted_7 (s_icmp_ne g d_E_isAccepted_8 (by decide) (t_E_isAccepted_25 g hq hr) (s_aload_n g d_E_isAccepted_11 rfl (s_getI g (c := 0) (j := 14) cok_0 (by decide) rfl mw_45 rfl d_E_isAccepted_12 (s_push_sipush g d_E_isAccepted_15 (by decide) (s_icmp_ne g d_E_isAccepted_18 (by decide) (t_E_isAccepted_25 g hq hr) (s_push_iconst g d_E_isAccepted_21 (by decide) (s_goto g d_E_isAccepted_22 (by decide) (t_E_isAccepted_26 g hq hr)))))))))))))
def w_E_isAccepted : Wp := wpOf 2 (fun _ post => b_E_isAccepted_0 post)
theorem C_E_isAccepted (l : Launch) : MetS l ({ cls := "BusTelegrams$Ear", name := "isAccepted", desc := "(I)Z" } : Jvm.MethodName) prog_2_method_11_code 2 (some .boolean) true 0 0 0 w_E_isAccepted := metS_of (by decide +kernel) (fun Z X0 post hZ g hq hr _ => t_E_isAccepted_0 g hq hr)
theorem hd_E_isAccepted : (({ cls := "BusTelegrams$Ear", name := "isAccepted", desc := "(I)Z" } : Jvm.MethodName)).cls = "BusTelegrams$Ear" ∧ (({ cls := "BusTelegrams$Ear", name := "isAccepted", desc := "(I)Z" } : Jvm.MethodName)).cls ≠ "java/lang/invoke/MethodHandle" ∧ (({ cls := "BusTelegrams$Ear", name := "isAccepted", desc := "(I)Z" } : Jvm.MethodName)).cls ≠ "java/lang/invoke/VarHandle" ∧ (parseMethodDescriptor (({ cls := "BusTelegrams$Ear", name := "isAccepted", desc := "(I)Z" } : Jvm.MethodName)).desc).map (fun d => d.parameters.length) = some 1 := ⟨rfl, by decide, by decide, by decide +kernel⟩
theorem d_S_removeFirst_0 : decode prog_3_method_10_code 0 = .ok (.aload_n 0, 1) := by decide +kernel
theorem d_S_removeFirst_1 : decode prog_3_method_10_code 1 = .ok (.aload_n 0, 1) := by decide +kernel
theorem d_S_removeFirst_2 : decode prog_3_method_10_code 2 = .ok (.getfield 25, 3) := by decide +kernel
theorem d_S_removeFirst_5 : decode prog_3_method_10_code 5 = .ok (.iconst 1, 1) := by decide +kernel
theorem d_S_removeFirst_6 : decode prog_3_method_10_code 6 = .ok (.iadd, 1) := by decide +kernel
theorem d_S_removeFirst_7 : decode prog_3_method_10_code 7 = .ok (.bipush 6, 2) := by decide +kernel
theorem d_S_removeFirst_9 : decode prog_3_method_10_code 9 = .ok (.irem, 1) := by decide +kernel
theorem d_S_removeFirst_10 : decode prog_3_method_10_code 10 = .ok (.putfield 25, 3) := by decide +kernel
theorem d_S_removeFirst_13 : decode prog_3_method_10_code 13 = .ok (.aload_n 0, 1) := by decide +kernel
theorem d_S_removeFirst_14 : decode prog_3_method_10_code 14 = .ok (.dup, 1) := by decide +kernel
theorem d_S_removeFirst_15 : decode prog_3_method_10_code 15 = .ok (.getfield 29, 3) := by decide +kernel
theorem d_S_removeFirst_18 : decode prog_3_method_10_code 18 = .ok (.iconst 1, 1) := by decide +kernel
theorem d_S_removeFirst_19 : decode prog_3_method_10_code 19 = .ok (.isub, 1) := by decide +kernel
theorem d_S_removeFirst_20 : decode prog_3_method_10_code 20 = .ok (.putfield 29, 3) := by decide +kernel
theorem d_S_removeFirst_23 : decode prog_3_method_10_code 23 = .ok (.return_, 1) := by decide +kernel
def b_S_removeFirst_0 (post : Option Value → Mm → Prop) : Kk := (i_aload 0 (i_aload 0 (i_getI 1 4 (i_push (.int 1) (i_bin (fun x y => x + y) (i_push (.int 6) (i_binz (fun x y => x - x / y * y) (i_putI 1 4 (i_aload 0 (i_dup (i_getI 1 5 (i_push (.int 1) (i_bin (fun x y => x - y) (i_putI 1 5 (i_vret post)))))))))))))))
theorem t_S_removeFirst_0 {Z : Zt} {X0 : Mm} {post : Option Value → Mm → Prop} (g : Good Z prog_3_method_10_code 1 "BusTelegrams$Station" 0) (hq : RetZ Z true X0 0 0 post) (hr : (zM Z).sig.returnType = none) : Snd Z 1 0 (b_S_removeFirst_0 post) := by
  unfold b_S_removeFirst_0
  exact (s_aload_n g d_S_removeFirst_0 rfl (s_aload_n g d_S_removeFirst_1 rfl (s_getI g (c := 1) (j := 4) cok_1 (by decide) rfl mw_116 rfl d_S_removeFirst_2 (s_push_iconst g d_S_removeFirst_5 (by decide) (s_iadd g d_S_removeFirst_6 (s_push_bipush g d_S_removeFirst_7 (by decide) (s_irem g d_S_removeFirst_9 (s_putI g (c := 1) (j := 4) cok_1 (by decide) rfl rfl rfl mw_116 rfl d_S_removeFirst_10 (s_aload_n g d_S_removeFirst_13 rfl (s_dup g d_S_removeFirst_14 (s_getI g (c := 1) (j := 5) cok_1 (by decide) rfl mw_117 rfl d_S_removeFirst_15 (s_push_iconst g d_S_removeFirst_18 (by decide) (s_isub g d_S_removeFirst_19 (s_putI g (c := 1) (j := 5) cok_1 (by decide) rfl rfl rfl mw_117 rfl d_S_removeFirst_20 (s_vret0 g hq hr d_S_removeFirst_23)))))))))))))))
def w_S_removeFirst : Wp := wpOf 1 (fun _ post => b_S_removeFirst_0 post)
theorem C_S_removeFirst (l : Launch) : MetS l ({ cls := "BusTelegrams$Station", name := "removeFirst", desc := "()V" } : Jvm.MethodName) prog_3_method_10_code 1 none true 0 0 0 w_S_removeFirst := metS_of (by decide +kernel) (fun Z X0 post hZ g hq hr _ => t_S_removeFirst_0 g hq hr)
theorem hd_S_removeFirst : (({ cls := "BusTelegrams$Station", name := "removeFirst", desc := "()V" } : Jvm.MethodName)).cls = "BusTelegrams$Station" ∧ (({ cls := "BusTelegrams$Station", name := "removeFirst", desc := "()V" } : Jvm.MethodName)).cls ≠ "java/lang/invoke/MethodHandle" ∧ (({ cls := "BusTelegrams$Station", name := "removeFirst", desc := "()V" } : Jvm.MethodName)).cls ≠ "java/lang/invoke/VarHandle" ∧ (parseMethodDescriptor (({ cls := "BusTelegrams$Station", name := "removeFirst", desc := "()V" } : Jvm.MethodName)).desc).map (fun d => d.parameters.length) = some 0 := ⟨rfl, by decide, by decide, by decide +kernel⟩
theorem d_B_bitPlace_0 : decode prog_1_method_17_code 0 = .ok (.iload_n 0, 1) := by decide +kernel
theorem d_B_bitPlace_1 : decode prog_1_method_17_code 1 = .ok (.bipush 63, 2) := by decide +kernel
theorem d_B_bitPlace_3 : decode prog_1_method_17_code 3 = .ok (.iand, 1) := by decide +kernel
theorem d_B_bitPlace_4 : decode prog_1_method_17_code 4 = .ok (.ireturn, 1) := by decide +kernel
def b_B_bitPlace_0 (post : Option Value → Mm → Prop) : Kk := (i_iload 0 (i_push (.int 63) (i_bin (fun x y => x &&& y) (i_iret post))))
theorem t_B_bitPlace_0 {Z : Zt} {X0 : Mm} {post : Option Value → Mm → Prop} (g : Good Z prog_1_method_17_code 1 "BusTelegrams" 0) (hq : RetZ Z true X0 0 0 post) (hr : (zM Z).sig.returnType = (some .int)) : Snd Z 1 0 (b_B_bitPlace_0 post) := by
  unfold b_B_bitPlace_0
  exact (s_iload_n g d_B_bitPlace_0 rfl (s_push_bipush g d_B_bitPlace_1 (by decide) (s_iand g d_B_bitPlace_3 (s_iret0 g hq hr d_B_bitPlace_4))))
def w_B_bitPlace : Wp := wpOf 1 (fun _ post => b_B_bitPlace_0 post)
theorem C_B_bitPlace (l : Launch) : MetS l ({ cls := "BusTelegrams", name := "bitPlace", desc := "(I)I" } : Jvm.MethodName) prog_1_method_17_code 1 (some .int) true 0 0 0 w_B_bitPlace := metS_of (by decide +kernel) (fun Z X0 post hZ g hq hr _ => t_B_bitPlace_0 g hq hr)
theorem hd_B_bitPlace : (({ cls := "BusTelegrams", name := "bitPlace", desc := "(I)I" } : Jvm.MethodName)).cls ≠ "java/lang/invoke/MethodHandle" ∧ (({ cls := "BusTelegrams", name := "bitPlace", desc := "(I)I" } : Jvm.MethodName)).cls ≠ "java/lang/invoke/VarHandle" ∧ (parseMethodDescriptor (({ cls := "BusTelegrams", name := "bitPlace", desc := "(I)I" } : Jvm.MethodName)).desc).map (fun d => d.parameters.length) = some 1 := ⟨by decide, by decide, by decide +kernel⟩
theorem d_S_factOf_0 : decode prog_3_method_11_code 0 = .ok (.iload_n 1, 1) := by decide +kernel
theorem d_S_factOf_1 : decode prog_3_method_11_code 1 = .ok (.tableswitch 77 0 4 #[35, 40, 54, 67, 72], 35) := by decide +kernel
theorem d_S_factOf_36 : decode prog_3_method_11_code 36 = .ok (.aload_n 0, 1) := by decide +kernel
theorem d_S_factOf_37 : decode prog_3_method_11_code 37 = .ok (.getfield 29, 3) := by decide +kernel
theorem d_S_factOf_40 : decode prog_3_method_11_code 40 = .ok (.ireturn, 1) := by decide +kernel
theorem d_S_factOf_41 : decode prog_3_method_11_code 41 = .ok (.aload_n 0, 1) := by decide +kernel
theorem d_S_factOf_42 : decode prog_3_method_11_code 42 = .ok (.getfield 32, 3) := by decide +kernel
theorem d_S_factOf_45 : decode prog_3_method_11_code 45 = .ok (.iconst (-1), 1) := by decide +kernel
theorem d_S_factOf_46 : decode prog_3_method_11_code 46 = .ok (.if_icmp .eq 7, 3) := by decide +kernel
theorem d_S_factOf_49 : decode prog_3_method_11_code 49 = .ok (.iconst 1, 1) := by decide +kernel
theorem d_S_factOf_50 : decode prog_3_method_11_code 50 = .ok (.goto 4, 3) := by decide +kernel
theorem d_S_factOf_53 : decode prog_3_method_11_code 53 = .ok (.iconst 0, 1) := by decide +kernel
theorem d_S_factOf_54 : decode prog_3_method_11_code 54 = .ok (.ireturn, 1) := by decide +kernel
theorem d_S_factOf_55 : decode prog_3_method_11_code 55 = .ok (.aload_n 0, 1) := by decide +kernel
theorem d_S_factOf_56 : decode prog_3_method_11_code 56 = .ok (.getfield 38, 3) := by decide +kernel
theorem d_S_factOf_59 : decode prog_3_method_11_code 59 = .ok (.ifCond .eq 7, 3) := by decide +kernel
theorem d_S_factOf_62 : decode prog_3_method_11_code 62 = .ok (.iconst 1, 1) := by decide +kernel
theorem d_S_factOf_63 : decode prog_3_method_11_code 63 = .ok (.goto 4, 3) := by decide +kernel
theorem d_S_factOf_66 : decode prog_3_method_11_code 66 = .ok (.iconst 0, 1) := by decide +kernel
theorem d_S_factOf_67 : decode prog_3_method_11_code 67 = .ok (.ireturn, 1) := by decide +kernel
theorem d_S_factOf_68 : decode prog_3_method_11_code 68 = .ok (.aload_n 0, 1) := by decide +kernel
theorem d_S_factOf_69 : decode prog_3_method_11_code 69 = .ok (.getfield 50, 3) := by decide +kernel
theorem d_S_factOf_72 : decode prog_3_method_11_code 72 = .ok (.ireturn, 1) := by decide +kernel
theorem d_S_factOf_73 : decode prog_3_method_11_code 73 = .ok (.aload_n 0, 1) := by decide +kernel
theorem d_S_factOf_74 : decode prog_3_method_11_code 74 = .ok (.getfield 53, 3) := by decide +kernel
theorem d_S_factOf_77 : decode prog_3_method_11_code 77 = .ok (.ireturn, 1) := by decide +kernel
theorem d_S_factOf_78 : decode prog_3_method_11_code 78 = .ok (.aload_n 0, 1) := by decide +kernel
theorem d_S_factOf_79 : decode prog_3_method_11_code 79 = .ok (.getfield 56, 3) := by decide +kernel
theorem d_S_factOf_82 : decode prog_3_method_11_code 82 = .ok (.ireturn, 1) := by decide +kernel
def b_S_factOf_54 (post : Option Value → Mm → Prop) : Kk := (i_iret post)
theorem t_S_factOf_54 {Z : Zt} {X0 : Mm} {post : Option Value → Mm → Prop} (g : Good Z prog_3_method_11_code 2 "BusTelegrams$Station" 0) (hq : RetZ Z true X0 0 0 post) (hr : (zM Z).sig.returnType = (some .int)) : Snd Z 2 54 (b_S_factOf_54 post) := by
  unfold b_S_factOf_54
  exact (s_iret0 g hq hr d_S_factOf_54)
def b_S_factOf_67 (post : Option Value → Mm → Prop) : Kk := (i_iret post)
theorem t_S_factOf_67 {Z : Zt} {X0 : Mm} {post : Option Value → Mm → Prop} (g : Good Z prog_3_method_11_code 2 "BusTelegrams$Station" 0) (hq : RetZ Z true X0 0 0 post) (hr : (zM Z).sig.returnType = (some .int)) : Snd Z 2 67 (b_S_factOf_67 post) := by
  unfold b_S_factOf_67
  exact (s_iret0 g hq hr d_S_factOf_67)
def b_S_factOf_0 (post : Option Value → Mm → Prop) : Kk := (i_iload 1 (i_tsw 0 [(i_aload 0 (i_getI 1 5 (i_iret post))), (i_aload 0 (i_getI 1 6 (i_push (.int (-1)) (i_icmp (fun x y => x = y) (i_push (.int 0) (b_S_factOf_54 post)) (i_push (.int 1) (b_S_factOf_54 post)))))), (i_aload 0 (i_getI 1 8 (i_if (fun x y => x = y) (i_push (.int 0) (b_S_factOf_67 post)) (i_push (.int 1) (b_S_factOf_67 post))))), (i_aload 0 (i_getI 1 12 (i_iret post))), (i_aload 0 (i_getI 1 13 (i_iret post)))] (i_aload 0 (i_getI 1 14 (i_iret post)))))
theorem t_S_factOf_0 {Z : Zt} {X0 : Mm} {post : Option Value → Mm → Prop} (g : Good Z prog_3_method_11_code 2 "BusTelegrams$Station" 0) (hq : RetZ Z true X0 0 0 post) (hr : (zM Z).sig.returnType = (some .int)) : Snd Z 2 0 (b_S_factOf_0 post) := by
  unfold b_S_factOf_0
  exact (s_iload_n g d_S_factOf_0 rfl (s_tsw g d_S_factOf_1 rfl (by decide) (tsw_cons (by decide) (s_aload_n g d_S_factOf_36 rfl (s_getI g (c := 1) (j := 5) cok_1 (by decide) rfl mw_117 rfl d_S_factOf_37 (s_iret0 g hq hr d_S_factOf_40))) (tsw_cons (by decide) (s_aload_n g d_S_factOf_41 rfl (s_getI g (c := 1) (j := 6) cok_1 (by decide) rfl mw_119 rfl d_S_factOf_42 (s_push_iconst g d_S_factOf_45 (by decide) (s_icmp_eq g d_S_factOf_46 (by decide) (s_push_iconst g d_S_factOf_53 (by decide) (t_S_factOf_54 g hq hr)) (s_push_iconst g d_S_factOf_49 (by decide) (s_goto g d_S_factOf_50 (by decide) (t_S_factOf_54 g hq hr))))))) (tsw_cons (by decide) (s_aload_n g d_S_factOf_55 rfl (s_getI g (c := 1) (j := 8) cok_1 (by decide) rfl mw_121 rfl d_S_factOf_56 (s_if_eq g d_S_factOf_59 (by decide) (s_push_iconst g d_S_factOf_66 (by decide) (t_S_factOf_67 g hq hr)) (s_push_iconst g d_S_factOf_62 (by decide) (s_goto g d_S_factOf_63 (by decide) (t_S_factOf_67 g hq hr)))))) (tsw_cons (by decide) (s_aload_n g d_S_factOf_68 rfl (s_getI g (c := 1) (j := 12) cok_1 (by decide) rfl mw_125 rfl d_S_factOf_69 (s_iret0 g hq hr d_S_factOf_72))) (tsw_cons (by decide) (s_aload_n g d_S_factOf_73 rfl (s_getI g (c := 1) (j := 13) cok_1 (by decide) rfl mw_126 rfl d_S_factOf_74 (s_iret0 g hq hr d_S_factOf_77))) tsw_nil))))) (s_aload_n g d_S_factOf_78 rfl (s_getI g (c := 1) (j := 14) cok_1 (by decide) rfl mw_127 rfl d_S_factOf_79 (s_iret0 g hq hr d_S_factOf_82)))))
def w_S_factOf : Wp := wpOf 2 (fun _ post => b_S_factOf_0 post)
theorem C_S_factOf (l : Launch) : MetS l ({ cls := "BusTelegrams$Station", name := "factOf", desc := "(I)I" } : Jvm.MethodName) prog_3_method_11_code 2 (some .int) true 0 0 0 w_S_factOf := metS_of (by decide +kernel) (fun Z X0 post hZ g hq hr _ => t_S_factOf_0 g hq hr)
theorem hd_S_factOf : (({ cls := "BusTelegrams$Station", name := "factOf", desc := "(I)I" } : Jvm.MethodName)).cls = "BusTelegrams$Station" ∧ (({ cls := "BusTelegrams$Station", name := "factOf", desc := "(I)I" } : Jvm.MethodName)).cls ≠ "java/lang/invoke/MethodHandle" ∧ (({ cls := "BusTelegrams$Station", name := "factOf", desc := "(I)I" } : Jvm.MethodName)).cls ≠ "java/lang/invoke/VarHandle" ∧ (parseMethodDescriptor (({ cls := "BusTelegrams$Station", name := "factOf", desc := "(I)I" } : Jvm.MethodName)).desc).map (fun d => d.parameters.length) = some 1 := ⟨rfl, by decide, by decide, by decide +kernel⟩
theorem d_E_countOf_0 : decode prog_2_method_15_code 0 = .ok (.iload_n 1, 1) := by decide +kernel
theorem d_E_countOf_1 : decode prog_2_method_15_code 1 = .ok (.ifCond .lt 8, 3) := by decide +kernel
theorem d_E_countOf_4 : decode prog_2_method_15_code 4 = .ok (.iload_n 1, 1) := by decide +kernel
theorem d_E_countOf_5 : decode prog_2_method_15_code 5 = .ok (.iconst 5, 1) := by decide +kernel
theorem d_E_countOf_6 : decode prog_2_method_15_code 6 = .ok (.if_icmp .lt 7, 3) := by decide +kernel
theorem d_E_countOf_9 : decode prog_2_method_15_code 9 = .ok (.iconst 0, 1) := by decide +kernel
theorem d_E_countOf_10 : decode prog_2_method_15_code 10 = .ok (.goto 9, 3) := by decide +kernel
theorem d_E_countOf_13 : decode prog_2_method_15_code 13 = .ok (.aload_n 0, 1) := by decide +kernel
theorem d_E_countOf_14 : decode prog_2_method_15_code 14 = .ok (.getfield 18, 3) := by decide +kernel
theorem d_E_countOf_17 : decode prog_2_method_15_code 17 = .ok (.iload_n 1, 1) := by decide +kernel
theorem d_E_countOf_18 : decode prog_2_method_15_code 18 = .ok (.iaload, 1) := by decide +kernel
theorem d_E_countOf_19 : decode prog_2_method_15_code 19 = .ok (.ireturn, 1) := by decide +kernel
def b_E_countOf_19 (post : Option Value → Mm → Prop) : Kk := (i_iret post)
theorem t_E_countOf_19 {Z : Zt} {X0 : Mm} {post : Option Value → Mm → Prop} (g : Good Z prog_2_method_15_code 2 "BusTelegrams$Ear" 0) (hq : RetZ Z true X0 0 0 post) (hr : (zM Z).sig.returnType = (some .int)) : Snd Z 2 19 (b_E_countOf_19 post) := by
  unfold b_E_countOf_19
  exact (s_iret0 g hq hr d_E_countOf_19)
def b_E_countOf_9 (post : Option Value → Mm → Prop) : Kk := (i_push (.int 0) (b_E_countOf_19 post))
theorem t_E_countOf_9 {Z : Zt} {X0 : Mm} {post : Option Value → Mm → Prop} (g : Good Z prog_2_method_15_code 2 "BusTelegrams$Ear" 0) (hq : RetZ Z true X0 0 0 post) (hr : (zM Z).sig.returnType = (some .int)) : Snd Z 2 9 (b_E_countOf_9 post) := by
  unfold b_E_countOf_9
  exact (s_push_iconst g d_E_countOf_9 (by decide) (s_goto g d_E_countOf_10 (by decide) (t_E_countOf_19 g hq hr)))
def b_E_countOf_0 (post : Option Value → Mm → Prop) : Kk := (i_iload 1 (i_if (fun x y => x < y) (b_E_countOf_9 post) (i_iload 1 (i_push (.int 5) (i_icmp (fun x y => x < y) (i_aload 0 (i_getR 0 2 (i_iload 1 (i_ald 10 (b_E_countOf_19 post))))) (b_E_countOf_9 post))))))
theorem t_E_countOf_0 {Z : Zt} {X0 : Mm} {post : Option Value → Mm → Prop} (g : Good Z prog_2_method_15_code 2 "BusTelegrams$Ear" 0) (hq : RetZ Z true X0 0 0 post) (hr : (zM Z).sig.returnType = (some .int)) : Snd Z 2 0 (b_E_countOf_0 post) := by
  unfold b_E_countOf_0
  exact (s_iload_n g d_E_countOf_0 rfl (s_if_lt g d_E_countOf_1 (by decide) (t_E_countOf_9 g hq hr) (s_iload_n g d_E_countOf_4 rfl (s_push_iconst g d_E_countOf_5 (by decide) (s_icmp_lt g d_E_countOf_6 (by decide) (s_aload_n g d_E_countOf_13 rfl (s_getR g (c := 0) (j := 2) cok_0 (by decide) rfl mw_31 rfl d_E_countOf_14 (s_iload_n g d_E_countOf_17 rfl (s_iald g d_E_countOf_18 (t_E_countOf_19 g hq hr))))) (t_E_countOf_9 g hq hr))))))
def w_E_countOf : Wp := wpOf 2 (fun _ post => b_E_countOf_0 post)
theorem C_E_countOf (l : Launch) : MetS l ({ cls := "BusTelegrams$Ear", name := "countOf", desc := "(I)I" } : Jvm.MethodName) prog_2_method_15_code 2 (some .int) true 0 0 0 w_E_countOf := metS_of (by decide +kernel) (fun Z X0 post hZ g hq hr _ => t_E_countOf_0 g hq hr)
theorem hd_E_countOf : (({ cls := "BusTelegrams$Ear", name := "countOf", desc := "(I)I" } : Jvm.MethodName)).cls = "BusTelegrams$Ear" ∧ (({ cls := "BusTelegrams$Ear", name := "countOf", desc := "(I)I" } : Jvm.MethodName)).cls ≠ "java/lang/invoke/MethodHandle" ∧ (({ cls := "BusTelegrams$Ear", name := "countOf", desc := "(I)I" } : Jvm.MethodName)).cls ≠ "java/lang/invoke/VarHandle" ∧ (parseMethodDescriptor (({ cls := "BusTelegrams$Ear", name := "countOf", desc := "(I)I" } : Jvm.MethodName)).desc).map (fun d => d.parameters.length) = some 1 := ⟨rfl, by decide, by decide, by decide +kernel⟩
theorem d_E_latestByte_0 : decode prog_2_method_14_code 0 = .ok (.iload_n 1, 1) := by decide +kernel
theorem d_E_latestByte_1 : decode prog_2_method_14_code 1 = .ok (.ifCond .lt 10, 3) := by decide +kernel
theorem d_E_latestByte_4 : decode prog_2_method_14_code 4 = .ok (.iload_n 1, 1) := by decide +kernel
theorem d_E_latestByte_5 : decode prog_2_method_14_code 5 = .ok (.sipush 600, 3) := by decide +kernel
theorem d_E_latestByte_8 : decode prog_2_method_14_code 8 = .ok (.if_icmp .lt 7, 3) := by decide +kernel
theorem d_E_latestByte_11 : decode prog_2_method_14_code 11 = .ok (.iconst 0, 1) := by decide +kernel
theorem d_E_latestByte_12 : decode prog_2_method_14_code 12 = .ok (.goto 9, 3) := by decide +kernel
theorem d_E_latestByte_15 : decode prog_2_method_14_code 15 = .ok (.aload_n 0, 1) := by decide +kernel
theorem d_E_latestByte_16 : decode prog_2_method_14_code 16 = .ok (.getfield 15, 3) := by decide +kernel
theorem d_E_latestByte_19 : decode prog_2_method_14_code 19 = .ok (.iload_n 1, 1) := by decide +kernel
theorem d_E_latestByte_20 : decode prog_2_method_14_code 20 = .ok (.iaload, 1) := by decide +kernel
theorem d_E_latestByte_21 : decode prog_2_method_14_code 21 = .ok (.ireturn, 1) := by decide +kernel
def b_E_latestByte_21 (post : Option Value → Mm → Prop) : Kk := (i_iret post)
theorem t_E_latestByte_21 {Z : Zt} {X0 : Mm} {post : Option Value → Mm → Prop} (g : Good Z prog_2_method_14_code 2 "BusTelegrams$Ear" 0) (hq : RetZ Z true X0 0 0 post) (hr : (zM Z).sig.returnType = (some .int)) : Snd Z 2 21 (b_E_latestByte_21 post) := by
  unfold b_E_latestByte_21
  exact (s_iret0 g hq hr d_E_latestByte_21)
def b_E_latestByte_11 (post : Option Value → Mm → Prop) : Kk := (i_push (.int 0) (b_E_latestByte_21 post))
theorem t_E_latestByte_11 {Z : Zt} {X0 : Mm} {post : Option Value → Mm → Prop} (g : Good Z prog_2_method_14_code 2 "BusTelegrams$Ear" 0) (hq : RetZ Z true X0 0 0 post) (hr : (zM Z).sig.returnType = (some .int)) : Snd Z 2 11 (b_E_latestByte_11 post) := by
  unfold b_E_latestByte_11
  exact (s_push_iconst g d_E_latestByte_11 (by decide) (s_goto g d_E_latestByte_12 (by decide) (t_E_latestByte_21 g hq hr)))
def b_E_latestByte_0 (post : Option Value → Mm → Prop) : Kk := (i_iload 1 (i_if (fun x y => x < y) (b_E_latestByte_11 post) (i_iload 1 (i_push (.int 600) (i_icmp (fun x y => x < y) (i_aload 0 (i_getR 0 1 (i_iload 1 (i_ald 10 (b_E_latestByte_21 post))))) (b_E_latestByte_11 post))))))
theorem t_E_latestByte_0 {Z : Zt} {X0 : Mm} {post : Option Value → Mm → Prop} (g : Good Z prog_2_method_14_code 2 "BusTelegrams$Ear" 0) (hq : RetZ Z true X0 0 0 post) (hr : (zM Z).sig.returnType = (some .int)) : Snd Z 2 0 (b_E_latestByte_0 post) := by
  unfold b_E_latestByte_0
  exact (s_iload_n g d_E_latestByte_0 rfl (s_if_lt g d_E_latestByte_1 (by decide) (t_E_latestByte_11 g hq hr) (s_iload_n g d_E_latestByte_4 rfl (s_push_sipush g d_E_latestByte_5 (by decide) (s_icmp_lt g d_E_latestByte_8 (by decide) (s_aload_n g d_E_latestByte_15 rfl (s_getR g (c := 0) (j := 1) cok_0 (by decide) rfl mw_30 rfl d_E_latestByte_16 (s_iload_n g d_E_latestByte_19 rfl (s_iald g d_E_latestByte_20 (t_E_latestByte_21 g hq hr))))) (t_E_latestByte_11 g hq hr))))))
def w_E_latestByte : Wp := wpOf 2 (fun _ post => b_E_latestByte_0 post)
theorem C_E_latestByte (l : Launch) : MetS l ({ cls := "BusTelegrams$Ear", name := "latestByte", desc := "(I)I" } : Jvm.MethodName) prog_2_method_14_code 2 (some .int) true 0 0 0 w_E_latestByte := metS_of (by decide +kernel) (fun Z X0 post hZ g hq hr _ => t_E_latestByte_0 g hq hr)
theorem hd_E_latestByte : (({ cls := "BusTelegrams$Ear", name := "latestByte", desc := "(I)I" } : Jvm.MethodName)).cls = "BusTelegrams$Ear" ∧ (({ cls := "BusTelegrams$Ear", name := "latestByte", desc := "(I)I" } : Jvm.MethodName)).cls ≠ "java/lang/invoke/MethodHandle" ∧ (({ cls := "BusTelegrams$Ear", name := "latestByte", desc := "(I)I" } : Jvm.MethodName)).cls ≠ "java/lang/invoke/VarHandle" ∧ (parseMethodDescriptor (({ cls := "BusTelegrams$Ear", name := "latestByte", desc := "(I)I" } : Jvm.MethodName)).desc).map (fun d => d.parameters.length) = some 1 := ⟨rfl, by decide, by decide, by decide +kernel⟩
theorem d_B_pack_0 : decode prog_1_method_13_code 0 = .ok (.dload_n 1, 1) := by decide +kernel
theorem d_B_pack_1 : decode prog_1_method_13_code 1 = .ok (.dload_n 1, 1) := by decide +kernel
theorem d_B_pack_2 : decode prog_1_method_13_code 2 = .ok (.dcmp .l, 1) := by decide +kernel
theorem d_B_pack_3 : decode prog_1_method_13_code 3 = .ok (.ifCond .eq 5, 3) := by decide +kernel
theorem d_B_pack_6 : decode prog_1_method_13_code 6 = .ok (.iconst 0, 1) := by decide +kernel
theorem d_B_pack_7 : decode prog_1_method_13_code 7 = .ok (.ireturn, 1) := by decide +kernel
theorem d_B_pack_8 : decode prog_1_method_13_code 8 = .ok (.ldc2_w 142, 3) := by decide +kernel
theorem d_B_pack_11 : decode prog_1_method_13_code 11 = .ok (.dload_n 1, 1) := by decide +kernel
theorem d_B_pack_12 : decode prog_1_method_13_code 12 = .ok (.dmul, 1) := by decide +kernel
theorem d_B_pack_13 : decode prog_1_method_13_code 13 = .ok (.dstore_n 3, 1) := by decide +kernel
theorem d_B_pack_14 : decode prog_1_method_13_code 14 = .ok (.iconst 0, 1) := by decide +kernel
theorem d_B_pack_15 : decode prog_1_method_13_code 15 = .ok (.istore 5, 2) := by decide +kernel
theorem d_B_pack_17 : decode prog_1_method_13_code 17 = .ok (.iload 5, 2) := by decide +kernel
theorem d_B_pack_19 : decode prog_1_method_13_code 19 = .ok (.bipush 15, 2) := by decide +kernel
theorem d_B_pack_21 : decode prog_1_method_13_code 21 = .ok (.if_icmp .gt 51, 3) := by decide +kernel
theorem d_B_pack_24 : decode prog_1_method_13_code 24 = .ok (.dload_n 3, 1) := by decide +kernel
theorem d_B_pack_25 : decode prog_1_method_13_code 25 = .ok (.iconst 1, 1) := by decide +kernel
theorem d_B_pack_26 : decode prog_1_method_13_code 26 = .ok (.iload 5, 2) := by decide +kernel
theorem d_B_pack_28 : decode prog_1_method_13_code 28 = .ok (.ishl, 1) := by decide +kernel
theorem d_B_pack_29 : decode prog_1_method_13_code 29 = .ok (.i2d, 1) := by decide +kernel
theorem d_B_pack_30 : decode prog_1_method_13_code 30 = .ok (.ddiv, 1) := by decide +kernel
theorem d_B_pack_31 : decode prog_1_method_13_code 31 = .ok (.ldc2_w 144, 3) := by decide +kernel
theorem d_B_pack_34 : decode prog_1_method_13_code 34 = .ok (.dadd, 1) := by decide +kernel
theorem d_B_pack_35 : decode prog_1_method_13_code 35 = .ok (.dstore 6, 2) := by decide +kernel
theorem d_B_pack_37 : decode prog_1_method_13_code 37 = .ok (.dload 6, 2) := by decide +kernel
theorem d_B_pack_39 : decode prog_1_method_13_code 39 = .ok (.ldc2_w 146, 3) := by decide +kernel
theorem d_B_pack_42 : decode prog_1_method_13_code 42 = .ok (.dcmp .l, 1) := by decide +kernel
theorem d_B_pack_43 : decode prog_1_method_13_code 43 = .ok (.ifCond .lt 23, 3) := by decide +kernel
theorem d_B_pack_46 : decode prog_1_method_13_code 46 = .ok (.dload 6, 2) := by decide +kernel
theorem d_B_pack_48 : decode prog_1_method_13_code 48 = .ok (.ldc2_w 148, 3) := by decide +kernel
theorem d_B_pack_51 : decode prog_1_method_13_code 51 = .ok (.dcmp .g, 1) := by decide +kernel
theorem d_B_pack_52 : decode prog_1_method_13_code 52 = .ok (.ifCond .ge 14, 3) := by decide +kernel
theorem d_B_pack_55 : decode prog_1_method_13_code 55 = .ok (.dload 6, 2) := by decide +kernel
theorem d_B_pack_57 : decode prog_1_method_13_code 57 = .ok (.invokestatic 150, 3) := by decide +kernel
theorem d_B_pack_60 : decode prog_1_method_13_code 60 = .ok (.iload 5, 2) := by decide +kernel
theorem d_B_pack_62 : decode prog_1_method_13_code 62 = .ok (.invokestatic 154, 3) := by decide +kernel
theorem d_B_pack_65 : decode prog_1_method_13_code 65 = .ok (.ireturn, 1) := by decide +kernel
theorem d_B_pack_66 : decode prog_1_method_13_code 66 = .ok (.iinc 5 1, 3) := by decide +kernel
theorem d_B_pack_69 : decode prog_1_method_13_code 69 = .ok (.goto (-52), 3) := by decide +kernel
theorem d_B_pack_72 : decode prog_1_method_13_code 72 = .ok (.dload_n 1, 1) := by decide +kernel
theorem d_B_pack_73 : decode prog_1_method_13_code 73 = .ok (.dconst 0, 1) := by decide +kernel
theorem d_B_pack_74 : decode prog_1_method_13_code 74 = .ok (.dcmp .g, 1) := by decide +kernel
theorem d_B_pack_75 : decode prog_1_method_13_code 75 = .ok (.ifCond .ge 9, 3) := by decide +kernel
theorem d_B_pack_78 : decode prog_1_method_13_code 78 = .ok (.sipush (-2048), 3) := by decide +kernel
theorem d_B_pack_81 : decode prog_1_method_13_code 81 = .ok (.goto 6, 3) := by decide +kernel
theorem d_B_pack_84 : decode prog_1_method_13_code 84 = .ok (.sipush 2047, 3) := by decide +kernel
theorem d_B_pack_87 : decode prog_1_method_13_code 87 = .ok (.bipush 15, 2) := by decide +kernel
theorem d_B_pack_89 : decode prog_1_method_13_code 89 = .ok (.invokestatic 154, 3) := by decide +kernel
theorem d_B_pack_92 : decode prog_1_method_13_code 92 = .ok (.ireturn, 1) := by decide +kernel
def b_B_pack_87 (post : Option Value → Mm → Prop) : Kk := (i_push (.int 15) (i_callS 2 w_B_packedOf (i_iret post)))
theorem t_B_pack_87 {Z : Zt} {X0 : Mm} {post : Option Value → Mm → Prop} (g : Good Z prog_1_method_13_code 8 "BusTelegrams" 1) (hq : RetZ Z true X0 0 0 post) (hr : (zM Z).sig.returnType = (some .int)) : Snd Z 8 87 (b_B_pack_87 post) := by
  unfold b_B_pack_87
  exact (s_push_bipush g d_B_pack_87 (by decide) (s_callS g (C_B_packedOf (zl Z)) (gin_S mw_196 mw_197 mw_1 mw_198) hd_B_packedOf (by decide) (by decide) d_B_pack_89 (s_iret0 g hq hr d_B_pack_92)))
def b_B_pack_66 (post : Option Value → Mm → Prop) (k17 : Kk) : Kk := (i_iinc 5 1 k17)
theorem t_B_pack_66 {Z : Zt} {X0 : Mm} {post : Option Value → Mm → Prop} {k17 : Kk} (g : Good Z prog_1_method_13_code 8 "BusTelegrams" 1) (hq : RetZ Z true X0 0 0 post) (hr : (zM Z).sig.returnType = (some .int)) (hk17 : Snd Z 8 17 k17) : Snd Z 8 66 (b_B_pack_66 post k17) := by
  unfold b_B_pack_66
  exact (s_iinc g (by decide) d_B_pack_66 (by decide) (s_goto g d_B_pack_69 (by decide) hk17))
def f_B_pack_17 (post : Option Value → Mm → Prop) (k17 : Kk) : Kk := (i_iload 5 (i_push (.int 15) (i_icmp (fun x y => y < x) (i_dload 1 (i_push (.double FP.dconst0) (i_dcmp .g (i_if (fun x y => y ≤ x) (i_push (.int 2047) (b_B_pack_87 post)) (i_push (.int (-2048)) (b_B_pack_87 post)))))) (i_dload 3 (i_push (.int 1) (i_iload 5 (i_bin (fun x y => x <<< (y &&& 31)) (i_i2d (i_dbin FP.ddiv (i_push (.double 4602678819172646912) (i_dbin FP.dadd (i_dstore 6 (i_dload 6 (i_push (.double 13880094051555868672) (i_dcmp .l (i_if (fun x y => x < y) (b_B_pack_66 post k17) (i_dload 6 (i_push (.double 4656722014701092864) (i_dcmp .g (i_if (fun x y => y ≤ x) (b_B_pack_66 post k17) (i_dload 6 (i_callS 1 w_B_wholeNotAbove (i_iload 5 (i_callS 2 w_B_packedOf (i_iret post)))))))))))))))))))))))))
def b_B_pack_17 (post : Option Value → Mm → Prop) : Kk := i_loop [0, 1, 3, 5] (f_B_pack_17 post)
theorem t_B_pack_17 {Z : Zt} {X0 : Mm} {post : Option Value → Mm → Prop} (g : Good Z prog_1_method_13_code 8 "BusTelegrams" 1) (hq : RetZ Z true X0 0 0 post) (hr : (zM Z).sig.returnType = (some .int)) : Snd Z 8 17 (b_B_pack_17 post) := by
  unfold b_B_pack_17
  exact s_loop (fun k17 hk17 => by unfold f_B_pack_17; exact (s_iload g d_B_pack_17 (s_push_bipush g d_B_pack_19 (by decide) (s_icmp_gt g d_B_pack_21 (by decide) (s_dload_n g d_B_pack_72 rfl (s_push_dconst0 g d_B_pack_73 (s_dcmp g d_B_pack_74 (s_if_ge g d_B_pack_75 (by decide) (s_push_sipush g d_B_pack_84 (by decide) (t_B_pack_87 g hq hr)) (s_push_sipush g d_B_pack_78 (by decide) (s_goto g d_B_pack_81 (by decide) (t_B_pack_87 g hq hr))))))) (s_dload_n g d_B_pack_24 rfl (s_push_iconst g d_B_pack_25 (by decide) (s_iload g d_B_pack_26 (s_ishl g d_B_pack_28 (s_i2d g d_B_pack_29 (s_ddiv g d_B_pack_30 (s_push_ldc2 g mw_190 d_B_pack_31 (s_dadd g d_B_pack_34 (s_dstore g (by decide) d_B_pack_35 (s_dload g d_B_pack_37 (s_push_ldc2 g mw_191 d_B_pack_39 (s_dcmp g d_B_pack_42 (s_if_lt g d_B_pack_43 (by decide) (t_B_pack_66 g hq hr hk17) (s_dload g d_B_pack_46 (s_push_ldc2 g mw_192 d_B_pack_48 (s_dcmp g d_B_pack_51 (s_if_ge g d_B_pack_52 (by decide) (t_B_pack_66 g hq hr hk17) (s_dload g d_B_pack_55 (s_callS g (C_B_wholeNotAbove (zl Z)) (gin_S mw_193 mw_194 mw_1 mw_195) hd_B_wholeNotAbove (by decide) (by decide) d_B_pack_57 (s_iload g d_B_pack_60 (s_callS g (C_B_packedOf (zl Z)) (gin_S mw_196 mw_197 mw_1 mw_198) hd_B_packedOf (by decide) (by decide) d_B_pack_62 (s_iret0 g hq hr d_B_pack_65))))))))))))))))))))))))))
def b_B_pack_0 (post : Option Value → Mm → Prop) : Kk := (i_dload 1 (i_dload 1 (i_dcmp .l (i_if (fun x y => x = y) (i_push (.double 4636737291354636288) (i_dload 1 (i_dbin FP.dmul (i_dstore 3 (i_push (.int 0) (i_istore 5 (b_B_pack_17 post))))))) (i_push (.int 0) (i_iret post))))))
theorem t_B_pack_0 {Z : Zt} {X0 : Mm} {post : Option Value → Mm → Prop} (g : Good Z prog_1_method_13_code 8 "BusTelegrams" 1) (hq : RetZ Z true X0 0 0 post) (hr : (zM Z).sig.returnType = (some .int)) : Snd Z 8 0 (b_B_pack_0 post) := by
  unfold b_B_pack_0
  exact (s_dload_n g d_B_pack_0 rfl (s_dload_n g d_B_pack_1 rfl (s_dcmp g d_B_pack_2 (s_if_eq g d_B_pack_3 (by decide) (s_push_ldc2 g mw_189 d_B_pack_8 (s_dload_n g d_B_pack_11 rfl (s_dmul g d_B_pack_12 (s_dstore_n g (by decide) d_B_pack_13 rfl (s_push_iconst g d_B_pack_14 (by decide) (s_istore g (by decide) d_B_pack_15 (t_B_pack_17 g hq hr))))))) (s_push_iconst g d_B_pack_6 (by decide) (s_iret0 g hq hr d_B_pack_7))))))
def w_B_pack : Wp := wpOf 8 (fun _ post => b_B_pack_0 post)
theorem C_B_pack (l : Launch) : MetS l ({ cls := "BusTelegrams", name := "pack", desc := "(D)I" } : Jvm.MethodName) prog_1_method_13_code 8 (some .int) true 1 0 0 w_B_pack := metS_of (by decide +kernel) (fun Z X0 post hZ g hq hr _ => t_B_pack_0 g hq hr)
theorem hd_B_pack : (({ cls := "BusTelegrams", name := "pack", desc := "(D)I" } : Jvm.MethodName)).cls = "BusTelegrams" ∧ (({ cls := "BusTelegrams", name := "pack", desc := "(D)I" } : Jvm.MethodName)).cls ≠ "java/lang/invoke/MethodHandle" ∧ (({ cls := "BusTelegrams", name := "pack", desc := "(D)I" } : Jvm.MethodName)).cls ≠ "java/lang/invoke/VarHandle" ∧ (parseMethodDescriptor (({ cls := "BusTelegrams", name := "pack", desc := "(D)I" } : Jvm.MethodName)).desc).map (fun d => d.parameters.length) = some 1 := ⟨rfl, by decide, by decide, by decide +kernel⟩
theorem d_S_queueAt_0 : decode prog_3_method_3_code 0 = .ok (.aload_n 0, 1) := by decide +kernel
theorem d_S_queueAt_1 : decode prog_3_method_3_code 1 = .ok (.getfield 17, 3) := by decide +kernel
theorem d_S_queueAt_4 : decode prog_3_method_3_code 4 = .ok (.aload_n 0, 1) := by decide +kernel
theorem d_S_queueAt_5 : decode prog_3_method_3_code 5 = .ok (.getfield 25, 3) := by decide +kernel
theorem d_S_queueAt_8 : decode prog_3_method_3_code 8 = .ok (.iload_n 1, 1) := by decide +kernel
theorem d_S_queueAt_9 : decode prog_3_method_3_code 9 = .ok (.iadd, 1) := by decide +kernel
theorem d_S_queueAt_10 : decode prog_3_method_3_code 10 = .ok (.bipush 6, 2) := by decide +kernel
theorem d_S_queueAt_12 : decode prog_3_method_3_code 12 = .ok (.invokestatic 67, 3) := by decide +kernel
theorem d_S_queueAt_15 : decode prog_3_method_3_code 15 = .ok (.aaload, 1) := by decide +kernel
theorem d_S_queueAt_16 : decode prog_3_method_3_code 16 = .ok (.areturn, 1) := by decide +kernel
def b_S_queueAt_0 (post : Option Value → Mm → Prop) : Kk := (i_aload 0 (i_getR 1 1 (i_aload 0 (i_getI 1 4 (i_iload 1 (i_bin (fun x y => x + y) (i_push (.int 6) (i_callS 2 w_J_floorMod (i_aald 13 (i_aret post))))))))))
theorem t_S_queueAt_0 {Z : Zt} {X0 : Mm} {post : Option Value → Mm → Prop} (g : Good Z prog_3_method_3_code 2 "BusTelegrams$Station" 1) (hq : RetZ Z true X0 0 0 post) (hr : (zM Z).sig.returnType = (some (.object "BusTelegrams$Telegram"))) : Snd Z 2 0 (b_S_queueAt_0 post) := by
  unfold b_S_queueAt_0
  exact (s_aload_n g d_S_queueAt_0 rfl (s_getR g (c := 1) (j := 1) cok_1 (by decide) rfl mw_111 rfl d_S_queueAt_1 (s_aload_n g d_S_queueAt_4 rfl (s_getI g (c := 1) (j := 4) cok_1 (by decide) rfl mw_116 rfl d_S_queueAt_5 (s_iload_n g d_S_queueAt_8 rfl (s_iadd g d_S_queueAt_9 (s_push_bipush g d_S_queueAt_10 (by decide) (s_callS g (C_J_floorMod (zl Z)) (gin_S mw_330 mw_331 mw_11 mw_332) hd_J_floorMod (by decide) (by decide) d_S_queueAt_12 (s_aald13 g d_S_queueAt_15 (s_aret0 g hq hr d_S_queueAt_16))))))))))
def w_S_queueAt : Wp := wpOf 2 (fun _ post => b_S_queueAt_0 post)
theorem C_S_queueAt (l : Launch) : MetS l ({ cls := "BusTelegrams$Station", name := "queueAt", desc := "(I)LBusTelegrams$Telegram;" } : Jvm.MethodName) prog_3_method_3_code 2 (some (.object "BusTelegrams$Telegram")) true 1 0 0 w_S_queueAt := metS_of (by decide +kernel) (fun Z X0 post hZ g hq hr _ => t_S_queueAt_0 g hq hr)
theorem hd_S_queueAt : (({ cls := "BusTelegrams$Station", name := "queueAt", desc := "(I)LBusTelegrams$Telegram;" } : Jvm.MethodName)).cls = "BusTelegrams$Station" ∧ (({ cls := "BusTelegrams$Station", name := "queueAt", desc := "(I)LBusTelegrams$Telegram;" } : Jvm.MethodName)).cls ≠ "java/lang/invoke/MethodHandle" ∧ (({ cls := "BusTelegrams$Station", name := "queueAt", desc := "(I)LBusTelegrams$Telegram;" } : Jvm.MethodName)).cls ≠ "java/lang/invoke/VarHandle" ∧ (parseMethodDescriptor (({ cls := "BusTelegrams$Station", name := "queueAt", desc := "(I)LBusTelegrams$Telegram;" } : Jvm.MethodName)).desc).map (fun d => d.parameters.length) = some 1 := ⟨rfl, by decide, by decide, by decide +kernel⟩
theorem d_T_setData_0 : decode prog_4_method_3_code 0 = .ok (.iconst 1, 1) := by decide +kernel
theorem d_T_setData_1 : decode prog_4_method_3_code 1 = .ok (.iload_n 2, 1) := by decide +kernel
theorem d_T_setData_2 : decode prog_4_method_3_code 2 = .ok (.bipush 14, 2) := by decide +kernel
theorem d_T_setData_4 : decode prog_4_method_3_code 4 = .ok (.invokestatic 25, 3) := by decide +kernel
theorem d_T_setData_7 : decode prog_4_method_3_code 7 = .ok (.invokestatic 31, 3) := by decide +kernel
theorem d_T_setData_10 : decode prog_4_method_3_code 10 = .ok (.istore 4, 2) := by decide +kernel
theorem d_T_setData_12 : decode prog_4_method_3_code 12 = .ok (.aload_n 0, 1) := by decide +kernel
theorem d_T_setData_13 : decode prog_4_method_3_code 13 = .ok (.getfield 9, 3) := by decide +kernel
theorem d_T_setData_16 : decode prog_4_method_3_code 16 = .ok (.iconst 5, 1) := by decide +kernel
theorem d_T_setData_17 : decode prog_4_method_3_code 17 = .ok (.iload_n 1, 1) := by decide +kernel
theorem d_T_setData_18 : decode prog_4_method_3_code 18 = .ok (.ifCond .eq 9, 3) := by decide +kernel
theorem d_T_setData_21 : decode prog_4_method_3_code 21 = .ok (.sipush 128, 3) := by decide +kernel
theorem d_T_setData_24 : decode prog_4_method_3_code 24 = .ok (.goto 4, 3) := by decide +kernel
theorem d_T_setData_27 : decode prog_4_method_3_code 27 = .ok (.iconst 0, 1) := by decide +kernel
theorem d_T_setData_28 : decode prog_4_method_3_code 28 = .ok (.iload 4, 2) := by decide +kernel
theorem d_T_setData_30 : decode prog_4_method_3_code 30 = .ok (.iadd, 1) := by decide +kernel
theorem d_T_setData_31 : decode prog_4_method_3_code 31 = .ok (.iconst 1, 1) := by decide +kernel
theorem d_T_setData_32 : decode prog_4_method_3_code 32 = .ok (.isub, 1) := by decide +kernel
theorem d_T_setData_33 : decode prog_4_method_3_code 33 = .ok (.iastore, 1) := by decide +kernel
theorem d_T_setData_34 : decode prog_4_method_3_code 34 = .ok (.iconst 0, 1) := by decide +kernel
theorem d_T_setData_35 : decode prog_4_method_3_code 35 = .ok (.istore 5, 2) := by decide +kernel
theorem d_T_setData_37 : decode prog_4_method_3_code 37 = .ok (.iload 5, 2) := by decide +kernel
theorem d_T_setData_39 : decode prog_4_method_3_code 39 = .ok (.iload 4, 2) := by decide +kernel
theorem d_T_setData_41 : decode prog_4_method_3_code 41 = .ok (.if_icmp .ge 27, 3) := by decide +kernel
theorem d_T_setData_44 : decode prog_4_method_3_code 44 = .ok (.aload_n 0, 1) := by decide +kernel
theorem d_T_setData_45 : decode prog_4_method_3_code 45 = .ok (.getfield 9, 3) := by decide +kernel
theorem d_T_setData_48 : decode prog_4_method_3_code 48 = .ok (.bipush 6, 2) := by decide +kernel
theorem d_T_setData_50 : decode prog_4_method_3_code 50 = .ok (.iload 5, 2) := by decide +kernel
theorem d_T_setData_52 : decode prog_4_method_3_code 52 = .ok (.iadd, 1) := by decide +kernel
theorem d_T_setData_53 : decode prog_4_method_3_code 53 = .ok (.iload_n 3, 1) := by decide +kernel
theorem d_T_setData_54 : decode prog_4_method_3_code 54 = .ok (.iload 5, 2) := by decide +kernel
theorem d_T_setData_56 : decode prog_4_method_3_code 56 = .ok (.iadd, 1) := by decide +kernel
theorem d_T_setData_57 : decode prog_4_method_3_code 57 = .ok (.sipush 255, 3) := by decide +kernel
theorem d_T_setData_60 : decode prog_4_method_3_code 60 = .ok (.iand, 1) := by decide +kernel
theorem d_T_setData_61 : decode prog_4_method_3_code 61 = .ok (.iastore, 1) := by decide +kernel
theorem d_T_setData_62 : decode prog_4_method_3_code 62 = .ok (.iinc 5 1, 3) := by decide +kernel
theorem d_T_setData_65 : decode prog_4_method_3_code 65 = .ok (.goto (-28), 3) := by decide +kernel
theorem d_T_setData_68 : decode prog_4_method_3_code 68 = .ok (.aload_n 0, 1) := by decide +kernel
theorem d_T_setData_69 : decode prog_4_method_3_code 69 = .ok (.bipush 7, 2) := by decide +kernel
theorem d_T_setData_71 : decode prog_4_method_3_code 71 = .ok (.iload 4, 2) := by decide +kernel
theorem d_T_setData_73 : decode prog_4_method_3_code 73 = .ok (.iadd, 1) := by decide +kernel
theorem d_T_setData_74 : decode prog_4_method_3_code 74 = .ok (.putfield 15, 3) := by decide +kernel
theorem d_T_setData_77 : decode prog_4_method_3_code 77 = .ok (.return_, 1) := by decide +kernel
def f_T_setData_37 (post : Option Value → Mm → Prop) (k37 : Kk) : Kk := (i_iload 5 (i_iload 4 (i_icmp (fun x y => y ≤ x) (i_aload 0 (i_push (.int 7) (i_iload 4 (i_bin (fun x y => x + y) (i_putI 2 1 (i_vret post)))))) (i_aload 0 (i_getR 2 0 (i_push (.int 6) (i_iload 5 (i_bin (fun x y => x + y) (i_iload 3 (i_iload 5 (i_bin (fun x y => x + y) (i_push (.int 255) (i_bin (fun x y => x &&& y) (i_ast (i_iinc 5 1 k37)))))))))))))))
def b_T_setData_37 (post : Option Value → Mm → Prop) : Kk := i_loop [0, 1, 2, 3, 4, 5] (f_T_setData_37 post)
theorem t_T_setData_37 {Z : Zt} {X0 : Mm} {post : Option Value → Mm → Prop} (g : Good Z prog_4_method_3_code 6 "BusTelegrams$Telegram" 1) (hq : RetZ Z true X0 0 0 post) (hr : (zM Z).sig.returnType = none) : Snd Z 6 37 (b_T_setData_37 post) := by
  unfold b_T_setData_37
  exact s_loop (fun k37 hk37 => by unfold f_T_setData_37; exact (s_iload g d_T_setData_37 (s_iload g d_T_setData_39 (s_icmp_ge g d_T_setData_41 (by decide) (s_aload_n g d_T_setData_68 rfl (s_push_bipush g d_T_setData_69 (by decide) (s_iload g d_T_setData_71 (s_iadd g d_T_setData_73 (s_putI g (c := 2) (j := 1) cok_2 (by decide) rfl rfl rfl mw_95 rfl d_T_setData_74 (s_vret0 g hq hr d_T_setData_77)))))) (s_aload_n g d_T_setData_44 rfl (s_getR g (c := 2) (j := 0) cok_2 (by decide) rfl mw_94 rfl d_T_setData_45 (s_push_bipush g d_T_setData_48 (by decide) (s_iload g d_T_setData_50 (s_iadd g d_T_setData_52 (s_iload_n g d_T_setData_53 rfl (s_iload g d_T_setData_54 (s_iadd g d_T_setData_56 (s_push_sipush g d_T_setData_57 (by decide) (s_iand g d_T_setData_60 (s_iast g d_T_setData_61 (s_iinc g (by decide) d_T_setData_62 (by decide) (s_goto g d_T_setData_65 (by decide) hk37)))))))))))))))))
def b_T_setData_28 (post : Option Value → Mm → Prop) : Kk := (i_iload 4 (i_bin (fun x y => x + y) (i_push (.int 1) (i_bin (fun x y => x - y) (i_ast (i_push (.int 0) (i_istore 5 (b_T_setData_37 post))))))))
theorem t_T_setData_28 {Z : Zt} {X0 : Mm} {post : Option Value → Mm → Prop} (g : Good Z prog_4_method_3_code 6 "BusTelegrams$Telegram" 1) (hq : RetZ Z true X0 0 0 post) (hr : (zM Z).sig.returnType = none) : Snd Z 6 28 (b_T_setData_28 post) := by
  unfold b_T_setData_28
  exact (s_iload g d_T_setData_28 (s_iadd g d_T_setData_30 (s_push_iconst g d_T_setData_31 (by decide) (s_isub g d_T_setData_32 (s_iast g d_T_setData_33 (s_push_iconst g d_T_setData_34 (by decide) (s_istore g (by decide) d_T_setData_35 (t_T_setData_37 g hq hr))))))))
def b_T_setData_0 (post : Option Value → Mm → Prop) : Kk := (i_push (.int 1) (i_iload 2 (i_push (.int 14) (i_callS 2 w_J_min (i_callS 2 w_J_max (i_istore 4 (i_aload 0 (i_getR 2 0 (i_push (.int 5) (i_iload 1 (i_if (fun x y => x = y) (i_push (.int 0) (b_T_setData_28 post)) (i_push (.int 128) (b_T_setData_28 post)))))))))))))
theorem t_T_setData_0 {Z : Zt} {X0 : Mm} {post : Option Value → Mm → Prop} (g : Good Z prog_4_method_3_code 6 "BusTelegrams$Telegram" 1) (hq : RetZ Z true X0 0 0 post) (hr : (zM Z).sig.returnType = none) : Snd Z 6 0 (b_T_setData_0 post) := by
  unfold b_T_setData_0
  exact (s_push_iconst g d_T_setData_0 (by decide) (s_iload_n g d_T_setData_1 rfl (s_push_bipush g d_T_setData_2 (by decide) (s_callS g (C_J_min (zl Z)) (gin_S mw_341 mw_342 mw_11 mw_343) hd_J_min (by decide) (by decide) d_T_setData_4 (s_callS g (C_J_max (zl Z)) (gin_S mw_344 mw_345 mw_11 mw_346) hd_J_max (by decide) (by decide) d_T_setData_7 (s_istore g (by decide) d_T_setData_10 (s_aload_n g d_T_setData_12 rfl (s_getR g (c := 2) (j := 0) cok_2 (by decide) rfl mw_94 rfl d_T_setData_13 (s_push_iconst g d_T_setData_16 (by decide) (s_iload_n g d_T_setData_17 rfl (s_if_eq g d_T_setData_18 (by decide) (s_push_iconst g d_T_setData_27 (by decide) (t_T_setData_28 g hq hr)) (s_push_sipush g d_T_setData_21 (by decide) (s_goto g d_T_setData_24 (by decide) (t_T_setData_28 g hq hr))))))))))))))
def w_T_setData : Wp := wpOf 6 (fun _ post => b_T_setData_0 post)
theorem C_T_setData (l : Launch) : MetS l ({ cls := "BusTelegrams$Telegram", name := "setData", desc := "(ZII)V" } : Jvm.MethodName) prog_4_method_3_code 6 none true 1 0 0 w_T_setData := metS_of (by decide +kernel) (fun Z X0 post hZ g hq hr _ => t_T_setData_0 g hq hr)
theorem hd_T_setData : (({ cls := "BusTelegrams$Telegram", name := "setData", desc := "(ZII)V" } : Jvm.MethodName)).cls = "BusTelegrams$Telegram" ∧ (({ cls := "BusTelegrams$Telegram", name := "setData", desc := "(ZII)V" } : Jvm.MethodName)).cls ≠ "java/lang/invoke/MethodHandle" ∧ (({ cls := "BusTelegrams$Telegram", name := "setData", desc := "(ZII)V" } : Jvm.MethodName)).cls ≠ "java/lang/invoke/VarHandle" ∧ (parseMethodDescriptor (({ cls := "BusTelegrams$Telegram", name := "setData", desc := "(ZII)V" } : Jvm.MethodName)).desc).map (fun d => d.parameters.length) = some 3 := ⟨rfl, by decide, by decide, by decide +kernel⟩
theorem d_T_seal_0 : decode prog_4_method_4_code 0 = .ok (.aload_n 0, 1) := by decide +kernel
theorem d_T_seal_1 : decode prog_4_method_4_code 1 = .ok (.getfield 9, 3) := by decide +kernel
theorem d_T_seal_4 : decode prog_4_method_4_code 4 = .ok (.iconst 0, 1) := by decide +kernel
theorem d_T_seal_5 : decode prog_4_method_4_code 5 = .ok (.sipush 176, 3) := by decide +kernel
theorem d_T_seal_8 : decode prog_4_method_4_code 8 = .ok (.iconst 4, 1) := by decide +kernel
theorem d_T_seal_9 : decode prog_4_method_4_code 9 = .ok (.aload_n 0, 1) := by decide +kernel
theorem d_T_seal_10 : decode prog_4_method_4_code 10 = .ok (.getfield 19, 3) := by decide +kernel
theorem d_T_seal_13 : decode prog_4_method_4_code 13 = .ok (.imul, 1) := by decide +kernel
theorem d_T_seal_14 : decode prog_4_method_4_code 14 = .ok (.iadd, 1) := by decide +kernel
theorem d_T_seal_15 : decode prog_4_method_4_code 15 = .ok (.aload_n 0, 1) := by decide +kernel
theorem d_T_seal_16 : decode prog_4_method_4_code 16 = .ok (.getfield 22, 3) := by decide +kernel
theorem d_T_seal_19 : decode prog_4_method_4_code 19 = .ok (.ifCond .le 8, 3) := by decide +kernel
theorem d_T_seal_22 : decode prog_4_method_4_code 22 = .ok (.bipush 32, 2) := by decide +kernel
theorem d_T_seal_24 : decode prog_4_method_4_code 24 = .ok (.goto 4, 3) := by decide +kernel
theorem d_T_seal_27 : decode prog_4_method_4_code 27 = .ok (.iconst 0, 1) := by decide +kernel
theorem d_T_seal_28 : decode prog_4_method_4_code 28 = .ok (.isub, 1) := by decide +kernel
theorem d_T_seal_29 : decode prog_4_method_4_code 29 = .ok (.iastore, 1) := by decide +kernel
theorem d_T_seal_30 : decode prog_4_method_4_code 30 = .ok (.iconst 0, 1) := by decide +kernel
theorem d_T_seal_31 : decode prog_4_method_4_code 31 = .ok (.aload_n 0, 1) := by decide +kernel
theorem d_T_seal_32 : decode prog_4_method_4_code 32 = .ok (.getfield 15, 3) := by decide +kernel
theorem d_T_seal_35 : decode prog_4_method_4_code 35 = .ok (.aload_n 0, 1) := by decide +kernel
theorem d_T_seal_36 : decode prog_4_method_4_code 36 = .ok (.getfield 9, 3) := by decide +kernel
theorem d_T_seal_39 : decode prog_4_method_4_code 39 = .ok (.arraylength, 1) := by decide +kernel
theorem d_T_seal_40 : decode prog_4_method_4_code 40 = .ok (.invokestatic 25, 3) := by decide +kernel
theorem d_T_seal_43 : decode prog_4_method_4_code 43 = .ok (.iconst 1, 1) := by decide +kernel
theorem d_T_seal_44 : decode prog_4_method_4_code 44 = .ok (.isub, 1) := by decide +kernel
theorem d_T_seal_45 : decode prog_4_method_4_code 45 = .ok (.invokestatic 31, 3) := by decide +kernel
theorem d_T_seal_48 : decode prog_4_method_4_code 48 = .ok (.istore_n 1, 1) := by decide +kernel
theorem d_T_seal_49 : decode prog_4_method_4_code 49 = .ok (.sipush 255, 3) := by decide +kernel
theorem d_T_seal_52 : decode prog_4_method_4_code 52 = .ok (.istore_n 2, 1) := by decide +kernel
theorem d_T_seal_53 : decode prog_4_method_4_code 53 = .ok (.iconst 0, 1) := by decide +kernel
theorem d_T_seal_54 : decode prog_4_method_4_code 54 = .ok (.istore_n 3, 1) := by decide +kernel
theorem d_T_seal_55 : decode prog_4_method_4_code 55 = .ok (.iload_n 3, 1) := by decide +kernel
theorem d_T_seal_56 : decode prog_4_method_4_code 56 = .ok (.iload_n 1, 1) := by decide +kernel
theorem d_T_seal_57 : decode prog_4_method_4_code 57 = .ok (.if_icmp .ge 18, 3) := by decide +kernel
theorem d_T_seal_60 : decode prog_4_method_4_code 60 = .ok (.iload_n 2, 1) := by decide +kernel
theorem d_T_seal_61 : decode prog_4_method_4_code 61 = .ok (.aload_n 0, 1) := by decide +kernel
theorem d_T_seal_62 : decode prog_4_method_4_code 62 = .ok (.getfield 9, 3) := by decide +kernel
theorem d_T_seal_65 : decode prog_4_method_4_code 65 = .ok (.iload_n 3, 1) := by decide +kernel
theorem d_T_seal_66 : decode prog_4_method_4_code 66 = .ok (.iaload, 1) := by decide +kernel
theorem d_T_seal_67 : decode prog_4_method_4_code 67 = .ok (.ixor, 1) := by decide +kernel
theorem d_T_seal_68 : decode prog_4_method_4_code 68 = .ok (.istore_n 2, 1) := by decide +kernel
theorem d_T_seal_69 : decode prog_4_method_4_code 69 = .ok (.iinc 3 1, 3) := by decide +kernel
theorem d_T_seal_72 : decode prog_4_method_4_code 72 = .ok (.goto (-17), 3) := by decide +kernel
theorem d_T_seal_75 : decode prog_4_method_4_code 75 = .ok (.aload_n 0, 1) := by decide +kernel
theorem d_T_seal_76 : decode prog_4_method_4_code 76 = .ok (.getfield 9, 3) := by decide +kernel
theorem d_T_seal_79 : decode prog_4_method_4_code 79 = .ok (.iload_n 1, 1) := by decide +kernel
theorem d_T_seal_80 : decode prog_4_method_4_code 80 = .ok (.iload_n 2, 1) := by decide +kernel
theorem d_T_seal_81 : decode prog_4_method_4_code 81 = .ok (.iastore, 1) := by decide +kernel
theorem d_T_seal_82 : decode prog_4_method_4_code 82 = .ok (.return_, 1) := by decide +kernel
def f_T_seal_55 (post : Option Value → Mm → Prop) (k55 : Kk) : Kk := (i_iload 3 (i_iload 1 (i_icmp (fun x y => y ≤ x) (i_aload 0 (i_getR 2 0 (i_iload 1 (i_iload 2 (i_ast (i_vret post)))))) (i_iload 2 (i_aload 0 (i_getR 2 0 (i_iload 3 (i_ald 10 (i_bin (fun x y => x ^^^ y) (i_istore 2 (i_iinc 3 1 k55)))))))))))
def b_T_seal_55 (post : Option Value → Mm → Prop) : Kk := i_loop [0, 1, 2, 3] (f_T_seal_55 post)
theorem t_T_seal_55 {Z : Zt} {X0 : Mm} {post : Option Value → Mm → Prop} (g : Good Z prog_4_method_4_code 4 "BusTelegrams$Telegram" 1) (hq : RetZ Z true X0 0 0 post) (hr : (zM Z).sig.returnType = none) : Snd Z 4 55 (b_T_seal_55 post) := by
  unfold b_T_seal_55
  exact s_loop (fun k55 hk55 => by unfold f_T_seal_55; exact (s_iload_n g d_T_seal_55 rfl (s_iload_n g d_T_seal_56 rfl (s_icmp_ge g d_T_seal_57 (by decide) (s_aload_n g d_T_seal_75 rfl (s_getR g (c := 2) (j := 0) cok_2 (by decide) rfl mw_94 rfl d_T_seal_76 (s_iload_n g d_T_seal_79 rfl (s_iload_n g d_T_seal_80 rfl (s_iast g d_T_seal_81 (s_vret0 g hq hr d_T_seal_82)))))) (s_iload_n g d_T_seal_60 rfl (s_aload_n g d_T_seal_61 rfl (s_getR g (c := 2) (j := 0) cok_2 (by decide) rfl mw_94 rfl d_T_seal_62 (s_iload_n g d_T_seal_65 rfl (s_iald g d_T_seal_66 (s_ixor g d_T_seal_67 (s_istore_n g (by decide) d_T_seal_68 rfl (s_iinc g (by decide) d_T_seal_69 (by decide) (s_goto g d_T_seal_72 (by decide) hk55)))))))))))))
def b_T_seal_28 (post : Option Value → Mm → Prop) : Kk := (i_bin (fun x y => x - y) (i_ast (i_push (.int 0) (i_aload 0 (i_getI 2 1 (i_aload 0 (i_getR 2 0 (i_alen (i_callS 2 w_J_min (i_push (.int 1) (i_bin (fun x y => x - y) (i_callS 2 w_J_max (i_istore 1 (i_push (.int 255) (i_istore 2 (i_push (.int 0) (i_istore 3 (b_T_seal_55 post))))))))))))))))))
theorem t_T_seal_28 {Z : Zt} {X0 : Mm} {post : Option Value → Mm → Prop} (g : Good Z prog_4_method_4_code 4 "BusTelegrams$Telegram" 1) (hq : RetZ Z true X0 0 0 post) (hr : (zM Z).sig.returnType = none) : Snd Z 4 28 (b_T_seal_28 post) := by
  unfold b_T_seal_28
  exact (s_isub g d_T_seal_28 (s_iast g d_T_seal_29 (s_push_iconst g d_T_seal_30 (by decide) (s_aload_n g d_T_seal_31 rfl (s_getI g (c := 2) (j := 1) cok_2 (by decide) rfl mw_95 rfl d_T_seal_32 (s_aload_n g d_T_seal_35 rfl (s_getR g (c := 2) (j := 0) cok_2 (by decide) rfl mw_94 rfl d_T_seal_36 (s_alen g d_T_seal_39 (s_callS g (C_J_min (zl Z)) (gin_S mw_341 mw_342 mw_11 mw_343) hd_J_min (by decide) (by decide) d_T_seal_40 (s_push_iconst g d_T_seal_43 (by decide) (s_isub g d_T_seal_44 (s_callS g (C_J_max (zl Z)) (gin_S mw_344 mw_345 mw_11 mw_346) hd_J_max (by decide) (by decide) d_T_seal_45 (s_istore_n g (by decide) d_T_seal_48 rfl (s_push_sipush g d_T_seal_49 (by decide) (s_istore_n g (by decide) d_T_seal_52 rfl (s_push_iconst g d_T_seal_53 (by decide) (s_istore_n g (by decide) d_T_seal_54 rfl (t_T_seal_55 g hq hr))))))))))))))))))
def b_T_seal_0 (post : Option Value → Mm → Prop) : Kk := (i_aload 0 (i_getR 2 0 (i_push (.int 0) (i_push (.int 176) (i_push (.int 4) (i_aload 0 (i_getI 2 2 (i_bin (fun x y => x * y) (i_bin (fun x y => x + y) (i_aload 0 (i_getI 2 3 (i_if (fun x y => x ≤ y) (i_push (.int 0) (b_T_seal_28 post)) (i_push (.int 32) (b_T_seal_28 post))))))))))))))
theorem t_T_seal_0 {Z : Zt} {X0 : Mm} {post : Option Value → Mm → Prop} (g : Good Z prog_4_method_4_code 4 "BusTelegrams$Telegram" 1) (hq : RetZ Z true X0 0 0 post) (hr : (zM Z).sig.returnType = none) : Snd Z 4 0 (b_T_seal_0 post) := by
  unfold b_T_seal_0
  exact (s_aload_n g d_T_seal_0 rfl (s_getR g (c := 2) (j := 0) cok_2 (by decide) rfl mw_94 rfl d_T_seal_1 (s_push_iconst g d_T_seal_4 (by decide) (s_push_sipush g d_T_seal_5 (by decide) (s_push_iconst g d_T_seal_8 (by decide) (s_aload_n g d_T_seal_9 rfl (s_getI g (c := 2) (j := 2) cok_2 (by decide) rfl mw_96 rfl d_T_seal_10 (s_imul g d_T_seal_13 (s_iadd g d_T_seal_14 (s_aload_n g d_T_seal_15 rfl (s_getI g (c := 2) (j := 3) cok_2 (by decide) rfl mw_97 rfl d_T_seal_16 (s_if_le g d_T_seal_19 (by decide) (s_push_iconst g d_T_seal_27 (by decide) (t_T_seal_28 g hq hr)) (s_push_bipush g d_T_seal_22 (by decide) (s_goto g d_T_seal_24 (by decide) (t_T_seal_28 g hq hr)))))))))))))))
def w_T_seal : Wp := wpOf 4 (fun _ post => b_T_seal_0 post)
theorem C_T_seal (l : Launch) : MetS l ({ cls := "BusTelegrams$Telegram", name := "seal", desc := "()V" } : Jvm.MethodName) prog_4_method_4_code 4 none true 1 0 0 w_T_seal := metS_of (by decide +kernel) (fun Z X0 post hZ g hq hr _ => t_T_seal_0 g hq hr)
theorem hd_T_seal : (({ cls := "BusTelegrams$Telegram", name := "seal", desc := "()V" } : Jvm.MethodName)).cls = "BusTelegrams$Telegram" ∧ (({ cls := "BusTelegrams$Telegram", name := "seal", desc := "()V" } : Jvm.MethodName)).cls ≠ "java/lang/invoke/MethodHandle" ∧ (({ cls := "BusTelegrams$Telegram", name := "seal", desc := "()V" } : Jvm.MethodName)).cls ≠ "java/lang/invoke/VarHandle" ∧ (parseMethodDescriptor (({ cls := "BusTelegrams$Telegram", name := "seal", desc := "()V" } : Jvm.MethodName)).desc).map (fun d => d.parameters.length) = some 0 := ⟨rfl, by decide, by decide, by decide +kernel⟩
theorem d_B_beginAnswers_0 : decode prog_1_method_22_code 0 = .ok (.aload_n 0, 1) := by decide +kernel
theorem d_B_beginAnswers_1 : decode prog_1_method_22_code 1 = .ok (.getfield 18, 3) := by decide +kernel
theorem d_B_beginAnswers_4 : decode prog_1_method_22_code 4 = .ok (.aload_n 0, 1) := by decide +kernel
theorem d_B_beginAnswers_5 : decode prog_1_method_22_code 5 = .ok (.getfield 34, 3) := by decide +kernel
theorem d_B_beginAnswers_8 : decode prog_1_method_22_code 8 = .ok (.invokevirtual 192, 3) := by decide +kernel
theorem d_B_beginAnswers_11 : decode prog_1_method_22_code 11 = .ok (.ifCond .ne 4, 3) := by decide +kernel
theorem d_B_beginAnswers_14 : decode prog_1_method_22_code 14 = .ok (.return_, 1) := by decide +kernel
theorem d_B_beginAnswers_15 : decode prog_1_method_22_code 15 = .ok (.iconst 0, 1) := by decide +kernel
theorem d_B_beginAnswers_16 : decode prog_1_method_22_code 16 = .ok (.istore_n 1, 1) := by decide +kernel
theorem d_B_beginAnswers_17 : decode prog_1_method_22_code 17 = .ok (.iload_n 1, 1) := by decide +kernel
theorem d_B_beginAnswers_18 : decode prog_1_method_22_code 18 = .ok (.bipush 8, 2) := by decide +kernel
theorem d_B_beginAnswers_20 : decode prog_1_method_22_code 20 = .ok (.if_icmp .ge 48, 3) := by decide +kernel
theorem d_B_beginAnswers_23 : decode prog_1_method_22_code 23 = .ok (.aload_n 0, 1) := by decide +kernel
theorem d_B_beginAnswers_24 : decode prog_1_method_22_code 24 = .ok (.getfield 11, 3) := by decide +kernel
theorem d_B_beginAnswers_27 : decode prog_1_method_22_code 27 = .ok (.iload_n 1, 1) := by decide +kernel
theorem d_B_beginAnswers_28 : decode prog_1_method_22_code 28 = .ok (.aaload, 1) := by decide +kernel
theorem d_B_beginAnswers_29 : decode prog_1_method_22_code 29 = .ok (.astore_n 2, 1) := by decide +kernel
theorem d_B_beginAnswers_30 : decode prog_1_method_22_code 30 = .ok (.aload_n 2, 1) := by decide +kernel
theorem d_B_beginAnswers_31 : decode prog_1_method_22_code 31 = .ok (.aload_n 0, 1) := by decide +kernel
theorem d_B_beginAnswers_32 : decode prog_1_method_22_code 32 = .ok (.getfield 18, 3) := by decide +kernel
theorem d_B_beginAnswers_35 : decode prog_1_method_22_code 35 = .ok (.invokevirtual 195, 3) := by decide +kernel
theorem d_B_beginAnswers_38 : decode prog_1_method_22_code 38 = .ok (.aload_n 0, 1) := by decide +kernel
theorem d_B_beginAnswers_39 : decode prog_1_method_22_code 39 = .ok (.getfield 18, 3) := by decide +kernel
theorem d_B_beginAnswers_42 : decode prog_1_method_22_code 42 = .ok (.invokevirtual 198, 3) := by decide +kernel
theorem d_B_beginAnswers_45 : decode prog_1_method_22_code 45 = .ok (.invokevirtual 201, 3) := by decide +kernel
theorem d_B_beginAnswers_48 : decode prog_1_method_22_code 48 = .ok (.ifCond .eq 14, 3) := by decide +kernel
theorem d_B_beginAnswers_51 : decode prog_1_method_22_code 51 = .ok (.aload_n 2, 1) := by decide +kernel
theorem d_B_beginAnswers_52 : decode prog_1_method_22_code 52 = .ok (.aload_n 0, 1) := by decide +kernel
theorem d_B_beginAnswers_53 : decode prog_1_method_22_code 53 = .ok (.getfield 18, 3) := by decide +kernel
theorem d_B_beginAnswers_56 : decode prog_1_method_22_code 56 = .ok (.getfield 205, 3) := by decide +kernel
theorem d_B_beginAnswers_59 : decode prog_1_method_22_code 59 = .ok (.invokevirtual 208, 3) := by decide +kernel
theorem d_B_beginAnswers_62 : decode prog_1_method_22_code 62 = .ok (.iinc 1 1, 3) := by decide +kernel
theorem d_B_beginAnswers_65 : decode prog_1_method_22_code 65 = .ok (.goto (-48), 3) := by decide +kernel
theorem d_B_beginAnswers_68 : decode prog_1_method_22_code 68 = .ok (.return_, 1) := by decide +kernel
def b_B_beginAnswers_62 (post : Option Value → Mm → Prop) (k17 : Kk) : Kk := (i_iinc 1 1 k17)
theorem t_B_beginAnswers_62 {Z : Zt} {X0 : Mm} {post : Option Value → Mm → Prop} {k17 : Kk} (g : Good Z prog_1_method_22_code 3 "BusTelegrams" 1) (hq : RetZ Z true X0 0 0 post) (hr : (zM Z).sig.returnType = none) (hk17 : Snd Z 3 17 k17) : Snd Z 3 62 (b_B_beginAnswers_62 post k17) := by
  unfold b_B_beginAnswers_62
  exact (s_iinc g (by decide) d_B_beginAnswers_62 (by decide) (s_goto g d_B_beginAnswers_65 (by decide) hk17))
def f_B_beginAnswers_17 (post : Option Value → Mm → Prop) (k17 : Kk) : Kk := (i_iload 1 (i_push (.int 8) (i_icmp (fun x y => y ≤ x) (i_vret post) (i_aload 0 (i_getR 3 0 (i_iload 1 (i_aald 12 (i_astore 2 (i_aload 2 (i_aload 0 (i_getR 3 1 (i_callV 0 0 w_E_latestAim (i_aload 0 (i_getR 3 1 (i_callV 0 0 w_E_isLatestForGroup (i_callV 2 1 w_S_isMeant (i_if (fun x y => x = y) (b_B_beginAnswers_62 post k17) (i_aload 2 (i_aload 0 (i_getR 3 1 (i_getI 0 13 (i_callV 1 1 w_S_beginAnswer (b_B_beginAnswers_62 post k17)))))))))))))))))))))))
def b_B_beginAnswers_17 (post : Option Value → Mm → Prop) : Kk := i_loop [0, 1] (f_B_beginAnswers_17 post)
theorem t_B_beginAnswers_17 {Z : Zt} {X0 : Mm} {post : Option Value → Mm → Prop} (g : Good Z prog_1_method_22_code 3 "BusTelegrams" 1) (hq : RetZ Z true X0 0 0 post) (hr : (zM Z).sig.returnType = none) : Snd Z 3 17 (b_B_beginAnswers_17 post) := by
  unfold b_B_beginAnswers_17
  exact s_loop (fun k17 hk17 => by unfold f_B_beginAnswers_17; exact (s_iload_n g d_B_beginAnswers_17 rfl (s_push_bipush g d_B_beginAnswers_18 (by decide) (s_icmp_ge g d_B_beginAnswers_20 (by decide) (s_vret0 g hq hr d_B_beginAnswers_68) (s_aload_n g d_B_beginAnswers_23 rfl (s_getR g (c := 3) (j := 0) cok_3 (by decide) rfl mw_159 rfl d_B_beginAnswers_24 (s_iload_n g d_B_beginAnswers_27 rfl (s_aald12 g d_B_beginAnswers_28 (s_astore_n g (by decide) d_B_beginAnswers_29 rfl (s_aload_n g d_B_beginAnswers_30 rfl (s_aload_n g d_B_beginAnswers_31 rfl (s_getR g (c := 3) (j := 1) cok_3 (by decide) rfl mw_160 rfl d_B_beginAnswers_32 (s_callV g (C_E_latestAim (zl Z)) (gin_V mw_385 mw_386 mw_387 mw_2 mw_388) hd_E_latestAim rfl (by decide) (by decide) (by decide) d_B_beginAnswers_35 (s_aload_n g d_B_beginAnswers_38 rfl (s_getR g (c := 3) (j := 1) cok_3 (by decide) rfl mw_160 rfl d_B_beginAnswers_39 (s_callV g (C_E_isLatestForGroup (zl Z)) (gin_V mw_389 mw_390 mw_391 mw_2 mw_392) hd_E_isLatestForGroup rfl (by decide) (by decide) (by decide) d_B_beginAnswers_42 (s_callV g (C_S_isMeant (zl Z)) (gin_V mw_393 mw_394 mw_395 mw_3 mw_396) hd_S_isMeant rfl (by decide) (by decide) (by decide) d_B_beginAnswers_45 (s_if_eq g d_B_beginAnswers_48 (by decide) (t_B_beginAnswers_62 g hq hr hk17) (s_aload_n g d_B_beginAnswers_51 rfl (s_aload_n g d_B_beginAnswers_52 rfl (s_getR g (c := 3) (j := 1) cok_3 (by decide) rfl mw_160 rfl d_B_beginAnswers_53 (s_getIN g (c := 0) (j := 13) cok_0 (by decide) rfl mn_44 rfl d_B_beginAnswers_56 (s_callV g (C_S_beginAnswer (zl Z)) (gin_V mw_397 mw_398 mw_399 mw_3 mw_400) hd_S_beginAnswer rfl (by decide) (by decide) (by decide) d_B_beginAnswers_59 (t_B_beginAnswers_62 g hq hr hk17))))))))))))))))))))))))
def b_B_beginAnswers_0 (post : Option Value → Mm → Prop) : Kk := (i_aload 0 (i_getR 3 1 (i_aload 0 (i_getI 3 5 (i_callV 1 0 w_E_isAnswerDue (i_if (fun x y => x = y) (i_vret post) (i_push (.int 0) (i_istore 1 (b_B_beginAnswers_17 post)))))))))
theorem t_B_beginAnswers_0 {Z : Zt} {X0 : Mm} {post : Option Value → Mm → Prop} (g : Good Z prog_1_method_22_code 3 "BusTelegrams" 1) (hq : RetZ Z true X0 0 0 post) (hr : (zM Z).sig.returnType = none) : Snd Z 3 0 (b_B_beginAnswers_0 post) := by
  unfold b_B_beginAnswers_0
  exact (s_aload_n g d_B_beginAnswers_0 rfl (s_getR g (c := 3) (j := 1) cok_3 (by decide) rfl mw_160 rfl d_B_beginAnswers_1 (s_aload_n g d_B_beginAnswers_4 rfl (s_getI g (c := 3) (j := 5) cok_3 (by decide) rfl mw_164 rfl d_B_beginAnswers_5 (s_callV g (C_E_isAnswerDue (zl Z)) (gin_V mw_381 mw_382 mw_383 mw_2 mw_384) hd_E_isAnswerDue rfl (by decide) (by decide) (by decide) d_B_beginAnswers_8 (s_if_ne g d_B_beginAnswers_11 (by decide) (s_push_iconst g d_B_beginAnswers_15 (by decide) (s_istore_n g (by decide) d_B_beginAnswers_16 rfl (t_B_beginAnswers_17 g hq hr))) (s_vret0 g hq hr d_B_beginAnswers_14)))))))
def w_B_beginAnswers : Wp := wpOf 3 (fun _ post => b_B_beginAnswers_0 post)
theorem C_B_beginAnswers (l : Launch) : MetS l ({ cls := "BusTelegrams", name := "beginAnswers", desc := "()V" } : Jvm.MethodName) prog_1_method_22_code 3 none true 1 0 0 w_B_beginAnswers := metS_of (by decide +kernel) (fun Z X0 post hZ g hq hr _ => t_B_beginAnswers_0 g hq hr)
theorem hd_B_beginAnswers : (({ cls := "BusTelegrams", name := "beginAnswers", desc := "()V" } : Jvm.MethodName)).cls = "BusTelegrams" ∧ (({ cls := "BusTelegrams", name := "beginAnswers", desc := "()V" } : Jvm.MethodName)).cls ≠ "java/lang/invoke/MethodHandle" ∧ (({ cls := "BusTelegrams", name := "beginAnswers", desc := "()V" } : Jvm.MethodName)).cls ≠ "java/lang/invoke/VarHandle" ∧ (parseMethodDescriptor (({ cls := "BusTelegrams", name := "beginAnswers", desc := "()V" } : Jvm.MethodName)).desc).map (fun d => d.parameters.length) = some 0 := ⟨rfl, by decide, by decide, by decide +kernel⟩
theorem d_B_characterBit_0 : decode prog_1_method_20_code 0 = .ok (.iload_n 1, 1) := by decide +kernel
theorem d_B_characterBit_1 : decode prog_1_method_20_code 1 = .ok (.ifCond .ne 5, 3) := by decide +kernel
theorem d_B_characterBit_4 : decode prog_1_method_20_code 4 = .ok (.iconst 0, 1) := by decide +kernel
theorem d_B_characterBit_5 : decode prog_1_method_20_code 5 = .ok (.ireturn, 1) := by decide +kernel
theorem d_B_characterBit_6 : decode prog_1_method_20_code 6 = .ok (.iload_n 1, 1) := by decide +kernel
theorem d_B_characterBit_7 : decode prog_1_method_20_code 7 = .ok (.iconst 1, 1) := by decide +kernel
theorem d_B_characterBit_8 : decode prog_1_method_20_code 8 = .ok (.if_icmp .lt 17, 3) := by decide +kernel
theorem d_B_characterBit_11 : decode prog_1_method_20_code 11 = .ok (.iload_n 1, 1) := by decide +kernel
theorem d_B_characterBit_12 : decode prog_1_method_20_code 12 = .ok (.bipush 8, 2) := by decide +kernel
theorem d_B_characterBit_14 : decode prog_1_method_20_code 14 = .ok (.if_icmp .gt 11, 3) := by decide +kernel
theorem d_B_characterBit_17 : decode prog_1_method_20_code 17 = .ok (.iload_n 0, 1) := by decide +kernel
theorem d_B_characterBit_18 : decode prog_1_method_20_code 18 = .ok (.iload_n 1, 1) := by decide +kernel
theorem d_B_characterBit_19 : decode prog_1_method_20_code 19 = .ok (.iconst 1, 1) := by decide +kernel
theorem d_B_characterBit_20 : decode prog_1_method_20_code 20 = .ok (.isub, 1) := by decide +kernel
theorem d_B_characterBit_21 : decode prog_1_method_20_code 21 = .ok (.ishr, 1) := by decide +kernel
theorem d_B_characterBit_22 : decode prog_1_method_20_code 22 = .ok (.iconst 1, 1) := by decide +kernel
theorem d_B_characterBit_23 : decode prog_1_method_20_code 23 = .ok (.iand, 1) := by decide +kernel
theorem d_B_characterBit_24 : decode prog_1_method_20_code 24 = .ok (.ireturn, 1) := by decide +kernel
theorem d_B_characterBit_25 : decode prog_1_method_20_code 25 = .ok (.iload_n 1, 1) := by decide +kernel
theorem d_B_characterBit_26 : decode prog_1_method_20_code 26 = .ok (.bipush 9, 2) := by decide +kernel
theorem d_B_characterBit_28 : decode prog_1_method_20_code 28 = .ok (.if_icmp .ne 12, 3) := by decide +kernel
theorem d_B_characterBit_31 : decode prog_1_method_20_code 31 = .ok (.iload_n 0, 1) := by decide +kernel
theorem d_B_characterBit_32 : decode prog_1_method_20_code 32 = .ok (.invokestatic 161, 3) := by decide +kernel
theorem d_B_characterBit_35 : decode prog_1_method_20_code 35 = .ok (.iconst 1, 1) := by decide +kernel
theorem d_B_characterBit_36 : decode prog_1_method_20_code 36 = .ok (.iand, 1) := by decide +kernel
theorem d_B_characterBit_37 : decode prog_1_method_20_code 37 = .ok (.goto 4, 3) := by decide +kernel
theorem d_B_characterBit_40 : decode prog_1_method_20_code 40 = .ok (.iconst 1, 1) := by decide +kernel
theorem d_B_characterBit_41 : decode prog_1_method_20_code 41 = .ok (.ireturn, 1) := by decide +kernel
def b_B_characterBit_41 (post : Option Value → Mm → Prop) : Kk := (i_iret post)
theorem t_B_characterBit_41 {Z : Zt} {X0 : Mm} {post : Option Value → Mm → Prop} (g : Good Z prog_1_method_20_code 2 "BusTelegrams" 1) (hq : RetZ Z true X0 0 0 post) (hr : (zM Z).sig.returnType = (some .int)) : Snd Z 2 41 (b_B_characterBit_41 post) := by
  unfold b_B_characterBit_41
  exact (s_iret0 g hq hr d_B_characterBit_41)
def b_B_characterBit_25 (post : Option Value → Mm → Prop) : Kk := (i_iload 1 (i_push (.int 9) (i_icmp (fun x y => x = y) (i_iload 0 (i_callS 1 w_J_bitCount (i_push (.int 1) (i_bin (fun x y => x &&& y) (b_B_characterBit_41 post))))) (i_push (.int 1) (b_B_characterBit_41 post)))))
theorem t_B_characterBit_25 {Z : Zt} {X0 : Mm} {post : Option Value → Mm → Prop} (g : Good Z prog_1_method_20_code 2 "BusTelegrams" 1) (hq : RetZ Z true X0 0 0 post) (hr : (zM Z).sig.returnType = (some .int)) : Snd Z 2 25 (b_B_characterBit_25 post) := by
  unfold b_B_characterBit_25
  exact (s_iload_n g d_B_characterBit_25 rfl (s_push_bipush g d_B_characterBit_26 (by decide) (s_icmp_ne g d_B_characterBit_28 (by decide) (s_push_iconst g d_B_characterBit_40 (by decide) (t_B_characterBit_41 g hq hr)) (s_iload_n g d_B_characterBit_31 rfl (s_callS g (C_J_bitCount (zl Z)) (gin_S mw_416 mw_417 mw_12 mw_418) hd_J_bitCount (by decide) (by decide) d_B_characterBit_32 (s_push_iconst g d_B_characterBit_35 (by decide) (s_iand g d_B_characterBit_36 (s_goto g d_B_characterBit_37 (by decide) (t_B_characterBit_41 g hq hr)))))))))
def b_B_characterBit_0 (post : Option Value → Mm → Prop) : Kk := (i_iload 1 (i_if (fun x y => x = y) (i_push (.int 0) (i_iret post)) (i_iload 1 (i_push (.int 1) (i_icmp (fun x y => x < y) (b_B_characterBit_25 post) (i_iload 1 (i_push (.int 8) (i_icmp (fun x y => y < x) (b_B_characterBit_25 post) (i_iload 0 (i_iload 1 (i_push (.int 1) (i_bin (fun x y => x - y) (i_bin (fun x y => x >>> (y &&& 31)) (i_push (.int 1) (i_bin (fun x y => x &&& y) (i_iret post))))))))))))))))
theorem t_B_characterBit_0 {Z : Zt} {X0 : Mm} {post : Option Value → Mm → Prop} (g : Good Z prog_1_method_20_code 2 "BusTelegrams" 1) (hq : RetZ Z true X0 0 0 post) (hr : (zM Z).sig.returnType = (some .int)) : Snd Z 2 0 (b_B_characterBit_0 post) := by
  unfold b_B_characterBit_0
  exact (s_iload_n g d_B_characterBit_0 rfl (s_if_ne g d_B_characterBit_1 (by decide) (s_iload_n g d_B_characterBit_6 rfl (s_push_iconst g d_B_characterBit_7 (by decide) (s_icmp_lt g d_B_characterBit_8 (by decide) (t_B_characterBit_25 g hq hr) (s_iload_n g d_B_characterBit_11 rfl (s_push_bipush g d_B_characterBit_12 (by decide) (s_icmp_gt g d_B_characterBit_14 (by decide) (t_B_characterBit_25 g hq hr) (s_iload_n g d_B_characterBit_17 rfl (s_iload_n g d_B_characterBit_18 rfl (s_push_iconst g d_B_characterBit_19 (by decide) (s_isub g d_B_characterBit_20 (s_ishr g d_B_characterBit_21 (s_push_iconst g d_B_characterBit_22 (by decide) (s_iand g d_B_characterBit_23 (s_iret0 g hq hr d_B_characterBit_24)))))))))))))) (s_push_iconst g d_B_characterBit_4 (by decide) (s_iret0 g hq hr d_B_characterBit_5))))
def w_B_characterBit : Wp := wpOf 2 (fun _ post => b_B_characterBit_0 post)
theorem C_B_characterBit (l : Launch) : MetS l ({ cls := "BusTelegrams", name := "characterBit", desc := "(II)I" } : Jvm.MethodName) prog_1_method_20_code 2 (some .int) true 1 0 0 w_B_characterBit := metS_of (by decide +kernel) (fun Z X0 post hZ g hq hr _ => t_B_characterBit_0 g hq hr)
theorem hd_B_characterBit : (({ cls := "BusTelegrams", name := "characterBit", desc := "(II)I" } : Jvm.MethodName)).cls ≠ "java/lang/invoke/MethodHandle" ∧ (({ cls := "BusTelegrams", name := "characterBit", desc := "(II)I" } : Jvm.MethodName)).cls ≠ "java/lang/invoke/VarHandle" ∧ (parseMethodDescriptor (({ cls := "BusTelegrams", name := "characterBit", desc := "(II)I" } : Jvm.MethodName)).desc).map (fun d => d.parameters.length) = some 2 := ⟨by decide, by decide, by decide +kernel⟩
theorem d_B_takeDisturbance_0 : decode prog_1_method_24_code 0 = .ok (.aload_n 0, 1) := by decide +kernel
theorem d_B_takeDisturbance_1 : decode prog_1_method_24_code 1 = .ok (.getfield 34, 3) := by decide +kernel
theorem d_B_takeDisturbance_4 : decode prog_1_method_24_code 4 = .ok (.invokestatic 104, 3) := by decide +kernel
theorem d_B_takeDisturbance_7 : decode prog_1_method_24_code 7 = .ok (.istore_n 1, 1) := by decide +kernel
theorem d_B_takeDisturbance_8 : decode prog_1_method_24_code 8 = .ok (.aload_n 0, 1) := by decide +kernel
theorem d_B_takeDisturbance_9 : decode prog_1_method_24_code 9 = .ok (.getfield 22, 3) := by decide +kernel
theorem d_B_takeDisturbance_12 : decode prog_1_method_24_code 12 = .ok (.iload_n 1, 1) := by decide +kernel
theorem d_B_takeDisturbance_13 : decode prog_1_method_24_code 13 = .ok (.baload, 1) := by decide +kernel
theorem d_B_takeDisturbance_14 : decode prog_1_method_24_code 14 = .ok (.ifCond .ne 5, 3) := by decide +kernel
theorem d_B_takeDisturbance_17 : decode prog_1_method_24_code 17 = .ok (.iconst 0, 1) := by decide +kernel
theorem d_B_takeDisturbance_18 : decode prog_1_method_24_code 18 = .ok (.ireturn, 1) := by decide +kernel
theorem d_B_takeDisturbance_19 : decode prog_1_method_24_code 19 = .ok (.aload_n 0, 1) := by decide +kernel
theorem d_B_takeDisturbance_20 : decode prog_1_method_24_code 20 = .ok (.getfield 22, 3) := by decide +kernel
theorem d_B_takeDisturbance_23 : decode prog_1_method_24_code 23 = .ok (.iload_n 1, 1) := by decide +kernel
theorem d_B_takeDisturbance_24 : decode prog_1_method_24_code 24 = .ok (.iconst 0, 1) := by decide +kernel
theorem d_B_takeDisturbance_25 : decode prog_1_method_24_code 25 = .ok (.bastore, 1) := by decide +kernel
theorem d_B_takeDisturbance_26 : decode prog_1_method_24_code 26 = .ok (.aload_n 0, 1) := by decide +kernel
theorem d_B_takeDisturbance_27 : decode prog_1_method_24_code 27 = .ok (.dup, 1) := by decide +kernel
theorem d_B_takeDisturbance_28 : decode prog_1_method_24_code 28 = .ok (.getfield 26, 3) := by decide +kernel
theorem d_B_takeDisturbance_31 : decode prog_1_method_24_code 31 = .ok (.iconst 1, 1) := by decide +kernel
theorem d_B_takeDisturbance_32 : decode prog_1_method_24_code 32 = .ok (.isub, 1) := by decide +kernel
theorem d_B_takeDisturbance_33 : decode prog_1_method_24_code 33 = .ok (.putfield 26, 3) := by decide +kernel
theorem d_B_takeDisturbance_36 : decode prog_1_method_24_code 36 = .ok (.iconst 1, 1) := by decide +kernel
theorem d_B_takeDisturbance_37 : decode prog_1_method_24_code 37 = .ok (.ireturn, 1) := by decide +kernel
def b_B_takeDisturbance_0 (post : Option Value → Mm → Prop) : Kk := (i_aload 0 (i_getI 3 5 (i_callS 1 w_B_disturbancePlace (i_istore 1 (i_aload 0 (i_getR 3 2 (i_iload 1 (i_ald 11 (i_if (fun x y => x = y) (i_push (.int 0) (i_zret post)) (i_aload 0 (i_getR 3 2 (i_iload 1 (i_push (.int 0) (i_zst (i_aload 0 (i_dup (i_getI 3 3 (i_push (.int 1) (i_bin (fun x y => x - y) (i_putI 3 3 (i_push (.int 1) (i_zret post))))))))))))))))))))))
theorem t_B_takeDisturbance_0 {Z : Zt} {X0 : Mm} {post : Option Value → Mm → Prop} (g : Good Z prog_1_method_24_code 2 "BusTelegrams" 1) (hq : RetZ Z true X0 0 0 post) (hr : (zM Z).sig.returnType = (some .boolean)) : Snd Z 2 0 (b_B_takeDisturbance_0 post) := by
  unfold b_B_takeDisturbance_0
  exact (s_aload_n g d_B_takeDisturbance_0 rfl (s_getI g (c := 3) (j := 5) cok_3 (by decide) rfl mw_164 rfl d_B_takeDisturbance_1 (s_callS g (C_B_disturbancePlace (zl Z)) (gin_S mw_360 mw_361 mw_1 mw_362) hd_B_disturbancePlace (by decide) (by decide) d_B_takeDisturbance_4 (s_istore_n g (by decide) d_B_takeDisturbance_7 rfl (s_aload_n g d_B_takeDisturbance_8 rfl (s_getR g (c := 3) (j := 2) cok_3 (by decide) rfl mw_161 rfl d_B_takeDisturbance_9 (s_iload_n g d_B_takeDisturbance_12 rfl (s_zald g d_B_takeDisturbance_13 (s_if_ne g d_B_takeDisturbance_14 (by decide) (s_aload_n g d_B_takeDisturbance_19 rfl (s_getR g (c := 3) (j := 2) cok_3 (by decide) rfl mw_161 rfl d_B_takeDisturbance_20 (s_iload_n g d_B_takeDisturbance_23 rfl (s_push_iconst g d_B_takeDisturbance_24 (by decide) (s_zast g d_B_takeDisturbance_25 (s_aload_n g d_B_takeDisturbance_26 rfl (s_dup g d_B_takeDisturbance_27 (s_getI g (c := 3) (j := 3) cok_3 (by decide) rfl mw_162 rfl d_B_takeDisturbance_28 (s_push_iconst g d_B_takeDisturbance_31 (by decide) (s_isub g d_B_takeDisturbance_32 (s_putI g (c := 3) (j := 3) cok_3 (by decide) rfl rfl rfl mw_162 rfl d_B_takeDisturbance_33 (s_push_iconst g d_B_takeDisturbance_36 (by decide) (s_zret0 g hq hr d_B_takeDisturbance_37))))))))))))) (s_push_iconst g d_B_takeDisturbance_17 (by decide) (s_zret0 g hq hr d_B_takeDisturbance_18)))))))))))
def w_B_takeDisturbance : Wp := wpOf 2 (fun _ post => b_B_takeDisturbance_0 post)
theorem C_B_takeDisturbance (l : Launch) : MetS l ({ cls := "BusTelegrams", name := "takeDisturbance", desc := "()Z" } : Jvm.MethodName) prog_1_method_24_code 2 (some .boolean) true 1 0 0 w_B_takeDisturbance := metS_of (by decide +kernel) (fun Z X0 post hZ g hq hr _ => t_B_takeDisturbance_0 g hq hr)
theorem hd_B_takeDisturbance : (({ cls := "BusTelegrams", name := "takeDisturbance", desc := "()Z" } : Jvm.MethodName)).cls = "BusTelegrams" ∧ (({ cls := "BusTelegrams", name := "takeDisturbance", desc := "()Z" } : Jvm.MethodName)).cls ≠ "java/lang/invoke/MethodHandle" ∧ (({ cls := "BusTelegrams", name := "takeDisturbance", desc := "()Z" } : Jvm.MethodName)).cls ≠ "java/lang/invoke/VarHandle" ∧ (parseMethodDescriptor (({ cls := "BusTelegrams", name := "takeDisturbance", desc := "()Z" } : Jvm.MethodName)).desc).map (fun d => d.parameters.length) = some 0 := ⟨rfl, by decide, by decide, by decide +kernel⟩
theorem d_E_takeInCharacter_0 : decode prog_2_method_5_code 0 = .ok (.aload_n 0, 1) := by decide +kernel
theorem d_E_takeInCharacter_1 : decode prog_2_method_5_code 1 = .ok (.dup, 1) := by decide +kernel
theorem d_E_takeInCharacter_2 : decode prog_2_method_5_code 2 = .ok (.getfield 25, 3) := by decide +kernel
theorem d_E_takeInCharacter_5 : decode prog_2_method_5_code 5 = .ok (.iconst 1, 1) := by decide +kernel
theorem d_E_takeInCharacter_6 : decode prog_2_method_5_code 6 = .ok (.iadd, 1) := by decide +kernel
theorem d_E_takeInCharacter_7 : decode prog_2_method_5_code 7 = .ok (.putfield 25, 3) := by decide +kernel
theorem d_E_takeInCharacter_10 : decode prog_2_method_5_code 10 = .ok (.aload_n 0, 1) := by decide +kernel
theorem d_E_takeInCharacter_11 : decode prog_2_method_5_code 11 = .ok (.getfield 25, 3) := by decide +kernel
theorem d_E_takeInCharacter_14 : decode prog_2_method_5_code 14 = .ok (.bipush 11, 2) := by decide +kernel
theorem d_E_takeInCharacter_16 : decode prog_2_method_5_code 16 = .ok (.if_icmp .ne 10, 3) := by decide +kernel
theorem d_E_takeInCharacter_19 : decode prog_2_method_5_code 19 = .ok (.aload_n 0, 1) := by decide +kernel
theorem d_E_takeInCharacter_20 : decode prog_2_method_5_code 20 = .ok (.iload_n 1, 1) := by decide +kernel
theorem d_E_takeInCharacter_21 : decode prog_2_method_5_code 21 = .ok (.iload_n 2, 1) := by decide +kernel
theorem d_E_takeInCharacter_22 : decode prog_2_method_5_code 22 = .ok (.invokevirtual 76, 3) := by decide +kernel
theorem d_E_takeInCharacter_25 : decode prog_2_method_5_code 25 = .ok (.return_, 1) := by decide +kernel
theorem d_E_takeInCharacter_26 : decode prog_2_method_5_code 26 = .ok (.aload_n 0, 1) := by decide +kernel
theorem d_E_takeInCharacter_27 : decode prog_2_method_5_code 27 = .ok (.dup, 1) := by decide +kernel
theorem d_E_takeInCharacter_28 : decode prog_2_method_5_code 28 = .ok (.getfield 31, 3) := by decide +kernel
theorem d_E_takeInCharacter_31 : decode prog_2_method_5_code 31 = .ok (.iload_n 1, 1) := by decide +kernel
theorem d_E_takeInCharacter_32 : decode prog_2_method_5_code 32 = .ok (.iadd, 1) := by decide +kernel
theorem d_E_takeInCharacter_33 : decode prog_2_method_5_code 33 = .ok (.putfield 31, 3) := by decide +kernel
theorem d_E_takeInCharacter_36 : decode prog_2_method_5_code 36 = .ok (.aload_n 0, 1) := by decide +kernel
theorem d_E_takeInCharacter_37 : decode prog_2_method_5_code 37 = .ok (.getfield 25, 3) := by decide +kernel
theorem d_E_takeInCharacter_40 : decode prog_2_method_5_code 40 = .ok (.bipush 10, 2) := by decide +kernel
theorem d_E_takeInCharacter_42 : decode prog_2_method_5_code 42 = .ok (.if_icmp .ge 20, 3) := by decide +kernel
theorem d_E_takeInCharacter_45 : decode prog_2_method_5_code 45 = .ok (.aload_n 0, 1) := by decide +kernel
theorem d_E_takeInCharacter_46 : decode prog_2_method_5_code 46 = .ok (.dup, 1) := by decide +kernel
theorem d_E_takeInCharacter_47 : decode prog_2_method_5_code 47 = .ok (.getfield 28, 3) := by decide +kernel
theorem d_E_takeInCharacter_50 : decode prog_2_method_5_code 50 = .ok (.iload_n 1, 1) := by decide +kernel
theorem d_E_takeInCharacter_51 : decode prog_2_method_5_code 51 = .ok (.aload_n 0, 1) := by decide +kernel
theorem d_E_takeInCharacter_52 : decode prog_2_method_5_code 52 = .ok (.getfield 25, 3) := by decide +kernel
theorem d_E_takeInCharacter_55 : decode prog_2_method_5_code 55 = .ok (.iconst 2, 1) := by decide +kernel
theorem d_E_takeInCharacter_56 : decode prog_2_method_5_code 56 = .ok (.isub, 1) := by decide +kernel
theorem d_E_takeInCharacter_57 : decode prog_2_method_5_code 57 = .ok (.ishl, 1) := by decide +kernel
theorem d_E_takeInCharacter_58 : decode prog_2_method_5_code 58 = .ok (.iadd, 1) := by decide +kernel
theorem d_E_takeInCharacter_59 : decode prog_2_method_5_code 59 = .ok (.putfield 28, 3) := by decide +kernel
theorem d_E_takeInCharacter_62 : decode prog_2_method_5_code 62 = .ok (.return_, 1) := by decide +kernel
def b_E_takeInCharacter_62 (post : Option Value → Mm → Prop) : Kk := (i_vret post)
theorem t_E_takeInCharacter_62 {Z : Zt} {X0 : Mm} {post : Option Value → Mm → Prop} (g : Good Z prog_2_method_5_code 3 "BusTelegrams$Ear" 1) (hq : RetZ Z true X0 0 0 post) (hr : (zM Z).sig.returnType = none) : Snd Z 3 62 (b_E_takeInCharacter_62 post) := by
  unfold b_E_takeInCharacter_62
  exact (s_vret0 g hq hr d_E_takeInCharacter_62)
def b_E_takeInCharacter_0 (post : Option Value → Mm → Prop) : Kk := (i_aload 0 (i_dup (i_getI 0 4 (i_push (.int 1) (i_bin (fun x y => x + y) (i_putI 0 4 (i_aload 0 (i_getI 0 4 (i_push (.int 11) (i_icmp (fun x y => x = y) (i_aload 0 (i_iload 1 (i_iload 2 (i_callV 2 0 w_E_endCharacter (i_vret post))))) (i_aload 0 (i_dup (i_getI 0 6 (i_iload 1 (i_bin (fun x y => x + y) (i_putI 0 6 (i_aload 0 (i_getI 0 4 (i_push (.int 10) (i_icmp (fun x y => y ≤ x) (b_E_takeInCharacter_62 post) (i_aload 0 (i_dup (i_getI 0 5 (i_iload 1 (i_aload 0 (i_getI 0 4 (i_push (.int 2) (i_bin (fun x y => x - y) (i_bin (fun x y => x <<< (y &&& 31)) (i_bin (fun x y => x + y) (i_putI 0 5 (b_E_takeInCharacter_62 post))))))))))))))))))))))))))))))))
theorem t_E_takeInCharacter_0 {Z : Zt} {X0 : Mm} {post : Option Value → Mm → Prop} (g : Good Z prog_2_method_5_code 3 "BusTelegrams$Ear" 1) (hq : RetZ Z true X0 0 0 post) (hr : (zM Z).sig.returnType = none) : Snd Z 3 0 (b_E_takeInCharacter_0 post) := by
  unfold b_E_takeInCharacter_0
  exact (s_aload_n g d_E_takeInCharacter_0 rfl (s_dup g d_E_takeInCharacter_1 (s_getI g (c := 0) (j := 4) cok_0 (by decide) rfl mw_33 rfl d_E_takeInCharacter_2 (s_push_iconst g d_E_takeInCharacter_5 (by decide) (s_iadd g d_E_takeInCharacter_6 (s_putI g (c := 0) (j := 4) cok_0 (by decide) rfl rfl rfl mw_33 rfl d_E_takeInCharacter_7 (s_aload_n g d_E_takeInCharacter_10 rfl (s_getI g (c := 0) (j := 4) cok_0 (by decide) rfl mw_33 rfl d_E_takeInCharacter_11 (s_push_bipush g d_E_takeInCharacter_14 (by decide) (s_icmp_ne g d_E_takeInCharacter_16 (by decide) (s_aload_n g d_E_takeInCharacter_26 rfl (s_dup g d_E_takeInCharacter_27 (s_getI g (c := 0) (j := 6) cok_0 (by decide) rfl mw_35 rfl d_E_takeInCharacter_28 (s_iload_n g d_E_takeInCharacter_31 rfl (s_iadd g d_E_takeInCharacter_32 (s_putI g (c := 0) (j := 6) cok_0 (by decide) rfl rfl rfl mw_35 rfl d_E_takeInCharacter_33 (s_aload_n g d_E_takeInCharacter_36 rfl (s_getI g (c := 0) (j := 4) cok_0 (by decide) rfl mw_33 rfl d_E_takeInCharacter_37 (s_push_bipush g d_E_takeInCharacter_40 (by decide) (s_icmp_ge g d_E_takeInCharacter_42 (by decide) (t_E_takeInCharacter_62 g hq hr) (s_aload_n g d_E_takeInCharacter_45 rfl (s_dup g d_E_takeInCharacter_46 (s_getI g (c := 0) (j := 5) cok_0 (by decide) rfl mw_34 rfl d_E_takeInCharacter_47 (s_iload_n g d_E_takeInCharacter_50 rfl (s_aload_n g d_E_takeInCharacter_51 rfl (s_getI g (c := 0) (j := 4) cok_0 (by decide) rfl mw_33 rfl d_E_takeInCharacter_52 (s_push_iconst g d_E_takeInCharacter_55 (by decide) (s_isub g d_E_takeInCharacter_56 (s_ishl g d_E_takeInCharacter_57 (s_iadd g d_E_takeInCharacter_58 (s_putI g (c := 0) (j := 5) cok_0 (by decide) rfl rfl rfl mw_34 rfl d_E_takeInCharacter_59 (t_E_takeInCharacter_62 g hq hr)))))))))))))))))))))) (s_aload_n g d_E_takeInCharacter_19 rfl (s_iload_n g d_E_takeInCharacter_20 rfl (s_iload_n g d_E_takeInCharacter_21 rfl (s_callV g (C_E_endCharacter (zl Z)) (gin_V mw_456 mw_458 ms_8 mw_2 mw_459) hd_E_endCharacter rfl (by decide) (by decide) (by decide) d_E_takeInCharacter_22 (s_vret0 g hq hr d_E_takeInCharacter_25)))))))))))))))
def w_E_takeInCharacter : Wp := wpOf 3 (fun _ post => b_E_takeInCharacter_0 post)
theorem C_E_takeInCharacter (l : Launch) : MetS l ({ cls := "BusTelegrams$Ear", name := "takeInCharacter", desc := "(II)V" } : Jvm.MethodName) prog_2_method_5_code 3 none true 1 0 0 w_E_takeInCharacter := metS_of (by decide +kernel) (fun Z X0 post hZ g hq hr _ => t_E_takeInCharacter_0 g hq hr)
theorem hd_E_takeInCharacter : (({ cls := "BusTelegrams$Ear", name := "takeInCharacter", desc := "(II)V" } : Jvm.MethodName)).cls = "BusTelegrams$Ear" ∧ (({ cls := "BusTelegrams$Ear", name := "takeInCharacter", desc := "(II)V" } : Jvm.MethodName)).cls ≠ "java/lang/invoke/MethodHandle" ∧ (({ cls := "BusTelegrams$Ear", name := "takeInCharacter", desc := "(II)V" } : Jvm.MethodName)).cls ≠ "java/lang/invoke/VarHandle" ∧ (parseMethodDescriptor (({ cls := "BusTelegrams$Ear", name := "takeInCharacter", desc := "(II)V" } : Jvm.MethodName)).desc).map (fun d => d.parameters.length) = some 2 := ⟨rfl, by decide, by decide, by decide +kernel⟩
theorem d_E_complete_0 : decode prog_2_method_8_code 0 = .ok (.aload_n 0, 1) := by decide +kernel
theorem d_E_complete_1 : decode prog_2_method_8_code 1 = .ok (.getfield 37, 3) := by decide +kernel
theorem d_E_complete_4 : decode prog_2_method_8_code 4 = .ok (.ifCond .ne 17, 3) := by decide +kernel
theorem d_E_complete_7 : decode prog_2_method_8_code 7 = .ok (.aload_n 0, 1) := by decide +kernel
theorem d_E_complete_8 : decode prog_2_method_8_code 8 = .ok (.getfield 34, 3) := by decide +kernel
theorem d_E_complete_11 : decode prog_2_method_8_code 11 = .ok (.bipush 8, 2) := by decide +kernel
theorem d_E_complete_13 : decode prog_2_method_8_code 13 = .ok (.if_icmp .lt 8, 3) := by decide +kernel
theorem d_E_complete_16 : decode prog_2_method_8_code 16 = .ok (.aload_n 0, 1) := by decide +kernel
theorem d_E_complete_17 : decode prog_2_method_8_code 17 = .ok (.invokevirtual 82, 3) := by decide +kernel
theorem d_E_complete_20 : decode prog_2_method_8_code 20 = .ok (.return_, 1) := by decide +kernel
theorem d_E_complete_21 : decode prog_2_method_8_code 21 = .ok (.aload_n 0, 1) := by decide +kernel
theorem d_E_complete_22 : decode prog_2_method_8_code 22 = .ok (.iconst 1, 1) := by decide +kernel
theorem d_E_complete_23 : decode prog_2_method_8_code 23 = .ok (.putfield 59, 3) := by decide +kernel
theorem d_E_complete_26 : decode prog_2_method_8_code 26 = .ok (.aload_n 0, 1) := by decide +kernel
theorem d_E_complete_27 : decode prog_2_method_8_code 27 = .ok (.getfield 37, 3) := by decide +kernel
theorem d_E_complete_30 : decode prog_2_method_8_code 30 = .ok (.ifCond .ne 62, 3) := by decide +kernel
theorem d_E_complete_33 : decode prog_2_method_8_code 33 = .ok (.aload_n 0, 1) := by decide +kernel
theorem d_E_complete_34 : decode prog_2_method_8_code 34 = .ok (.getfield 34, 3) := by decide +kernel
theorem d_E_complete_37 : decode prog_2_method_8_code 37 = .ok (.iconst 1, 1) := by decide +kernel
theorem d_E_complete_38 : decode prog_2_method_8_code 38 = .ok (.if_icmp .ne 54, 3) := by decide +kernel
theorem d_E_complete_41 : decode prog_2_method_8_code 41 = .ok (.aload_n 0, 1) := by decide +kernel
theorem d_E_complete_42 : decode prog_2_method_8_code 42 = .ok (.getfield 41, 3) := by decide +kernel
theorem d_E_complete_45 : decode prog_2_method_8_code 45 = .ok (.aload_n 0, 1) := by decide +kernel
theorem d_E_complete_46 : decode prog_2_method_8_code 46 = .ok (.getfield 50, 3) := by decide +kernel
theorem d_E_complete_49 : decode prog_2_method_8_code 49 = .ok (.bipush 14, 2) := by decide +kernel
theorem d_E_complete_51 : decode prog_2_method_8_code 51 = .ok (.iadd, 1) := by decide +kernel
theorem d_E_complete_52 : decode prog_2_method_8_code 52 = .ok (.if_icmp .ne 40, 3) := by decide +kernel
theorem d_E_complete_55 : decode prog_2_method_8_code 55 = .ok (.aload_n 0, 1) := by decide +kernel
theorem d_E_complete_56 : decode prog_2_method_8_code 56 = .ok (.aload_n 0, 1) := by decide +kernel
theorem d_E_complete_57 : decode prog_2_method_8_code 57 = .ok (.getfield 11, 3) := by decide +kernel
theorem d_E_complete_60 : decode prog_2_method_8_code 60 = .ok (.iconst 0, 1) := by decide +kernel
theorem d_E_complete_61 : decode prog_2_method_8_code 61 = .ok (.iaload, 1) := by decide +kernel
theorem d_E_complete_62 : decode prog_2_method_8_code 62 = .ok (.putfield 56, 3) := by decide +kernel
theorem d_E_complete_65 : decode prog_2_method_8_code 65 = .ok (.aload_n 0, 1) := by decide +kernel
theorem d_E_complete_66 : decode prog_2_method_8_code 66 = .ok (.getfield 18, 3) := by decide +kernel
theorem d_E_complete_69 : decode prog_2_method_8_code 69 = .ok (.aload_n 0, 1) := by decide +kernel
theorem d_E_complete_70 : decode prog_2_method_8_code 70 = .ok (.getfield 56, 3) := by decide +kernel
theorem d_E_complete_73 : decode prog_2_method_8_code 73 = .ok (.sipush 204, 3) := by decide +kernel
theorem d_E_complete_76 : decode prog_2_method_8_code 76 = .ok (.if_icmp .ne 7, 3) := by decide +kernel
theorem d_E_complete_79 : decode prog_2_method_8_code 79 = .ok (.iconst 3, 1) := by decide +kernel
theorem d_E_complete_80 : decode prog_2_method_8_code 80 = .ok (.goto 4, 3) := by decide +kernel
theorem d_E_complete_83 : decode prog_2_method_8_code 83 = .ok (.iconst 4, 1) := by decide +kernel
theorem d_E_complete_84 : decode prog_2_method_8_code 84 = .ok (.dup2, 1) := by decide +kernel
theorem d_E_complete_85 : decode prog_2_method_8_code 85 = .ok (.iaload, 1) := by decide +kernel
theorem d_E_complete_86 : decode prog_2_method_8_code 86 = .ok (.iconst 1, 1) := by decide +kernel
theorem d_E_complete_87 : decode prog_2_method_8_code 87 = .ok (.iadd, 1) := by decide +kernel
theorem d_E_complete_88 : decode prog_2_method_8_code 88 = .ok (.iastore, 1) := by decide +kernel
theorem d_E_complete_89 : decode prog_2_method_8_code 89 = .ok (.goto 13, 3) := by decide +kernel
theorem d_E_complete_92 : decode prog_2_method_8_code 92 = .ok (.aload_n 0, 1) := by decide +kernel
theorem d_E_complete_93 : decode prog_2_method_8_code 93 = .ok (.getfield 18, 3) := by decide +kernel
theorem d_E_complete_96 : decode prog_2_method_8_code 96 = .ok (.iconst 2, 1) := by decide +kernel
theorem d_E_complete_97 : decode prog_2_method_8_code 97 = .ok (.dup2, 1) := by decide +kernel
theorem d_E_complete_98 : decode prog_2_method_8_code 98 = .ok (.iaload, 1) := by decide +kernel
theorem d_E_complete_99 : decode prog_2_method_8_code 99 = .ok (.iconst 1, 1) := by decide +kernel
theorem d_E_complete_100 : decode prog_2_method_8_code 100 = .ok (.iadd, 1) := by decide +kernel
theorem d_E_complete_101 : decode prog_2_method_8_code 101 = .ok (.iastore, 1) := by decide +kernel
theorem d_E_complete_102 : decode prog_2_method_8_code 102 = .ok (.return_, 1) := by decide +kernel
def b_E_complete_102 (post : Option Value → Mm → Prop) : Kk := (i_vret post)
theorem t_E_complete_102 {Z : Zt} {X0 : Mm} {post : Option Value → Mm → Prop} (g : Good Z prog_2_method_8_code 1 "BusTelegrams$Ear" 1) (hq : RetZ Z true X0 0 0 post) (hr : (zM Z).sig.returnType = none) : Snd Z 1 102 (b_E_complete_102 post) := by
  unfold b_E_complete_102
  exact (s_vret0 g hq hr d_E_complete_102)
def b_E_complete_92 (post : Option Value → Mm → Prop) : Kk := (i_aload 0 (i_getR 0 2 (i_push (.int 2) (i_dup2 (i_ald 10 (i_push (.int 1) (i_bin (fun x y => x + y) (i_ast (b_E_complete_102 post)))))))))
theorem t_E_complete_92 {Z : Zt} {X0 : Mm} {post : Option Value → Mm → Prop} (g : Good Z prog_2_method_8_code 1 "BusTelegrams$Ear" 1) (hq : RetZ Z true X0 0 0 post) (hr : (zM Z).sig.returnType = none) : Snd Z 1 92 (b_E_complete_92 post) := by
  unfold b_E_complete_92
  exact (s_aload_n g d_E_complete_92 rfl (s_getR g (c := 0) (j := 2) cok_0 (by decide) rfl mw_31 rfl d_E_complete_93 (s_push_iconst g d_E_complete_96 (by decide) (s_dup2 g d_E_complete_97 (s_iald g d_E_complete_98 (s_push_iconst g d_E_complete_99 (by decide) (s_iadd g d_E_complete_100 (s_iast g d_E_complete_101 (t_E_complete_102 g hq hr)))))))))
def b_E_complete_84 (post : Option Value → Mm → Prop) : Kk := (i_dup2 (i_ald 10 (i_push (.int 1) (i_bin (fun x y => x + y) (i_ast (b_E_complete_102 post))))))
theorem t_E_complete_84 {Z : Zt} {X0 : Mm} {post : Option Value → Mm → Prop} (g : Good Z prog_2_method_8_code 1 "BusTelegrams$Ear" 1) (hq : RetZ Z true X0 0 0 post) (hr : (zM Z).sig.returnType = none) : Snd Z 1 84 (b_E_complete_84 post) := by
  unfold b_E_complete_84
  exact (s_dup2 g d_E_complete_84 (s_iald g d_E_complete_85 (s_push_iconst g d_E_complete_86 (by decide) (s_iadd g d_E_complete_87 (s_iast g d_E_complete_88 (s_goto g d_E_complete_89 (by decide) (t_E_complete_102 g hq hr)))))))
def b_E_complete_21 (post : Option Value → Mm → Prop) : Kk := (i_aload 0 (i_push (.int 1) (i_putZ 0 15 (i_aload 0 (i_getI 0 8 (i_if (fun x y => x = y) (i_aload 0 (i_getI 0 7 (i_push (.int 1) (i_icmp (fun x y => x = y) (i_aload 0 (i_getI 0 9 (i_aload 0 (i_getI 0 12 (i_push (.int 14) (i_bin (fun x y => x + y) (i_icmp (fun x y => x = y) (i_aload 0 (i_aload 0 (i_getR 0 0 (i_push (.int 0) (i_ald 10 (i_putI 0 14 (i_aload 0 (i_getR 0 2 (i_aload 0 (i_getI 0 14 (i_push (.int 204) (i_icmp (fun x y => x = y) (i_push (.int 3) (b_E_complete_84 post)) (i_push (.int 4) (b_E_complete_84 post)))))))))))))) (b_E_complete_92 post)))))))) (b_E_complete_92 post))))) (b_E_complete_92 post)))))))
theorem t_E_complete_21 {Z : Zt} {X0 : Mm} {post : Option Value → Mm → Prop} (g : Good Z prog_2_method_8_code 1 "BusTelegrams$Ear" 1) (hq : RetZ Z true X0 0 0 post) (hr : (zM Z).sig.returnType = none) : Snd Z 1 21 (b_E_complete_21 post) := by
  unfold b_E_complete_21
  exact (s_aload_n g d_E_complete_21 rfl (s_push_iconst g d_E_complete_22 (by decide) (s_putZ g (c := 0) (j := 15) cok_0 (by decide) rfl rfl rfl mw_47 rfl d_E_complete_23 (s_aload_n g d_E_complete_26 rfl (s_getI g (c := 0) (j := 8) cok_0 (by decide) rfl mw_37 rfl d_E_complete_27 (s_if_ne g d_E_complete_30 (by decide) (t_E_complete_92 g hq hr) (s_aload_n g d_E_complete_33 rfl (s_getI g (c := 0) (j := 7) cok_0 (by decide) rfl mw_36 rfl d_E_complete_34 (s_push_iconst g d_E_complete_37 (by decide) (s_icmp_ne g d_E_complete_38 (by decide) (t_E_complete_92 g hq hr) (s_aload_n g d_E_complete_41 rfl (s_getI g (c := 0) (j := 9) cok_0 (by decide) rfl mw_38 rfl d_E_complete_42 (s_aload_n g d_E_complete_45 rfl (s_getI g (c := 0) (j := 12) cok_0 (by decide) rfl mw_42 rfl d_E_complete_46 (s_push_bipush g d_E_complete_49 (by decide) (s_iadd g d_E_complete_51 (s_icmp_ne g d_E_complete_52 (by decide) (t_E_complete_92 g hq hr) (s_aload_n g d_E_complete_55 rfl (s_aload_n g d_E_complete_56 rfl (s_getR g (c := 0) (j := 0) cok_0 (by decide) rfl mw_29 rfl d_E_complete_57 (s_push_iconst g d_E_complete_60 (by decide) (s_iald g d_E_complete_61 (s_putI g (c := 0) (j := 14) cok_0 (by decide) rfl rfl rfl mw_45 rfl d_E_complete_62 (s_aload_n g d_E_complete_65 rfl (s_getR g (c := 0) (j := 2) cok_0 (by decide) rfl mw_31 rfl d_E_complete_66 (s_aload_n g d_E_complete_69 rfl (s_getI g (c := 0) (j := 14) cok_0 (by decide) rfl mw_45 rfl d_E_complete_70 (s_push_sipush g d_E_complete_73 (by decide) (s_icmp_ne g d_E_complete_76 (by decide) (s_push_iconst g d_E_complete_83 (by decide) (t_E_complete_84 g hq hr)) (s_push_iconst g d_E_complete_79 (by decide) (s_goto g d_E_complete_80 (by decide) (t_E_complete_84 g hq hr))))))))))))))))))))))))))))))))
def b_E_complete_0 (post : Option Value → Mm → Prop) : Kk := (i_aload 0 (i_getI 0 8 (i_if (fun x y => x = y) (i_aload 0 (i_getI 0 7 (i_push (.int 8) (i_icmp (fun x y => x < y) (b_E_complete_21 post) (i_aload 0 (i_callV 0 0 w_E_completeTelegram (i_vret post))))))) (b_E_complete_21 post))))
theorem t_E_complete_0 {Z : Zt} {X0 : Mm} {post : Option Value → Mm → Prop} (g : Good Z prog_2_method_8_code 1 "BusTelegrams$Ear" 1) (hq : RetZ Z true X0 0 0 post) (hr : (zM Z).sig.returnType = none) : Snd Z 1 0 (b_E_complete_0 post) := by
  unfold b_E_complete_0
  exact (s_aload_n g d_E_complete_0 rfl (s_getI g (c := 0) (j := 8) cok_0 (by decide) rfl mw_37 rfl d_E_complete_1 (s_if_ne g d_E_complete_4 (by decide) (t_E_complete_21 g hq hr) (s_aload_n g d_E_complete_7 rfl (s_getI g (c := 0) (j := 7) cok_0 (by decide) rfl mw_36 rfl d_E_complete_8 (s_push_bipush g d_E_complete_11 (by decide) (s_icmp_lt g d_E_complete_13 (by decide) (t_E_complete_21 g hq hr) (s_aload_n g d_E_complete_16 rfl (s_callV g (C_E_completeTelegram (zl Z)) (gin_V mw_472 mw_474 ms_12 mw_2 mw_475) hd_E_completeTelegram rfl (by decide) (by decide) (by decide) d_E_complete_17 (s_vret0 g hq hr d_E_complete_20))))))))))
def w_E_complete : Wp := wpOf 1 (fun _ post => b_E_complete_0 post)
theorem C_E_complete (l : Launch) : MetS l ({ cls := "BusTelegrams$Ear", name := "complete", desc := "()V" } : Jvm.MethodName) prog_2_method_8_code 1 none true 1 0 0 w_E_complete := metS_of (by decide +kernel) (fun Z X0 post hZ g hq hr _ => t_E_complete_0 g hq hr)
theorem hd_E_complete : (({ cls := "BusTelegrams$Ear", name := "complete", desc := "()V" } : Jvm.MethodName)).cls = "BusTelegrams$Ear" ∧ (({ cls := "BusTelegrams$Ear", name := "complete", desc := "()V" } : Jvm.MethodName)).cls ≠ "java/lang/invoke/MethodHandle" ∧ (({ cls := "BusTelegrams$Ear", name := "complete", desc := "()V" } : Jvm.MethodName)).cls ≠ "java/lang/invoke/VarHandle" ∧ (parseMethodDescriptor (({ cls := "BusTelegrams$Ear", name := "complete", desc := "()V" } : Jvm.MethodName)).desc).map (fun d => d.parameters.length) = some 0 := ⟨rfl, by decide, by decide, by decide +kernel⟩
theorem d_E_begin_0 : decode prog_2_method_3_code 0 = .ok (.aload_n 0, 1) := by decide +kernel
theorem d_E_begin_1 : decode prog_2_method_3_code 1 = .ok (.iload_n 1, 1) := by decide +kernel
theorem d_E_begin_2 : decode prog_2_method_3_code 2 = .ok (.putfield 41, 3) := by decide +kernel
theorem d_E_begin_5 : decode prog_2_method_3_code 5 = .ok (.aload_n 0, 1) := by decide +kernel
theorem d_E_begin_6 : decode prog_2_method_3_code 6 = .ok (.iconst 0, 1) := by decide +kernel
theorem d_E_begin_7 : decode prog_2_method_3_code 7 = .ok (.putfield 34, 3) := by decide +kernel
theorem d_E_begin_10 : decode prog_2_method_3_code 10 = .ok (.aload_n 0, 1) := by decide +kernel
theorem d_E_begin_11 : decode prog_2_method_3_code 11 = .ok (.iconst 0, 1) := by decide +kernel
theorem d_E_begin_12 : decode prog_2_method_3_code 12 = .ok (.putfield 37, 3) := by decide +kernel
theorem d_E_begin_15 : decode prog_2_method_3_code 15 = .ok (.aload_n 0, 1) := by decide +kernel
theorem d_E_begin_16 : decode prog_2_method_3_code 16 = .ok (.invokevirtual 73, 3) := by decide +kernel
theorem d_E_begin_19 : decode prog_2_method_3_code 19 = .ok (.return_, 1) := by decide +kernel
def b_E_begin_0 (post : Option Value → Mm → Prop) : Kk := (i_aload 0 (i_iload 1 (i_putI 0 9 (i_aload 0 (i_push (.int 0) (i_putI 0 7 (i_aload 0 (i_push (.int 0) (i_putZ 0 8 (i_aload 0 (i_callV 0 0 w_E_beginCharacter (i_vret post))))))))))))
theorem t_E_begin_0 {Z : Zt} {X0 : Mm} {post : Option Value → Mm → Prop} (g : Good Z prog_2_method_3_code 2 "BusTelegrams$Ear" 1) (hq : RetZ Z true X0 0 0 post) (hr : (zM Z).sig.returnType = none) : Snd Z 2 0 (b_E_begin_0 post) := by
  unfold b_E_begin_0
  exact (s_aload_n g d_E_begin_0 rfl (s_iload_n g d_E_begin_1 rfl (s_putI g (c := 0) (j := 9) cok_0 (by decide) rfl rfl rfl mw_38 rfl d_E_begin_2 (s_aload_n g d_E_begin_5 rfl (s_push_iconst g d_E_begin_6 (by decide) (s_putI g (c := 0) (j := 7) cok_0 (by decide) rfl rfl rfl mw_36 rfl d_E_begin_7 (s_aload_n g d_E_begin_10 rfl (s_push_iconst g d_E_begin_11 (by decide) (s_putZ g (c := 0) (j := 8) cok_0 (by decide) rfl rfl rfl mw_37 rfl d_E_begin_12 (s_aload_n g d_E_begin_15 rfl (s_callV g (C_E_beginCharacter (zl Z)) (gin_V mw_464 mw_466 ms_10 mw_2 mw_467) hd_E_beginCharacter rfl (by decide) (by decide) (by decide) d_E_begin_16 (s_vret0 g hq hr d_E_begin_19))))))))))))
def w_E_begin : Wp := wpOf 2 (fun _ post => b_E_begin_0 post)
theorem C_E_begin (l : Launch) : MetS l ({ cls := "BusTelegrams$Ear", name := "begin", desc := "(I)V" } : Jvm.MethodName) prog_2_method_3_code 2 none true 1 0 0 w_E_begin := metS_of (by decide +kernel) (fun Z X0 post hZ g hq hr _ => t_E_begin_0 g hq hr)
theorem hd_E_begin : (({ cls := "BusTelegrams$Ear", name := "begin", desc := "(I)V" } : Jvm.MethodName)).cls = "BusTelegrams$Ear" ∧ (({ cls := "BusTelegrams$Ear", name := "begin", desc := "(I)V" } : Jvm.MethodName)).cls ≠ "java/lang/invoke/MethodHandle" ∧ (({ cls := "BusTelegrams$Ear", name := "begin", desc := "(I)V" } : Jvm.MethodName)).cls ≠ "java/lang/invoke/VarHandle" ∧ (parseMethodDescriptor (({ cls := "BusTelegrams$Ear", name := "begin", desc := "(I)V" } : Jvm.MethodName)).desc).map (fun d => d.parameters.length) = some 1 := ⟨rfl, by decide, by decide, by decide +kernel⟩
theorem d_S_addToQueue_0 : decode prog_3_method_2_code 0 = .ok (.aload_n 0, 1) := by decide +kernel
theorem d_S_addToQueue_1 : decode prog_3_method_2_code 1 = .ok (.aload_n 0, 1) := by decide +kernel
theorem d_S_addToQueue_2 : decode prog_3_method_2_code 2 = .ok (.getfield 29, 3) := by decide +kernel
theorem d_S_addToQueue_5 : decode prog_3_method_2_code 5 = .ok (.invokevirtual 63, 3) := by decide +kernel
theorem d_S_addToQueue_8 : decode prog_3_method_2_code 8 = .ok (.astore_n 1, 1) := by decide +kernel
theorem d_S_addToQueue_9 : decode prog_3_method_2_code 9 = .ok (.aload_n 0, 1) := by decide +kernel
theorem d_S_addToQueue_10 : decode prog_3_method_2_code 10 = .ok (.dup, 1) := by decide +kernel
theorem d_S_addToQueue_11 : decode prog_3_method_2_code 11 = .ok (.getfield 29, 3) := by decide +kernel
theorem d_S_addToQueue_14 : decode prog_3_method_2_code 14 = .ok (.iconst 1, 1) := by decide +kernel
theorem d_S_addToQueue_15 : decode prog_3_method_2_code 15 = .ok (.iadd, 1) := by decide +kernel
theorem d_S_addToQueue_16 : decode prog_3_method_2_code 16 = .ok (.putfield 29, 3) := by decide +kernel
theorem d_S_addToQueue_19 : decode prog_3_method_2_code 19 = .ok (.aload_n 1, 1) := by decide +kernel
theorem d_S_addToQueue_20 : decode prog_3_method_2_code 20 = .ok (.areturn, 1) := by decide +kernel
def b_S_addToQueue_0 (post : Option Value → Mm → Prop) : Kk := (i_aload 0 (i_aload 0 (i_getI 1 5 (i_callV 1 1 w_S_queueAt (i_astore 1 (i_aload 0 (i_dup (i_getI 1 5 (i_push (.int 1) (i_bin (fun x y => x + y) (i_putI 1 5 (i_aload 1 (i_aret post)))))))))))))
theorem t_S_addToQueue_0 {Z : Zt} {X0 : Mm} {post : Option Value → Mm → Prop} (g : Good Z prog_3_method_2_code 2 "BusTelegrams$Station" 2) (hq : RetZ Z true X0 0 0 post) (hr : (zM Z).sig.returnType = (some (.object "BusTelegrams$Telegram"))) : Snd Z 2 0 (b_S_addToQueue_0 post) := by
  unfold b_S_addToQueue_0
  exact (s_aload_n g d_S_addToQueue_0 rfl (s_aload_n g d_S_addToQueue_1 rfl (s_getI g (c := 1) (j := 5) cok_1 (by decide) rfl mw_117 rfl d_S_addToQueue_2 (s_callV g (C_S_queueAt (zl Z)) (gin_V mw_326 mw_328 ms_1 mw_3 mw_329) hd_S_queueAt rfl (by decide) (by decide) (by decide) d_S_addToQueue_5 (s_astore_n g (by decide) d_S_addToQueue_8 rfl (s_aload_n g d_S_addToQueue_9 rfl (s_dup g d_S_addToQueue_10 (s_getI g (c := 1) (j := 5) cok_1 (by decide) rfl mw_117 rfl d_S_addToQueue_11 (s_push_iconst g d_S_addToQueue_14 (by decide) (s_iadd g d_S_addToQueue_15 (s_putI g (c := 1) (j := 5) cok_1 (by decide) rfl rfl rfl mw_117 rfl d_S_addToQueue_16 (s_aload_n g d_S_addToQueue_19 rfl (s_aret0 g hq hr d_S_addToQueue_20)))))))))))))
def w_S_addToQueue : Wp := wpOf 2 (fun _ post => b_S_addToQueue_0 post)
theorem C_S_addToQueue (l : Launch) : MetS l ({ cls := "BusTelegrams$Station", name := "addToQueue", desc := "()LBusTelegrams$Telegram;" } : Jvm.MethodName) prog_3_method_2_code 2 (some (.object "BusTelegrams$Telegram")) true 2 0 0 w_S_addToQueue := metS_of (by decide +kernel) (fun Z X0 post hZ g hq hr _ => t_S_addToQueue_0 g hq hr)
theorem hd_S_addToQueue : (({ cls := "BusTelegrams$Station", name := "addToQueue", desc := "()LBusTelegrams$Telegram;" } : Jvm.MethodName)).cls = "BusTelegrams$Station" ∧ (({ cls := "BusTelegrams$Station", name := "addToQueue", desc := "()LBusTelegrams$Telegram;" } : Jvm.MethodName)).cls ≠ "java/lang/invoke/MethodHandle" ∧ (({ cls := "BusTelegrams$Station", name := "addToQueue", desc := "()LBusTelegrams$Telegram;" } : Jvm.MethodName)).cls ≠ "java/lang/invoke/VarHandle" ∧ (parseMethodDescriptor (({ cls := "BusTelegrams$Station", name := "addToQueue", desc := "()LBusTelegrams$Telegram;" } : Jvm.MethodName)).desc).map (fun d => d.parameters.length) = some 0 := ⟨rfl, by decide, by decide, by decide +kernel⟩
theorem d_S_nextAnswerBit_0 : decode prog_3_method_7_code 0 = .ok (.aload_n 0, 1) := by decide +kernel
theorem d_S_nextAnswerBit_1 : decode prog_3_method_7_code 1 = .ok (.getfield 47, 3) := by decide +kernel
theorem d_S_nextAnswerBit_4 : decode prog_3_method_7_code 4 = .ok (.aload_n 0, 1) := by decide +kernel
theorem d_S_nextAnswerBit_5 : decode prog_3_method_7_code 5 = .ok (.getfield 44, 3) := by decide +kernel
theorem d_S_nextAnswerBit_8 : decode prog_3_method_7_code 8 = .ok (.invokestatic 84, 3) := by decide +kernel
theorem d_S_nextAnswerBit_11 : decode prog_3_method_7_code 11 = .ok (.istore_n 1, 1) := by decide +kernel
theorem d_S_nextAnswerBit_12 : decode prog_3_method_7_code 12 = .ok (.aload_n 0, 1) := by decide +kernel
theorem d_S_nextAnswerBit_13 : decode prog_3_method_7_code 13 = .ok (.aload_n 0, 1) := by decide +kernel
theorem d_S_nextAnswerBit_14 : decode prog_3_method_7_code 14 = .ok (.getfield 44, 3) := by decide +kernel
theorem d_S_nextAnswerBit_17 : decode prog_3_method_7_code 17 = .ok (.iconst 1, 1) := by decide +kernel
theorem d_S_nextAnswerBit_18 : decode prog_3_method_7_code 18 = .ok (.iadd, 1) := by decide +kernel
theorem d_S_nextAnswerBit_19 : decode prog_3_method_7_code 19 = .ok (.bipush 11, 2) := by decide +kernel
theorem d_S_nextAnswerBit_21 : decode prog_3_method_7_code 21 = .ok (.if_icmp .ge 12, 3) := by decide +kernel
theorem d_S_nextAnswerBit_24 : decode prog_3_method_7_code 24 = .ok (.aload_n 0, 1) := by decide +kernel
theorem d_S_nextAnswerBit_25 : decode prog_3_method_7_code 25 = .ok (.getfield 44, 3) := by decide +kernel
theorem d_S_nextAnswerBit_28 : decode prog_3_method_7_code 28 = .ok (.iconst 1, 1) := by decide +kernel
theorem d_S_nextAnswerBit_29 : decode prog_3_method_7_code 29 = .ok (.iadd, 1) := by decide +kernel
theorem d_S_nextAnswerBit_30 : decode prog_3_method_7_code 30 = .ok (.goto 4, 3) := by decide +kernel
theorem d_S_nextAnswerBit_33 : decode prog_3_method_7_code 33 = .ok (.iconst (-1), 1) := by decide +kernel
theorem d_S_nextAnswerBit_34 : decode prog_3_method_7_code 34 = .ok (.putfield 44, 3) := by decide +kernel
theorem d_S_nextAnswerBit_37 : decode prog_3_method_7_code 37 = .ok (.iload_n 1, 1) := by decide +kernel
theorem d_S_nextAnswerBit_38 : decode prog_3_method_7_code 38 = .ok (.ireturn, 1) := by decide +kernel
def b_S_nextAnswerBit_34 (post : Option Value → Mm → Prop) : Kk := (i_putI 1 10 (i_iload 1 (i_iret post)))
theorem t_S_nextAnswerBit_34 {Z : Zt} {X0 : Mm} {post : Option Value → Mm → Prop} (g : Good Z prog_3_method_7_code 2 "BusTelegrams$Station" 2) (hq : RetZ Z true X0 0 0 post) (hr : (zM Z).sig.returnType = (some .int)) : Snd Z 2 34 (b_S_nextAnswerBit_34 post) := by
  unfold b_S_nextAnswerBit_34
  exact (s_putI g (c := 1) (j := 10) cok_1 (by decide) rfl rfl rfl mw_123 rfl d_S_nextAnswerBit_34 (s_iload_n g d_S_nextAnswerBit_37 rfl (s_iret0 g hq hr d_S_nextAnswerBit_38)))
def b_S_nextAnswerBit_0 (post : Option Value → Mm → Prop) : Kk := (i_aload 0 (i_getI 1 11 (i_aload 0 (i_getI 1 10 (i_callS 2 w_B_characterBit (i_istore 1 (i_aload 0 (i_aload 0 (i_getI 1 10 (i_push (.int 1) (i_bin (fun x y => x + y) (i_push (.int 11) (i_icmp (fun x y => y ≤ x) (i_push (.int (-1)) (b_S_nextAnswerBit_34 post)) (i_aload 0 (i_getI 1 10 (i_push (.int 1) (i_bin (fun x y => x + y) (b_S_nextAnswerBit_34 post))))))))))))))))))
theorem t_S_nextAnswerBit_0 {Z : Zt} {X0 : Mm} {post : Option Value → Mm → Prop} (g : Good Z prog_3_method_7_code 2 "BusTelegrams$Station" 2) (hq : RetZ Z true X0 0 0 post) (hr : (zM Z).sig.returnType = (some .int)) : Snd Z 2 0 (b_S_nextAnswerBit_0 post) := by
  unfold b_S_nextAnswerBit_0
  exact (s_aload_n g d_S_nextAnswerBit_0 rfl (s_getI g (c := 1) (j := 11) cok_1 (by decide) rfl mw_124 rfl d_S_nextAnswerBit_1 (s_aload_n g d_S_nextAnswerBit_4 rfl (s_getI g (c := 1) (j := 10) cok_1 (by decide) rfl mw_123 rfl d_S_nextAnswerBit_5 (s_callSN g (C_B_characterBit (zl Z)) mn_413 mw_414 mw_1 mw_415 hd_B_characterBit (by decide) (by decide) d_S_nextAnswerBit_8 (s_istore_n g (by decide) d_S_nextAnswerBit_11 rfl (s_aload_n g d_S_nextAnswerBit_12 rfl (s_aload_n g d_S_nextAnswerBit_13 rfl (s_getI g (c := 1) (j := 10) cok_1 (by decide) rfl mw_123 rfl d_S_nextAnswerBit_14 (s_push_iconst g d_S_nextAnswerBit_17 (by decide) (s_iadd g d_S_nextAnswerBit_18 (s_push_bipush g d_S_nextAnswerBit_19 (by decide) (s_icmp_ge g d_S_nextAnswerBit_21 (by decide) (s_push_iconst g d_S_nextAnswerBit_33 (by decide) (t_S_nextAnswerBit_34 g hq hr)) (s_aload_n g d_S_nextAnswerBit_24 rfl (s_getI g (c := 1) (j := 10) cok_1 (by decide) rfl mw_123 rfl d_S_nextAnswerBit_25 (s_push_iconst g d_S_nextAnswerBit_28 (by decide) (s_iadd g d_S_nextAnswerBit_29 (s_goto g d_S_nextAnswerBit_30 (by decide) (t_S_nextAnswerBit_34 g hq hr)))))))))))))))))))
def w_S_nextAnswerBit : Wp := wpOf 2 (fun _ post => b_S_nextAnswerBit_0 post)
theorem C_S_nextAnswerBit (l : Launch) : MetS l ({ cls := "BusTelegrams$Station", name := "nextAnswerBit", desc := "()I" } : Jvm.MethodName) prog_3_method_7_code 2 (some .int) true 2 0 0 w_S_nextAnswerBit := metS_of (by decide +kernel) (fun Z X0 post hZ g hq hr _ => t_S_nextAnswerBit_0 g hq hr)
theorem hd_S_nextAnswerBit : (({ cls := "BusTelegrams$Station", name := "nextAnswerBit", desc := "()I" } : Jvm.MethodName)).cls = "BusTelegrams$Station" ∧ (({ cls := "BusTelegrams$Station", name := "nextAnswerBit", desc := "()I" } : Jvm.MethodName)).cls ≠ "java/lang/invoke/MethodHandle" ∧ (({ cls := "BusTelegrams$Station", name := "nextAnswerBit", desc := "()I" } : Jvm.MethodName)).cls ≠ "java/lang/invoke/VarHandle" ∧ (parseMethodDescriptor (({ cls := "BusTelegrams$Station", name := "nextAnswerBit", desc := "()I" } : Jvm.MethodName)).desc).map (fun d => d.parameters.length) = some 0 := ⟨rfl, by decide, by decide, by decide +kernel⟩
theorem d_T_lineBit_0 : decode prog_4_method_6_code 0 = .ok (.iload_n 1, 1) := by decide +kernel
theorem d_T_lineBit_1 : decode prog_4_method_6_code 1 = .ok (.bipush 13, 2) := by decide +kernel
theorem d_T_lineBit_3 : decode prog_4_method_6_code 3 = .ok (.idiv, 1) := by decide +kernel
theorem d_T_lineBit_4 : decode prog_4_method_6_code 4 = .ok (.istore_n 2, 1) := by decide +kernel
theorem d_T_lineBit_5 : decode prog_4_method_6_code 5 = .ok (.iload_n 1, 1) := by decide +kernel
theorem d_T_lineBit_6 : decode prog_4_method_6_code 6 = .ok (.ifCond .lt 12, 3) := by decide +kernel
theorem d_T_lineBit_9 : decode prog_4_method_6_code 9 = .ok (.iload_n 2, 1) := by decide +kernel
theorem d_T_lineBit_10 : decode prog_4_method_6_code 10 = .ok (.aload_n 0, 1) := by decide +kernel
theorem d_T_lineBit_11 : decode prog_4_method_6_code 11 = .ok (.getfield 9, 3) := by decide +kernel
theorem d_T_lineBit_14 : decode prog_4_method_6_code 14 = .ok (.arraylength, 1) := by decide +kernel
theorem d_T_lineBit_15 : decode prog_4_method_6_code 15 = .ok (.if_icmp .lt 5, 3) := by decide +kernel
theorem d_T_lineBit_18 : decode prog_4_method_6_code 18 = .ok (.iconst 1, 1) := by decide +kernel
theorem d_T_lineBit_19 : decode prog_4_method_6_code 19 = .ok (.ireturn, 1) := by decide +kernel
theorem d_T_lineBit_20 : decode prog_4_method_6_code 20 = .ok (.aload_n 0, 1) := by decide +kernel
theorem d_T_lineBit_21 : decode prog_4_method_6_code 21 = .ok (.getfield 9, 3) := by decide +kernel
theorem d_T_lineBit_24 : decode prog_4_method_6_code 24 = .ok (.iload_n 2, 1) := by decide +kernel
theorem d_T_lineBit_25 : decode prog_4_method_6_code 25 = .ok (.iaload, 1) := by decide +kernel
theorem d_T_lineBit_26 : decode prog_4_method_6_code 26 = .ok (.iload_n 1, 1) := by decide +kernel
theorem d_T_lineBit_27 : decode prog_4_method_6_code 27 = .ok (.bipush 13, 2) := by decide +kernel
theorem d_T_lineBit_29 : decode prog_4_method_6_code 29 = .ok (.irem, 1) := by decide +kernel
theorem d_T_lineBit_30 : decode prog_4_method_6_code 30 = .ok (.invokestatic 34, 3) := by decide +kernel
theorem d_T_lineBit_33 : decode prog_4_method_6_code 33 = .ok (.ireturn, 1) := by decide +kernel
def b_T_lineBit_18 (post : Option Value → Mm → Prop) : Kk := (i_push (.int 1) (i_iret post))
theorem t_T_lineBit_18 {Z : Zt} {X0 : Mm} {post : Option Value → Mm → Prop} (g : Good Z prog_4_method_6_code 3 "BusTelegrams$Telegram" 2) (hq : RetZ Z true X0 0 0 post) (hr : (zM Z).sig.returnType = (some .int)) : Snd Z 3 18 (b_T_lineBit_18 post) := by
  unfold b_T_lineBit_18
  exact (s_push_iconst g d_T_lineBit_18 (by decide) (s_iret0 g hq hr d_T_lineBit_19))
def b_T_lineBit_0 (post : Option Value → Mm → Prop) : Kk := (i_iload 1 (i_push (.int 13) (i_binz (fun x y => x / y) (i_istore 2 (i_iload 1 (i_if (fun x y => x < y) (b_T_lineBit_18 post) (i_iload 2 (i_aload 0 (i_getR 2 0 (i_alen (i_icmp (fun x y => x < y) (i_aload 0 (i_getR 2 0 (i_iload 2 (i_ald 10 (i_iload 1 (i_push (.int 13) (i_binz (fun x y => x - x / y * y) (i_callS 2 w_B_characterBit (i_iret post))))))))) (b_T_lineBit_18 post))))))))))))
theorem t_T_lineBit_0 {Z : Zt} {X0 : Mm} {post : Option Value → Mm → Prop} (g : Good Z prog_4_method_6_code 3 "BusTelegrams$Telegram" 2) (hq : RetZ Z true X0 0 0 post) (hr : (zM Z).sig.returnType = (some .int)) : Snd Z 3 0 (b_T_lineBit_0 post) := by
  unfold b_T_lineBit_0
  exact (s_iload_n g d_T_lineBit_0 rfl (s_push_bipush g d_T_lineBit_1 (by decide) (s_idiv g d_T_lineBit_3 (s_istore_n g (by decide) d_T_lineBit_4 rfl (s_iload_n g d_T_lineBit_5 rfl (s_if_lt g d_T_lineBit_6 (by decide) (t_T_lineBit_18 g hq hr) (s_iload_n g d_T_lineBit_9 rfl (s_aload_n g d_T_lineBit_10 rfl (s_getR g (c := 2) (j := 0) cok_2 (by decide) rfl mw_94 rfl d_T_lineBit_11 (s_alen g d_T_lineBit_14 (s_icmp_lt g d_T_lineBit_15 (by decide) (s_aload_n g d_T_lineBit_20 rfl (s_getR g (c := 2) (j := 0) cok_2 (by decide) rfl mw_94 rfl d_T_lineBit_21 (s_iload_n g d_T_lineBit_24 rfl (s_iald g d_T_lineBit_25 (s_iload_n g d_T_lineBit_26 rfl (s_push_bipush g d_T_lineBit_27 (by decide) (s_irem g d_T_lineBit_29 (s_callSN g (C_B_characterBit (zl Z)) mn_430 mw_414 mw_1 mw_415 hd_B_characterBit (by decide) (by decide) d_T_lineBit_30 (s_iret0 g hq hr d_T_lineBit_33))))))))) (t_T_lineBit_18 g hq hr))))))))))))
def w_T_lineBit : Wp := wpOf 3 (fun _ post => b_T_lineBit_0 post)
theorem C_T_lineBit (l : Launch) : MetS l ({ cls := "BusTelegrams$Telegram", name := "lineBit", desc := "(I)I" } : Jvm.MethodName) prog_4_method_6_code 3 (some .int) true 2 0 0 w_T_lineBit := metS_of (by decide +kernel) (fun Z X0 post hZ g hq hr _ => t_T_lineBit_0 g hq hr)
theorem hd_T_lineBit : (({ cls := "BusTelegrams$Telegram", name := "lineBit", desc := "(I)I" } : Jvm.MethodName)).cls = "BusTelegrams$Telegram" ∧ (({ cls := "BusTelegrams$Telegram", name := "lineBit", desc := "(I)I" } : Jvm.MethodName)).cls ≠ "java/lang/invoke/MethodHandle" ∧ (({ cls := "BusTelegrams$Telegram", name := "lineBit", desc := "(I)I" } : Jvm.MethodName)).cls ≠ "java/lang/invoke/VarHandle" ∧ (parseMethodDescriptor (({ cls := "BusTelegrams$Telegram", name := "lineBit", desc := "(I)I" } : Jvm.MethodName)).desc).map (fun d => d.parameters.length) = some 1 := ⟨rfl, by decide, by decide, by decide +kernel⟩
theorem d_T_countSaying_0 : decode prog_4_method_8_code 0 = .ok (.aload_n 0, 1) := by decide +kernel
theorem d_T_countSaying_1 : decode prog_4_method_8_code 1 = .ok (.dup, 1) := by decide +kernel
theorem d_T_countSaying_2 : decode prog_4_method_8_code 2 = .ok (.getfield 22, 3) := by decide +kernel
theorem d_T_countSaying_5 : decode prog_4_method_8_code 5 = .ok (.iconst 1, 1) := by decide +kernel
theorem d_T_countSaying_6 : decode prog_4_method_8_code 6 = .ok (.iadd, 1) := by decide +kernel
theorem d_T_countSaying_7 : decode prog_4_method_8_code 7 = .ok (.putfield 22, 3) := by decide +kernel
theorem d_T_countSaying_10 : decode prog_4_method_8_code 10 = .ok (.aload_n 0, 1) := by decide +kernel
theorem d_T_countSaying_11 : decode prog_4_method_8_code 11 = .ok (.invokevirtual 37, 3) := by decide +kernel
theorem d_T_countSaying_14 : decode prog_4_method_8_code 14 = .ok (.return_, 1) := by decide +kernel
def b_T_countSaying_0 (post : Option Value → Mm → Prop) : Kk := (i_aload 0 (i_dup (i_getI 2 3 (i_push (.int 1) (i_bin (fun x y => x + y) (i_putI 2 3 (i_aload 0 (i_callV 0 2 w_T_seal (i_vret post)))))))))
theorem t_T_countSaying_0 {Z : Zt} {X0 : Mm} {post : Option Value → Mm → Prop} (g : Good Z prog_4_method_8_code 1 "BusTelegrams$Telegram" 2) (hq : RetZ Z true X0 0 0 post) (hr : (zM Z).sig.returnType = none) : Snd Z 1 0 (b_T_countSaying_0 post) := by
  unfold b_T_countSaying_0
  exact (s_aload_n g d_T_countSaying_0 rfl (s_dup g d_T_countSaying_1 (s_getI g (c := 2) (j := 3) cok_2 (by decide) rfl mw_97 rfl d_T_countSaying_2 (s_push_iconst g d_T_countSaying_5 (by decide) (s_iadd g d_T_countSaying_6 (s_putI g (c := 2) (j := 3) cok_2 (by decide) rfl rfl rfl mw_97 rfl d_T_countSaying_7 (s_aload_n g d_T_countSaying_10 rfl (s_callV g (C_T_seal (zl Z)) (gin_V mw_447 mw_348 mw_349 mw_4 mw_350) hd_T_seal rfl (by decide) (by decide) (by decide) d_T_countSaying_11 (s_vret0 g hq hr d_T_countSaying_14)))))))))
def w_T_countSaying : Wp := wpOf 1 (fun _ post => b_T_countSaying_0 post)
theorem C_T_countSaying (l : Launch) : MetS l ({ cls := "BusTelegrams$Telegram", name := "countSaying", desc := "()V" } : Jvm.MethodName) prog_4_method_8_code 1 none true 2 0 0 w_T_countSaying := metS_of (by decide +kernel) (fun Z X0 post hZ g hq hr _ => t_T_countSaying_0 g hq hr)
theorem hd_T_countSaying : (({ cls := "BusTelegrams$Telegram", name := "countSaying", desc := "()V" } : Jvm.MethodName)).cls = "BusTelegrams$Telegram" ∧ (({ cls := "BusTelegrams$Telegram", name := "countSaying", desc := "()V" } : Jvm.MethodName)).cls ≠ "java/lang/invoke/MethodHandle" ∧ (({ cls := "BusTelegrams$Telegram", name := "countSaying", desc := "()V" } : Jvm.MethodName)).cls ≠ "java/lang/invoke/VarHandle" ∧ (parseMethodDescriptor (({ cls := "BusTelegrams$Telegram", name := "countSaying", desc := "()V" } : Jvm.MethodName)).desc).map (fun d => d.parameters.length) = some 0 := ⟨rfl, by decide, by decide, by decide +kernel⟩
theorem d_E_takeInGap_0 : decode prog_2_method_7_code 0 = .ok (.iload_n 1, 1) := by decide +kernel
theorem d_E_takeInGap_1 : decode prog_2_method_7_code 1 = .ok (.ifCond .ne 16, 3) := by decide +kernel
theorem d_E_takeInGap_4 : decode prog_2_method_7_code 4 = .ok (.aload_n 0, 1) := by decide +kernel
theorem d_E_takeInGap_5 : decode prog_2_method_7_code 5 = .ok (.getfield 25, 3) := by decide +kernel
theorem d_E_takeInGap_8 : decode prog_2_method_7_code 8 = .ok (.iconst 2, 1) := by decide +kernel
theorem d_E_takeInGap_9 : decode prog_2_method_7_code 9 = .ok (.if_icmp .ne 8, 3) := by decide +kernel
theorem d_E_takeInGap_12 : decode prog_2_method_7_code 12 = .ok (.aload_n 0, 1) := by decide +kernel
theorem d_E_takeInGap_13 : decode prog_2_method_7_code 13 = .ok (.invokevirtual 73, 3) := by decide +kernel
theorem d_E_takeInGap_16 : decode prog_2_method_7_code 16 = .ok (.return_, 1) := by decide +kernel
theorem d_E_takeInGap_17 : decode prog_2_method_7_code 17 = .ok (.iload_n 1, 1) := by decide +kernel
theorem d_E_takeInGap_18 : decode prog_2_method_7_code 18 = .ok (.iconst 1, 1) := by decide +kernel
theorem d_E_takeInGap_19 : decode prog_2_method_7_code 19 = .ok (.if_icmp .ne 22, 3) := by decide +kernel
theorem d_E_takeInGap_22 : decode prog_2_method_7_code 22 = .ok (.aload_n 0, 1) := by decide +kernel
theorem d_E_takeInGap_23 : decode prog_2_method_7_code 23 = .ok (.getfield 25, 3) := by decide +kernel
theorem d_E_takeInGap_26 : decode prog_2_method_7_code 26 = .ok (.iconst 2, 1) := by decide +kernel
theorem d_E_takeInGap_27 : decode prog_2_method_7_code 27 = .ok (.if_icmp .ge 14, 3) := by decide +kernel
theorem d_E_takeInGap_30 : decode prog_2_method_7_code 30 = .ok (.aload_n 0, 1) := by decide +kernel
theorem d_E_takeInGap_31 : decode prog_2_method_7_code 31 = .ok (.dup, 1) := by decide +kernel
theorem d_E_takeInGap_32 : decode prog_2_method_7_code 32 = .ok (.getfield 25, 3) := by decide +kernel
theorem d_E_takeInGap_35 : decode prog_2_method_7_code 35 = .ok (.iconst 1, 1) := by decide +kernel
theorem d_E_takeInGap_36 : decode prog_2_method_7_code 36 = .ok (.iadd, 1) := by decide +kernel
theorem d_E_takeInGap_37 : decode prog_2_method_7_code 37 = .ok (.putfield 25, 3) := by decide +kernel
theorem d_E_takeInGap_40 : decode prog_2_method_7_code 40 = .ok (.return_, 1) := by decide +kernel
theorem d_E_takeInGap_41 : decode prog_2_method_7_code 41 = .ok (.aload_n 0, 1) := by decide +kernel
theorem d_E_takeInGap_42 : decode prog_2_method_7_code 42 = .ok (.iconst 0, 1) := by decide +kernel
theorem d_E_takeInGap_43 : decode prog_2_method_7_code 43 = .ok (.putfield 21, 3) := by decide +kernel
theorem d_E_takeInGap_46 : decode prog_2_method_7_code 46 = .ok (.aload_n 0, 1) := by decide +kernel
theorem d_E_takeInGap_47 : decode prog_2_method_7_code 47 = .ok (.invokevirtual 79, 3) := by decide +kernel
theorem d_E_takeInGap_50 : decode prog_2_method_7_code 50 = .ok (.iload_n 1, 1) := by decide +kernel
theorem d_E_takeInGap_51 : decode prog_2_method_7_code 51 = .ok (.ifCond .ne 8, 3) := by decide +kernel
theorem d_E_takeInGap_54 : decode prog_2_method_7_code 54 = .ok (.aload_n 0, 1) := by decide +kernel
theorem d_E_takeInGap_55 : decode prog_2_method_7_code 55 = .ok (.iload_n 2, 1) := by decide +kernel
theorem d_E_takeInGap_56 : decode prog_2_method_7_code 56 = .ok (.invokevirtual 69, 3) := by decide +kernel
theorem d_E_takeInGap_59 : decode prog_2_method_7_code 59 = .ok (.return_, 1) := by decide +kernel
def b_E_takeInGap_59 (post : Option Value → Mm → Prop) : Kk := (i_vret post)
theorem t_E_takeInGap_59 {Z : Zt} {X0 : Mm} {post : Option Value → Mm → Prop} (g : Good Z prog_2_method_7_code 3 "BusTelegrams$Ear" 2) (hq : RetZ Z true X0 0 0 post) (hr : (zM Z).sig.returnType = none) : Snd Z 3 59 (b_E_takeInGap_59 post) := by
  unfold b_E_takeInGap_59
  exact (s_vret0 g hq hr d_E_takeInGap_59)
def b_E_takeInGap_41 (post : Option Value → Mm → Prop) : Kk := (i_aload 0 (i_push (.int 0) (i_putI 0 3 (i_aload 0 (i_callV 0 0 w_E_complete (i_iload 1 (i_if (fun x y => x = y) (i_aload 0 (i_iload 2 (i_callV 1 0 w_E_begin (b_E_takeInGap_59 post)))) (b_E_takeInGap_59 post))))))))
theorem t_E_takeInGap_41 {Z : Zt} {X0 : Mm} {post : Option Value → Mm → Prop} (g : Good Z prog_2_method_7_code 3 "BusTelegrams$Ear" 2) (hq : RetZ Z true X0 0 0 post) (hr : (zM Z).sig.returnType = none) : Snd Z 3 41 (b_E_takeInGap_41 post) := by
  unfold b_E_takeInGap_41
  exact (s_aload_n g d_E_takeInGap_41 rfl (s_push_iconst g d_E_takeInGap_42 (by decide) (s_putI g (c := 0) (j := 3) cok_0 (by decide) rfl rfl rfl mw_32 rfl d_E_takeInGap_43 (s_aload_n g d_E_takeInGap_46 rfl (s_callV g (C_E_complete (zl Z)) (gin_V mw_468 mw_470 ms_11 mw_2 mw_471) hd_E_complete rfl (by decide) (by decide) (by decide) d_E_takeInGap_47 (s_iload_n g d_E_takeInGap_50 rfl (s_if_ne g d_E_takeInGap_51 (by decide) (t_E_takeInGap_59 g hq hr) (s_aload_n g d_E_takeInGap_54 rfl (s_iload_n g d_E_takeInGap_55 rfl (s_callV g (C_E_begin (zl Z)) (gin_V mw_476 mw_478 ms_13 mw_2 mw_479) hd_E_begin rfl (by decide) (by decide) (by decide) d_E_takeInGap_56 (t_E_takeInGap_59 g hq hr)))))))))))
def b_E_takeInGap_17 (post : Option Value → Mm → Prop) : Kk := (i_iload 1 (i_push (.int 1) (i_icmp (fun x y => x = y) (i_aload 0 (i_getI 0 4 (i_push (.int 2) (i_icmp (fun x y => y ≤ x) (b_E_takeInGap_41 post) (i_aload 0 (i_dup (i_getI 0 4 (i_push (.int 1) (i_bin (fun x y => x + y) (i_putI 0 4 (i_vret post))))))))))) (b_E_takeInGap_41 post))))
theorem t_E_takeInGap_17 {Z : Zt} {X0 : Mm} {post : Option Value → Mm → Prop} (g : Good Z prog_2_method_7_code 3 "BusTelegrams$Ear" 2) (hq : RetZ Z true X0 0 0 post) (hr : (zM Z).sig.returnType = none) : Snd Z 3 17 (b_E_takeInGap_17 post) := by
  unfold b_E_takeInGap_17
  exact (s_iload_n g d_E_takeInGap_17 rfl (s_push_iconst g d_E_takeInGap_18 (by decide) (s_icmp_ne g d_E_takeInGap_19 (by decide) (t_E_takeInGap_41 g hq hr) (s_aload_n g d_E_takeInGap_22 rfl (s_getI g (c := 0) (j := 4) cok_0 (by decide) rfl mw_33 rfl d_E_takeInGap_23 (s_push_iconst g d_E_takeInGap_26 (by decide) (s_icmp_ge g d_E_takeInGap_27 (by decide) (t_E_takeInGap_41 g hq hr) (s_aload_n g d_E_takeInGap_30 rfl (s_dup g d_E_takeInGap_31 (s_getI g (c := 0) (j := 4) cok_0 (by decide) rfl mw_33 rfl d_E_takeInGap_32 (s_push_iconst g d_E_takeInGap_35 (by decide) (s_iadd g d_E_takeInGap_36 (s_putI g (c := 0) (j := 4) cok_0 (by decide) rfl rfl rfl mw_33 rfl d_E_takeInGap_37 (s_vret0 g hq hr d_E_takeInGap_40))))))))))))))
def b_E_takeInGap_0 (post : Option Value → Mm → Prop) : Kk := (i_iload 1 (i_if (fun x y => x = y) (i_aload 0 (i_getI 0 4 (i_push (.int 2) (i_icmp (fun x y => x = y) (i_aload 0 (i_callV 0 0 w_E_beginCharacter (i_vret post))) (b_E_takeInGap_17 post))))) (b_E_takeInGap_17 post)))
theorem t_E_takeInGap_0 {Z : Zt} {X0 : Mm} {post : Option Value → Mm → Prop} (g : Good Z prog_2_method_7_code 3 "BusTelegrams$Ear" 2) (hq : RetZ Z true X0 0 0 post) (hr : (zM Z).sig.returnType = none) : Snd Z 3 0 (b_E_takeInGap_0 post) := by
  unfold b_E_takeInGap_0
  exact (s_iload_n g d_E_takeInGap_0 rfl (s_if_ne g d_E_takeInGap_1 (by decide) (t_E_takeInGap_17 g hq hr) (s_aload_n g d_E_takeInGap_4 rfl (s_getI g (c := 0) (j := 4) cok_0 (by decide) rfl mw_33 rfl d_E_takeInGap_5 (s_push_iconst g d_E_takeInGap_8 (by decide) (s_icmp_ne g d_E_takeInGap_9 (by decide) (t_E_takeInGap_17 g hq hr) (s_aload_n g d_E_takeInGap_12 rfl (s_callV g (C_E_beginCharacter (zl Z)) (gin_V mw_464 mw_466 ms_10 mw_2 mw_467) hd_E_beginCharacter rfl (by decide) (by decide) (by decide) d_E_takeInGap_13 (s_vret0 g hq hr d_E_takeInGap_16)))))))))
def w_E_takeInGap : Wp := wpOf 3 (fun _ post => b_E_takeInGap_0 post)
theorem C_E_takeInGap (l : Launch) : MetS l ({ cls := "BusTelegrams$Ear", name := "takeInGap", desc := "(II)V" } : Jvm.MethodName) prog_2_method_7_code 3 none true 2 0 0 w_E_takeInGap := metS_of (by decide +kernel) (fun Z X0 post hZ g hq hr _ => t_E_takeInGap_0 g hq hr)
theorem hd_E_takeInGap : (({ cls := "BusTelegrams$Ear", name := "takeInGap", desc := "(II)V" } : Jvm.MethodName)).cls = "BusTelegrams$Ear" ∧ (({ cls := "BusTelegrams$Ear", name := "takeInGap", desc := "(II)V" } : Jvm.MethodName)).cls ≠ "java/lang/invoke/MethodHandle" ∧ (({ cls := "BusTelegrams$Ear", name := "takeInGap", desc := "(II)V" } : Jvm.MethodName)).cls ≠ "java/lang/invoke/VarHandle" ∧ (parseMethodDescriptor (({ cls := "BusTelegrams$Ear", name := "takeInGap", desc := "(II)V" } : Jvm.MethodName)).desc).map (fun d => d.parameters.length) = some 2 := ⟨rfl, by decide, by decide, by decide +kernel⟩
theorem d_S_endWait_0 : decode prog_3_method_9_code 0 = .ok (.aload_n 0, 1) := by decide +kernel
theorem d_S_endWait_1 : decode prog_3_method_9_code 1 = .ok (.getfield 38, 3) := by decide +kernel
theorem d_S_endWait_4 : decode prog_3_method_9_code 4 = .ok (.ifCond .eq 11, 3) := by decide +kernel
theorem d_S_endWait_7 : decode prog_3_method_9_code 7 = .ok (.iload_n 2, 1) := by decide +kernel
theorem d_S_endWait_8 : decode prog_3_method_9_code 8 = .ok (.aload_n 0, 1) := by decide +kernel
theorem d_S_endWait_9 : decode prog_3_method_9_code 9 = .ok (.getfield 41, 3) := by decide +kernel
theorem d_S_endWait_12 : decode prog_3_method_9_code 12 = .ok (.if_icmp .ge 4, 3) := by decide +kernel
theorem d_S_endWait_15 : decode prog_3_method_9_code 15 = .ok (.return_, 1) := by decide +kernel
theorem d_S_endWait_16 : decode prog_3_method_9_code 16 = .ok (.aload_n 0, 1) := by decide +kernel
theorem d_S_endWait_17 : decode prog_3_method_9_code 17 = .ok (.iconst 0, 1) := by decide +kernel
theorem d_S_endWait_18 : decode prog_3_method_9_code 18 = .ok (.putfield 38, 3) := by decide +kernel
theorem d_S_endWait_21 : decode prog_3_method_9_code 21 = .ok (.iload_n 1, 1) := by decide +kernel
theorem d_S_endWait_22 : decode prog_3_method_9_code 22 = .ok (.ifCond .eq 20, 3) := by decide +kernel
theorem d_S_endWait_25 : decode prog_3_method_9_code 25 = .ok (.aload_n 0, 1) := by decide +kernel
theorem d_S_endWait_26 : decode prog_3_method_9_code 26 = .ok (.dup, 1) := by decide +kernel
theorem d_S_endWait_27 : decode prog_3_method_9_code 27 = .ok (.getfield 50, 3) := by decide +kernel
theorem d_S_endWait_30 : decode prog_3_method_9_code 30 = .ok (.iconst 1, 1) := by decide +kernel
theorem d_S_endWait_31 : decode prog_3_method_9_code 31 = .ok (.iadd, 1) := by decide +kernel
theorem d_S_endWait_32 : decode prog_3_method_9_code 32 = .ok (.putfield 50, 3) := by decide +kernel
theorem d_S_endWait_35 : decode prog_3_method_9_code 35 = .ok (.aload_n 0, 1) := by decide +kernel
theorem d_S_endWait_36 : decode prog_3_method_9_code 36 = .ok (.invokevirtual 93, 3) := by decide +kernel
theorem d_S_endWait_39 : decode prog_3_method_9_code 39 = .ok (.goto 29, 3) := by decide +kernel
theorem d_S_endWait_42 : decode prog_3_method_9_code 42 = .ok (.aload_n 0, 1) := by decide +kernel
theorem d_S_endWait_43 : decode prog_3_method_9_code 43 = .ok (.iconst 0, 1) := by decide +kernel
theorem d_S_endWait_44 : decode prog_3_method_9_code 44 = .ok (.invokevirtual 63, 3) := by decide +kernel
theorem d_S_endWait_47 : decode prog_3_method_9_code 47 = .ok (.getfield 96, 3) := by decide +kernel
theorem d_S_endWait_50 : decode prog_3_method_9_code 50 = .ok (.iconst 4, 1) := by decide +kernel
theorem d_S_endWait_51 : decode prog_3_method_9_code 51 = .ok (.if_icmp .lt 17, 3) := by decide +kernel
theorem d_S_endWait_54 : decode prog_3_method_9_code 54 = .ok (.aload_n 0, 1) := by decide +kernel
theorem d_S_endWait_55 : decode prog_3_method_9_code 55 = .ok (.dup, 1) := by decide +kernel
theorem d_S_endWait_56 : decode prog_3_method_9_code 56 = .ok (.getfield 53, 3) := by decide +kernel
theorem d_S_endWait_59 : decode prog_3_method_9_code 59 = .ok (.iconst 1, 1) := by decide +kernel
theorem d_S_endWait_60 : decode prog_3_method_9_code 60 = .ok (.iadd, 1) := by decide +kernel
theorem d_S_endWait_61 : decode prog_3_method_9_code 61 = .ok (.putfield 53, 3) := by decide +kernel
theorem d_S_endWait_64 : decode prog_3_method_9_code 64 = .ok (.aload_n 0, 1) := by decide +kernel
theorem d_S_endWait_65 : decode prog_3_method_9_code 65 = .ok (.invokevirtual 93, 3) := by decide +kernel
theorem d_S_endWait_68 : decode prog_3_method_9_code 68 = .ok (.return_, 1) := by decide +kernel
def b_S_endWait_15 (post : Option Value → Mm → Prop) : Kk := (i_vret post)
theorem t_S_endWait_15 {Z : Zt} {X0 : Mm} {post : Option Value → Mm → Prop} (g : Good Z prog_3_method_9_code 3 "BusTelegrams$Station" 2) (hq : RetZ Z true X0 0 0 post) (hr : (zM Z).sig.returnType = none) : Snd Z 3 15 (b_S_endWait_15 post) := by
  unfold b_S_endWait_15
  exact (s_vret0 g hq hr d_S_endWait_15)
def b_S_endWait_68 (post : Option Value → Mm → Prop) : Kk := (i_vret post)
theorem t_S_endWait_68 {Z : Zt} {X0 : Mm} {post : Option Value → Mm → Prop} (g : Good Z prog_3_method_9_code 3 "BusTelegrams$Station" 2) (hq : RetZ Z true X0 0 0 post) (hr : (zM Z).sig.returnType = none) : Snd Z 3 68 (b_S_endWait_68 post) := by
  unfold b_S_endWait_68
  exact (s_vret0 g hq hr d_S_endWait_68)
def b_S_endWait_0 (post : Option Value → Mm → Prop) : Kk := (i_aload 0 (i_getI 1 8 (i_if (fun x y => x = y) (b_S_endWait_15 post) (i_iload 2 (i_aload 0 (i_getI 1 9 (i_icmp (fun x y => y ≤ x) (i_aload 0 (i_push (.int 0) (i_putZ 1 8 (i_iload 1 (i_if (fun x y => x = y) (i_aload 0 (i_push (.int 0) (i_callV 1 1 w_S_queueAt (i_getI 2 3 (i_push (.int 4) (i_icmp (fun x y => x < y) (b_S_endWait_68 post) (i_aload 0 (i_dup (i_getI 1 13 (i_push (.int 1) (i_bin (fun x y => x + y) (i_putI 1 13 (i_aload 0 (i_callV 0 1 w_S_removeFirst (b_S_endWait_68 post))))))))))))))) (i_aload 0 (i_dup (i_getI 1 12 (i_push (.int 1) (i_bin (fun x y => x + y) (i_putI 1 12 (i_aload 0 (i_callV 0 1 w_S_removeFirst (b_S_endWait_68 post)))))))))))))) (b_S_endWait_15 post))))))))
theorem t_S_endWait_0 {Z : Zt} {X0 : Mm} {post : Option Value → Mm → Prop} (g : Good Z prog_3_method_9_code 3 "BusTelegrams$Station" 2) (hq : RetZ Z true X0 0 0 post) (hr : (zM Z).sig.returnType = none) : Snd Z 3 0 (b_S_endWait_0 post) := by
  unfold b_S_endWait_0
  exact (s_aload_n g d_S_endWait_0 rfl (s_getI g (c := 1) (j := 8) cok_1 (by decide) rfl mw_121 rfl d_S_endWait_1 (s_if_eq g d_S_endWait_4 (by decide) (t_S_endWait_15 g hq hr) (s_iload_n g d_S_endWait_7 rfl (s_aload_n g d_S_endWait_8 rfl (s_getI g (c := 1) (j := 9) cok_1 (by decide) rfl mw_122 rfl d_S_endWait_9 (s_icmp_ge g d_S_endWait_12 (by decide) (s_aload_n g d_S_endWait_16 rfl (s_push_iconst g d_S_endWait_17 (by decide) (s_putZ g (c := 1) (j := 8) cok_1 (by decide) rfl rfl rfl mw_121 rfl d_S_endWait_18 (s_iload_n g d_S_endWait_21 rfl (s_if_eq g d_S_endWait_22 (by decide) (s_aload_n g d_S_endWait_42 rfl (s_push_iconst g d_S_endWait_43 (by decide) (s_callV g (C_S_queueAt (zl Z)) (gin_V mw_326 mw_328 ms_1 mw_3 mw_329) hd_S_queueAt rfl (by decide) (by decide) (by decide) d_S_endWait_44 (s_getIN g (c := 2) (j := 3) cok_2 (by decide) rfl mn_98 rfl d_S_endWait_47 (s_push_iconst g d_S_endWait_50 (by decide) (s_icmp_lt g d_S_endWait_51 (by decide) (t_S_endWait_68 g hq hr) (s_aload_n g d_S_endWait_54 rfl (s_dup g d_S_endWait_55 (s_getI g (c := 1) (j := 13) cok_1 (by decide) rfl mw_126 rfl d_S_endWait_56 (s_push_iconst g d_S_endWait_59 (by decide) (s_iadd g d_S_endWait_60 (s_putI g (c := 1) (j := 13) cok_1 (by decide) rfl rfl rfl mw_126 rfl d_S_endWait_61 (s_aload_n g d_S_endWait_64 rfl (s_callV g (C_S_removeFirst (zl Z)) (gin_V mw_488 mw_490 ms_14 mw_3 mw_491) hd_S_removeFirst rfl (by decide) (by decide) (by decide) d_S_endWait_65 (t_S_endWait_68 g hq hr))))))))))))))) (s_aload_n g d_S_endWait_25 rfl (s_dup g d_S_endWait_26 (s_getI g (c := 1) (j := 12) cok_1 (by decide) rfl mw_125 rfl d_S_endWait_27 (s_push_iconst g d_S_endWait_30 (by decide) (s_iadd g d_S_endWait_31 (s_putI g (c := 1) (j := 12) cok_1 (by decide) rfl rfl rfl mw_125 rfl d_S_endWait_32 (s_aload_n g d_S_endWait_35 rfl (s_callV g (C_S_removeFirst (zl Z)) (gin_V mw_488 mw_490 ms_14 mw_3 mw_491) hd_S_removeFirst rfl (by decide) (by decide) (by decide) d_S_endWait_36 (s_goto g d_S_endWait_39 (by decide) (t_S_endWait_68 g hq hr))))))))))))))) (t_S_endWait_15 g hq hr))))))))
def w_S_endWait : Wp := wpOf 3 (fun _ post => b_S_endWait_0 post)
theorem C_S_endWait (l : Launch) : MetS l ({ cls := "BusTelegrams$Station", name := "endWait", desc := "(ZI)V" } : Jvm.MethodName) prog_3_method_9_code 3 none true 2 0 0 w_S_endWait := metS_of (by decide +kernel) (fun Z X0 post hZ g hq hr _ => t_S_endWait_0 g hq hr)
theorem hd_S_endWait : (({ cls := "BusTelegrams$Station", name := "endWait", desc := "(ZI)V" } : Jvm.MethodName)).cls = "BusTelegrams$Station" ∧ (({ cls := "BusTelegrams$Station", name := "endWait", desc := "(ZI)V" } : Jvm.MethodName)).cls ≠ "java/lang/invoke/MethodHandle" ∧ (({ cls := "BusTelegrams$Station", name := "endWait", desc := "(ZI)V" } : Jvm.MethodName)).cls ≠ "java/lang/invoke/VarHandle" ∧ (parseMethodDescriptor (({ cls := "BusTelegrams$Station", name := "endWait", desc := "(ZI)V" } : Jvm.MethodName)).desc).map (fun d => d.parameters.length) = some 2 := ⟨rfl, by decide, by decide, by decide +kernel⟩
theorem d_S_nextBit_0 : decode prog_3_method_6_code 0 = .ok (.aload_n 0, 1) := by decide +kernel
theorem d_S_nextBit_1 : decode prog_3_method_6_code 1 = .ok (.getfield 44, 3) := by decide +kernel
theorem d_S_nextBit_4 : decode prog_3_method_6_code 4 = .ok (.iconst (-1), 1) := by decide +kernel
theorem d_S_nextBit_5 : decode prog_3_method_6_code 5 = .ok (.if_icmp .eq 8, 3) := by decide +kernel
theorem d_S_nextBit_8 : decode prog_3_method_6_code 8 = .ok (.aload_n 0, 1) := by decide +kernel
theorem d_S_nextBit_9 : decode prog_3_method_6_code 9 = .ok (.invokevirtual 73, 3) := by decide +kernel
theorem d_S_nextBit_12 : decode prog_3_method_6_code 12 = .ok (.ireturn, 1) := by decide +kernel
theorem d_S_nextBit_13 : decode prog_3_method_6_code 13 = .ok (.aload_n 0, 1) := by decide +kernel
theorem d_S_nextBit_14 : decode prog_3_method_6_code 14 = .ok (.getfield 32, 3) := by decide +kernel
theorem d_S_nextBit_17 : decode prog_3_method_6_code 17 = .ok (.iconst (-1), 1) := by decide +kernel
theorem d_S_nextBit_18 : decode prog_3_method_6_code 18 = .ok (.if_icmp .eq 16, 3) := by decide +kernel
theorem d_S_nextBit_21 : decode prog_3_method_6_code 21 = .ok (.aload_n 0, 1) := by decide +kernel
theorem d_S_nextBit_22 : decode prog_3_method_6_code 22 = .ok (.dup, 1) := by decide +kernel
theorem d_S_nextBit_23 : decode prog_3_method_6_code 23 = .ok (.getfield 32, 3) := by decide +kernel
theorem d_S_nextBit_26 : decode prog_3_method_6_code 26 = .ok (.iconst 1, 1) := by decide +kernel
theorem d_S_nextBit_27 : decode prog_3_method_6_code 27 = .ok (.iadd, 1) := by decide +kernel
theorem d_S_nextBit_28 : decode prog_3_method_6_code 28 = .ok (.putfield 32, 3) := by decide +kernel
theorem d_S_nextBit_31 : decode prog_3_method_6_code 31 = .ok (.goto 34, 3) := by decide +kernel
theorem d_S_nextBit_34 : decode prog_3_method_6_code 34 = .ok (.aload_n 0, 1) := by decide +kernel
theorem d_S_nextBit_35 : decode prog_3_method_6_code 35 = .ok (.getfield 29, 3) := by decide +kernel
theorem d_S_nextBit_38 : decode prog_3_method_6_code 38 = .ok (.ifCond .le 27, 3) := by decide +kernel
theorem d_S_nextBit_41 : decode prog_3_method_6_code 41 = .ok (.aload_n 0, 1) := by decide +kernel
theorem d_S_nextBit_42 : decode prog_3_method_6_code 42 = .ok (.getfield 38, 3) := by decide +kernel
theorem d_S_nextBit_45 : decode prog_3_method_6_code 45 = .ok (.ifCond .ne 20, 3) := by decide +kernel
theorem d_S_nextBit_48 : decode prog_3_method_6_code 48 = .ok (.iload_n 1, 1) := by decide +kernel
theorem d_S_nextBit_49 : decode prog_3_method_6_code 49 = .ok (.aload_n 0, 1) := by decide +kernel
theorem d_S_nextBit_50 : decode prog_3_method_6_code 50 = .ok (.iconst 0, 1) := by decide +kernel
theorem d_S_nextBit_51 : decode prog_3_method_6_code 51 = .ok (.invokevirtual 63, 3) := by decide +kernel
theorem d_S_nextBit_54 : decode prog_3_method_6_code 54 = .ok (.invokevirtual 77, 3) := by decide +kernel
theorem d_S_nextBit_57 : decode prog_3_method_6_code 57 = .ok (.if_icmp .lt 8, 3) := by decide +kernel
theorem d_S_nextBit_60 : decode prog_3_method_6_code 60 = .ok (.aload_n 0, 1) := by decide +kernel
theorem d_S_nextBit_61 : decode prog_3_method_6_code 61 = .ok (.iconst 0, 1) := by decide +kernel
theorem d_S_nextBit_62 : decode prog_3_method_6_code 62 = .ok (.putfield 32, 3) := by decide +kernel
theorem d_S_nextBit_65 : decode prog_3_method_6_code 65 = .ok (.aload_n 0, 1) := by decide +kernel
theorem d_S_nextBit_66 : decode prog_3_method_6_code 66 = .ok (.aload_n 0, 1) := by decide +kernel
theorem d_S_nextBit_67 : decode prog_3_method_6_code 67 = .ok (.getfield 32, 3) := by decide +kernel
theorem d_S_nextBit_70 : decode prog_3_method_6_code 70 = .ok (.iconst (-1), 1) := by decide +kernel
theorem d_S_nextBit_71 : decode prog_3_method_6_code 71 = .ok (.if_icmp .ne 7, 3) := by decide +kernel
theorem d_S_nextBit_74 : decode prog_3_method_6_code 74 = .ok (.iconst 1, 1) := by decide +kernel
theorem d_S_nextBit_75 : decode prog_3_method_6_code 75 = .ok (.goto 15, 3) := by decide +kernel
theorem d_S_nextBit_78 : decode prog_3_method_6_code 78 = .ok (.aload_n 0, 1) := by decide +kernel
theorem d_S_nextBit_79 : decode prog_3_method_6_code 79 = .ok (.iconst 0, 1) := by decide +kernel
theorem d_S_nextBit_80 : decode prog_3_method_6_code 80 = .ok (.invokevirtual 63, 3) := by decide +kernel
theorem d_S_nextBit_83 : decode prog_3_method_6_code 83 = .ok (.aload_n 0, 1) := by decide +kernel
theorem d_S_nextBit_84 : decode prog_3_method_6_code 84 = .ok (.getfield 32, 3) := by decide +kernel
theorem d_S_nextBit_87 : decode prog_3_method_6_code 87 = .ok (.invokevirtual 80, 3) := by decide +kernel
theorem d_S_nextBit_90 : decode prog_3_method_6_code 90 = .ok (.putfield 35, 3) := by decide +kernel
theorem d_S_nextBit_93 : decode prog_3_method_6_code 93 = .ok (.aload_n 0, 1) := by decide +kernel
theorem d_S_nextBit_94 : decode prog_3_method_6_code 94 = .ok (.getfield 35, 3) := by decide +kernel
theorem d_S_nextBit_97 : decode prog_3_method_6_code 97 = .ok (.ireturn, 1) := by decide +kernel
def b_S_nextBit_90 (post : Option Value → Mm → Prop) : Kk := (i_putI 1 7 (i_aload 0 (i_getI 1 7 (i_iret post))))
theorem t_S_nextBit_90 {Z : Zt} {X0 : Mm} {post : Option Value → Mm → Prop} (g : Good Z prog_3_method_6_code 2 "BusTelegrams$Station" 3) (hq : RetZ Z true X0 0 0 post) (hr : (zM Z).sig.returnType = (some .int)) : Snd Z 2 90 (b_S_nextBit_90 post) := by
  unfold b_S_nextBit_90
  exact (s_putI g (c := 1) (j := 7) cok_1 (by decide) rfl rfl rfl mw_120 rfl d_S_nextBit_90 (s_aload_n g d_S_nextBit_93 rfl (s_getI g (c := 1) (j := 7) cok_1 (by decide) rfl mw_120 rfl d_S_nextBit_94 (s_iret0 g hq hr d_S_nextBit_97))))
def b_S_nextBit_65 (post : Option Value → Mm → Prop) : Kk := (i_aload 0 (i_aload 0 (i_getI 1 6 (i_push (.int (-1)) (i_icmp (fun x y => x = y) (i_push (.int 1) (b_S_nextBit_90 post)) (i_aload 0 (i_push (.int 0) (i_callV 1 1 w_S_queueAt (i_aload 0 (i_getI 1 6 (i_callV 1 2 w_T_lineBit (b_S_nextBit_90 post))))))))))))
theorem t_S_nextBit_65 {Z : Zt} {X0 : Mm} {post : Option Value → Mm → Prop} (g : Good Z prog_3_method_6_code 2 "BusTelegrams$Station" 3) (hq : RetZ Z true X0 0 0 post) (hr : (zM Z).sig.returnType = (some .int)) : Snd Z 2 65 (b_S_nextBit_65 post) := by
  unfold b_S_nextBit_65
  exact (s_aload_n g d_S_nextBit_65 rfl (s_aload_n g d_S_nextBit_66 rfl (s_getI g (c := 1) (j := 6) cok_1 (by decide) rfl mw_119 rfl d_S_nextBit_67 (s_push_iconst g d_S_nextBit_70 (by decide) (s_icmp_ne g d_S_nextBit_71 (by decide) (s_aload_n g d_S_nextBit_78 rfl (s_push_iconst g d_S_nextBit_79 (by decide) (s_callV g (C_S_queueAt (zl Z)) (gin_V mw_326 mw_328 ms_1 mw_3 mw_329) hd_S_queueAt rfl (by decide) (by decide) (by decide) d_S_nextBit_80 (s_aload_n g d_S_nextBit_83 rfl (s_getI g (c := 1) (j := 6) cok_1 (by decide) rfl mw_119 rfl d_S_nextBit_84 (s_callV g (C_T_lineBit (zl Z)) (gin_V mw_426 mw_427 mw_428 mw_4 mw_429) hd_T_lineBit rfl (by decide) (by decide) (by decide) d_S_nextBit_87 (t_S_nextBit_90 g hq hr))))))) (s_push_iconst g d_S_nextBit_74 (by decide) (s_goto g d_S_nextBit_75 (by decide) (t_S_nextBit_90 g hq hr))))))))
def b_S_nextBit_0 (post : Option Value → Mm → Prop) : Kk := (i_aload 0 (i_getI 1 10 (i_push (.int (-1)) (i_icmp (fun x y => x = y) (i_aload 0 (i_getI 1 6 (i_push (.int (-1)) (i_icmp (fun x y => x = y) (i_aload 0 (i_getI 1 5 (i_if (fun x y => x ≤ y) (b_S_nextBit_65 post) (i_aload 0 (i_getI 1 8 (i_if (fun x y => x = y) (i_iload 1 (i_aload 0 (i_push (.int 0) (i_callV 1 1 w_S_queueAt (i_callV 0 2 w_T_idleNeeded (i_icmp (fun x y => x < y) (b_S_nextBit_65 post) (i_aload 0 (i_push (.int 0) (i_putI 1 6 (b_S_nextBit_65 post)))))))))) (b_S_nextBit_65 post))))))) (i_aload 0 (i_dup (i_getI 1 6 (i_push (.int 1) (i_bin (fun x y => x + y) (i_putI 1 6 (b_S_nextBit_65 post))))))))))) (i_aload 0 (i_callV 0 1 w_S_nextAnswerBit (i_iret post)))))))
theorem t_S_nextBit_0 {Z : Zt} {X0 : Mm} {post : Option Value → Mm → Prop} (g : Good Z prog_3_method_6_code 2 "BusTelegrams$Station" 3) (hq : RetZ Z true X0 0 0 post) (hr : (zM Z).sig.returnType = (some .int)) : Snd Z 2 0 (b_S_nextBit_0 post) := by
  unfold b_S_nextBit_0
  exact (s_aload_n g d_S_nextBit_0 rfl (s_getI g (c := 1) (j := 10) cok_1 (by decide) rfl mw_123 rfl d_S_nextBit_1 (s_push_iconst g d_S_nextBit_4 (by decide) (s_icmp_eq g d_S_nextBit_5 (by decide) (s_aload_n g d_S_nextBit_13 rfl (s_getI g (c := 1) (j := 6) cok_1 (by decide) rfl mw_119 rfl d_S_nextBit_14 (s_push_iconst g d_S_nextBit_17 (by decide) (s_icmp_eq g d_S_nextBit_18 (by decide) (s_aload_n g d_S_nextBit_34 rfl (s_getI g (c := 1) (j := 5) cok_1 (by decide) rfl mw_117 rfl d_S_nextBit_35 (s_if_le g d_S_nextBit_38 (by decide) (t_S_nextBit_65 g hq hr) (s_aload_n g d_S_nextBit_41 rfl (s_getI g (c := 1) (j := 8) cok_1 (by decide) rfl mw_121 rfl d_S_nextBit_42 (s_if_ne g d_S_nextBit_45 (by decide) (t_S_nextBit_65 g hq hr) (s_iload_n g d_S_nextBit_48 rfl (s_aload_n g d_S_nextBit_49 rfl (s_push_iconst g d_S_nextBit_50 (by decide) (s_callV g (C_S_queueAt (zl Z)) (gin_V mw_326 mw_328 ms_1 mw_3 mw_329) hd_S_queueAt rfl (by decide) (by decide) (by decide) d_S_nextBit_51 (s_callV g (C_T_idleNeeded (zl Z)) (gin_V mw_422 mw_423 mw_424 mw_4 mw_425) hd_T_idleNeeded rfl (by decide) (by decide) (by decide) d_S_nextBit_54 (s_icmp_lt g d_S_nextBit_57 (by decide) (t_S_nextBit_65 g hq hr) (s_aload_n g d_S_nextBit_60 rfl (s_push_iconst g d_S_nextBit_61 (by decide) (s_putI g (c := 1) (j := 6) cok_1 (by decide) rfl rfl rfl mw_119 rfl d_S_nextBit_62 (t_S_nextBit_65 g hq hr)))))))))))))))) (s_aload_n g d_S_nextBit_21 rfl (s_dup g d_S_nextBit_22 (s_getI g (c := 1) (j := 6) cok_1 (by decide) rfl mw_119 rfl d_S_nextBit_23 (s_push_iconst g d_S_nextBit_26 (by decide) (s_iadd g d_S_nextBit_27 (s_putI g (c := 1) (j := 6) cok_1 (by decide) rfl rfl rfl mw_119 rfl d_S_nextBit_28 (s_goto g d_S_nextBit_31 (by decide) (t_S_nextBit_65 g hq hr)))))))))))) (s_aload_n g d_S_nextBit_8 rfl (s_callV g (C_S_nextAnswerBit (zl Z)) (gin_V mw_409 mw_411 ms_5 mw_3 mw_412) hd_S_nextAnswerBit rfl (by decide) (by decide) (by decide) d_S_nextBit_9 (s_iret0 g hq hr d_S_nextBit_12)))))))
def w_S_nextBit : Wp := wpOf 2 (fun _ post => b_S_nextBit_0 post)
theorem C_S_nextBit (l : Launch) : MetS l ({ cls := "BusTelegrams$Station", name := "nextBit", desc := "(I)I" } : Jvm.MethodName) prog_3_method_6_code 2 (some .int) true 3 0 0 w_S_nextBit := metS_of (by decide +kernel) (fun Z X0 post hZ g hq hr _ => t_S_nextBit_0 g hq hr)
theorem hd_S_nextBit : (({ cls := "BusTelegrams$Station", name := "nextBit", desc := "(I)I" } : Jvm.MethodName)).cls = "BusTelegrams$Station" ∧ (({ cls := "BusTelegrams$Station", name := "nextBit", desc := "(I)I" } : Jvm.MethodName)).cls ≠ "java/lang/invoke/MethodHandle" ∧ (({ cls := "BusTelegrams$Station", name := "nextBit", desc := "(I)I" } : Jvm.MethodName)).cls ≠ "java/lang/invoke/VarHandle" ∧ (parseMethodDescriptor (({ cls := "BusTelegrams$Station", name := "nextBit", desc := "(I)I" } : Jvm.MethodName)).desc).map (fun d => d.parameters.length) = some 1 := ⟨rfl, by decide, by decide, by decide +kernel⟩
theorem d_S_seeLine_0 : decode prog_3_method_8_code 0 = .ok (.aload_n 0, 1) := by decide +kernel
theorem d_S_seeLine_1 : decode prog_3_method_8_code 1 = .ok (.getfield 32, 3) := by decide +kernel
theorem d_S_seeLine_4 : decode prog_3_method_8_code 4 = .ok (.iconst (-1), 1) := by decide +kernel
theorem d_S_seeLine_5 : decode prog_3_method_8_code 5 = .ok (.if_icmp .ne 4, 3) := by decide +kernel
theorem d_S_seeLine_8 : decode prog_3_method_8_code 8 = .ok (.return_, 1) := by decide +kernel
theorem d_S_seeLine_9 : decode prog_3_method_8_code 9 = .ok (.aload_n 0, 1) := by decide +kernel
theorem d_S_seeLine_10 : decode prog_3_method_8_code 10 = .ok (.getfield 35, 3) := by decide +kernel
theorem d_S_seeLine_13 : decode prog_3_method_8_code 13 = .ok (.iconst 1, 1) := by decide +kernel
theorem d_S_seeLine_14 : decode prog_3_method_8_code 14 = .ok (.if_icmp .ne 25, 3) := by decide +kernel
theorem d_S_seeLine_17 : decode prog_3_method_8_code 17 = .ok (.iload_n 1, 1) := by decide +kernel
theorem d_S_seeLine_18 : decode prog_3_method_8_code 18 = .ok (.ifCond .ne 21, 3) := by decide +kernel
theorem d_S_seeLine_21 : decode prog_3_method_8_code 21 = .ok (.aload_n 0, 1) := by decide +kernel
theorem d_S_seeLine_22 : decode prog_3_method_8_code 22 = .ok (.iconst (-1), 1) := by decide +kernel
theorem d_S_seeLine_23 : decode prog_3_method_8_code 23 = .ok (.putfield 32, 3) := by decide +kernel
theorem d_S_seeLine_26 : decode prog_3_method_8_code 26 = .ok (.aload_n 0, 1) := by decide +kernel
theorem d_S_seeLine_27 : decode prog_3_method_8_code 27 = .ok (.dup, 1) := by decide +kernel
theorem d_S_seeLine_28 : decode prog_3_method_8_code 28 = .ok (.getfield 56, 3) := by decide +kernel
theorem d_S_seeLine_31 : decode prog_3_method_8_code 31 = .ok (.iconst 1, 1) := by decide +kernel
theorem d_S_seeLine_32 : decode prog_3_method_8_code 32 = .ok (.iadd, 1) := by decide +kernel
theorem d_S_seeLine_33 : decode prog_3_method_8_code 33 = .ok (.putfield 56, 3) := by decide +kernel
theorem d_S_seeLine_36 : decode prog_3_method_8_code 36 = .ok (.goto 46, 3) := by decide +kernel
theorem d_S_seeLine_39 : decode prog_3_method_8_code 39 = .ok (.aload_n 0, 1) := by decide +kernel
theorem d_S_seeLine_40 : decode prog_3_method_8_code 40 = .ok (.getfield 32, 3) := by decide +kernel
theorem d_S_seeLine_43 : decode prog_3_method_8_code 43 = .ok (.iconst 1, 1) := by decide +kernel
theorem d_S_seeLine_44 : decode prog_3_method_8_code 44 = .ok (.iadd, 1) := by decide +kernel
theorem d_S_seeLine_45 : decode prog_3_method_8_code 45 = .ok (.aload_n 0, 1) := by decide +kernel
theorem d_S_seeLine_46 : decode prog_3_method_8_code 46 = .ok (.iconst 0, 1) := by decide +kernel
theorem d_S_seeLine_47 : decode prog_3_method_8_code 47 = .ok (.invokevirtual 63, 3) := by decide +kernel
theorem d_S_seeLine_50 : decode prog_3_method_8_code 50 = .ok (.invokevirtual 87, 3) := by decide +kernel
theorem d_S_seeLine_53 : decode prog_3_method_8_code 53 = .ok (.if_icmp .lt 29, 3) := by decide +kernel
theorem d_S_seeLine_56 : decode prog_3_method_8_code 56 = .ok (.aload_n 0, 1) := by decide +kernel
theorem d_S_seeLine_57 : decode prog_3_method_8_code 57 = .ok (.iconst (-1), 1) := by decide +kernel
theorem d_S_seeLine_58 : decode prog_3_method_8_code 58 = .ok (.putfield 32, 3) := by decide +kernel
theorem d_S_seeLine_61 : decode prog_3_method_8_code 61 = .ok (.aload_n 0, 1) := by decide +kernel
theorem d_S_seeLine_62 : decode prog_3_method_8_code 62 = .ok (.iconst 0, 1) := by decide +kernel
theorem d_S_seeLine_63 : decode prog_3_method_8_code 63 = .ok (.invokevirtual 63, 3) := by decide +kernel
theorem d_S_seeLine_66 : decode prog_3_method_8_code 66 = .ok (.invokevirtual 90, 3) := by decide +kernel
theorem d_S_seeLine_69 : decode prog_3_method_8_code 69 = .ok (.aload_n 0, 1) := by decide +kernel
theorem d_S_seeLine_70 : decode prog_3_method_8_code 70 = .ok (.iconst 1, 1) := by decide +kernel
theorem d_S_seeLine_71 : decode prog_3_method_8_code 71 = .ok (.putfield 38, 3) := by decide +kernel
theorem d_S_seeLine_74 : decode prog_3_method_8_code 74 = .ok (.aload_n 0, 1) := by decide +kernel
theorem d_S_seeLine_75 : decode prog_3_method_8_code 75 = .ok (.iload_n 2, 1) := by decide +kernel
theorem d_S_seeLine_76 : decode prog_3_method_8_code 76 = .ok (.bipush 28, 2) := by decide +kernel
theorem d_S_seeLine_78 : decode prog_3_method_8_code 78 = .ok (.iadd, 1) := by decide +kernel
theorem d_S_seeLine_79 : decode prog_3_method_8_code 79 = .ok (.putfield 41, 3) := by decide +kernel
theorem d_S_seeLine_82 : decode prog_3_method_8_code 82 = .ok (.return_, 1) := by decide +kernel
def b_S_seeLine_82 (post : Option Value → Mm → Prop) : Kk := (i_vret post)
theorem t_S_seeLine_82 {Z : Zt} {X0 : Mm} {post : Option Value → Mm → Prop} (g : Good Z prog_3_method_8_code 3 "BusTelegrams$Station" 3) (hq : RetZ Z true X0 0 0 post) (hr : (zM Z).sig.returnType = none) : Snd Z 3 82 (b_S_seeLine_82 post) := by
  unfold b_S_seeLine_82
  exact (s_vret0 g hq hr d_S_seeLine_82)
def b_S_seeLine_39 (post : Option Value → Mm → Prop) : Kk := (i_aload 0 (i_getI 1 6 (i_push (.int 1) (i_bin (fun x y => x + y) (i_aload 0 (i_push (.int 0) (i_callV 1 1 w_S_queueAt (i_callV 0 2 w_T_bitCount (i_icmp (fun x y => x < y) (b_S_seeLine_82 post) (i_aload 0 (i_push (.int (-1)) (i_putI 1 6 (i_aload 0 (i_push (.int 0) (i_callV 1 1 w_S_queueAt (i_callV 0 2 w_T_countSaying (i_aload 0 (i_push (.int 1) (i_putZ 1 8 (i_aload 0 (i_iload 2 (i_push (.int 28) (i_bin (fun x y => x + y) (i_putI 1 9 (b_S_seeLine_82 post)))))))))))))))))))))))))
theorem t_S_seeLine_39 {Z : Zt} {X0 : Mm} {post : Option Value → Mm → Prop} (g : Good Z prog_3_method_8_code 3 "BusTelegrams$Station" 3) (hq : RetZ Z true X0 0 0 post) (hr : (zM Z).sig.returnType = none) : Snd Z 3 39 (b_S_seeLine_39 post) := by
  unfold b_S_seeLine_39
  exact (s_aload_n g d_S_seeLine_39 rfl (s_getI g (c := 1) (j := 6) cok_1 (by decide) rfl mw_119 rfl d_S_seeLine_40 (s_push_iconst g d_S_seeLine_43 (by decide) (s_iadd g d_S_seeLine_44 (s_aload_n g d_S_seeLine_45 rfl (s_push_iconst g d_S_seeLine_46 (by decide) (s_callV g (C_S_queueAt (zl Z)) (gin_V mw_326 mw_328 ms_1 mw_3 mw_329) hd_S_queueAt rfl (by decide) (by decide) (by decide) d_S_seeLine_47 (s_callV g (C_T_bitCount (zl Z)) (gin_V mw_439 mw_440 mw_441 mw_4 mw_442) hd_T_bitCount rfl (by decide) (by decide) (by decide) d_S_seeLine_50 (s_icmp_lt g d_S_seeLine_53 (by decide) (t_S_seeLine_82 g hq hr) (s_aload_n g d_S_seeLine_56 rfl (s_push_iconst g d_S_seeLine_57 (by decide) (s_putI g (c := 1) (j := 6) cok_1 (by decide) rfl rfl rfl mw_119 rfl d_S_seeLine_58 (s_aload_n g d_S_seeLine_61 rfl (s_push_iconst g d_S_seeLine_62 (by decide) (s_callV g (C_S_queueAt (zl Z)) (gin_V mw_326 mw_328 ms_1 mw_3 mw_329) hd_S_queueAt rfl (by decide) (by decide) (by decide) d_S_seeLine_63 (s_callV g (C_T_countSaying (zl Z)) (gin_V mw_443 mw_444 mw_445 mw_4 mw_446) hd_T_countSaying rfl (by decide) (by decide) (by decide) d_S_seeLine_66 (s_aload_n g d_S_seeLine_69 rfl (s_push_iconst g d_S_seeLine_70 (by decide) (s_putZ g (c := 1) (j := 8) cok_1 (by decide) rfl rfl rfl mw_121 rfl d_S_seeLine_71 (s_aload_n g d_S_seeLine_74 rfl (s_iload_n g d_S_seeLine_75 rfl (s_push_bipush g d_S_seeLine_76 (by decide) (s_iadd g d_S_seeLine_78 (s_putI g (c := 1) (j := 9) cok_1 (by decide) rfl rfl rfl mw_122 rfl d_S_seeLine_79 (t_S_seeLine_82 g hq hr)))))))))))))))))))))))))
def b_S_seeLine_0 (post : Option Value → Mm → Prop) : Kk := (i_aload 0 (i_getI 1 6 (i_push (.int (-1)) (i_icmp (fun x y => x = y) (i_vret post) (i_aload 0 (i_getI 1 7 (i_push (.int 1) (i_icmp (fun x y => x = y) (i_iload 1 (i_if (fun x y => x = y) (i_aload 0 (i_push (.int (-1)) (i_putI 1 6 (i_aload 0 (i_dup (i_getI 1 14 (i_push (.int 1) (i_bin (fun x y => x + y) (i_putI 1 14 (b_S_seeLine_82 post)))))))))) (b_S_seeLine_39 post))) (b_S_seeLine_39 post)))))))))
theorem t_S_seeLine_0 {Z : Zt} {X0 : Mm} {post : Option Value → Mm → Prop} (g : Good Z prog_3_method_8_code 3 "BusTelegrams$Station" 3) (hq : RetZ Z true X0 0 0 post) (hr : (zM Z).sig.returnType = none) : Snd Z 3 0 (b_S_seeLine_0 post) := by
  unfold b_S_seeLine_0
  exact (s_aload_n g d_S_seeLine_0 rfl (s_getI g (c := 1) (j := 6) cok_1 (by decide) rfl mw_119 rfl d_S_seeLine_1 (s_push_iconst g d_S_seeLine_4 (by decide) (s_icmp_ne g d_S_seeLine_5 (by decide) (s_aload_n g d_S_seeLine_9 rfl (s_getI g (c := 1) (j := 7) cok_1 (by decide) rfl mw_120 rfl d_S_seeLine_10 (s_push_iconst g d_S_seeLine_13 (by decide) (s_icmp_ne g d_S_seeLine_14 (by decide) (t_S_seeLine_39 g hq hr) (s_iload_n g d_S_seeLine_17 rfl (s_if_ne g d_S_seeLine_18 (by decide) (t_S_seeLine_39 g hq hr) (s_aload_n g d_S_seeLine_21 rfl (s_push_iconst g d_S_seeLine_22 (by decide) (s_putI g (c := 1) (j := 6) cok_1 (by decide) rfl rfl rfl mw_119 rfl d_S_seeLine_23 (s_aload_n g d_S_seeLine_26 rfl (s_dup g d_S_seeLine_27 (s_getI g (c := 1) (j := 14) cok_1 (by decide) rfl mw_127 rfl d_S_seeLine_28 (s_push_iconst g d_S_seeLine_31 (by decide) (s_iadd g d_S_seeLine_32 (s_putI g (c := 1) (j := 14) cok_1 (by decide) rfl rfl rfl mw_127 rfl d_S_seeLine_33 (s_goto g d_S_seeLine_36 (by decide) (t_S_seeLine_82 g hq hr))))))))))))))))) (s_vret0 g hq hr d_S_seeLine_8)))))
def w_S_seeLine : Wp := wpOf 3 (fun _ post => b_S_seeLine_0 post)
theorem C_S_seeLine (l : Launch) : MetS l ({ cls := "BusTelegrams$Station", name := "seeLine", desc := "(II)V" } : Jvm.MethodName) prog_3_method_8_code 3 none true 3 0 0 w_S_seeLine := metS_of (by decide +kernel) (fun Z X0 post hZ g hq hr _ => t_S_seeLine_0 g hq hr)
theorem hd_S_seeLine : (({ cls := "BusTelegrams$Station", name := "seeLine", desc := "(II)V" } : Jvm.MethodName)).cls = "BusTelegrams$Station" ∧ (({ cls := "BusTelegrams$Station", name := "seeLine", desc := "(II)V" } : Jvm.MethodName)).cls ≠ "java/lang/invoke/MethodHandle" ∧ (({ cls := "BusTelegrams$Station", name := "seeLine", desc := "(II)V" } : Jvm.MethodName)).cls ≠ "java/lang/invoke/VarHandle" ∧ (parseMethodDescriptor (({ cls := "BusTelegrams$Station", name := "seeLine", desc := "(II)V" } : Jvm.MethodName)).desc).map (fun d => d.parameters.length) = some 2 := ⟨rfl, by decide, by decide, by decide +kernel⟩
theorem d_E_take_0 : decode prog_2_method_2_code 0 = .ok (.aload_n 0, 1) := by decide +kernel
theorem d_E_take_1 : decode prog_2_method_2_code 1 = .ok (.getfield 21, 3) := by decide +kernel
theorem d_E_take_4 : decode prog_2_method_2_code 4 = .ok (.iconst 1, 1) := by decide +kernel
theorem d_E_take_5 : decode prog_2_method_2_code 5 = .ok (.if_icmp .ne 12, 3) := by decide +kernel
theorem d_E_take_8 : decode prog_2_method_2_code 8 = .ok (.aload_n 0, 1) := by decide +kernel
theorem d_E_take_9 : decode prog_2_method_2_code 9 = .ok (.iload_n 1, 1) := by decide +kernel
theorem d_E_take_10 : decode prog_2_method_2_code 10 = .ok (.iload_n 2, 1) := by decide +kernel
theorem d_E_take_11 : decode prog_2_method_2_code 11 = .ok (.invokevirtual 62, 3) := by decide +kernel
theorem d_E_take_14 : decode prog_2_method_2_code 14 = .ok (.goto 29, 3) := by decide +kernel
theorem d_E_take_17 : decode prog_2_method_2_code 17 = .ok (.aload_n 0, 1) := by decide +kernel
theorem d_E_take_18 : decode prog_2_method_2_code 18 = .ok (.getfield 21, 3) := by decide +kernel
theorem d_E_take_21 : decode prog_2_method_2_code 21 = .ok (.iconst 2, 1) := by decide +kernel
theorem d_E_take_22 : decode prog_2_method_2_code 22 = .ok (.if_icmp .ne 12, 3) := by decide +kernel
theorem d_E_take_25 : decode prog_2_method_2_code 25 = .ok (.aload_n 0, 1) := by decide +kernel
theorem d_E_take_26 : decode prog_2_method_2_code 26 = .ok (.iload_n 1, 1) := by decide +kernel
theorem d_E_take_27 : decode prog_2_method_2_code 27 = .ok (.iload_n 2, 1) := by decide +kernel
theorem d_E_take_28 : decode prog_2_method_2_code 28 = .ok (.invokevirtual 66, 3) := by decide +kernel
theorem d_E_take_31 : decode prog_2_method_2_code 31 = .ok (.goto 12, 3) := by decide +kernel
theorem d_E_take_34 : decode prog_2_method_2_code 34 = .ok (.iload_n 1, 1) := by decide +kernel
theorem d_E_take_35 : decode prog_2_method_2_code 35 = .ok (.ifCond .ne 8, 3) := by decide +kernel
theorem d_E_take_38 : decode prog_2_method_2_code 38 = .ok (.aload_n 0, 1) := by decide +kernel
theorem d_E_take_39 : decode prog_2_method_2_code 39 = .ok (.iload_n 2, 1) := by decide +kernel
theorem d_E_take_40 : decode prog_2_method_2_code 40 = .ok (.invokevirtual 69, 3) := by decide +kernel
theorem d_E_take_43 : decode prog_2_method_2_code 43 = .ok (.return_, 1) := by decide +kernel
def b_E_take_43 (post : Option Value → Mm → Prop) : Kk := (i_vret post)
theorem t_E_take_43 {Z : Zt} {X0 : Mm} {post : Option Value → Mm → Prop} (g : Good Z prog_2_method_2_code 3 "BusTelegrams$Ear" 3) (hq : RetZ Z true X0 0 0 post) (hr : (zM Z).sig.returnType = none) : Snd Z 3 43 (b_E_take_43 post) := by
  unfold b_E_take_43
  exact (s_vret0 g hq hr d_E_take_43)
def b_E_take_0 (post : Option Value → Mm → Prop) : Kk := (i_aload 0 (i_getI 0 3 (i_push (.int 1) (i_icmp (fun x y => x = y) (i_aload 0 (i_iload 1 (i_iload 2 (i_callV 2 0 w_E_takeInCharacter (b_E_take_43 post))))) (i_aload 0 (i_getI 0 3 (i_push (.int 2) (i_icmp (fun x y => x = y) (i_aload 0 (i_iload 1 (i_iload 2 (i_callV 2 0 w_E_takeInGap (b_E_take_43 post))))) (i_iload 1 (i_if (fun x y => x = y) (i_aload 0 (i_iload 2 (i_callV 1 0 w_E_begin (b_E_take_43 post)))) (b_E_take_43 post)))))))))))
theorem t_E_take_0 {Z : Zt} {X0 : Mm} {post : Option Value → Mm → Prop} (g : Good Z prog_2_method_2_code 3 "BusTelegrams$Ear" 3) (hq : RetZ Z true X0 0 0 post) (hr : (zM Z).sig.returnType = none) : Snd Z 3 0 (b_E_take_0 post) := by
  unfold b_E_take_0
  exact (s_aload_n g d_E_take_0 rfl (s_getI g (c := 0) (j := 3) cok_0 (by decide) rfl mw_32 rfl d_E_take_1 (s_push_iconst g d_E_take_4 (by decide) (s_icmp_ne g d_E_take_5 (by decide) (s_aload_n g d_E_take_17 rfl (s_getI g (c := 0) (j := 3) cok_0 (by decide) rfl mw_32 rfl d_E_take_18 (s_push_iconst g d_E_take_21 (by decide) (s_icmp_ne g d_E_take_22 (by decide) (s_iload_n g d_E_take_34 rfl (s_if_ne g d_E_take_35 (by decide) (t_E_take_43 g hq hr) (s_aload_n g d_E_take_38 rfl (s_iload_n g d_E_take_39 rfl (s_callV g (C_E_begin (zl Z)) (gin_V mw_476 mw_478 ms_13 mw_2 mw_479) hd_E_begin rfl (by decide) (by decide) (by decide) d_E_take_40 (t_E_take_43 g hq hr)))))) (s_aload_n g d_E_take_25 rfl (s_iload_n g d_E_take_26 rfl (s_iload_n g d_E_take_27 rfl (s_callV g (C_E_takeInGap (zl Z)) (gin_V mw_460 mw_462 ms_9 mw_2 mw_463) hd_E_takeInGap rfl (by decide) (by decide) (by decide) d_E_take_28 (s_goto g d_E_take_31 (by decide) (t_E_take_43 g hq hr)))))))))) (s_aload_n g d_E_take_8 rfl (s_iload_n g d_E_take_9 rfl (s_iload_n g d_E_take_10 rfl (s_callV g (C_E_takeInCharacter (zl Z)) (gin_V mw_452 mw_454 ms_7 mw_2 mw_455) hd_E_takeInCharacter rfl (by decide) (by decide) (by decide) d_E_take_11 (s_goto g d_E_take_14 (by decide) (t_E_take_43 g hq hr))))))))))
def w_E_take : Wp := wpOf 3 (fun _ post => b_E_take_0 post)
theorem C_E_take (l : Launch) : MetS l ({ cls := "BusTelegrams$Ear", name := "take", desc := "(II)V" } : Jvm.MethodName) prog_2_method_2_code 3 none true 3 0 0 w_E_take := metS_of (by decide +kernel) (fun Z X0 post hZ g hq hr _ => t_E_take_0 g hq hr)
theorem hd_E_take : (({ cls := "BusTelegrams$Ear", name := "take", desc := "(II)V" } : Jvm.MethodName)).cls = "BusTelegrams$Ear" ∧ (({ cls := "BusTelegrams$Ear", name := "take", desc := "(II)V" } : Jvm.MethodName)).cls ≠ "java/lang/invoke/MethodHandle" ∧ (({ cls := "BusTelegrams$Ear", name := "take", desc := "(II)V" } : Jvm.MethodName)).cls ≠ "java/lang/invoke/VarHandle" ∧ (parseMethodDescriptor (({ cls := "BusTelegrams$Ear", name := "take", desc := "(II)V" } : Jvm.MethodName)).desc).map (fun d => d.parameters.length) = some 2 := ⟨rfl, by decide, by decide, by decide +kernel⟩
theorem d_B_sentByAll_0 : decode prog_1_method_23_code 0 = .ok (.iconst 1, 1) := by decide +kernel
theorem d_B_sentByAll_1 : decode prog_1_method_23_code 1 = .ok (.istore_n 1, 1) := by decide +kernel
theorem d_B_sentByAll_2 : decode prog_1_method_23_code 2 = .ok (.iconst 0, 1) := by decide +kernel
theorem d_B_sentByAll_3 : decode prog_1_method_23_code 3 = .ok (.istore_n 2, 1) := by decide +kernel
theorem d_B_sentByAll_4 : decode prog_1_method_23_code 4 = .ok (.iload_n 2, 1) := by decide +kernel
theorem d_B_sentByAll_5 : decode prog_1_method_23_code 5 = .ok (.bipush 8, 2) := by decide +kernel
theorem d_B_sentByAll_7 : decode prog_1_method_23_code 7 = .ok (.if_icmp .ge 25, 3) := by decide +kernel
theorem d_B_sentByAll_10 : decode prog_1_method_23_code 10 = .ok (.iload_n 1, 1) := by decide +kernel
theorem d_B_sentByAll_11 : decode prog_1_method_23_code 11 = .ok (.aload_n 0, 1) := by decide +kernel
theorem d_B_sentByAll_12 : decode prog_1_method_23_code 12 = .ok (.getfield 11, 3) := by decide +kernel
theorem d_B_sentByAll_15 : decode prog_1_method_23_code 15 = .ok (.iload_n 2, 1) := by decide +kernel
theorem d_B_sentByAll_16 : decode prog_1_method_23_code 16 = .ok (.aaload, 1) := by decide +kernel
theorem d_B_sentByAll_17 : decode prog_1_method_23_code 17 = .ok (.aload_n 0, 1) := by decide +kernel
theorem d_B_sentByAll_18 : decode prog_1_method_23_code 18 = .ok (.getfield 37, 3) := by decide +kernel
theorem d_B_sentByAll_21 : decode prog_1_method_23_code 21 = .ok (.invokevirtual 212, 3) := by decide +kernel
theorem d_B_sentByAll_24 : decode prog_1_method_23_code 24 = .ok (.iand, 1) := by decide +kernel
theorem d_B_sentByAll_25 : decode prog_1_method_23_code 25 = .ok (.istore_n 1, 1) := by decide +kernel
theorem d_B_sentByAll_26 : decode prog_1_method_23_code 26 = .ok (.iinc 2 1, 3) := by decide +kernel
theorem d_B_sentByAll_29 : decode prog_1_method_23_code 29 = .ok (.goto (-25), 3) := by decide +kernel
theorem d_B_sentByAll_32 : decode prog_1_method_23_code 32 = .ok (.iload_n 1, 1) := by decide +kernel
theorem d_B_sentByAll_33 : decode prog_1_method_23_code 33 = .ok (.ireturn, 1) := by decide +kernel
def f_B_sentByAll_4 (post : Option Value → Mm → Prop) (k4 : Kk) : Kk := (i_iload 2 (i_push (.int 8) (i_icmp (fun x y => y ≤ x) (i_iload 1 (i_iret post)) (i_iload 1 (i_aload 0 (i_getR 3 0 (i_iload 2 (i_aald 12 (i_aload 0 (i_getI 3 6 (i_callV 1 1 w_S_nextBit (i_bin (fun x y => x &&& y) (i_istore 1 (i_iinc 2 1 k4))))))))))))))
def b_B_sentByAll_4 (post : Option Value → Mm → Prop) : Kk := i_loop [0, 1, 2] (f_B_sentByAll_4 post)
theorem t_B_sentByAll_4 {Z : Zt} {X0 : Mm} {post : Option Value → Mm → Prop} (g : Good Z prog_1_method_23_code 3 "BusTelegrams" 4) (hq : RetZ Z true X0 0 0 post) (hr : (zM Z).sig.returnType = (some .int)) : Snd Z 3 4 (b_B_sentByAll_4 post) := by
  unfold b_B_sentByAll_4
  exact s_loop (fun k4 hk4 => by unfold f_B_sentByAll_4; exact (s_iload_n g d_B_sentByAll_4 rfl (s_push_bipush g d_B_sentByAll_5 (by decide) (s_icmp_ge g d_B_sentByAll_7 (by decide) (s_iload_n g d_B_sentByAll_32 rfl (s_iret0 g hq hr d_B_sentByAll_33)) (s_iload_n g d_B_sentByAll_10 rfl (s_aload_n g d_B_sentByAll_11 rfl (s_getR g (c := 3) (j := 0) cok_3 (by decide) rfl mw_159 rfl d_B_sentByAll_12 (s_iload_n g d_B_sentByAll_15 rfl (s_aald12 g d_B_sentByAll_16 (s_aload_n g d_B_sentByAll_17 rfl (s_getI g (c := 3) (j := 6) cok_3 (by decide) rfl mw_165 rfl d_B_sentByAll_18 (s_callV g (C_S_nextBit (zl Z)) (gin_V mw_405 mw_406 mw_407 mw_3 mw_408) hd_S_nextBit rfl (by decide) (by decide) (by decide) d_B_sentByAll_21 (s_iand g d_B_sentByAll_24 (s_istore_n g (by decide) d_B_sentByAll_25 rfl (s_iinc g (by decide) d_B_sentByAll_26 (by decide) (s_goto g d_B_sentByAll_29 (by decide) hk4))))))))))))))))
def b_B_sentByAll_0 (post : Option Value → Mm → Prop) : Kk := (i_push (.int 1) (i_istore 1 (i_push (.int 0) (i_istore 2 (b_B_sentByAll_4 post)))))
theorem t_B_sentByAll_0 {Z : Zt} {X0 : Mm} {post : Option Value → Mm → Prop} (g : Good Z prog_1_method_23_code 3 "BusTelegrams" 4) (hq : RetZ Z true X0 0 0 post) (hr : (zM Z).sig.returnType = (some .int)) : Snd Z 3 0 (b_B_sentByAll_0 post) := by
  unfold b_B_sentByAll_0
  exact (s_push_iconst g d_B_sentByAll_0 (by decide) (s_istore_n g (by decide) d_B_sentByAll_1 rfl (s_push_iconst g d_B_sentByAll_2 (by decide) (s_istore_n g (by decide) d_B_sentByAll_3 rfl (t_B_sentByAll_4 g hq hr)))))
def w_B_sentByAll : Wp := wpOf 3 (fun _ post => b_B_sentByAll_0 post)
theorem C_B_sentByAll (l : Launch) : MetS l ({ cls := "BusTelegrams", name := "sentByAll", desc := "()I" } : Jvm.MethodName) prog_1_method_23_code 3 (some .int) true 4 0 0 w_B_sentByAll := metS_of (by decide +kernel) (fun Z X0 post hZ g hq hr _ => t_B_sentByAll_0 g hq hr)
theorem hd_B_sentByAll : (({ cls := "BusTelegrams", name := "sentByAll", desc := "()I" } : Jvm.MethodName)).cls = "BusTelegrams" ∧ (({ cls := "BusTelegrams", name := "sentByAll", desc := "()I" } : Jvm.MethodName)).cls ≠ "java/lang/invoke/MethodHandle" ∧ (({ cls := "BusTelegrams", name := "sentByAll", desc := "()I" } : Jvm.MethodName)).cls ≠ "java/lang/invoke/VarHandle" ∧ (parseMethodDescriptor (({ cls := "BusTelegrams", name := "sentByAll", desc := "()I" } : Jvm.MethodName)).desc).map (fun d => d.parameters.length) = some 0 := ⟨rfl, by decide, by decide, by decide +kernel⟩
theorem d_B_passBitTime_0 : decode prog_1_method_21_code 0 = .ok (.aload_n 0, 1) := by decide +kernel
theorem d_B_passBitTime_1 : decode prog_1_method_21_code 1 = .ok (.dup, 1) := by decide +kernel
theorem d_B_passBitTime_2 : decode prog_1_method_21_code 2 = .ok (.getfield 34, 3) := by decide +kernel
theorem d_B_passBitTime_5 : decode prog_1_method_21_code 5 = .ok (.iconst 1, 1) := by decide +kernel
theorem d_B_passBitTime_6 : decode prog_1_method_21_code 6 = .ok (.iadd, 1) := by decide +kernel
theorem d_B_passBitTime_7 : decode prog_1_method_21_code 7 = .ok (.putfield 34, 3) := by decide +kernel
theorem d_B_passBitTime_10 : decode prog_1_method_21_code 10 = .ok (.aload_n 0, 1) := by decide +kernel
theorem d_B_passBitTime_11 : decode prog_1_method_21_code 11 = .ok (.invokevirtual 166, 3) := by decide +kernel
theorem d_B_passBitTime_14 : decode prog_1_method_21_code 14 = .ok (.aload_n 0, 1) := by decide +kernel
theorem d_B_passBitTime_15 : decode prog_1_method_21_code 15 = .ok (.invokevirtual 169, 3) := by decide +kernel
theorem d_B_passBitTime_18 : decode prog_1_method_21_code 18 = .ok (.istore_n 1, 1) := by decide +kernel
theorem d_B_passBitTime_19 : decode prog_1_method_21_code 19 = .ok (.aload_n 0, 1) := by decide +kernel
theorem d_B_passBitTime_20 : decode prog_1_method_21_code 20 = .ok (.invokevirtual 173, 3) := by decide +kernel
theorem d_B_passBitTime_23 : decode prog_1_method_21_code 23 = .ok (.ifCond .eq 5, 3) := by decide +kernel
theorem d_B_passBitTime_26 : decode prog_1_method_21_code 26 = .ok (.iconst 0, 1) := by decide +kernel
theorem d_B_passBitTime_27 : decode prog_1_method_21_code 27 = .ok (.istore_n 1, 1) := by decide +kernel
theorem d_B_passBitTime_28 : decode prog_1_method_21_code 28 = .ok (.iconst 0, 1) := by decide +kernel
theorem d_B_passBitTime_29 : decode prog_1_method_21_code 29 = .ok (.istore_n 2, 1) := by decide +kernel
theorem d_B_passBitTime_30 : decode prog_1_method_21_code 30 = .ok (.iload_n 2, 1) := by decide +kernel
theorem d_B_passBitTime_31 : decode prog_1_method_21_code 31 = .ok (.bipush 8, 2) := by decide +kernel
theorem d_B_passBitTime_33 : decode prog_1_method_21_code 33 = .ok (.if_icmp .ge 23, 3) := by decide +kernel
theorem d_B_passBitTime_36 : decode prog_1_method_21_code 36 = .ok (.aload_n 0, 1) := by decide +kernel
theorem d_B_passBitTime_37 : decode prog_1_method_21_code 37 = .ok (.getfield 11, 3) := by decide +kernel
theorem d_B_passBitTime_40 : decode prog_1_method_21_code 40 = .ok (.iload_n 2, 1) := by decide +kernel
theorem d_B_passBitTime_41 : decode prog_1_method_21_code 41 = .ok (.aaload, 1) := by decide +kernel
theorem d_B_passBitTime_42 : decode prog_1_method_21_code 42 = .ok (.iload_n 1, 1) := by decide +kernel
theorem d_B_passBitTime_43 : decode prog_1_method_21_code 43 = .ok (.aload_n 0, 1) := by decide +kernel
theorem d_B_passBitTime_44 : decode prog_1_method_21_code 44 = .ok (.getfield 34, 3) := by decide +kernel
theorem d_B_passBitTime_47 : decode prog_1_method_21_code 47 = .ok (.invokevirtual 177, 3) := by decide +kernel
theorem d_B_passBitTime_50 : decode prog_1_method_21_code 50 = .ok (.iinc 2 1, 3) := by decide +kernel
theorem d_B_passBitTime_53 : decode prog_1_method_21_code 53 = .ok (.goto (-23), 3) := by decide +kernel
theorem d_B_passBitTime_56 : decode prog_1_method_21_code 56 = .ok (.aload_n 0, 1) := by decide +kernel
theorem d_B_passBitTime_57 : decode prog_1_method_21_code 57 = .ok (.getfield 18, 3) := by decide +kernel
theorem d_B_passBitTime_60 : decode prog_1_method_21_code 60 = .ok (.iload_n 1, 1) := by decide +kernel
theorem d_B_passBitTime_61 : decode prog_1_method_21_code 61 = .ok (.aload_n 0, 1) := by decide +kernel
theorem d_B_passBitTime_62 : decode prog_1_method_21_code 62 = .ok (.getfield 34, 3) := by decide +kernel
theorem d_B_passBitTime_65 : decode prog_1_method_21_code 65 = .ok (.invokevirtual 181, 3) := by decide +kernel
theorem d_B_passBitTime_68 : decode prog_1_method_21_code 68 = .ok (.aload_n 0, 1) := by decide +kernel
theorem d_B_passBitTime_69 : decode prog_1_method_21_code 69 = .ok (.getfield 18, 3) := by decide +kernel
theorem d_B_passBitTime_72 : decode prog_1_method_21_code 72 = .ok (.aload_n 0, 1) := by decide +kernel
theorem d_B_passBitTime_73 : decode prog_1_method_21_code 73 = .ok (.getfield 34, 3) := by decide +kernel
theorem d_B_passBitTime_76 : decode prog_1_method_21_code 76 = .ok (.invokevirtual 184, 3) := by decide +kernel
theorem d_B_passBitTime_79 : decode prog_1_method_21_code 79 = .ok (.istore_n 2, 1) := by decide +kernel
theorem d_B_passBitTime_80 : decode prog_1_method_21_code 80 = .ok (.iconst 0, 1) := by decide +kernel
theorem d_B_passBitTime_81 : decode prog_1_method_21_code 81 = .ok (.istore_n 3, 1) := by decide +kernel
theorem d_B_passBitTime_82 : decode prog_1_method_21_code 82 = .ok (.iload_n 3, 1) := by decide +kernel
theorem d_B_passBitTime_83 : decode prog_1_method_21_code 83 = .ok (.bipush 8, 2) := by decide +kernel
theorem d_B_passBitTime_85 : decode prog_1_method_21_code 85 = .ok (.if_icmp .ge 23, 3) := by decide +kernel
theorem d_B_passBitTime_88 : decode prog_1_method_21_code 88 = .ok (.aload_n 0, 1) := by decide +kernel
theorem d_B_passBitTime_89 : decode prog_1_method_21_code 89 = .ok (.getfield 11, 3) := by decide +kernel
theorem d_B_passBitTime_92 : decode prog_1_method_21_code 92 = .ok (.iload_n 3, 1) := by decide +kernel
theorem d_B_passBitTime_93 : decode prog_1_method_21_code 93 = .ok (.aaload, 1) := by decide +kernel
theorem d_B_passBitTime_94 : decode prog_1_method_21_code 94 = .ok (.iload_n 2, 1) := by decide +kernel
theorem d_B_passBitTime_95 : decode prog_1_method_21_code 95 = .ok (.aload_n 0, 1) := by decide +kernel
theorem d_B_passBitTime_96 : decode prog_1_method_21_code 96 = .ok (.getfield 34, 3) := by decide +kernel
theorem d_B_passBitTime_99 : decode prog_1_method_21_code 99 = .ok (.invokevirtual 188, 3) := by decide +kernel
theorem d_B_passBitTime_102 : decode prog_1_method_21_code 102 = .ok (.iinc 3 1, 3) := by decide +kernel
theorem d_B_passBitTime_105 : decode prog_1_method_21_code 105 = .ok (.goto (-23), 3) := by decide +kernel
theorem d_B_passBitTime_108 : decode prog_1_method_21_code 108 = .ok (.aload_n 0, 1) := by decide +kernel
theorem d_B_passBitTime_109 : decode prog_1_method_21_code 109 = .ok (.iload_n 1, 1) := by decide +kernel
theorem d_B_passBitTime_110 : decode prog_1_method_21_code 110 = .ok (.iconst 1, 1) := by decide +kernel
theorem d_B_passBitTime_111 : decode prog_1_method_21_code 111 = .ok (.if_icmp .ne 12, 3) := by decide +kernel
theorem d_B_passBitTime_114 : decode prog_1_method_21_code 114 = .ok (.aload_n 0, 1) := by decide +kernel
theorem d_B_passBitTime_115 : decode prog_1_method_21_code 115 = .ok (.getfield 37, 3) := by decide +kernel
theorem d_B_passBitTime_118 : decode prog_1_method_21_code 118 = .ok (.iconst 1, 1) := by decide +kernel
theorem d_B_passBitTime_119 : decode prog_1_method_21_code 119 = .ok (.iadd, 1) := by decide +kernel
theorem d_B_passBitTime_120 : decode prog_1_method_21_code 120 = .ok (.goto 4, 3) := by decide +kernel
theorem d_B_passBitTime_123 : decode prog_1_method_21_code 123 = .ok (.iconst 0, 1) := by decide +kernel
theorem d_B_passBitTime_124 : decode prog_1_method_21_code 124 = .ok (.putfield 37, 3) := by decide +kernel
theorem d_B_passBitTime_127 : decode prog_1_method_21_code 127 = .ok (.aload_n 0, 1) := by decide +kernel
theorem d_B_passBitTime_128 : decode prog_1_method_21_code 128 = .ok (.getfield 30, 3) := by decide +kernel
theorem d_B_passBitTime_131 : decode prog_1_method_21_code 131 = .ok (.aload_n 0, 1) := by decide +kernel
theorem d_B_passBitTime_132 : decode prog_1_method_21_code 132 = .ok (.getfield 34, 3) := by decide +kernel
theorem d_B_passBitTime_135 : decode prog_1_method_21_code 135 = .ok (.invokestatic 118, 3) := by decide +kernel
theorem d_B_passBitTime_138 : decode prog_1_method_21_code 138 = .ok (.iload_n 1, 1) := by decide +kernel
theorem d_B_passBitTime_139 : decode prog_1_method_21_code 139 = .ok (.iastore, 1) := by decide +kernel
theorem d_B_passBitTime_140 : decode prog_1_method_21_code 140 = .ok (.return_, 1) := by decide +kernel
def b_B_passBitTime_124 (post : Option Value → Mm → Prop) : Kk := (i_putI 3 6 (i_aload 0 (i_getR 3 4 (i_aload 0 (i_getI 3 5 (i_callS 1 w_B_bitPlace (i_iload 1 (i_ast (i_vret post)))))))))
theorem t_B_passBitTime_124 {Z : Zt} {X0 : Mm} {post : Option Value → Mm → Prop} (g : Good Z prog_1_method_21_code 4 "BusTelegrams" 5) (hq : RetZ Z true X0 0 0 post) (hr : (zM Z).sig.returnType = none) : Snd Z 4 124 (b_B_passBitTime_124 post) := by
  unfold b_B_passBitTime_124
  exact (s_putI g (c := 3) (j := 6) cok_3 (by decide) rfl rfl rfl mw_165 rfl d_B_passBitTime_124 (s_aload_n g d_B_passBitTime_127 rfl (s_getR g (c := 3) (j := 4) cok_3 (by decide) rfl mw_163 rfl d_B_passBitTime_128 (s_aload_n g d_B_passBitTime_131 rfl (s_getI g (c := 3) (j := 5) cok_3 (by decide) rfl mw_164 rfl d_B_passBitTime_132 (s_callS g (C_B_bitPlace (zl Z)) (gin_S mw_492 mw_493 mw_1 mw_494) hd_B_bitPlace (by decide) (by decide) d_B_passBitTime_135 (s_iload_n g d_B_passBitTime_138 rfl (s_iast g d_B_passBitTime_139 (s_vret0 g hq hr d_B_passBitTime_140)))))))))
def f_B_passBitTime_82 (post : Option Value → Mm → Prop) (k82 : Kk) : Kk := (i_iload 3 (i_push (.int 8) (i_icmp (fun x y => y ≤ x) (i_aload 0 (i_iload 1 (i_push (.int 1) (i_icmp (fun x y => x = y) (i_aload 0 (i_getI 3 6 (i_push (.int 1) (i_bin (fun x y => x + y) (b_B_passBitTime_124 post))))) (i_push (.int 0) (b_B_passBitTime_124 post)))))) (i_aload 0 (i_getR 3 0 (i_iload 3 (i_aald 12 (i_iload 2 (i_aload 0 (i_getI 3 5 (i_callV 2 1 w_S_endWait (i_iinc 3 1 k82))))))))))))
def b_B_passBitTime_82 (post : Option Value → Mm → Prop) : Kk := i_loop [0, 1, 2, 3] (f_B_passBitTime_82 post)
theorem t_B_passBitTime_82 {Z : Zt} {X0 : Mm} {post : Option Value → Mm → Prop} (g : Good Z prog_1_method_21_code 4 "BusTelegrams" 5) (hq : RetZ Z true X0 0 0 post) (hr : (zM Z).sig.returnType = none) : Snd Z 4 82 (b_B_passBitTime_82 post) := by
  unfold b_B_passBitTime_82
  exact s_loop (fun k82 hk82 => by unfold f_B_passBitTime_82; exact (s_iload_n g d_B_passBitTime_82 rfl (s_push_bipush g d_B_passBitTime_83 (by decide) (s_icmp_ge g d_B_passBitTime_85 (by decide) (s_aload_n g d_B_passBitTime_108 rfl (s_iload_n g d_B_passBitTime_109 rfl (s_push_iconst g d_B_passBitTime_110 (by decide) (s_icmp_ne g d_B_passBitTime_111 (by decide) (s_push_iconst g d_B_passBitTime_123 (by decide) (t_B_passBitTime_124 g hq hr)) (s_aload_n g d_B_passBitTime_114 rfl (s_getI g (c := 3) (j := 6) cok_3 (by decide) rfl mw_165 rfl d_B_passBitTime_115 (s_push_iconst g d_B_passBitTime_118 (by decide) (s_iadd g d_B_passBitTime_119 (s_goto g d_B_passBitTime_120 (by decide) (t_B_passBitTime_124 g hq hr)))))))))) (s_aload_n g d_B_passBitTime_88 rfl (s_getR g (c := 3) (j := 0) cok_3 (by decide) rfl mw_159 rfl d_B_passBitTime_89 (s_iload_n g d_B_passBitTime_92 rfl (s_aald12 g d_B_passBitTime_93 (s_iload_n g d_B_passBitTime_94 rfl (s_aload_n g d_B_passBitTime_95 rfl (s_getI g (c := 3) (j := 5) cok_3 (by decide) rfl mw_164 rfl d_B_passBitTime_96 (s_callV g (C_S_endWait (zl Z)) (gin_V mw_484 mw_485 mw_486 mw_3 mw_487) hd_S_endWait rfl (by decide) (by decide) (by decide) d_B_passBitTime_99 (s_iinc g (by decide) d_B_passBitTime_102 (by decide) (s_goto g d_B_passBitTime_105 (by decide) hk82))))))))))))))
def f_B_passBitTime_30 (post : Option Value → Mm → Prop) (k30 : Kk) : Kk := (i_iload 2 (i_push (.int 8) (i_icmp (fun x y => y ≤ x) (i_aload 0 (i_getR 3 1 (i_iload 1 (i_aload 0 (i_getI 3 5 (i_callV 2 0 w_E_take (i_aload 0 (i_getR 3 1 (i_aload 0 (i_getI 3 5 (i_callV 1 0 w_E_isAccepted (i_istore 2 (i_push (.int 0) (i_istore 3 (b_B_passBitTime_82 post))))))))))))))) (i_aload 0 (i_getR 3 0 (i_iload 2 (i_aald 12 (i_iload 1 (i_aload 0 (i_getI 3 5 (i_callV 2 1 w_S_seeLine (i_iinc 2 1 k30))))))))))))
def b_B_passBitTime_30 (post : Option Value → Mm → Prop) : Kk := i_loop [0, 1, 2] (f_B_passBitTime_30 post)
theorem t_B_passBitTime_30 {Z : Zt} {X0 : Mm} {post : Option Value → Mm → Prop} (g : Good Z prog_1_method_21_code 4 "BusTelegrams" 5) (hq : RetZ Z true X0 0 0 post) (hr : (zM Z).sig.returnType = none) : Snd Z 4 30 (b_B_passBitTime_30 post) := by
  unfold b_B_passBitTime_30
  exact s_loop (fun k30 hk30 => by unfold f_B_passBitTime_30; exact (s_iload_n g d_B_passBitTime_30 rfl (s_push_bipush g d_B_passBitTime_31 (by decide) (s_icmp_ge g d_B_passBitTime_33 (by decide) (s_aload_n g d_B_passBitTime_56 rfl (s_getR g (c := 3) (j := 1) cok_3 (by decide) rfl mw_160 rfl d_B_passBitTime_57 (s_iload_n g d_B_passBitTime_60 rfl (s_aload_n g d_B_passBitTime_61 rfl (s_getI g (c := 3) (j := 5) cok_3 (by decide) rfl mw_164 rfl d_B_passBitTime_62 (s_callV g (C_E_take (zl Z)) (gin_V mw_448 mw_449 mw_450 mw_2 mw_451) hd_E_take rfl (by decide) (by decide) (by decide) d_B_passBitTime_65 (s_aload_n g d_B_passBitTime_68 rfl (s_getR g (c := 3) (j := 1) cok_3 (by decide) rfl mw_160 rfl d_B_passBitTime_69 (s_aload_n g d_B_passBitTime_72 rfl (s_getI g (c := 3) (j := 5) cok_3 (by decide) rfl mw_164 rfl d_B_passBitTime_73 (s_callV g (C_E_isAccepted (zl Z)) (gin_V mw_480 mw_481 mw_482 mw_2 mw_483) hd_E_isAccepted rfl (by decide) (by decide) (by decide) d_B_passBitTime_76 (s_istore_n g (by decide) d_B_passBitTime_79 rfl (s_push_iconst g d_B_passBitTime_80 (by decide) (s_istore_n g (by decide) d_B_passBitTime_81 rfl (t_B_passBitTime_82 g hq hr))))))))))))))) (s_aload_n g d_B_passBitTime_36 rfl (s_getR g (c := 3) (j := 0) cok_3 (by decide) rfl mw_159 rfl d_B_passBitTime_37 (s_iload_n g d_B_passBitTime_40 rfl (s_aald12 g d_B_passBitTime_41 (s_iload_n g d_B_passBitTime_42 rfl (s_aload_n g d_B_passBitTime_43 rfl (s_getI g (c := 3) (j := 5) cok_3 (by decide) rfl mw_164 rfl d_B_passBitTime_44 (s_callV g (C_S_seeLine (zl Z)) (gin_V mw_435 mw_436 mw_437 mw_3 mw_438) hd_S_seeLine rfl (by decide) (by decide) (by decide) d_B_passBitTime_47 (s_iinc g (by decide) d_B_passBitTime_50 (by decide) (s_goto g d_B_passBitTime_53 (by decide) hk30))))))))))))))
def b_B_passBitTime_28 (post : Option Value → Mm → Prop) : Kk := (i_push (.int 0) (i_istore 2 (b_B_passBitTime_30 post)))
theorem t_B_passBitTime_28 {Z : Zt} {X0 : Mm} {post : Option Value → Mm → Prop} (g : Good Z prog_1_method_21_code 4 "BusTelegrams" 5) (hq : RetZ Z true X0 0 0 post) (hr : (zM Z).sig.returnType = none) : Snd Z 4 28 (b_B_passBitTime_28 post) := by
  unfold b_B_passBitTime_28
  exact (s_push_iconst g d_B_passBitTime_28 (by decide) (s_istore_n g (by decide) d_B_passBitTime_29 rfl (t_B_passBitTime_30 g hq hr)))
def b_B_passBitTime_0 (post : Option Value → Mm → Prop) : Kk := (i_aload 0 (i_dup (i_getI 3 5 (i_push (.int 1) (i_bin (fun x y => x + y) (i_putI 3 5 (i_aload 0 (i_callV 0 3 w_B_beginAnswers (i_aload 0 (i_callV 0 3 w_B_sentByAll (i_istore 1 (i_aload 0 (i_callV 0 3 w_B_takeDisturbance (i_if (fun x y => x = y) (b_B_passBitTime_28 post) (i_push (.int 0) (i_istore 1 (b_B_passBitTime_28 post)))))))))))))))))
theorem t_B_passBitTime_0 {Z : Zt} {X0 : Mm} {post : Option Value → Mm → Prop} (g : Good Z prog_1_method_21_code 4 "BusTelegrams" 5) (hq : RetZ Z true X0 0 0 post) (hr : (zM Z).sig.returnType = none) : Snd Z 4 0 (b_B_passBitTime_0 post) := by
  unfold b_B_passBitTime_0
  exact (s_aload_n g d_B_passBitTime_0 rfl (s_dup g d_B_passBitTime_1 (s_getI g (c := 3) (j := 5) cok_3 (by decide) rfl mw_164 rfl d_B_passBitTime_2 (s_push_iconst g d_B_passBitTime_5 (by decide) (s_iadd g d_B_passBitTime_6 (s_putI g (c := 3) (j := 5) cok_3 (by decide) rfl rfl rfl mw_164 rfl d_B_passBitTime_7 (s_aload_n g d_B_passBitTime_10 rfl (s_callV g (C_B_beginAnswers (zl Z)) (gin_V mw_377 mw_379 ms_3 mw_1 mw_380) hd_B_beginAnswers rfl (by decide) (by decide) (by decide) d_B_passBitTime_11 (s_aload_n g d_B_passBitTime_14 rfl (s_callV g (C_B_sentByAll (zl Z)) (gin_V mw_401 mw_403 ms_4 mw_1 mw_404) hd_B_sentByAll rfl (by decide) (by decide) (by decide) d_B_passBitTime_15 (s_istore_n g (by decide) d_B_passBitTime_18 rfl (s_aload_n g d_B_passBitTime_19 rfl (s_callV g (C_B_takeDisturbance (zl Z)) (gin_V mw_431 mw_433 ms_6 mw_1 mw_434) hd_B_takeDisturbance rfl (by decide) (by decide) (by decide) d_B_passBitTime_20 (s_if_eq g d_B_passBitTime_23 (by decide) (t_B_passBitTime_28 g hq hr) (s_push_iconst g d_B_passBitTime_26 (by decide) (s_istore_n g (by decide) d_B_passBitTime_27 rfl (t_B_passBitTime_28 g hq hr)))))))))))))))))
def w_B_passBitTime : Wp := wpOf 4 (fun _ post => b_B_passBitTime_0 post)
theorem C_B_passBitTime (l : Launch) : MetS l ({ cls := "BusTelegrams", name := "passBitTime", desc := "()V" } : Jvm.MethodName) prog_1_method_21_code 4 none true 5 0 0 w_B_passBitTime := metS_of (by decide +kernel) (fun Z X0 post hZ g hq hr _ => t_B_passBitTime_0 g hq hr)
theorem hd_B_passBitTime : (({ cls := "BusTelegrams", name := "passBitTime", desc := "()V" } : Jvm.MethodName)).cls = "BusTelegrams" ∧ (({ cls := "BusTelegrams", name := "passBitTime", desc := "()V" } : Jvm.MethodName)).cls ≠ "java/lang/invoke/MethodHandle" ∧ (({ cls := "BusTelegrams", name := "passBitTime", desc := "()V" } : Jvm.MethodName)).cls ≠ "java/lang/invoke/VarHandle" ∧ (parseMethodDescriptor (({ cls := "BusTelegrams", name := "passBitTime", desc := "()V" } : Jvm.MethodName)).desc).map (fun d => d.parameters.length) = some 0 := ⟨rfl, by decide, by decide, by decide +kernel⟩
