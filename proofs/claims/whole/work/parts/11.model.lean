/-! the methods, as continuations, and their contracts (by program out of the bytecode) -/
theorem d_M_thrown_0 : decode prog_6_method_2_code 0 = .ok (.aload_n 0, 1) := by decide +kernel
theorem d_M_thrown_1 : decode prog_6_method_2_code 1 = .ok (.getfield 70, 3) := by decide +kernel
theorem d_M_thrown_4 : decode prog_6_method_2_code 4 = .ok (.ireturn, 1) := by decide +kernel
def b_M_thrown_0 (post : Option Value → Mm → Prop) : Kk := (i_aload 0 (i_getI 4 0 (i_iret post)))
theorem t_M_thrown_0 {Z : Zt} {X0 : Mm} {post : Option Value → Mm → Prop} (g : Good Z prog_6_method_2_code 1 "BusTelegramsModel" 0) (hq : RetZ Z true X0 0 0 post) (hr : (zM Z).sig.returnType = (some .int)) : Snd Z 1 0 (b_M_thrown_0 post) := by
  unfold b_M_thrown_0
  exact (s_aload_n g d_M_thrown_0 rfl (s_getI g (c := 4) (j := 0) cok_4 (by decide) rfl mw_554 rfl d_M_thrown_1 (s_iret0 g hq hr d_M_thrown_4)))
def w_M_thrown : Wp := wpOf 1 (fun _ post => b_M_thrown_0 post)
theorem C_M_thrown (l : Launch) : MetS l ({ cls := "BusTelegramsModel", name := "thrown", desc := "()I" } : Jvm.MethodName) prog_6_method_2_code 1 (some .int) true 0 0 0 w_M_thrown := metS_of (by decide +kernel) (fun Z X0 post hZ g hq hr _ => t_M_thrown_0 g hq hr)
theorem hd_M_thrown : (({ cls := "BusTelegramsModel", name := "thrown", desc := "()I" } : Jvm.MethodName)).cls = "BusTelegramsModel" ∧ (({ cls := "BusTelegramsModel", name := "thrown", desc := "()I" } : Jvm.MethodName)).cls ≠ "java/lang/invoke/MethodHandle" ∧ (({ cls := "BusTelegramsModel", name := "thrown", desc := "()I" } : Jvm.MethodName)).cls ≠ "java/lang/invoke/VarHandle" ∧ (parseMethodDescriptor (({ cls := "BusTelegramsModel", name := "thrown", desc := "()I" } : Jvm.MethodName)).desc).map (fun d => d.parameters.length) = some 0 := ⟨rfl, by decide, by decide, by decide +kernel⟩
theorem d_M_isIn_0 : decode prog_6_method_3_code 0 = .ok (.iload_n 0, 1) := by decide +kernel
theorem d_M_isIn_1 : decode prog_6_method_3_code 1 = .ok (.iload_n 1, 1) := by decide +kernel
theorem d_M_isIn_2 : decode prog_6_method_3_code 2 = .ok (.if_icmp .lt 12, 3) := by decide +kernel
theorem d_M_isIn_5 : decode prog_6_method_3_code 5 = .ok (.iload_n 0, 1) := by decide +kernel
theorem d_M_isIn_6 : decode prog_6_method_3_code 6 = .ok (.iload_n 2, 1) := by decide +kernel
theorem d_M_isIn_7 : decode prog_6_method_3_code 7 = .ok (.if_icmp .gt 7, 3) := by decide +kernel
theorem d_M_isIn_10 : decode prog_6_method_3_code 10 = .ok (.iconst 1, 1) := by decide +kernel
theorem d_M_isIn_11 : decode prog_6_method_3_code 11 = .ok (.goto 4, 3) := by decide +kernel
theorem d_M_isIn_14 : decode prog_6_method_3_code 14 = .ok (.iconst 0, 1) := by decide +kernel
theorem d_M_isIn_15 : decode prog_6_method_3_code 15 = .ok (.ireturn, 1) := by decide +kernel
def b_M_isIn_15 (post : Option Value → Mm → Prop) : Kk := (i_zret post)
theorem t_M_isIn_15 {Z : Zt} {X0 : Mm} {post : Option Value → Mm → Prop} (g : Good Z prog_6_method_3_code 3 "BusTelegramsModel" 0) (hq : RetZ Z true X0 0 0 post) (hr : (zM Z).sig.returnType = (some .boolean)) : Snd Z 3 15 (b_M_isIn_15 post) := by
  unfold b_M_isIn_15
  exact (s_zret0 g hq hr d_M_isIn_15)
def b_M_isIn_14 (post : Option Value → Mm → Prop) : Kk := (i_push (.int 0) (b_M_isIn_15 post))
theorem t_M_isIn_14 {Z : Zt} {X0 : Mm} {post : Option Value → Mm → Prop} (g : Good Z prog_6_method_3_code 3 "BusTelegramsModel" 0) (hq : RetZ Z true X0 0 0 post) (hr : (zM Z).sig.returnType = (some .boolean)) : Snd Z 3 14 (b_M_isIn_14 post) := by
  unfold b_M_isIn_14
  exact (s_push_iconst g d_M_isIn_14 (by decide) (t_M_isIn_15 g hq hr))
def b_M_isIn_0 (post : Option Value → Mm → Prop) : Kk := (i_iload 0 (i_iload 1 (i_icmp (fun x y => x < y) (b_M_isIn_14 post) (i_iload 0 (i_iload 2 (i_icmp (fun x y => y < x) (b_M_isIn_14 post) (i_push (.int 1) (b_M_isIn_15 post))))))))
theorem t_M_isIn_0 {Z : Zt} {X0 : Mm} {post : Option Value → Mm → Prop} (g : Good Z prog_6_method_3_code 3 "BusTelegramsModel" 0) (hq : RetZ Z true X0 0 0 post) (hr : (zM Z).sig.returnType = (some .boolean)) : Snd Z 3 0 (b_M_isIn_0 post) := by
  unfold b_M_isIn_0
  exact (s_iload_n g d_M_isIn_0 rfl (s_iload_n g d_M_isIn_1 rfl (s_icmp_lt g d_M_isIn_2 (by decide) (t_M_isIn_14 g hq hr) (s_iload_n g d_M_isIn_5 rfl (s_iload_n g d_M_isIn_6 rfl (s_icmp_gt g d_M_isIn_7 (by decide) (t_M_isIn_14 g hq hr) (s_push_iconst g d_M_isIn_10 (by decide) (s_goto g d_M_isIn_11 (by decide) (t_M_isIn_15 g hq hr)))))))))
def w_M_isIn : Wp := wpOf 3 (fun _ post => b_M_isIn_0 post)
theorem C_M_isIn (l : Launch) : MetS l ({ cls := "BusTelegramsModel", name := "isIn", desc := "(III)Z" } : Jvm.MethodName) prog_6_method_3_code 3 (some .boolean) true 0 0 0 w_M_isIn := metS_of (by decide +kernel) (fun Z X0 post hZ g hq hr _ => t_M_isIn_0 g hq hr)
theorem hd_M_isIn : (({ cls := "BusTelegramsModel", name := "isIn", desc := "(III)Z" } : Jvm.MethodName)).cls ≠ "java/lang/invoke/MethodHandle" ∧ (({ cls := "BusTelegramsModel", name := "isIn", desc := "(III)Z" } : Jvm.MethodName)).cls ≠ "java/lang/invoke/VarHandle" ∧ (parseMethodDescriptor (({ cls := "BusTelegramsModel", name := "isIn", desc := "(III)Z" } : Jvm.MethodName)).desc).map (fun d => d.parameters.length) = some 3 := ⟨by decide, by decide, by decide +kernel⟩
theorem d_M_isMeant_0 : decode prog_6_method_15_code 0 = .ok (.sipush 256, 3) := by decide +kernel
theorem d_M_isMeant_3 : decode prog_6_method_15_code 3 = .ok (.aload_n 0, 1) := by decide +kernel
theorem d_M_isMeant_4 : decode prog_6_method_15_code 4 = .ok (.getfield 67, 3) := by decide +kernel
theorem d_M_isMeant_7 : decode prog_6_method_15_code 7 = .ok (.iconst 3, 1) := by decide +kernel
theorem d_M_isMeant_8 : decode prog_6_method_15_code 8 = .ok (.iaload, 1) := by decide +kernel
theorem d_M_isMeant_9 : decode prog_6_method_15_code 9 = .ok (.imul, 1) := by decide +kernel
theorem d_M_isMeant_10 : decode prog_6_method_15_code 10 = .ok (.aload_n 0, 1) := by decide +kernel
theorem d_M_isMeant_11 : decode prog_6_method_15_code 11 = .ok (.getfield 67, 3) := by decide +kernel
theorem d_M_isMeant_14 : decode prog_6_method_15_code 14 = .ok (.iconst 4, 1) := by decide +kernel
theorem d_M_isMeant_15 : decode prog_6_method_15_code 15 = .ok (.iaload, 1) := by decide +kernel
theorem d_M_isMeant_16 : decode prog_6_method_15_code 16 = .ok (.iadd, 1) := by decide +kernel
theorem d_M_isMeant_17 : decode prog_6_method_15_code 17 = .ok (.istore_n 2, 1) := by decide +kernel
theorem d_M_isMeant_18 : decode prog_6_method_15_code 18 = .ok (.aload_n 0, 1) := by decide +kernel
theorem d_M_isMeant_19 : decode prog_6_method_15_code 19 = .ok (.getfield 67, 3) := by decide +kernel
theorem d_M_isMeant_22 : decode prog_6_method_15_code 22 = .ok (.iconst 5, 1) := by decide +kernel
theorem d_M_isMeant_23 : decode prog_6_method_15_code 23 = .ok (.iaload, 1) := by decide +kernel
theorem d_M_isMeant_24 : decode prog_6_method_15_code 24 = .ok (.sipush 128, 3) := by decide +kernel
theorem d_M_isMeant_27 : decode prog_6_method_15_code 27 = .ok (.if_icmp .lt 33, 3) := by decide +kernel
theorem d_M_isMeant_30 : decode prog_6_method_15_code 30 = .ok (.iload_n 2, 1) := by decide +kernel
theorem d_M_isMeant_31 : decode prog_6_method_15_code 31 = .ok (.sipush 256, 3) := by decide +kernel
theorem d_M_isMeant_34 : decode prog_6_method_15_code 34 = .ok (.if_icmp .ge 22, 3) := by decide +kernel
theorem d_M_isMeant_37 : decode prog_6_method_15_code 37 = .ok (.aload_n 0, 1) := by decide +kernel
theorem d_M_isMeant_38 : decode prog_6_method_15_code 38 = .ok (.getfield 18, 3) := by decide +kernel
theorem d_M_isMeant_41 : decode prog_6_method_15_code 41 = .ok (.sipush 256, 3) := by decide +kernel
theorem d_M_isMeant_44 : decode prog_6_method_15_code 44 = .ok (.iload_n 1, 1) := by decide +kernel
theorem d_M_isMeant_45 : decode prog_6_method_15_code 45 = .ok (.imul, 1) := by decide +kernel
theorem d_M_isMeant_46 : decode prog_6_method_15_code 46 = .ok (.iload_n 2, 1) := by decide +kernel
theorem d_M_isMeant_47 : decode prog_6_method_15_code 47 = .ok (.iadd, 1) := by decide +kernel
theorem d_M_isMeant_48 : decode prog_6_method_15_code 48 = .ok (.baload, 1) := by decide +kernel
theorem d_M_isMeant_49 : decode prog_6_method_15_code 49 = .ok (.ifCond .eq 7, 3) := by decide +kernel
theorem d_M_isMeant_52 : decode prog_6_method_15_code 52 = .ok (.iconst 1, 1) := by decide +kernel
theorem d_M_isMeant_53 : decode prog_6_method_15_code 53 = .ok (.goto 22, 3) := by decide +kernel
theorem d_M_isMeant_56 : decode prog_6_method_15_code 56 = .ok (.iconst 0, 1) := by decide +kernel
theorem d_M_isMeant_57 : decode prog_6_method_15_code 57 = .ok (.goto 18, 3) := by decide +kernel
theorem d_M_isMeant_60 : decode prog_6_method_15_code 60 = .ok (.aload_n 0, 1) := by decide +kernel
theorem d_M_isMeant_61 : decode prog_6_method_15_code 61 = .ok (.getfield 14, 3) := by decide +kernel
theorem d_M_isMeant_64 : decode prog_6_method_15_code 64 = .ok (.iload_n 1, 1) := by decide +kernel
theorem d_M_isMeant_65 : decode prog_6_method_15_code 65 = .ok (.iaload, 1) := by decide +kernel
theorem d_M_isMeant_66 : decode prog_6_method_15_code 66 = .ok (.iload_n 2, 1) := by decide +kernel
theorem d_M_isMeant_67 : decode prog_6_method_15_code 67 = .ok (.if_icmp .ne 7, 3) := by decide +kernel
theorem d_M_isMeant_70 : decode prog_6_method_15_code 70 = .ok (.iconst 1, 1) := by decide +kernel
theorem d_M_isMeant_71 : decode prog_6_method_15_code 71 = .ok (.goto 4, 3) := by decide +kernel
theorem d_M_isMeant_74 : decode prog_6_method_15_code 74 = .ok (.iconst 0, 1) := by decide +kernel
theorem d_M_isMeant_75 : decode prog_6_method_15_code 75 = .ok (.ireturn, 1) := by decide +kernel
def b_M_isMeant_75 (post : Option Value → Mm → Prop) : Kk := (i_zret post)
theorem t_M_isMeant_75 {Z : Zt} {X0 : Mm} {post : Option Value → Mm → Prop} (g : Good Z prog_6_method_15_code 3 "BusTelegramsModel" 0) (hq : RetZ Z true X0 0 0 post) (hr : (zM Z).sig.returnType = (some .boolean)) : Snd Z 3 75 (b_M_isMeant_75 post) := by
  unfold b_M_isMeant_75
  exact (s_zret0 g hq hr d_M_isMeant_75)
def b_M_isMeant_56 (post : Option Value → Mm → Prop) : Kk := (i_push (.int 0) (b_M_isMeant_75 post))
theorem t_M_isMeant_56 {Z : Zt} {X0 : Mm} {post : Option Value → Mm → Prop} (g : Good Z prog_6_method_15_code 3 "BusTelegramsModel" 0) (hq : RetZ Z true X0 0 0 post) (hr : (zM Z).sig.returnType = (some .boolean)) : Snd Z 3 56 (b_M_isMeant_56 post) := by
  unfold b_M_isMeant_56
  exact (s_push_iconst g d_M_isMeant_56 (by decide) (s_goto g d_M_isMeant_57 (by decide) (t_M_isMeant_75 g hq hr)))
def b_M_isMeant_0 (post : Option Value → Mm → Prop) : Kk := (i_push (.int 256) (i_aload 0 (i_getR 4 34 (i_push (.int 3) (i_ald 10 (i_bin (fun x y => x * y) (i_aload 0 (i_getR 4 34 (i_push (.int 4) (i_ald 10 (i_bin (fun x y => x + y) (i_istore 2 (i_aload 0 (i_getR 4 34 (i_push (.int 5) (i_ald 10 (i_push (.int 128) (i_icmp (fun x y => x < y) (i_aload 0 (i_getR 4 3 (i_iload 1 (i_ald 10 (i_iload 2 (i_icmp (fun x y => x = y) (i_push (.int 1) (b_M_isMeant_75 post)) (i_push (.int 0) (b_M_isMeant_75 post)))))))) (i_iload 2 (i_push (.int 256) (i_icmp (fun x y => y ≤ x) (b_M_isMeant_56 post) (i_aload 0 (i_getR 4 4 (i_push (.int 256) (i_iload 1 (i_bin (fun x y => x * y) (i_iload 2 (i_bin (fun x y => x + y) (i_ald 11 (i_if (fun x y => x = y) (b_M_isMeant_56 post) (i_push (.int 1) (b_M_isMeant_75 post))))))))))))))))))))))))))))))))
theorem t_M_isMeant_0 {Z : Zt} {X0 : Mm} {post : Option Value → Mm → Prop} (g : Good Z prog_6_method_15_code 3 "BusTelegramsModel" 0) (hq : RetZ Z true X0 0 0 post) (hr : (zM Z).sig.returnType = (some .boolean)) : Snd Z 3 0 (b_M_isMeant_0 post) := by
  unfold b_M_isMeant_0
  exact (s_push_sipush g d_M_isMeant_0 (by decide) (s_aload_n g d_M_isMeant_3 rfl (s_getR g (c := 4) (j := 34) cok_4 (by decide) rfl mw_588 rfl d_M_isMeant_4 (s_push_iconst g d_M_isMeant_7 (by decide) (s_iald g d_M_isMeant_8 (s_imul g d_M_isMeant_9 (s_aload_n g d_M_isMeant_10 rfl (s_getR g (c := 4) (j := 34) cok_4 (by decide) rfl mw_588 rfl d_M_isMeant_11 (s_push_iconst g d_M_isMeant_14 (by decide) (s_iald g d_M_isMeant_15 (s_iadd g d_M_isMeant_16 (s_istore_n g (by decide) d_M_isMeant_17 rfl (s_aload_n g d_M_isMeant_18 rfl (s_getR g (c := 4) (j := 34) cok_4 (by decide) rfl mw_588 rfl d_M_isMeant_19 (s_push_iconst g d_M_isMeant_22 (by decide) (s_iald g d_M_isMeant_23 (s_push_sipush g d_M_isMeant_24 (by decide) (s_icmp_lt g d_M_isMeant_27 (by decide) (s_aload_n g d_M_isMeant_60 rfl (s_getR g (c := 4) (j := 3) cok_4 (by decide) rfl mw_557 rfl d_M_isMeant_61 (s_iload_n g d_M_isMeant_64 rfl (s_iald g d_M_isMeant_65 (s_iload_n g d_M_isMeant_66 rfl (s_icmp_ne g d_M_isMeant_67 (by decide) (s_push_iconst g d_M_isMeant_74 (by decide) (t_M_isMeant_75 g hq hr)) (s_push_iconst g d_M_isMeant_70 (by decide) (s_goto g d_M_isMeant_71 (by decide) (t_M_isMeant_75 g hq hr))))))))) (s_iload_n g d_M_isMeant_30 rfl (s_push_sipush g d_M_isMeant_31 (by decide) (s_icmp_ge g d_M_isMeant_34 (by decide) (t_M_isMeant_56 g hq hr) (s_aload_n g d_M_isMeant_37 rfl (s_getR g (c := 4) (j := 4) cok_4 (by decide) rfl mw_558 rfl d_M_isMeant_38 (s_push_sipush g d_M_isMeant_41 (by decide) (s_iload_n g d_M_isMeant_44 rfl (s_imul g d_M_isMeant_45 (s_iload_n g d_M_isMeant_46 rfl (s_iadd g d_M_isMeant_47 (s_zald g d_M_isMeant_48 (s_if_eq g d_M_isMeant_49 (by decide) (t_M_isMeant_56 g hq hr) (s_push_iconst g d_M_isMeant_52 (by decide) (s_goto g d_M_isMeant_53 (by decide) (t_M_isMeant_75 g hq hr)))))))))))))))))))))))))))))))))
def w_M_isMeant : Wp := wpOf 3 (fun _ post => b_M_isMeant_0 post)
theorem C_M_isMeant (l : Launch) : MetS l ({ cls := "BusTelegramsModel", name := "isMeant", desc := "(I)Z" } : Jvm.MethodName) prog_6_method_15_code 3 (some .boolean) true 0 0 0 w_M_isMeant := metS_of (by decide +kernel) (fun Z X0 post hZ g hq hr _ => t_M_isMeant_0 g hq hr)
theorem hd_M_isMeant : (({ cls := "BusTelegramsModel", name := "isMeant", desc := "(I)Z" } : Jvm.MethodName)).cls = "BusTelegramsModel" ∧ (({ cls := "BusTelegramsModel", name := "isMeant", desc := "(I)Z" } : Jvm.MethodName)).cls ≠ "java/lang/invoke/MethodHandle" ∧ (({ cls := "BusTelegramsModel", name := "isMeant", desc := "(I)Z" } : Jvm.MethodName)).cls ≠ "java/lang/invoke/VarHandle" ∧ (parseMethodDescriptor (({ cls := "BusTelegramsModel", name := "isMeant", desc := "(I)Z" } : Jvm.MethodName)).desc).map (fun d => d.parameters.length) = some 1 := ⟨rfl, by decide, by decide, by decide +kernel⟩
theorem d_M_size_0 : decode prog_6_method_10_code 0 = .ok (.bipush 8, 2) := by decide +kernel
theorem d_M_size_2 : decode prog_6_method_10_code 2 = .ok (.aload_n 0, 1) := by decide +kernel
theorem d_M_size_3 : decode prog_6_method_10_code 3 = .ok (.getfield 28, 3) := by decide +kernel
theorem d_M_size_6 : decode prog_6_method_10_code 6 = .ok (.bipush 36, 2) := by decide +kernel
theorem d_M_size_8 : decode prog_6_method_10_code 8 = .ok (.iload_n 1, 1) := by decide +kernel
theorem d_M_size_9 : decode prog_6_method_10_code 9 = .ok (.imul, 1) := by decide +kernel
theorem d_M_size_10 : decode prog_6_method_10_code 10 = .ok (.iconst 3, 1) := by decide +kernel
theorem d_M_size_11 : decode prog_6_method_10_code 11 = .ok (.iadd, 1) := by decide +kernel
theorem d_M_size_12 : decode prog_6_method_10_code 12 = .ok (.iaload, 1) := by decide +kernel
theorem d_M_size_13 : decode prog_6_method_10_code 13 = .ok (.sipush 128, 3) := by decide +kernel
theorem d_M_size_16 : decode prog_6_method_10_code 16 = .ok (.irem, 1) := by decide +kernel
theorem d_M_size_17 : decode prog_6_method_10_code 17 = .ok (.iadd, 1) := by decide +kernel
theorem d_M_size_18 : decode prog_6_method_10_code 18 = .ok (.ireturn, 1) := by decide +kernel
def b_M_size_0 (post : Option Value → Mm → Prop) : Kk := (i_push (.int 8) (i_aload 0 (i_getR 4 7 (i_push (.int 36) (i_iload 1 (i_bin (fun x y => x * y) (i_push (.int 3) (i_bin (fun x y => x + y) (i_ald 10 (i_push (.int 128) (i_binz (fun x y => x - x / y * y) (i_bin (fun x y => x + y) (i_iret post)))))))))))))
theorem t_M_size_0 {Z : Zt} {X0 : Mm} {post : Option Value → Mm → Prop} (g : Good Z prog_6_method_10_code 2 "BusTelegramsModel" 0) (hq : RetZ Z true X0 0 0 post) (hr : (zM Z).sig.returnType = (some .int)) : Snd Z 2 0 (b_M_size_0 post) := by
  unfold b_M_size_0
  exact (s_push_bipush g d_M_size_0 (by decide) (s_aload_n g d_M_size_2 rfl (s_getR g (c := 4) (j := 7) cok_4 (by decide) rfl mw_561 rfl d_M_size_3 (s_push_bipush g d_M_size_6 (by decide) (s_iload_n g d_M_size_8 rfl (s_imul g d_M_size_9 (s_push_iconst g d_M_size_10 (by decide) (s_iadd g d_M_size_11 (s_iald g d_M_size_12 (s_push_sipush g d_M_size_13 (by decide) (s_irem g d_M_size_16 (s_iadd g d_M_size_17 (s_iret0 g hq hr d_M_size_18)))))))))))))
def w_M_size : Wp := wpOf 2 (fun _ post => b_M_size_0 post)
theorem C_M_size (l : Launch) : MetS l ({ cls := "BusTelegramsModel", name := "size", desc := "(I)I" } : Jvm.MethodName) prog_6_method_10_code 2 (some .int) true 0 0 0 w_M_size := metS_of (by decide +kernel) (fun Z X0 post hZ g hq hr _ => t_M_size_0 g hq hr)
theorem hd_M_size : (({ cls := "BusTelegramsModel", name := "size", desc := "(I)I" } : Jvm.MethodName)).cls = "BusTelegramsModel" ∧ (({ cls := "BusTelegramsModel", name := "size", desc := "(I)I" } : Jvm.MethodName)).cls ≠ "java/lang/invoke/MethodHandle" ∧ (({ cls := "BusTelegramsModel", name := "size", desc := "(I)I" } : Jvm.MethodName)).cls ≠ "java/lang/invoke/VarHandle" ∧ (parseMethodDescriptor (({ cls := "BusTelegramsModel", name := "size", desc := "(I)I" } : Jvm.MethodName)).desc).map (fun d => d.parameters.length) = some 1 := ⟨rfl, by decide, by decide, by decide +kernel⟩
theorem d_M_plain_0 : decode prog_6_method_11_code 0 = .ok (.bipush 36, 2) := by decide +kernel
theorem d_M_plain_2 : decode prog_6_method_11_code 2 = .ok (.iload_n 1, 1) := by decide +kernel
theorem d_M_plain_3 : decode prog_6_method_11_code 3 = .ok (.imul, 1) := by decide +kernel
theorem d_M_plain_4 : decode prog_6_method_11_code 4 = .ok (.istore_n 3, 1) := by decide +kernel
theorem d_M_plain_5 : decode prog_6_method_11_code 5 = .ok (.iload_n 2, 1) := by decide +kernel
theorem d_M_plain_6 : decode prog_6_method_11_code 6 = .ok (.tableswitch 130 0 5 #[38, 69, 82, 95, 108, 121], 38) := by decide +kernel
theorem d_M_plain_44 : decode prog_6_method_11_code 44 = .ok (.sipush 176, 3) := by decide +kernel
theorem d_M_plain_47 : decode prog_6_method_11_code 47 = .ok (.iconst 4, 1) := by decide +kernel
theorem d_M_plain_48 : decode prog_6_method_11_code 48 = .ok (.aload_n 0, 1) := by decide +kernel
theorem d_M_plain_49 : decode prog_6_method_11_code 49 = .ok (.getfield 28, 3) := by decide +kernel
theorem d_M_plain_52 : decode prog_6_method_11_code 52 = .ok (.iload_n 3, 1) := by decide +kernel
theorem d_M_plain_53 : decode prog_6_method_11_code 53 = .ok (.iaload, 1) := by decide +kernel
theorem d_M_plain_54 : decode prog_6_method_11_code 54 = .ok (.imul, 1) := by decide +kernel
theorem d_M_plain_55 : decode prog_6_method_11_code 55 = .ok (.iadd, 1) := by decide +kernel
theorem d_M_plain_56 : decode prog_6_method_11_code 56 = .ok (.aload_n 0, 1) := by decide +kernel
theorem d_M_plain_57 : decode prog_6_method_11_code 57 = .ok (.getfield 28, 3) := by decide +kernel
theorem d_M_plain_60 : decode prog_6_method_11_code 60 = .ok (.iload_n 3, 1) := by decide +kernel
theorem d_M_plain_61 : decode prog_6_method_11_code 61 = .ok (.iconst 5, 1) := by decide +kernel
theorem d_M_plain_62 : decode prog_6_method_11_code 62 = .ok (.iadd, 1) := by decide +kernel
theorem d_M_plain_63 : decode prog_6_method_11_code 63 = .ok (.iaload, 1) := by decide +kernel
theorem d_M_plain_64 : decode prog_6_method_11_code 64 = .ok (.ifCond .le 8, 3) := by decide +kernel
theorem d_M_plain_67 : decode prog_6_method_11_code 67 = .ok (.bipush 32, 2) := by decide +kernel
theorem d_M_plain_69 : decode prog_6_method_11_code 69 = .ok (.goto 4, 3) := by decide +kernel
theorem d_M_plain_72 : decode prog_6_method_11_code 72 = .ok (.iconst 0, 1) := by decide +kernel
theorem d_M_plain_73 : decode prog_6_method_11_code 73 = .ok (.isub, 1) := by decide +kernel
theorem d_M_plain_74 : decode prog_6_method_11_code 74 = .ok (.ireturn, 1) := by decide +kernel
theorem d_M_plain_75 : decode prog_6_method_11_code 75 = .ok (.aload_n 0, 1) := by decide +kernel
theorem d_M_plain_76 : decode prog_6_method_11_code 76 = .ok (.getfield 28, 3) := by decide +kernel
theorem d_M_plain_79 : decode prog_6_method_11_code 79 = .ok (.iload_n 3, 1) := by decide +kernel
theorem d_M_plain_80 : decode prog_6_method_11_code 80 = .ok (.iconst 1, 1) := by decide +kernel
theorem d_M_plain_81 : decode prog_6_method_11_code 81 = .ok (.iadd, 1) := by decide +kernel
theorem d_M_plain_82 : decode prog_6_method_11_code 82 = .ok (.iaload, 1) := by decide +kernel
theorem d_M_plain_83 : decode prog_6_method_11_code 83 = .ok (.sipush 256, 3) := by decide +kernel
theorem d_M_plain_86 : decode prog_6_method_11_code 86 = .ok (.idiv, 1) := by decide +kernel
theorem d_M_plain_87 : decode prog_6_method_11_code 87 = .ok (.ireturn, 1) := by decide +kernel
theorem d_M_plain_88 : decode prog_6_method_11_code 88 = .ok (.aload_n 0, 1) := by decide +kernel
theorem d_M_plain_89 : decode prog_6_method_11_code 89 = .ok (.getfield 28, 3) := by decide +kernel
theorem d_M_plain_92 : decode prog_6_method_11_code 92 = .ok (.iload_n 3, 1) := by decide +kernel
theorem d_M_plain_93 : decode prog_6_method_11_code 93 = .ok (.iconst 1, 1) := by decide +kernel
theorem d_M_plain_94 : decode prog_6_method_11_code 94 = .ok (.iadd, 1) := by decide +kernel
theorem d_M_plain_95 : decode prog_6_method_11_code 95 = .ok (.iaload, 1) := by decide +kernel
theorem d_M_plain_96 : decode prog_6_method_11_code 96 = .ok (.sipush 256, 3) := by decide +kernel
theorem d_M_plain_99 : decode prog_6_method_11_code 99 = .ok (.irem, 1) := by decide +kernel
theorem d_M_plain_100 : decode prog_6_method_11_code 100 = .ok (.ireturn, 1) := by decide +kernel
theorem d_M_plain_101 : decode prog_6_method_11_code 101 = .ok (.aload_n 0, 1) := by decide +kernel
theorem d_M_plain_102 : decode prog_6_method_11_code 102 = .ok (.getfield 28, 3) := by decide +kernel
theorem d_M_plain_105 : decode prog_6_method_11_code 105 = .ok (.iload_n 3, 1) := by decide +kernel
theorem d_M_plain_106 : decode prog_6_method_11_code 106 = .ok (.iconst 2, 1) := by decide +kernel
theorem d_M_plain_107 : decode prog_6_method_11_code 107 = .ok (.iadd, 1) := by decide +kernel
theorem d_M_plain_108 : decode prog_6_method_11_code 108 = .ok (.iaload, 1) := by decide +kernel
theorem d_M_plain_109 : decode prog_6_method_11_code 109 = .ok (.sipush 256, 3) := by decide +kernel
theorem d_M_plain_112 : decode prog_6_method_11_code 112 = .ok (.idiv, 1) := by decide +kernel
theorem d_M_plain_113 : decode prog_6_method_11_code 113 = .ok (.ireturn, 1) := by decide +kernel
theorem d_M_plain_114 : decode prog_6_method_11_code 114 = .ok (.aload_n 0, 1) := by decide +kernel
theorem d_M_plain_115 : decode prog_6_method_11_code 115 = .ok (.getfield 28, 3) := by decide +kernel
theorem d_M_plain_118 : decode prog_6_method_11_code 118 = .ok (.iload_n 3, 1) := by decide +kernel
theorem d_M_plain_119 : decode prog_6_method_11_code 119 = .ok (.iconst 2, 1) := by decide +kernel
theorem d_M_plain_120 : decode prog_6_method_11_code 120 = .ok (.iadd, 1) := by decide +kernel
theorem d_M_plain_121 : decode prog_6_method_11_code 121 = .ok (.iaload, 1) := by decide +kernel
theorem d_M_plain_122 : decode prog_6_method_11_code 122 = .ok (.sipush 256, 3) := by decide +kernel
theorem d_M_plain_125 : decode prog_6_method_11_code 125 = .ok (.irem, 1) := by decide +kernel
theorem d_M_plain_126 : decode prog_6_method_11_code 126 = .ok (.ireturn, 1) := by decide +kernel
theorem d_M_plain_127 : decode prog_6_method_11_code 127 = .ok (.aload_n 0, 1) := by decide +kernel
theorem d_M_plain_128 : decode prog_6_method_11_code 128 = .ok (.getfield 28, 3) := by decide +kernel
theorem d_M_plain_131 : decode prog_6_method_11_code 131 = .ok (.iload_n 3, 1) := by decide +kernel
theorem d_M_plain_132 : decode prog_6_method_11_code 132 = .ok (.iconst 3, 1) := by decide +kernel
theorem d_M_plain_133 : decode prog_6_method_11_code 133 = .ok (.iadd, 1) := by decide +kernel
theorem d_M_plain_134 : decode prog_6_method_11_code 134 = .ok (.iaload, 1) := by decide +kernel
theorem d_M_plain_135 : decode prog_6_method_11_code 135 = .ok (.ireturn, 1) := by decide +kernel
theorem d_M_plain_136 : decode prog_6_method_11_code 136 = .ok (.aload_n 0, 1) := by decide +kernel
theorem d_M_plain_137 : decode prog_6_method_11_code 137 = .ok (.getfield 28, 3) := by decide +kernel
theorem d_M_plain_140 : decode prog_6_method_11_code 140 = .ok (.iload_n 3, 1) := by decide +kernel
theorem d_M_plain_141 : decode prog_6_method_11_code 141 = .ok (.iconst 4, 1) := by decide +kernel
theorem d_M_plain_142 : decode prog_6_method_11_code 142 = .ok (.iadd, 1) := by decide +kernel
theorem d_M_plain_143 : decode prog_6_method_11_code 143 = .ok (.iaload, 1) := by decide +kernel
theorem d_M_plain_144 : decode prog_6_method_11_code 144 = .ok (.iload_n 2, 1) := by decide +kernel
theorem d_M_plain_145 : decode prog_6_method_11_code 145 = .ok (.iadd, 1) := by decide +kernel
theorem d_M_plain_146 : decode prog_6_method_11_code 146 = .ok (.bipush 6, 2) := by decide +kernel
theorem d_M_plain_148 : decode prog_6_method_11_code 148 = .ok (.isub, 1) := by decide +kernel
theorem d_M_plain_149 : decode prog_6_method_11_code 149 = .ok (.sipush 256, 3) := by decide +kernel
theorem d_M_plain_152 : decode prog_6_method_11_code 152 = .ok (.irem, 1) := by decide +kernel
theorem d_M_plain_153 : decode prog_6_method_11_code 153 = .ok (.ireturn, 1) := by decide +kernel
def b_M_plain_73 (post : Option Value → Mm → Prop) : Kk := (i_bin (fun x y => x - y) (i_iret post))
theorem t_M_plain_73 {Z : Zt} {X0 : Mm} {post : Option Value → Mm → Prop} (g : Good Z prog_6_method_11_code 4 "BusTelegramsModel" 0) (hq : RetZ Z true X0 0 0 post) (hr : (zM Z).sig.returnType = (some .int)) : Snd Z 4 73 (b_M_plain_73 post) := by
  unfold b_M_plain_73
  exact (s_isub g d_M_plain_73 (s_iret0 g hq hr d_M_plain_74))
def b_M_plain_0 (post : Option Value → Mm → Prop) : Kk := (i_push (.int 36) (i_iload 1 (i_bin (fun x y => x * y) (i_istore 3 (i_iload 2 (i_tsw 0 [(i_push (.int 176) (i_push (.int 4) (i_aload 0 (i_getR 4 7 (i_iload 3 (i_ald 10 (i_bin (fun x y => x * y) (i_bin (fun x y => x + y) (i_aload 0 (i_getR 4 7 (i_iload 3 (i_push (.int 5) (i_bin (fun x y => x + y) (i_ald 10 (i_if (fun x y => x ≤ y) (i_push (.int 0) (b_M_plain_73 post)) (i_push (.int 32) (b_M_plain_73 post))))))))))))))))), (i_aload 0 (i_getR 4 7 (i_iload 3 (i_push (.int 1) (i_bin (fun x y => x + y) (i_ald 10 (i_push (.int 256) (i_binz (fun x y => x / y) (i_iret post))))))))), (i_aload 0 (i_getR 4 7 (i_iload 3 (i_push (.int 1) (i_bin (fun x y => x + y) (i_ald 10 (i_push (.int 256) (i_binz (fun x y => x - x / y * y) (i_iret post))))))))), (i_aload 0 (i_getR 4 7 (i_iload 3 (i_push (.int 2) (i_bin (fun x y => x + y) (i_ald 10 (i_push (.int 256) (i_binz (fun x y => x / y) (i_iret post))))))))), (i_aload 0 (i_getR 4 7 (i_iload 3 (i_push (.int 2) (i_bin (fun x y => x + y) (i_ald 10 (i_push (.int 256) (i_binz (fun x y => x - x / y * y) (i_iret post))))))))), (i_aload 0 (i_getR 4 7 (i_iload 3 (i_push (.int 3) (i_bin (fun x y => x + y) (i_ald 10 (i_iret post)))))))] (i_aload 0 (i_getR 4 7 (i_iload 3 (i_push (.int 4) (i_bin (fun x y => x + y) (i_ald 10 (i_iload 2 (i_bin (fun x y => x + y) (i_push (.int 6) (i_bin (fun x y => x - y) (i_push (.int 256) (i_binz (fun x y => x - x / y * y) (i_iret post)))))))))))))))))))
theorem t_M_plain_0 {Z : Zt} {X0 : Mm} {post : Option Value → Mm → Prop} (g : Good Z prog_6_method_11_code 4 "BusTelegramsModel" 0) (hq : RetZ Z true X0 0 0 post) (hr : (zM Z).sig.returnType = (some .int)) : Snd Z 4 0 (b_M_plain_0 post) := by
  unfold b_M_plain_0
  exact (s_push_bipush g d_M_plain_0 (by decide) (s_iload_n g d_M_plain_2 rfl (s_imul g d_M_plain_3 (s_istore_n g (by decide) d_M_plain_4 rfl (s_iload_n g d_M_plain_5 rfl (s_tsw g d_M_plain_6 rfl (by decide) (tsw_cons (by decide) (s_push_sipush g d_M_plain_44 (by decide) (s_push_iconst g d_M_plain_47 (by decide) (s_aload_n g d_M_plain_48 rfl (s_getR g (c := 4) (j := 7) cok_4 (by decide) rfl mw_561 rfl d_M_plain_49 (s_iload_n g d_M_plain_52 rfl (s_iald g d_M_plain_53 (s_imul g d_M_plain_54 (s_iadd g d_M_plain_55 (s_aload_n g d_M_plain_56 rfl (s_getR g (c := 4) (j := 7) cok_4 (by decide) rfl mw_561 rfl d_M_plain_57 (s_iload_n g d_M_plain_60 rfl (s_push_iconst g d_M_plain_61 (by decide) (s_iadd g d_M_plain_62 (s_iald g d_M_plain_63 (s_if_le g d_M_plain_64 (by decide) (s_push_iconst g d_M_plain_72 (by decide) (t_M_plain_73 g hq hr)) (s_push_bipush g d_M_plain_67 (by decide) (s_goto g d_M_plain_69 (by decide) (t_M_plain_73 g hq hr)))))))))))))))))) (tsw_cons (by decide) (s_aload_n g d_M_plain_75 rfl (s_getR g (c := 4) (j := 7) cok_4 (by decide) rfl mw_561 rfl d_M_plain_76 (s_iload_n g d_M_plain_79 rfl (s_push_iconst g d_M_plain_80 (by decide) (s_iadd g d_M_plain_81 (s_iald g d_M_plain_82 (s_push_sipush g d_M_plain_83 (by decide) (s_idiv g d_M_plain_86 (s_iret0 g hq hr d_M_plain_87))))))))) (tsw_cons (by decide) (s_aload_n g d_M_plain_88 rfl (s_getR g (c := 4) (j := 7) cok_4 (by decide) rfl mw_561 rfl d_M_plain_89 (s_iload_n g d_M_plain_92 rfl (s_push_iconst g d_M_plain_93 (by decide) (s_iadd g d_M_plain_94 (s_iald g d_M_plain_95 (s_push_sipush g d_M_plain_96 (by decide) (s_irem g d_M_plain_99 (s_iret0 g hq hr d_M_plain_100))))))))) (tsw_cons (by decide) (s_aload_n g d_M_plain_101 rfl (s_getR g (c := 4) (j := 7) cok_4 (by decide) rfl mw_561 rfl d_M_plain_102 (s_iload_n g d_M_plain_105 rfl (s_push_iconst g d_M_plain_106 (by decide) (s_iadd g d_M_plain_107 (s_iald g d_M_plain_108 (s_push_sipush g d_M_plain_109 (by decide) (s_idiv g d_M_plain_112 (s_iret0 g hq hr d_M_plain_113))))))))) (tsw_cons (by decide) (s_aload_n g d_M_plain_114 rfl (s_getR g (c := 4) (j := 7) cok_4 (by decide) rfl mw_561 rfl d_M_plain_115 (s_iload_n g d_M_plain_118 rfl (s_push_iconst g d_M_plain_119 (by decide) (s_iadd g d_M_plain_120 (s_iald g d_M_plain_121 (s_push_sipush g d_M_plain_122 (by decide) (s_irem g d_M_plain_125 (s_iret0 g hq hr d_M_plain_126))))))))) (tsw_cons (by decide) (s_aload_n g d_M_plain_127 rfl (s_getR g (c := 4) (j := 7) cok_4 (by decide) rfl mw_561 rfl d_M_plain_128 (s_iload_n g d_M_plain_131 rfl (s_push_iconst g d_M_plain_132 (by decide) (s_iadd g d_M_plain_133 (s_iald g d_M_plain_134 (s_iret0 g hq hr d_M_plain_135))))))) tsw_nil)))))) (s_aload_n g d_M_plain_136 rfl (s_getR g (c := 4) (j := 7) cok_4 (by decide) rfl mw_561 rfl d_M_plain_137 (s_iload_n g d_M_plain_140 rfl (s_push_iconst g d_M_plain_141 (by decide) (s_iadd g d_M_plain_142 (s_iald g d_M_plain_143 (s_iload_n g d_M_plain_144 rfl (s_iadd g d_M_plain_145 (s_push_bipush g d_M_plain_146 (by decide) (s_isub g d_M_plain_148 (s_push_sipush g d_M_plain_149 (by decide) (s_irem g d_M_plain_152 (s_iret0 g hq hr d_M_plain_153)))))))))))))))))))
def w_M_plain : Wp := wpOf 4 (fun _ post => b_M_plain_0 post)
theorem C_M_plain (l : Launch) : MetS l ({ cls := "BusTelegramsModel", name := "plain", desc := "(II)I" } : Jvm.MethodName) prog_6_method_11_code 4 (some .int) true 0 0 0 w_M_plain := metS_of (by decide +kernel) (fun Z X0 post hZ g hq hr _ => t_M_plain_0 g hq hr)
theorem hd_M_plain : (({ cls := "BusTelegramsModel", name := "plain", desc := "(II)I" } : Jvm.MethodName)).cls = "BusTelegramsModel" ∧ (({ cls := "BusTelegramsModel", name := "plain", desc := "(II)I" } : Jvm.MethodName)).cls ≠ "java/lang/invoke/MethodHandle" ∧ (({ cls := "BusTelegramsModel", name := "plain", desc := "(II)I" } : Jvm.MethodName)).cls ≠ "java/lang/invoke/VarHandle" ∧ (parseMethodDescriptor (({ cls := "BusTelegramsModel", name := "plain", desc := "(II)I" } : Jvm.MethodName)).desc).map (fun d => d.parameters.length) = some 2 := ⟨rfl, by decide, by decide, by decide +kernel⟩
theorem d_M_bitOf_0 : decode prog_6_method_13_code 0 = .ok (.iload_n 1, 1) := by decide +kernel
theorem d_M_bitOf_1 : decode prog_6_method_13_code 1 = .ok (.ifCond .ne 5, 3) := by decide +kernel
theorem d_M_bitOf_4 : decode prog_6_method_13_code 4 = .ok (.iconst 0, 1) := by decide +kernel
theorem d_M_bitOf_5 : decode prog_6_method_13_code 5 = .ok (.ireturn, 1) := by decide +kernel
theorem d_M_bitOf_6 : decode prog_6_method_13_code 6 = .ok (.iload_n 1, 1) := by decide +kernel
theorem d_M_bitOf_7 : decode prog_6_method_13_code 7 = .ok (.bipush 9, 2) := by decide +kernel
theorem d_M_bitOf_9 : decode prog_6_method_13_code 9 = .ok (.if_icmp .ge 11, 3) := by decide +kernel
theorem d_M_bitOf_12 : decode prog_6_method_13_code 12 = .ok (.iload_n 0, 1) := by decide +kernel
theorem d_M_bitOf_13 : decode prog_6_method_13_code 13 = .ok (.iload_n 1, 1) := by decide +kernel
theorem d_M_bitOf_14 : decode prog_6_method_13_code 14 = .ok (.iconst 1, 1) := by decide +kernel
theorem d_M_bitOf_15 : decode prog_6_method_13_code 15 = .ok (.isub, 1) := by decide +kernel
theorem d_M_bitOf_16 : decode prog_6_method_13_code 16 = .ok (.ishr, 1) := by decide +kernel
theorem d_M_bitOf_17 : decode prog_6_method_13_code 17 = .ok (.iconst 1, 1) := by decide +kernel
theorem d_M_bitOf_18 : decode prog_6_method_13_code 18 = .ok (.iand, 1) := by decide +kernel
theorem d_M_bitOf_19 : decode prog_6_method_13_code 19 = .ok (.ireturn, 1) := by decide +kernel
theorem d_M_bitOf_20 : decode prog_6_method_13_code 20 = .ok (.iconst 0, 1) := by decide +kernel
theorem d_M_bitOf_21 : decode prog_6_method_13_code 21 = .ok (.istore_n 2, 1) := by decide +kernel
theorem d_M_bitOf_22 : decode prog_6_method_13_code 22 = .ok (.iconst 0, 1) := by decide +kernel
theorem d_M_bitOf_23 : decode prog_6_method_13_code 23 = .ok (.istore_n 3, 1) := by decide +kernel
theorem d_M_bitOf_24 : decode prog_6_method_13_code 24 = .ok (.iload_n 3, 1) := by decide +kernel
theorem d_M_bitOf_25 : decode prog_6_method_13_code 25 = .ok (.bipush 8, 2) := by decide +kernel
theorem d_M_bitOf_27 : decode prog_6_method_13_code 27 = .ok (.if_icmp .ge 23, 3) := by decide +kernel
theorem d_M_bitOf_30 : decode prog_6_method_13_code 30 = .ok (.iload_n 1, 1) := by decide +kernel
theorem d_M_bitOf_31 : decode prog_6_method_13_code 31 = .ok (.bipush 9, 2) := by decide +kernel
theorem d_M_bitOf_33 : decode prog_6_method_13_code 33 = .ok (.if_icmp .ne 17, 3) := by decide +kernel
theorem d_M_bitOf_36 : decode prog_6_method_13_code 36 = .ok (.iload_n 2, 1) := by decide +kernel
theorem d_M_bitOf_37 : decode prog_6_method_13_code 37 = .ok (.iload_n 0, 1) := by decide +kernel
theorem d_M_bitOf_38 : decode prog_6_method_13_code 38 = .ok (.iload_n 3, 1) := by decide +kernel
theorem d_M_bitOf_39 : decode prog_6_method_13_code 39 = .ok (.ishr, 1) := by decide +kernel
theorem d_M_bitOf_40 : decode prog_6_method_13_code 40 = .ok (.iconst 1, 1) := by decide +kernel
theorem d_M_bitOf_41 : decode prog_6_method_13_code 41 = .ok (.iand, 1) := by decide +kernel
theorem d_M_bitOf_42 : decode prog_6_method_13_code 42 = .ok (.ixor, 1) := by decide +kernel
theorem d_M_bitOf_43 : decode prog_6_method_13_code 43 = .ok (.istore_n 2, 1) := by decide +kernel
theorem d_M_bitOf_44 : decode prog_6_method_13_code 44 = .ok (.iinc 3 1, 3) := by decide +kernel
theorem d_M_bitOf_47 : decode prog_6_method_13_code 47 = .ok (.goto (-23), 3) := by decide +kernel
theorem d_M_bitOf_50 : decode prog_6_method_13_code 50 = .ok (.iload_n 1, 1) := by decide +kernel
theorem d_M_bitOf_51 : decode prog_6_method_13_code 51 = .ok (.bipush 9, 2) := by decide +kernel
theorem d_M_bitOf_53 : decode prog_6_method_13_code 53 = .ok (.if_icmp .ne 7, 3) := by decide +kernel
theorem d_M_bitOf_56 : decode prog_6_method_13_code 56 = .ok (.iload_n 2, 1) := by decide +kernel
theorem d_M_bitOf_57 : decode prog_6_method_13_code 57 = .ok (.goto 4, 3) := by decide +kernel
theorem d_M_bitOf_60 : decode prog_6_method_13_code 60 = .ok (.iconst 1, 1) := by decide +kernel
theorem d_M_bitOf_61 : decode prog_6_method_13_code 61 = .ok (.ireturn, 1) := by decide +kernel
def b_M_bitOf_61 (post : Option Value → Mm → Prop) : Kk := (i_iret post)
theorem t_M_bitOf_61 {Z : Zt} {X0 : Mm} {post : Option Value → Mm → Prop} (g : Good Z prog_6_method_13_code 4 "BusTelegramsModel" 0) (hq : RetZ Z true X0 0 0 post) (hr : (zM Z).sig.returnType = (some .int)) : Snd Z 4 61 (b_M_bitOf_61 post) := by
  unfold b_M_bitOf_61
  exact (s_iret0 g hq hr d_M_bitOf_61)
def b_M_bitOf_50 (post : Option Value → Mm → Prop) : Kk := (i_iload 1 (i_push (.int 9) (i_icmp (fun x y => x = y) (i_iload 2 (b_M_bitOf_61 post)) (i_push (.int 1) (b_M_bitOf_61 post)))))
theorem t_M_bitOf_50 {Z : Zt} {X0 : Mm} {post : Option Value → Mm → Prop} (g : Good Z prog_6_method_13_code 4 "BusTelegramsModel" 0) (hq : RetZ Z true X0 0 0 post) (hr : (zM Z).sig.returnType = (some .int)) : Snd Z 4 50 (b_M_bitOf_50 post) := by
  unfold b_M_bitOf_50
  exact (s_iload_n g d_M_bitOf_50 rfl (s_push_bipush g d_M_bitOf_51 (by decide) (s_icmp_ne g d_M_bitOf_53 (by decide) (s_push_iconst g d_M_bitOf_60 (by decide) (t_M_bitOf_61 g hq hr)) (s_iload_n g d_M_bitOf_56 rfl (s_goto g d_M_bitOf_57 (by decide) (t_M_bitOf_61 g hq hr))))))
def f_M_bitOf_24 (post : Option Value → Mm → Prop) (k24 : Kk) : Kk := (i_iload 3 (i_push (.int 8) (i_icmp (fun x y => y ≤ x) (b_M_bitOf_50 post) (i_iload 1 (i_push (.int 9) (i_icmp (fun x y => x = y) (i_iload 2 (i_iload 0 (i_iload 3 (i_bin (fun x y => x >>> (y &&& 31)) (i_push (.int 1) (i_bin (fun x y => x &&& y) (i_bin (fun x y => x ^^^ y) (i_istore 2 (i_iinc 3 1 k24))))))))) (b_M_bitOf_50 post)))))))
def b_M_bitOf_24 (post : Option Value → Mm → Prop) : Kk := i_loop [0, 1, 2, 3] (f_M_bitOf_24 post)
theorem t_M_bitOf_24 {Z : Zt} {X0 : Mm} {post : Option Value → Mm → Prop} (g : Good Z prog_6_method_13_code 4 "BusTelegramsModel" 0) (hq : RetZ Z true X0 0 0 post) (hr : (zM Z).sig.returnType = (some .int)) : Snd Z 4 24 (b_M_bitOf_24 post) := by
  unfold b_M_bitOf_24
  exact s_loop (fun k24 hk24 => by unfold f_M_bitOf_24; exact (s_iload_n g d_M_bitOf_24 rfl (s_push_bipush g d_M_bitOf_25 (by decide) (s_icmp_ge g d_M_bitOf_27 (by decide) (t_M_bitOf_50 g hq hr) (s_iload_n g d_M_bitOf_30 rfl (s_push_bipush g d_M_bitOf_31 (by decide) (s_icmp_ne g d_M_bitOf_33 (by decide) (t_M_bitOf_50 g hq hr) (s_iload_n g d_M_bitOf_36 rfl (s_iload_n g d_M_bitOf_37 rfl (s_iload_n g d_M_bitOf_38 rfl (s_ishr g d_M_bitOf_39 (s_push_iconst g d_M_bitOf_40 (by decide) (s_iand g d_M_bitOf_41 (s_ixor g d_M_bitOf_42 (s_istore_n g (by decide) d_M_bitOf_43 rfl (s_iinc g (by decide) d_M_bitOf_44 (by decide) (s_goto g d_M_bitOf_47 (by decide) hk24)))))))))))))))))
def b_M_bitOf_0 (post : Option Value → Mm → Prop) : Kk := (i_iload 1 (i_if (fun x y => x = y) (i_push (.int 0) (i_iret post)) (i_iload 1 (i_push (.int 9) (i_icmp (fun x y => y ≤ x) (i_push (.int 0) (i_istore 2 (i_push (.int 0) (i_istore 3 (b_M_bitOf_24 post))))) (i_iload 0 (i_iload 1 (i_push (.int 1) (i_bin (fun x y => x - y) (i_bin (fun x y => x >>> (y &&& 31)) (i_push (.int 1) (i_bin (fun x y => x &&& y) (i_iret post)))))))))))))
theorem t_M_bitOf_0 {Z : Zt} {X0 : Mm} {post : Option Value → Mm → Prop} (g : Good Z prog_6_method_13_code 4 "BusTelegramsModel" 0) (hq : RetZ Z true X0 0 0 post) (hr : (zM Z).sig.returnType = (some .int)) : Snd Z 4 0 (b_M_bitOf_0 post) := by
  unfold b_M_bitOf_0
  exact (s_iload_n g d_M_bitOf_0 rfl (s_if_ne g d_M_bitOf_1 (by decide) (s_iload_n g d_M_bitOf_6 rfl (s_push_bipush g d_M_bitOf_7 (by decide) (s_icmp_ge g d_M_bitOf_9 (by decide) (s_push_iconst g d_M_bitOf_20 (by decide) (s_istore_n g (by decide) d_M_bitOf_21 rfl (s_push_iconst g d_M_bitOf_22 (by decide) (s_istore_n g (by decide) d_M_bitOf_23 rfl (t_M_bitOf_24 g hq hr))))) (s_iload_n g d_M_bitOf_12 rfl (s_iload_n g d_M_bitOf_13 rfl (s_push_iconst g d_M_bitOf_14 (by decide) (s_isub g d_M_bitOf_15 (s_ishr g d_M_bitOf_16 (s_push_iconst g d_M_bitOf_17 (by decide) (s_iand g d_M_bitOf_18 (s_iret0 g hq hr d_M_bitOf_19))))))))))) (s_push_iconst g d_M_bitOf_4 (by decide) (s_iret0 g hq hr d_M_bitOf_5))))
def w_M_bitOf : Wp := wpOf 4 (fun _ post => b_M_bitOf_0 post)
theorem C_M_bitOf (l : Launch) : MetS l ({ cls := "BusTelegramsModel", name := "bitOf", desc := "(II)I" } : Jvm.MethodName) prog_6_method_13_code 4 (some .int) true 0 0 0 w_M_bitOf := metS_of (by decide +kernel) (fun Z X0 post hZ g hq hr _ => t_M_bitOf_0 g hq hr)
theorem hd_M_bitOf : (({ cls := "BusTelegramsModel", name := "bitOf", desc := "(II)I" } : Jvm.MethodName)).cls ≠ "java/lang/invoke/MethodHandle" ∧ (({ cls := "BusTelegramsModel", name := "bitOf", desc := "(II)I" } : Jvm.MethodName)).cls ≠ "java/lang/invoke/VarHandle" ∧ (parseMethodDescriptor (({ cls := "BusTelegramsModel", name := "bitOf", desc := "(II)I" } : Jvm.MethodName)).desc).map (fun d => d.parameters.length) = some 2 := ⟨by decide, by decide, by decide +kernel⟩
theorem d_M_open_0 : decode prog_6_method_20_code 0 = .ok (.aload_n 0, 1) := by decide +kernel
theorem d_M_open_1 : decode prog_6_method_20_code 1 = .ok (.iconst 1, 1) := by decide +kernel
theorem d_M_open_2 : decode prog_6_method_20_code 2 = .ok (.putfield 137, 3) := by decide +kernel
theorem d_M_open_5 : decode prog_6_method_20_code 5 = .ok (.aload_n 0, 1) := by decide +kernel
theorem d_M_open_6 : decode prog_6_method_20_code 6 = .ok (.iconst 1, 1) := by decide +kernel
theorem d_M_open_7 : decode prog_6_method_20_code 7 = .ok (.putfield 140, 3) := by decide +kernel
theorem d_M_open_10 : decode prog_6_method_20_code 10 = .ok (.aload_n 0, 1) := by decide +kernel
theorem d_M_open_11 : decode prog_6_method_20_code 11 = .ok (.iconst 0, 1) := by decide +kernel
theorem d_M_open_12 : decode prog_6_method_20_code 12 = .ok (.putfield 143, 3) := by decide +kernel
theorem d_M_open_15 : decode prog_6_method_20_code 15 = .ok (.aload_n 0, 1) := by decide +kernel
theorem d_M_open_16 : decode prog_6_method_20_code 16 = .ok (.iconst 0, 1) := by decide +kernel
theorem d_M_open_17 : decode prog_6_method_20_code 17 = .ok (.putfield 146, 3) := by decide +kernel
theorem d_M_open_20 : decode prog_6_method_20_code 20 = .ok (.return_, 1) := by decide +kernel
def b_M_open_0 (post : Option Value → Mm → Prop) : Kk := (i_aload 0 (i_push (.int 1) (i_putI 4 18 (i_aload 0 (i_push (.int 1) (i_putI 4 19 (i_aload 0 (i_push (.int 0) (i_putI 4 20 (i_aload 0 (i_push (.int 0) (i_putI 4 21 (i_vret post)))))))))))))
theorem t_M_open_0 {Z : Zt} {X0 : Mm} {post : Option Value → Mm → Prop} (g : Good Z prog_6_method_20_code 1 "BusTelegramsModel" 0) (hq : RetZ Z true X0 0 0 post) (hr : (zM Z).sig.returnType = none) : Snd Z 1 0 (b_M_open_0 post) := by
  unfold b_M_open_0
  exact (s_aload_n g d_M_open_0 rfl (s_push_iconst g d_M_open_1 (by decide) (s_putI g (c := 4) (j := 18) cok_4 (by decide) rfl rfl rfl mw_572 rfl d_M_open_2 (s_aload_n g d_M_open_5 rfl (s_push_iconst g d_M_open_6 (by decide) (s_putI g (c := 4) (j := 19) cok_4 (by decide) rfl rfl rfl mw_573 rfl d_M_open_7 (s_aload_n g d_M_open_10 rfl (s_push_iconst g d_M_open_11 (by decide) (s_putI g (c := 4) (j := 20) cok_4 (by decide) rfl rfl rfl mw_574 rfl d_M_open_12 (s_aload_n g d_M_open_15 rfl (s_push_iconst g d_M_open_16 (by decide) (s_putI g (c := 4) (j := 21) cok_4 (by decide) rfl rfl rfl mw_575 rfl d_M_open_17 (s_vret0 g hq hr d_M_open_20)))))))))))))
def w_M_open : Wp := wpOf 1 (fun _ post => b_M_open_0 post)
theorem C_M_open (l : Launch) : MetS l ({ cls := "BusTelegramsModel", name := "open", desc := "()V" } : Jvm.MethodName) prog_6_method_20_code 1 none true 0 0 0 w_M_open := metS_of (by decide +kernel) (fun Z X0 post hZ g hq hr _ => t_M_open_0 g hq hr)
theorem hd_M_open : (({ cls := "BusTelegramsModel", name := "open", desc := "()V" } : Jvm.MethodName)).cls = "BusTelegramsModel" ∧ (({ cls := "BusTelegramsModel", name := "open", desc := "()V" } : Jvm.MethodName)).cls ≠ "java/lang/invoke/MethodHandle" ∧ (({ cls := "BusTelegramsModel", name := "open", desc := "()V" } : Jvm.MethodName)).cls ≠ "java/lang/invoke/VarHandle" ∧ (parseMethodDescriptor (({ cls := "BusTelegramsModel", name := "open", desc := "()V" } : Jvm.MethodName)).desc).map (fun d => d.parameters.length) = some 0 := ⟨rfl, by decide, by decide, by decide +kernel⟩
theorem d_M_collect_0 : decode prog_6_method_22_code 0 = .ok (.aload_n 0, 1) := by decide +kernel
theorem d_M_collect_1 : decode prog_6_method_22_code 1 = .ok (.dup, 1) := by decide +kernel
theorem d_M_collect_2 : decode prog_6_method_22_code 2 = .ok (.getfield 143, 3) := by decide +kernel
theorem d_M_collect_5 : decode prog_6_method_22_code 5 = .ok (.aload_n 0, 1) := by decide +kernel
theorem d_M_collect_6 : decode prog_6_method_22_code 6 = .ok (.getfield 140, 3) := by decide +kernel
theorem d_M_collect_9 : decode prog_6_method_22_code 9 = .ok (.bipush 9, 2) := by decide +kernel
theorem d_M_collect_11 : decode prog_6_method_22_code 11 = .ok (.if_icmp .ge 14, 3) := by decide +kernel
theorem d_M_collect_14 : decode prog_6_method_22_code 14 = .ok (.iload_n 1, 1) := by decide +kernel
theorem d_M_collect_15 : decode prog_6_method_22_code 15 = .ok (.aload_n 0, 1) := by decide +kernel
theorem d_M_collect_16 : decode prog_6_method_22_code 16 = .ok (.getfield 140, 3) := by decide +kernel
theorem d_M_collect_19 : decode prog_6_method_22_code 19 = .ok (.iconst 1, 1) := by decide +kernel
theorem d_M_collect_20 : decode prog_6_method_22_code 20 = .ok (.isub, 1) := by decide +kernel
theorem d_M_collect_21 : decode prog_6_method_22_code 21 = .ok (.ishl, 1) := by decide +kernel
theorem d_M_collect_22 : decode prog_6_method_22_code 22 = .ok (.goto 4, 3) := by decide +kernel
theorem d_M_collect_25 : decode prog_6_method_22_code 25 = .ok (.iconst 0, 1) := by decide +kernel
theorem d_M_collect_26 : decode prog_6_method_22_code 26 = .ok (.iadd, 1) := by decide +kernel
theorem d_M_collect_27 : decode prog_6_method_22_code 27 = .ok (.putfield 143, 3) := by decide +kernel
theorem d_M_collect_30 : decode prog_6_method_22_code 30 = .ok (.aload_n 0, 1) := by decide +kernel
theorem d_M_collect_31 : decode prog_6_method_22_code 31 = .ok (.dup, 1) := by decide +kernel
theorem d_M_collect_32 : decode prog_6_method_22_code 32 = .ok (.getfield 146, 3) := by decide +kernel
theorem d_M_collect_35 : decode prog_6_method_22_code 35 = .ok (.aload_n 0, 1) := by decide +kernel
theorem d_M_collect_36 : decode prog_6_method_22_code 36 = .ok (.getfield 140, 3) := by decide +kernel
theorem d_M_collect_39 : decode prog_6_method_22_code 39 = .ok (.bipush 10, 2) := by decide +kernel
theorem d_M_collect_41 : decode prog_6_method_22_code 41 = .ok (.if_icmp .ge 7, 3) := by decide +kernel
theorem d_M_collect_44 : decode prog_6_method_22_code 44 = .ok (.iload_n 1, 1) := by decide +kernel
theorem d_M_collect_45 : decode prog_6_method_22_code 45 = .ok (.goto 4, 3) := by decide +kernel
theorem d_M_collect_48 : decode prog_6_method_22_code 48 = .ok (.iconst 0, 1) := by decide +kernel
theorem d_M_collect_49 : decode prog_6_method_22_code 49 = .ok (.iadd, 1) := by decide +kernel
theorem d_M_collect_50 : decode prog_6_method_22_code 50 = .ok (.putfield 146, 3) := by decide +kernel
theorem d_M_collect_53 : decode prog_6_method_22_code 53 = .ok (.aload_n 0, 1) := by decide +kernel
theorem d_M_collect_54 : decode prog_6_method_22_code 54 = .ok (.dup, 1) := by decide +kernel
theorem d_M_collect_55 : decode prog_6_method_22_code 55 = .ok (.getfield 140, 3) := by decide +kernel
theorem d_M_collect_58 : decode prog_6_method_22_code 58 = .ok (.iconst 1, 1) := by decide +kernel
theorem d_M_collect_59 : decode prog_6_method_22_code 59 = .ok (.iadd, 1) := by decide +kernel
theorem d_M_collect_60 : decode prog_6_method_22_code 60 = .ok (.putfield 140, 3) := by decide +kernel
theorem d_M_collect_63 : decode prog_6_method_22_code 63 = .ok (.aload_n 0, 1) := by decide +kernel
theorem d_M_collect_64 : decode prog_6_method_22_code 64 = .ok (.getfield 140, 3) := by decide +kernel
theorem d_M_collect_67 : decode prog_6_method_22_code 67 = .ok (.bipush 11, 2) := by decide +kernel
theorem d_M_collect_69 : decode prog_6_method_22_code 69 = .ok (.if_icmp .ge 4, 3) := by decide +kernel
theorem d_M_collect_72 : decode prog_6_method_22_code 72 = .ok (.return_, 1) := by decide +kernel
theorem d_M_collect_73 : decode prog_6_method_22_code 73 = .ok (.aload_n 0, 1) := by decide +kernel
theorem d_M_collect_74 : decode prog_6_method_22_code 74 = .ok (.aload_n 0, 1) := by decide +kernel
theorem d_M_collect_75 : decode prog_6_method_22_code 75 = .ok (.getfield 125, 3) := by decide +kernel
theorem d_M_collect_78 : decode prog_6_method_22_code 78 = .ok (.ifCond .ne 17, 3) := by decide +kernel
theorem d_M_collect_81 : decode prog_6_method_22_code 81 = .ok (.aload_n 0, 1) := by decide +kernel
theorem d_M_collect_82 : decode prog_6_method_22_code 82 = .ok (.getfield 146, 3) := by decide +kernel
theorem d_M_collect_85 : decode prog_6_method_22_code 85 = .ok (.iconst 2, 1) := by decide +kernel
theorem d_M_collect_86 : decode prog_6_method_22_code 86 = .ok (.irem, 1) := by decide +kernel
theorem d_M_collect_87 : decode prog_6_method_22_code 87 = .ok (.iconst 1, 1) := by decide +kernel
theorem d_M_collect_88 : decode prog_6_method_22_code 88 = .ok (.if_icmp .eq 7, 3) := by decide +kernel
theorem d_M_collect_91 : decode prog_6_method_22_code 91 = .ok (.iload_n 1, 1) := by decide +kernel
theorem d_M_collect_92 : decode prog_6_method_22_code 92 = .ok (.ifCond .ne 7, 3) := by decide +kernel
theorem d_M_collect_95 : decode prog_6_method_22_code 95 = .ok (.iconst 1, 1) := by decide +kernel
theorem d_M_collect_96 : decode prog_6_method_22_code 96 = .ok (.goto 4, 3) := by decide +kernel
theorem d_M_collect_99 : decode prog_6_method_22_code 99 = .ok (.iconst 0, 1) := by decide +kernel
theorem d_M_collect_100 : decode prog_6_method_22_code 100 = .ok (.putfield 125, 3) := by decide +kernel
theorem d_M_collect_103 : decode prog_6_method_22_code 103 = .ok (.aload_n 0, 1) := by decide +kernel
theorem d_M_collect_104 : decode prog_6_method_22_code 104 = .ok (.getfield 58, 3) := by decide +kernel
theorem d_M_collect_107 : decode prog_6_method_22_code 107 = .ok (.aload_n 0, 1) := by decide +kernel
theorem d_M_collect_108 : decode prog_6_method_22_code 108 = .ok (.getfield 122, 3) := by decide +kernel
theorem d_M_collect_111 : decode prog_6_method_22_code 111 = .ok (.aload_n 0, 1) := by decide +kernel
theorem d_M_collect_112 : decode prog_6_method_22_code 112 = .ok (.getfield 143, 3) := by decide +kernel
theorem d_M_collect_115 : decode prog_6_method_22_code 115 = .ok (.iastore, 1) := by decide +kernel
theorem d_M_collect_116 : decode prog_6_method_22_code 116 = .ok (.aload_n 0, 1) := by decide +kernel
theorem d_M_collect_117 : decode prog_6_method_22_code 117 = .ok (.dup, 1) := by decide +kernel
theorem d_M_collect_118 : decode prog_6_method_22_code 118 = .ok (.getfield 122, 3) := by decide +kernel
theorem d_M_collect_121 : decode prog_6_method_22_code 121 = .ok (.iconst 1, 1) := by decide +kernel
theorem d_M_collect_122 : decode prog_6_method_22_code 122 = .ok (.iadd, 1) := by decide +kernel
theorem d_M_collect_123 : decode prog_6_method_22_code 123 = .ok (.putfield 122, 3) := by decide +kernel
theorem d_M_collect_126 : decode prog_6_method_22_code 126 = .ok (.aload_n 0, 1) := by decide +kernel
theorem d_M_collect_127 : decode prog_6_method_22_code 127 = .ok (.aload_n 0, 1) := by decide +kernel
theorem d_M_collect_128 : decode prog_6_method_22_code 128 = .ok (.getfield 85, 3) := by decide +kernel
theorem d_M_collect_131 : decode prog_6_method_22_code 131 = .ok (.putfield 128, 3) := by decide +kernel
theorem d_M_collect_134 : decode prog_6_method_22_code 134 = .ok (.aload_n 0, 1) := by decide +kernel
theorem d_M_collect_135 : decode prog_6_method_22_code 135 = .ok (.iconst 2, 1) := by decide +kernel
theorem d_M_collect_136 : decode prog_6_method_22_code 136 = .ok (.putfield 137, 3) := by decide +kernel
theorem d_M_collect_139 : decode prog_6_method_22_code 139 = .ok (.aload_n 0, 1) := by decide +kernel
theorem d_M_collect_140 : decode prog_6_method_22_code 140 = .ok (.iconst 0, 1) := by decide +kernel
theorem d_M_collect_141 : decode prog_6_method_22_code 141 = .ok (.putfield 140, 3) := by decide +kernel
theorem d_M_collect_144 : decode prog_6_method_22_code 144 = .ok (.return_, 1) := by decide +kernel
def b_M_collect_100 (post : Option Value → Mm → Prop) : Kk := (i_putZ 4 22 (i_aload 0 (i_getR 4 26 (i_aload 0 (i_getI 4 25 (i_aload 0 (i_getI 4 20 (i_ast (i_aload 0 (i_dup (i_getI 4 25 (i_push (.int 1) (i_bin (fun x y => x + y) (i_putI 4 25 (i_aload 0 (i_aload 0 (i_getI 4 1 (i_putI 4 24 (i_aload 0 (i_push (.int 2) (i_putI 4 18 (i_aload 0 (i_push (.int 0) (i_putI 4 19 (i_vret post)))))))))))))))))))))))))
theorem t_M_collect_100 {Z : Zt} {X0 : Mm} {post : Option Value → Mm → Prop} (g : Good Z prog_6_method_22_code 2 "BusTelegramsModel" 0) (hq : RetZ Z true X0 0 0 post) (hr : (zM Z).sig.returnType = none) : Snd Z 2 100 (b_M_collect_100 post) := by
  unfold b_M_collect_100
  exact (s_putZ g (c := 4) (j := 22) cok_4 (by decide) rfl rfl rfl mw_576 rfl d_M_collect_100 (s_aload_n g d_M_collect_103 rfl (s_getR g (c := 4) (j := 26) cok_4 (by decide) rfl mw_580 rfl d_M_collect_104 (s_aload_n g d_M_collect_107 rfl (s_getI g (c := 4) (j := 25) cok_4 (by decide) rfl mw_579 rfl d_M_collect_108 (s_aload_n g d_M_collect_111 rfl (s_getI g (c := 4) (j := 20) cok_4 (by decide) rfl mw_574 rfl d_M_collect_112 (s_iast g d_M_collect_115 (s_aload_n g d_M_collect_116 rfl (s_dup g d_M_collect_117 (s_getI g (c := 4) (j := 25) cok_4 (by decide) rfl mw_579 rfl d_M_collect_118 (s_push_iconst g d_M_collect_121 (by decide) (s_iadd g d_M_collect_122 (s_putI g (c := 4) (j := 25) cok_4 (by decide) rfl rfl rfl mw_579 rfl d_M_collect_123 (s_aload_n g d_M_collect_126 rfl (s_aload_n g d_M_collect_127 rfl (s_getI g (c := 4) (j := 1) cok_4 (by decide) rfl mw_555 rfl d_M_collect_128 (s_putI g (c := 4) (j := 24) cok_4 (by decide) rfl rfl rfl mw_578 rfl d_M_collect_131 (s_aload_n g d_M_collect_134 rfl (s_push_iconst g d_M_collect_135 (by decide) (s_putI g (c := 4) (j := 18) cok_4 (by decide) rfl rfl rfl mw_572 rfl d_M_collect_136 (s_aload_n g d_M_collect_139 rfl (s_push_iconst g d_M_collect_140 (by decide) (s_putI g (c := 4) (j := 19) cok_4 (by decide) rfl rfl rfl mw_573 rfl d_M_collect_141 (s_vret0 g hq hr d_M_collect_144)))))))))))))))))))))))))
def b_M_collect_95 (post : Option Value → Mm → Prop) : Kk := (i_push (.int 1) (b_M_collect_100 post))
theorem t_M_collect_95 {Z : Zt} {X0 : Mm} {post : Option Value → Mm → Prop} (g : Good Z prog_6_method_22_code 2 "BusTelegramsModel" 0) (hq : RetZ Z true X0 0 0 post) (hr : (zM Z).sig.returnType = none) : Snd Z 2 95 (b_M_collect_95 post) := by
  unfold b_M_collect_95
  exact (s_push_iconst g d_M_collect_95 (by decide) (s_goto g d_M_collect_96 (by decide) (t_M_collect_100 g hq hr)))
def b_M_collect_49 (post : Option Value → Mm → Prop) : Kk := (i_bin (fun x y => x + y) (i_putI 4 21 (i_aload 0 (i_dup (i_getI 4 19 (i_push (.int 1) (i_bin (fun x y => x + y) (i_putI 4 19 (i_aload 0 (i_getI 4 19 (i_push (.int 11) (i_icmp (fun x y => y ≤ x) (i_aload 0 (i_aload 0 (i_getI 4 22 (i_if (fun x y => x = y) (i_aload 0 (i_getI 4 21 (i_push (.int 2) (i_binz (fun x y => x - x / y * y) (i_push (.int 1) (i_icmp (fun x y => x = y) (b_M_collect_95 post) (i_iload 1 (i_if (fun x y => x = y) (b_M_collect_95 post) (i_push (.int 0) (b_M_collect_100 post)))))))))) (b_M_collect_95 post))))) (i_vret post)))))))))))))
theorem t_M_collect_49 {Z : Zt} {X0 : Mm} {post : Option Value → Mm → Prop} (g : Good Z prog_6_method_22_code 2 "BusTelegramsModel" 0) (hq : RetZ Z true X0 0 0 post) (hr : (zM Z).sig.returnType = none) : Snd Z 2 49 (b_M_collect_49 post) := by
  unfold b_M_collect_49
  exact (s_iadd g d_M_collect_49 (s_putI g (c := 4) (j := 21) cok_4 (by decide) rfl rfl rfl mw_575 rfl d_M_collect_50 (s_aload_n g d_M_collect_53 rfl (s_dup g d_M_collect_54 (s_getI g (c := 4) (j := 19) cok_4 (by decide) rfl mw_573 rfl d_M_collect_55 (s_push_iconst g d_M_collect_58 (by decide) (s_iadd g d_M_collect_59 (s_putI g (c := 4) (j := 19) cok_4 (by decide) rfl rfl rfl mw_573 rfl d_M_collect_60 (s_aload_n g d_M_collect_63 rfl (s_getI g (c := 4) (j := 19) cok_4 (by decide) rfl mw_573 rfl d_M_collect_64 (s_push_bipush g d_M_collect_67 (by decide) (s_icmp_ge g d_M_collect_69 (by decide) (s_aload_n g d_M_collect_73 rfl (s_aload_n g d_M_collect_74 rfl (s_getI g (c := 4) (j := 22) cok_4 (by decide) rfl mw_576 rfl d_M_collect_75 (s_if_ne g d_M_collect_78 (by decide) (t_M_collect_95 g hq hr) (s_aload_n g d_M_collect_81 rfl (s_getI g (c := 4) (j := 21) cok_4 (by decide) rfl mw_575 rfl d_M_collect_82 (s_push_iconst g d_M_collect_85 (by decide) (s_irem g d_M_collect_86 (s_push_iconst g d_M_collect_87 (by decide) (s_icmp_eq g d_M_collect_88 (by decide) (t_M_collect_95 g hq hr) (s_iload_n g d_M_collect_91 rfl (s_if_ne g d_M_collect_92 (by decide) (s_push_iconst g d_M_collect_99 (by decide) (t_M_collect_100 g hq hr)) (t_M_collect_95 g hq hr))))))))))))) (s_vret0 g hq hr d_M_collect_72)))))))))))))
def b_M_collect_26 (post : Option Value → Mm → Prop) : Kk := (i_bin (fun x y => x + y) (i_putI 4 20 (i_aload 0 (i_dup (i_getI 4 21 (i_aload 0 (i_getI 4 19 (i_push (.int 10) (i_icmp (fun x y => y ≤ x) (i_push (.int 0) (b_M_collect_49 post)) (i_iload 1 (b_M_collect_49 post)))))))))))
theorem t_M_collect_26 {Z : Zt} {X0 : Mm} {post : Option Value → Mm → Prop} (g : Good Z prog_6_method_22_code 2 "BusTelegramsModel" 0) (hq : RetZ Z true X0 0 0 post) (hr : (zM Z).sig.returnType = none) : Snd Z 2 26 (b_M_collect_26 post) := by
  unfold b_M_collect_26
  exact (s_iadd g d_M_collect_26 (s_putI g (c := 4) (j := 20) cok_4 (by decide) rfl rfl rfl mw_574 rfl d_M_collect_27 (s_aload_n g d_M_collect_30 rfl (s_dup g d_M_collect_31 (s_getI g (c := 4) (j := 21) cok_4 (by decide) rfl mw_575 rfl d_M_collect_32 (s_aload_n g d_M_collect_35 rfl (s_getI g (c := 4) (j := 19) cok_4 (by decide) rfl mw_573 rfl d_M_collect_36 (s_push_bipush g d_M_collect_39 (by decide) (s_icmp_ge g d_M_collect_41 (by decide) (s_push_iconst g d_M_collect_48 (by decide) (t_M_collect_49 g hq hr)) (s_iload_n g d_M_collect_44 rfl (s_goto g d_M_collect_45 (by decide) (t_M_collect_49 g hq hr))))))))))))
def b_M_collect_0 (post : Option Value → Mm → Prop) : Kk := (i_aload 0 (i_dup (i_getI 4 20 (i_aload 0 (i_getI 4 19 (i_push (.int 9) (i_icmp (fun x y => y ≤ x) (i_push (.int 0) (b_M_collect_26 post)) (i_iload 1 (i_aload 0 (i_getI 4 19 (i_push (.int 1) (i_bin (fun x y => x - y) (i_bin (fun x y => x <<< (y &&& 31)) (b_M_collect_26 post))))))))))))))
theorem t_M_collect_0 {Z : Zt} {X0 : Mm} {post : Option Value → Mm → Prop} (g : Good Z prog_6_method_22_code 2 "BusTelegramsModel" 0) (hq : RetZ Z true X0 0 0 post) (hr : (zM Z).sig.returnType = none) : Snd Z 2 0 (b_M_collect_0 post) := by
  unfold b_M_collect_0
  exact (s_aload_n g d_M_collect_0 rfl (s_dup g d_M_collect_1 (s_getI g (c := 4) (j := 20) cok_4 (by decide) rfl mw_574 rfl d_M_collect_2 (s_aload_n g d_M_collect_5 rfl (s_getI g (c := 4) (j := 19) cok_4 (by decide) rfl mw_573 rfl d_M_collect_6 (s_push_bipush g d_M_collect_9 (by decide) (s_icmp_ge g d_M_collect_11 (by decide) (s_push_iconst g d_M_collect_25 (by decide) (t_M_collect_26 g hq hr)) (s_iload_n g d_M_collect_14 rfl (s_aload_n g d_M_collect_15 rfl (s_getI g (c := 4) (j := 19) cok_4 (by decide) rfl mw_573 rfl d_M_collect_16 (s_push_iconst g d_M_collect_19 (by decide) (s_isub g d_M_collect_20 (s_ishl g d_M_collect_21 (s_goto g d_M_collect_22 (by decide) (t_M_collect_26 g hq hr)))))))))))))))
def w_M_collect : Wp := wpOf 2 (fun _ post => b_M_collect_0 post)
theorem C_M_collect (l : Launch) : MetS l ({ cls := "BusTelegramsModel", name := "collect", desc := "(I)V" } : Jvm.MethodName) prog_6_method_22_code 2 none true 0 0 0 w_M_collect := metS_of (by decide +kernel) (fun Z X0 post hZ g hq hr _ => t_M_collect_0 g hq hr)
theorem hd_M_collect : (({ cls := "BusTelegramsModel", name := "collect", desc := "(I)V" } : Jvm.MethodName)).cls = "BusTelegramsModel" ∧ (({ cls := "BusTelegramsModel", name := "collect", desc := "(I)V" } : Jvm.MethodName)).cls ≠ "java/lang/invoke/MethodHandle" ∧ (({ cls := "BusTelegramsModel", name := "collect", desc := "(I)V" } : Jvm.MethodName)).cls ≠ "java/lang/invoke/VarHandle" ∧ (parseMethodDescriptor (({ cls := "BusTelegramsModel", name := "collect", desc := "(I)V" } : Jvm.MethodName)).desc).map (fun d => d.parameters.length) = some 1 := ⟨rfl, by decide, by decide, by decide +kernel⟩
theorem d_M_complete_0 : decode prog_6_method_19_code 0 = .ok (.aload_n 0, 1) := by decide +kernel
theorem d_M_complete_1 : decode prog_6_method_19_code 1 = .ok (.getfield 122, 3) := by decide +kernel
theorem d_M_complete_4 : decode prog_6_method_19_code 4 = .ok (.bipush 8, 2) := by decide +kernel
theorem d_M_complete_6 : decode prog_6_method_19_code 6 = .ok (.if_icmp .lt 172, 3) := by decide +kernel
theorem d_M_complete_9 : decode prog_6_method_19_code 9 = .ok (.aload_n 0, 1) := by decide +kernel
theorem d_M_complete_10 : decode prog_6_method_19_code 10 = .ok (.getfield 125, 3) := by decide +kernel
theorem d_M_complete_13 : decode prog_6_method_19_code 13 = .ok (.ifCond .ne 165, 3) := by decide +kernel
theorem d_M_complete_16 : decode prog_6_method_19_code 16 = .ok (.aload_n 0, 1) := by decide +kernel
theorem d_M_complete_17 : decode prog_6_method_19_code 17 = .ok (.iconst 1, 1) := by decide +kernel
theorem d_M_complete_18 : decode prog_6_method_19_code 18 = .ok (.putfield 102, 3) := by decide +kernel
theorem d_M_complete_21 : decode prog_6_method_19_code 21 = .ok (.aload_n 0, 1) := by decide +kernel
theorem d_M_complete_22 : decode prog_6_method_19_code 22 = .ok (.aload_n 0, 1) := by decide +kernel
theorem d_M_complete_23 : decode prog_6_method_19_code 23 = .ok (.getfield 128, 3) := by decide +kernel
theorem d_M_complete_26 : decode prog_6_method_19_code 26 = .ok (.putfield 109, 3) := by decide +kernel
theorem d_M_complete_29 : decode prog_6_method_19_code 29 = .ok (.aload_n 0, 1) := by decide +kernel
theorem d_M_complete_30 : decode prog_6_method_19_code 30 = .ok (.aload_n 0, 1) := by decide +kernel
theorem d_M_complete_31 : decode prog_6_method_19_code 31 = .ok (.getfield 122, 3) := by decide +kernel
theorem d_M_complete_34 : decode prog_6_method_19_code 34 = .ok (.putfield 131, 3) := by decide +kernel
theorem d_M_complete_37 : decode prog_6_method_19_code 37 = .ok (.sipush 255, 3) := by decide +kernel
theorem d_M_complete_40 : decode prog_6_method_19_code 40 = .ok (.istore_n 1, 1) := by decide +kernel
theorem d_M_complete_41 : decode prog_6_method_19_code 41 = .ok (.iconst 0, 1) := by decide +kernel
theorem d_M_complete_42 : decode prog_6_method_19_code 42 = .ok (.istore_n 2, 1) := by decide +kernel
theorem d_M_complete_43 : decode prog_6_method_19_code 43 = .ok (.iload_n 2, 1) := by decide +kernel
theorem d_M_complete_44 : decode prog_6_method_19_code 44 = .ok (.aload_n 0, 1) := by decide +kernel
theorem d_M_complete_45 : decode prog_6_method_19_code 45 = .ok (.getfield 131, 3) := by decide +kernel
theorem d_M_complete_48 : decode prog_6_method_19_code 48 = .ok (.if_icmp .ge 44, 3) := by decide +kernel
theorem d_M_complete_51 : decode prog_6_method_19_code 51 = .ok (.aload_n 0, 1) := by decide +kernel
theorem d_M_complete_52 : decode prog_6_method_19_code 52 = .ok (.getfield 67, 3) := by decide +kernel
theorem d_M_complete_55 : decode prog_6_method_19_code 55 = .ok (.iload_n 2, 1) := by decide +kernel
theorem d_M_complete_56 : decode prog_6_method_19_code 56 = .ok (.aload_n 0, 1) := by decide +kernel
theorem d_M_complete_57 : decode prog_6_method_19_code 57 = .ok (.getfield 58, 3) := by decide +kernel
theorem d_M_complete_60 : decode prog_6_method_19_code 60 = .ok (.iload_n 2, 1) := by decide +kernel
theorem d_M_complete_61 : decode prog_6_method_19_code 61 = .ok (.iaload, 1) := by decide +kernel
theorem d_M_complete_62 : decode prog_6_method_19_code 62 = .ok (.iastore, 1) := by decide +kernel
theorem d_M_complete_63 : decode prog_6_method_19_code 63 = .ok (.iload_n 2, 1) := by decide +kernel
theorem d_M_complete_64 : decode prog_6_method_19_code 64 = .ok (.iconst 1, 1) := by decide +kernel
theorem d_M_complete_65 : decode prog_6_method_19_code 65 = .ok (.iadd, 1) := by decide +kernel
theorem d_M_complete_66 : decode prog_6_method_19_code 66 = .ok (.aload_n 0, 1) := by decide +kernel
theorem d_M_complete_67 : decode prog_6_method_19_code 67 = .ok (.getfield 131, 3) := by decide +kernel
theorem d_M_complete_70 : decode prog_6_method_19_code 70 = .ok (.if_icmp .ge 14, 3) := by decide +kernel
theorem d_M_complete_73 : decode prog_6_method_19_code 73 = .ok (.iload_n 1, 1) := by decide +kernel
theorem d_M_complete_74 : decode prog_6_method_19_code 74 = .ok (.aload_n 0, 1) := by decide +kernel
theorem d_M_complete_75 : decode prog_6_method_19_code 75 = .ok (.getfield 58, 3) := by decide +kernel
theorem d_M_complete_78 : decode prog_6_method_19_code 78 = .ok (.iload_n 2, 1) := by decide +kernel
theorem d_M_complete_79 : decode prog_6_method_19_code 79 = .ok (.iaload, 1) := by decide +kernel
theorem d_M_complete_80 : decode prog_6_method_19_code 80 = .ok (.ixor, 1) := by decide +kernel
theorem d_M_complete_81 : decode prog_6_method_19_code 81 = .ok (.goto 4, 3) := by decide +kernel
theorem d_M_complete_84 : decode prog_6_method_19_code 84 = .ok (.iload_n 1, 1) := by decide +kernel
theorem d_M_complete_85 : decode prog_6_method_19_code 85 = .ok (.istore_n 1, 1) := by decide +kernel
theorem d_M_complete_86 : decode prog_6_method_19_code 86 = .ok (.iinc 2 1, 3) := by decide +kernel
theorem d_M_complete_89 : decode prog_6_method_19_code 89 = .ok (.goto (-46), 3) := by decide +kernel
theorem d_M_complete_92 : decode prog_6_method_19_code 92 = .ok (.aload_n 0, 1) := by decide +kernel
theorem d_M_complete_93 : decode prog_6_method_19_code 93 = .ok (.iload_n 1, 1) := by decide +kernel
theorem d_M_complete_94 : decode prog_6_method_19_code 94 = .ok (.aload_n 0, 1) := by decide +kernel
theorem d_M_complete_95 : decode prog_6_method_19_code 95 = .ok (.getfield 58, 3) := by decide +kernel
theorem d_M_complete_98 : decode prog_6_method_19_code 98 = .ok (.aload_n 0, 1) := by decide +kernel
theorem d_M_complete_99 : decode prog_6_method_19_code 99 = .ok (.getfield 131, 3) := by decide +kernel
theorem d_M_complete_102 : decode prog_6_method_19_code 102 = .ok (.iconst 1, 1) := by decide +kernel
theorem d_M_complete_103 : decode prog_6_method_19_code 103 = .ok (.isub, 1) := by decide +kernel
theorem d_M_complete_104 : decode prog_6_method_19_code 104 = .ok (.iaload, 1) := by decide +kernel
theorem d_M_complete_105 : decode prog_6_method_19_code 105 = .ok (.if_icmp .ne 27, 3) := by decide +kernel
theorem d_M_complete_108 : decode prog_6_method_19_code 108 = .ok (.aload_n 0, 1) := by decide +kernel
theorem d_M_complete_109 : decode prog_6_method_19_code 109 = .ok (.getfield 131, 3) := by decide +kernel
theorem d_M_complete_112 : decode prog_6_method_19_code 112 = .ok (.bipush 8, 2) := by decide +kernel
theorem d_M_complete_114 : decode prog_6_method_19_code 114 = .ok (.aload_n 0, 1) := by decide +kernel
theorem d_M_complete_115 : decode prog_6_method_19_code 115 = .ok (.getfield 58, 3) := by decide +kernel
theorem d_M_complete_118 : decode prog_6_method_19_code 118 = .ok (.iconst 5, 1) := by decide +kernel
theorem d_M_complete_119 : decode prog_6_method_19_code 119 = .ok (.iaload, 1) := by decide +kernel
theorem d_M_complete_120 : decode prog_6_method_19_code 120 = .ok (.sipush 128, 3) := by decide +kernel
theorem d_M_complete_123 : decode prog_6_method_19_code 123 = .ok (.irem, 1) := by decide +kernel
theorem d_M_complete_124 : decode prog_6_method_19_code 124 = .ok (.iadd, 1) := by decide +kernel
theorem d_M_complete_125 : decode prog_6_method_19_code 125 = .ok (.if_icmp .ne 7, 3) := by decide +kernel
theorem d_M_complete_128 : decode prog_6_method_19_code 128 = .ok (.iconst 1, 1) := by decide +kernel
theorem d_M_complete_129 : decode prog_6_method_19_code 129 = .ok (.goto 4, 3) := by decide +kernel
theorem d_M_complete_132 : decode prog_6_method_19_code 132 = .ok (.iconst 0, 1) := by decide +kernel
theorem d_M_complete_133 : decode prog_6_method_19_code 133 = .ok (.putfield 116, 3) := by decide +kernel
theorem d_M_complete_136 : decode prog_6_method_19_code 136 = .ok (.aload_n 0, 1) := by decide +kernel
theorem d_M_complete_137 : decode prog_6_method_19_code 137 = .ok (.iconst 0, 1) := by decide +kernel
theorem d_M_complete_138 : decode prog_6_method_19_code 138 = .ok (.putfield 106, 3) := by decide +kernel
theorem d_M_complete_141 : decode prog_6_method_19_code 141 = .ok (.aload_n 0, 1) := by decide +kernel
theorem d_M_complete_142 : decode prog_6_method_19_code 142 = .ok (.iconst (-1), 1) := by decide +kernel
theorem d_M_complete_143 : decode prog_6_method_19_code 143 = .ok (.putfield 64, 3) := by decide +kernel
theorem d_M_complete_146 : decode prog_6_method_19_code 146 = .ok (.aload_n 0, 1) := by decide +kernel
theorem d_M_complete_147 : decode prog_6_method_19_code 147 = .ok (.getfield 61, 3) := by decide +kernel
theorem d_M_complete_150 : decode prog_6_method_19_code 150 = .ok (.iconst 0, 1) := by decide +kernel
theorem d_M_complete_151 : decode prog_6_method_19_code 151 = .ok (.dup2, 1) := by decide +kernel
theorem d_M_complete_152 : decode prog_6_method_19_code 152 = .ok (.iaload, 1) := by decide +kernel
theorem d_M_complete_153 : decode prog_6_method_19_code 153 = .ok (.iconst 1, 1) := by decide +kernel
theorem d_M_complete_154 : decode prog_6_method_19_code 154 = .ok (.iadd, 1) := by decide +kernel
theorem d_M_complete_155 : decode prog_6_method_19_code 155 = .ok (.iastore, 1) := by decide +kernel
theorem d_M_complete_156 : decode prog_6_method_19_code 156 = .ok (.aload_n 0, 1) := by decide +kernel
theorem d_M_complete_157 : decode prog_6_method_19_code 157 = .ok (.getfield 61, 3) := by decide +kernel
theorem d_M_complete_160 : decode prog_6_method_19_code 160 = .ok (.iconst 1, 1) := by decide +kernel
theorem d_M_complete_161 : decode prog_6_method_19_code 161 = .ok (.dup2, 1) := by decide +kernel
theorem d_M_complete_162 : decode prog_6_method_19_code 162 = .ok (.iaload, 1) := by decide +kernel
theorem d_M_complete_163 : decode prog_6_method_19_code 163 = .ok (.aload_n 0, 1) := by decide +kernel
theorem d_M_complete_164 : decode prog_6_method_19_code 164 = .ok (.getfield 116, 3) := by decide +kernel
theorem d_M_complete_167 : decode prog_6_method_19_code 167 = .ok (.ifCond .eq 7, 3) := by decide +kernel
theorem d_M_complete_170 : decode prog_6_method_19_code 170 = .ok (.iconst 1, 1) := by decide +kernel
theorem d_M_complete_171 : decode prog_6_method_19_code 171 = .ok (.goto 4, 3) := by decide +kernel
theorem d_M_complete_174 : decode prog_6_method_19_code 174 = .ok (.iconst 0, 1) := by decide +kernel
theorem d_M_complete_175 : decode prog_6_method_19_code 175 = .ok (.iadd, 1) := by decide +kernel
theorem d_M_complete_176 : decode prog_6_method_19_code 176 = .ok (.iastore, 1) := by decide +kernel
theorem d_M_complete_177 : decode prog_6_method_19_code 177 = .ok (.return_, 1) := by decide +kernel
theorem d_M_complete_178 : decode prog_6_method_19_code 178 = .ok (.aload_n 0, 1) := by decide +kernel
theorem d_M_complete_179 : decode prog_6_method_19_code 179 = .ok (.getfield 102, 3) := by decide +kernel
theorem d_M_complete_182 : decode prog_6_method_19_code 182 = .ok (.ifCond .eq 69, 3) := by decide +kernel
theorem d_M_complete_185 : decode prog_6_method_19_code 185 = .ok (.aload_n 0, 1) := by decide +kernel
theorem d_M_complete_186 : decode prog_6_method_19_code 186 = .ok (.getfield 134, 3) := by decide +kernel
theorem d_M_complete_189 : decode prog_6_method_19_code 189 = .ok (.aload_n 0, 1) := by decide +kernel
theorem d_M_complete_190 : decode prog_6_method_19_code 190 = .ok (.getfield 109, 3) := by decide +kernel
theorem d_M_complete_193 : decode prog_6_method_19_code 193 = .ok (.bipush 14, 2) := by decide +kernel
theorem d_M_complete_195 : decode prog_6_method_19_code 195 = .ok (.iadd, 1) := by decide +kernel
theorem d_M_complete_196 : decode prog_6_method_19_code 196 = .ok (.if_icmp .ne 55, 3) := by decide +kernel
theorem d_M_complete_199 : decode prog_6_method_19_code 199 = .ok (.aload_n 0, 1) := by decide +kernel
theorem d_M_complete_200 : decode prog_6_method_19_code 200 = .ok (.getfield 122, 3) := by decide +kernel
theorem d_M_complete_203 : decode prog_6_method_19_code 203 = .ok (.iconst 1, 1) := by decide +kernel
theorem d_M_complete_204 : decode prog_6_method_19_code 204 = .ok (.if_icmp .ne 47, 3) := by decide +kernel
theorem d_M_complete_207 : decode prog_6_method_19_code 207 = .ok (.aload_n 0, 1) := by decide +kernel
theorem d_M_complete_208 : decode prog_6_method_19_code 208 = .ok (.getfield 125, 3) := by decide +kernel
theorem d_M_complete_211 : decode prog_6_method_19_code 211 = .ok (.ifCond .ne 40, 3) := by decide +kernel
theorem d_M_complete_214 : decode prog_6_method_19_code 214 = .ok (.aload_n 0, 1) := by decide +kernel
theorem d_M_complete_215 : decode prog_6_method_19_code 215 = .ok (.aload_n 0, 1) := by decide +kernel
theorem d_M_complete_216 : decode prog_6_method_19_code 216 = .ok (.getfield 58, 3) := by decide +kernel
theorem d_M_complete_219 : decode prog_6_method_19_code 219 = .ok (.iconst 0, 1) := by decide +kernel
theorem d_M_complete_220 : decode prog_6_method_19_code 220 = .ok (.iaload, 1) := by decide +kernel
theorem d_M_complete_221 : decode prog_6_method_19_code 221 = .ok (.putfield 64, 3) := by decide +kernel
theorem d_M_complete_224 : decode prog_6_method_19_code 224 = .ok (.aload_n 0, 1) := by decide +kernel
theorem d_M_complete_225 : decode prog_6_method_19_code 225 = .ok (.getfield 61, 3) := by decide +kernel
theorem d_M_complete_228 : decode prog_6_method_19_code 228 = .ok (.aload_n 0, 1) := by decide +kernel
theorem d_M_complete_229 : decode prog_6_method_19_code 229 = .ok (.getfield 64, 3) := by decide +kernel
theorem d_M_complete_232 : decode prog_6_method_19_code 232 = .ok (.sipush 204, 3) := by decide +kernel
theorem d_M_complete_235 : decode prog_6_method_19_code 235 = .ok (.if_icmp .ne 7, 3) := by decide +kernel
theorem d_M_complete_238 : decode prog_6_method_19_code 238 = .ok (.iconst 3, 1) := by decide +kernel
theorem d_M_complete_239 : decode prog_6_method_19_code 239 = .ok (.goto 4, 3) := by decide +kernel
theorem d_M_complete_242 : decode prog_6_method_19_code 242 = .ok (.iconst 4, 1) := by decide +kernel
theorem d_M_complete_243 : decode prog_6_method_19_code 243 = .ok (.dup2, 1) := by decide +kernel
theorem d_M_complete_244 : decode prog_6_method_19_code 244 = .ok (.iaload, 1) := by decide +kernel
theorem d_M_complete_245 : decode prog_6_method_19_code 245 = .ok (.iconst 1, 1) := by decide +kernel
theorem d_M_complete_246 : decode prog_6_method_19_code 246 = .ok (.iadd, 1) := by decide +kernel
theorem d_M_complete_247 : decode prog_6_method_19_code 247 = .ok (.iastore, 1) := by decide +kernel
theorem d_M_complete_248 : decode prog_6_method_19_code 248 = .ok (.goto 13, 3) := by decide +kernel
theorem d_M_complete_251 : decode prog_6_method_19_code 251 = .ok (.aload_n 0, 1) := by decide +kernel
theorem d_M_complete_252 : decode prog_6_method_19_code 252 = .ok (.getfield 61, 3) := by decide +kernel
theorem d_M_complete_255 : decode prog_6_method_19_code 255 = .ok (.iconst 2, 1) := by decide +kernel
theorem d_M_complete_256 : decode prog_6_method_19_code 256 = .ok (.dup2, 1) := by decide +kernel
theorem d_M_complete_257 : decode prog_6_method_19_code 257 = .ok (.iaload, 1) := by decide +kernel
theorem d_M_complete_258 : decode prog_6_method_19_code 258 = .ok (.iconst 1, 1) := by decide +kernel
theorem d_M_complete_259 : decode prog_6_method_19_code 259 = .ok (.iadd, 1) := by decide +kernel
theorem d_M_complete_260 : decode prog_6_method_19_code 260 = .ok (.iastore, 1) := by decide +kernel
theorem d_M_complete_261 : decode prog_6_method_19_code 261 = .ok (.aload_n 0, 1) := by decide +kernel
theorem d_M_complete_262 : decode prog_6_method_19_code 262 = .ok (.iconst 1, 1) := by decide +kernel
theorem d_M_complete_263 : decode prog_6_method_19_code 263 = .ok (.putfield 106, 3) := by decide +kernel
theorem d_M_complete_266 : decode prog_6_method_19_code 266 = .ok (.return_, 1) := by decide +kernel
def b_M_complete_261 (post : Option Value → Mm → Prop) : Kk := (i_aload 0 (i_push (.int 1) (i_putZ 4 32 (i_vret post))))
theorem t_M_complete_261 {Z : Zt} {X0 : Mm} {post : Option Value → Mm → Prop} (g : Good Z prog_6_method_19_code 3 "BusTelegramsModel" 0) (hq : RetZ Z true X0 0 0 post) (hr : (zM Z).sig.returnType = none) : Snd Z 3 261 (b_M_complete_261 post) := by
  unfold b_M_complete_261
  exact (s_aload_n g d_M_complete_261 rfl (s_push_iconst g d_M_complete_262 (by decide) (s_putZ g (c := 4) (j := 32) cok_4 (by decide) rfl rfl rfl mw_586 rfl d_M_complete_263 (s_vret0 g hq hr d_M_complete_266))))
def b_M_complete_251 (post : Option Value → Mm → Prop) : Kk := (i_aload 0 (i_getR 4 27 (i_push (.int 2) (i_dup2 (i_ald 10 (i_push (.int 1) (i_bin (fun x y => x + y) (i_ast (b_M_complete_261 post)))))))))
theorem t_M_complete_251 {Z : Zt} {X0 : Mm} {post : Option Value → Mm → Prop} (g : Good Z prog_6_method_19_code 3 "BusTelegramsModel" 0) (hq : RetZ Z true X0 0 0 post) (hr : (zM Z).sig.returnType = none) : Snd Z 3 251 (b_M_complete_251 post) := by
  unfold b_M_complete_251
  exact (s_aload_n g d_M_complete_251 rfl (s_getR g (c := 4) (j := 27) cok_4 (by decide) rfl mw_581 rfl d_M_complete_252 (s_push_iconst g d_M_complete_255 (by decide) (s_dup2 g d_M_complete_256 (s_iald g d_M_complete_257 (s_push_iconst g d_M_complete_258 (by decide) (s_iadd g d_M_complete_259 (s_iast g d_M_complete_260 (t_M_complete_261 g hq hr)))))))))
def b_M_complete_243 (post : Option Value → Mm → Prop) : Kk := (i_dup2 (i_ald 10 (i_push (.int 1) (i_bin (fun x y => x + y) (i_ast (b_M_complete_261 post))))))
theorem t_M_complete_243 {Z : Zt} {X0 : Mm} {post : Option Value → Mm → Prop} (g : Good Z prog_6_method_19_code 3 "BusTelegramsModel" 0) (hq : RetZ Z true X0 0 0 post) (hr : (zM Z).sig.returnType = none) : Snd Z 3 243 (b_M_complete_243 post) := by
  unfold b_M_complete_243
  exact (s_dup2 g d_M_complete_243 (s_iald g d_M_complete_244 (s_push_iconst g d_M_complete_245 (by decide) (s_iadd g d_M_complete_246 (s_iast g d_M_complete_247 (s_goto g d_M_complete_248 (by decide) (t_M_complete_261 g hq hr)))))))
def b_M_complete_178 (post : Option Value → Mm → Prop) : Kk := (i_aload 0 (i_getI 4 28 (i_if (fun x y => x = y) (b_M_complete_251 post) (i_aload 0 (i_getI 4 23 (i_aload 0 (i_getI 4 29 (i_push (.int 14) (i_bin (fun x y => x + y) (i_icmp (fun x y => x = y) (i_aload 0 (i_getI 4 25 (i_push (.int 1) (i_icmp (fun x y => x = y) (i_aload 0 (i_getI 4 22 (i_if (fun x y => x = y) (i_aload 0 (i_aload 0 (i_getR 4 26 (i_push (.int 0) (i_ald 10 (i_putI 4 33 (i_aload 0 (i_getR 4 27 (i_aload 0 (i_getI 4 33 (i_push (.int 204) (i_icmp (fun x y => x = y) (i_push (.int 3) (b_M_complete_243 post)) (i_push (.int 4) (b_M_complete_243 post)))))))))))))) (b_M_complete_251 post)))) (b_M_complete_251 post))))) (b_M_complete_251 post)))))))))))
theorem t_M_complete_178 {Z : Zt} {X0 : Mm} {post : Option Value → Mm → Prop} (g : Good Z prog_6_method_19_code 3 "BusTelegramsModel" 0) (hq : RetZ Z true X0 0 0 post) (hr : (zM Z).sig.returnType = none) : Snd Z 3 178 (b_M_complete_178 post) := by
  unfold b_M_complete_178
  exact (s_aload_n g d_M_complete_178 rfl (s_getI g (c := 4) (j := 28) cok_4 (by decide) rfl mw_582 rfl d_M_complete_179 (s_if_eq g d_M_complete_182 (by decide) (t_M_complete_251 g hq hr) (s_aload_n g d_M_complete_185 rfl (s_getI g (c := 4) (j := 23) cok_4 (by decide) rfl mw_577 rfl d_M_complete_186 (s_aload_n g d_M_complete_189 rfl (s_getI g (c := 4) (j := 29) cok_4 (by decide) rfl mw_583 rfl d_M_complete_190 (s_push_bipush g d_M_complete_193 (by decide) (s_iadd g d_M_complete_195 (s_icmp_ne g d_M_complete_196 (by decide) (t_M_complete_251 g hq hr) (s_aload_n g d_M_complete_199 rfl (s_getI g (c := 4) (j := 25) cok_4 (by decide) rfl mw_579 rfl d_M_complete_200 (s_push_iconst g d_M_complete_203 (by decide) (s_icmp_ne g d_M_complete_204 (by decide) (t_M_complete_251 g hq hr) (s_aload_n g d_M_complete_207 rfl (s_getI g (c := 4) (j := 22) cok_4 (by decide) rfl mw_576 rfl d_M_complete_208 (s_if_ne g d_M_complete_211 (by decide) (t_M_complete_251 g hq hr) (s_aload_n g d_M_complete_214 rfl (s_aload_n g d_M_complete_215 rfl (s_getR g (c := 4) (j := 26) cok_4 (by decide) rfl mw_580 rfl d_M_complete_216 (s_push_iconst g d_M_complete_219 (by decide) (s_iald g d_M_complete_220 (s_putI g (c := 4) (j := 33) cok_4 (by decide) rfl rfl rfl mw_587 rfl d_M_complete_221 (s_aload_n g d_M_complete_224 rfl (s_getR g (c := 4) (j := 27) cok_4 (by decide) rfl mw_581 rfl d_M_complete_225 (s_aload_n g d_M_complete_228 rfl (s_getI g (c := 4) (j := 33) cok_4 (by decide) rfl mw_587 rfl d_M_complete_229 (s_push_sipush g d_M_complete_232 (by decide) (s_icmp_ne g d_M_complete_235 (by decide) (s_push_iconst g d_M_complete_242 (by decide) (t_M_complete_243 g hq hr)) (s_push_iconst g d_M_complete_238 (by decide) (s_goto g d_M_complete_239 (by decide) (t_M_complete_243 g hq hr))))))))))))))))))))))))))))))))
def b_M_complete_175 (post : Option Value → Mm → Prop) : Kk := (i_bin (fun x y => x + y) (i_ast (i_vret post)))
theorem t_M_complete_175 {Z : Zt} {X0 : Mm} {post : Option Value → Mm → Prop} (g : Good Z prog_6_method_19_code 3 "BusTelegramsModel" 0) (hq : RetZ Z true X0 0 0 post) (hr : (zM Z).sig.returnType = none) : Snd Z 3 175 (b_M_complete_175 post) := by
  unfold b_M_complete_175
  exact (s_iadd g d_M_complete_175 (s_iast g d_M_complete_176 (s_vret0 g hq hr d_M_complete_177)))
def b_M_complete_133 (post : Option Value → Mm → Prop) : Kk := (i_putZ 4 31 (i_aload 0 (i_push (.int 0) (i_putZ 4 32 (i_aload 0 (i_push (.int (-1)) (i_putI 4 33 (i_aload 0 (i_getR 4 27 (i_push (.int 0) (i_dup2 (i_ald 10 (i_push (.int 1) (i_bin (fun x y => x + y) (i_ast (i_aload 0 (i_getR 4 27 (i_push (.int 1) (i_dup2 (i_ald 10 (i_aload 0 (i_getI 4 31 (i_if (fun x y => x = y) (i_push (.int 0) (b_M_complete_175 post)) (i_push (.int 1) (b_M_complete_175 post)))))))))))))))))))))))))
theorem t_M_complete_133 {Z : Zt} {X0 : Mm} {post : Option Value → Mm → Prop} (g : Good Z prog_6_method_19_code 3 "BusTelegramsModel" 0) (hq : RetZ Z true X0 0 0 post) (hr : (zM Z).sig.returnType = none) : Snd Z 3 133 (b_M_complete_133 post) := by
  unfold b_M_complete_133
  exact (s_putZ g (c := 4) (j := 31) cok_4 (by decide) rfl rfl rfl mw_585 rfl d_M_complete_133 (s_aload_n g d_M_complete_136 rfl (s_push_iconst g d_M_complete_137 (by decide) (s_putZ g (c := 4) (j := 32) cok_4 (by decide) rfl rfl rfl mw_586 rfl d_M_complete_138 (s_aload_n g d_M_complete_141 rfl (s_push_iconst g d_M_complete_142 (by decide) (s_putI g (c := 4) (j := 33) cok_4 (by decide) rfl rfl rfl mw_587 rfl d_M_complete_143 (s_aload_n g d_M_complete_146 rfl (s_getR g (c := 4) (j := 27) cok_4 (by decide) rfl mw_581 rfl d_M_complete_147 (s_push_iconst g d_M_complete_150 (by decide) (s_dup2 g d_M_complete_151 (s_iald g d_M_complete_152 (s_push_iconst g d_M_complete_153 (by decide) (s_iadd g d_M_complete_154 (s_iast g d_M_complete_155 (s_aload_n g d_M_complete_156 rfl (s_getR g (c := 4) (j := 27) cok_4 (by decide) rfl mw_581 rfl d_M_complete_157 (s_push_iconst g d_M_complete_160 (by decide) (s_dup2 g d_M_complete_161 (s_iald g d_M_complete_162 (s_aload_n g d_M_complete_163 rfl (s_getI g (c := 4) (j := 31) cok_4 (by decide) rfl mw_585 rfl d_M_complete_164 (s_if_eq g d_M_complete_167 (by decide) (s_push_iconst g d_M_complete_174 (by decide) (t_M_complete_175 g hq hr)) (s_push_iconst g d_M_complete_170 (by decide) (s_goto g d_M_complete_171 (by decide) (t_M_complete_175 g hq hr))))))))))))))))))))))))))
def b_M_complete_132 (post : Option Value → Mm → Prop) : Kk := (i_push (.int 0) (b_M_complete_133 post))
theorem t_M_complete_132 {Z : Zt} {X0 : Mm} {post : Option Value → Mm → Prop} (g : Good Z prog_6_method_19_code 3 "BusTelegramsModel" 0) (hq : RetZ Z true X0 0 0 post) (hr : (zM Z).sig.returnType = none) : Snd Z 3 132 (b_M_complete_132 post) := by
  unfold b_M_complete_132
  exact (s_push_iconst g d_M_complete_132 (by decide) (t_M_complete_133 g hq hr))
def b_M_complete_85 (post : Option Value → Mm → Prop) (k43 : Kk) : Kk := (i_istore 1 (i_iinc 2 1 k43))
theorem t_M_complete_85 {Z : Zt} {X0 : Mm} {post : Option Value → Mm → Prop} {k43 : Kk} (g : Good Z prog_6_method_19_code 3 "BusTelegramsModel" 0) (hq : RetZ Z true X0 0 0 post) (hr : (zM Z).sig.returnType = none) (hk43 : Snd Z 3 43 k43) : Snd Z 3 85 (b_M_complete_85 post k43) := by
  unfold b_M_complete_85
  exact (s_istore_n g (by decide) d_M_complete_85 rfl (s_iinc g (by decide) d_M_complete_86 (by decide) (s_goto g d_M_complete_89 (by decide) hk43)))
def f_M_complete_43 (post : Option Value → Mm → Prop) (k43 : Kk) : Kk := (i_iload 2 (i_aload 0 (i_getI 4 30 (i_icmp (fun x y => y ≤ x) (i_aload 0 (i_iload 1 (i_aload 0 (i_getR 4 26 (i_aload 0 (i_getI 4 30 (i_push (.int 1) (i_bin (fun x y => x - y) (i_ald 10 (i_icmp (fun x y => x = y) (i_aload 0 (i_getI 4 30 (i_push (.int 8) (i_aload 0 (i_getR 4 26 (i_push (.int 5) (i_ald 10 (i_push (.int 128) (i_binz (fun x y => x - x / y * y) (i_bin (fun x y => x + y) (i_icmp (fun x y => x = y) (i_push (.int 1) (b_M_complete_133 post)) (b_M_complete_132 post)))))))))))) (b_M_complete_132 post))))))))))) (i_aload 0 (i_getR 4 34 (i_iload 2 (i_aload 0 (i_getR 4 26 (i_iload 2 (i_ald 10 (i_ast (i_iload 2 (i_push (.int 1) (i_bin (fun x y => x + y) (i_aload 0 (i_getI 4 30 (i_icmp (fun x y => y ≤ x) (i_iload 1 (b_M_complete_85 post k43)) (i_iload 1 (i_aload 0 (i_getR 4 26 (i_iload 2 (i_ald 10 (i_bin (fun x y => x ^^^ y) (b_M_complete_85 post k43)))))))))))))))))))))))))
def b_M_complete_43 (post : Option Value → Mm → Prop) : Kk := i_loop [0, 1, 2] (f_M_complete_43 post)
theorem t_M_complete_43 {Z : Zt} {X0 : Mm} {post : Option Value → Mm → Prop} (g : Good Z prog_6_method_19_code 3 "BusTelegramsModel" 0) (hq : RetZ Z true X0 0 0 post) (hr : (zM Z).sig.returnType = none) : Snd Z 3 43 (b_M_complete_43 post) := by
  unfold b_M_complete_43
  exact s_loop (fun k43 hk43 => by unfold f_M_complete_43; exact (s_iload_n g d_M_complete_43 rfl (s_aload_n g d_M_complete_44 rfl (s_getI g (c := 4) (j := 30) cok_4 (by decide) rfl mw_584 rfl d_M_complete_45 (s_icmp_ge g d_M_complete_48 (by decide) (s_aload_n g d_M_complete_92 rfl (s_iload_n g d_M_complete_93 rfl (s_aload_n g d_M_complete_94 rfl (s_getR g (c := 4) (j := 26) cok_4 (by decide) rfl mw_580 rfl d_M_complete_95 (s_aload_n g d_M_complete_98 rfl (s_getI g (c := 4) (j := 30) cok_4 (by decide) rfl mw_584 rfl d_M_complete_99 (s_push_iconst g d_M_complete_102 (by decide) (s_isub g d_M_complete_103 (s_iald g d_M_complete_104 (s_icmp_ne g d_M_complete_105 (by decide) (t_M_complete_132 g hq hr) (s_aload_n g d_M_complete_108 rfl (s_getI g (c := 4) (j := 30) cok_4 (by decide) rfl mw_584 rfl d_M_complete_109 (s_push_bipush g d_M_complete_112 (by decide) (s_aload_n g d_M_complete_114 rfl (s_getR g (c := 4) (j := 26) cok_4 (by decide) rfl mw_580 rfl d_M_complete_115 (s_push_iconst g d_M_complete_118 (by decide) (s_iald g d_M_complete_119 (s_push_sipush g d_M_complete_120 (by decide) (s_irem g d_M_complete_123 (s_iadd g d_M_complete_124 (s_icmp_ne g d_M_complete_125 (by decide) (t_M_complete_132 g hq hr) (s_push_iconst g d_M_complete_128 (by decide) (s_goto g d_M_complete_129 (by decide) (t_M_complete_133 g hq hr)))))))))))))))))))))))) (s_aload_n g d_M_complete_51 rfl (s_getR g (c := 4) (j := 34) cok_4 (by decide) rfl mw_588 rfl d_M_complete_52 (s_iload_n g d_M_complete_55 rfl (s_aload_n g d_M_complete_56 rfl (s_getR g (c := 4) (j := 26) cok_4 (by decide) rfl mw_580 rfl d_M_complete_57 (s_iload_n g d_M_complete_60 rfl (s_iald g d_M_complete_61 (s_iast g d_M_complete_62 (s_iload_n g d_M_complete_63 rfl (s_push_iconst g d_M_complete_64 (by decide) (s_iadd g d_M_complete_65 (s_aload_n g d_M_complete_66 rfl (s_getI g (c := 4) (j := 30) cok_4 (by decide) rfl mw_584 rfl d_M_complete_67 (s_icmp_ge g d_M_complete_70 (by decide) (s_iload_n g d_M_complete_84 rfl (t_M_complete_85 g hq hr hk43)) (s_iload_n g d_M_complete_73 rfl (s_aload_n g d_M_complete_74 rfl (s_getR g (c := 4) (j := 26) cok_4 (by decide) rfl mw_580 rfl d_M_complete_75 (s_iload_n g d_M_complete_78 rfl (s_iald g d_M_complete_79 (s_ixor g d_M_complete_80 (s_goto g d_M_complete_81 (by decide) (t_M_complete_85 g hq hr hk43)))))))))))))))))))))))))))
def b_M_complete_0 (post : Option Value → Mm → Prop) : Kk := (i_aload 0 (i_getI 4 25 (i_push (.int 8) (i_icmp (fun x y => x < y) (b_M_complete_178 post) (i_aload 0 (i_getI 4 22 (i_if (fun x y => x = y) (i_aload 0 (i_push (.int 1) (i_putZ 4 28 (i_aload 0 (i_aload 0 (i_getI 4 24 (i_putI 4 29 (i_aload 0 (i_aload 0 (i_getI 4 25 (i_putI 4 30 (i_push (.int 255) (i_istore 1 (i_push (.int 0) (i_istore 2 (b_M_complete_43 post)))))))))))))))) (b_M_complete_178 post))))))))
theorem t_M_complete_0 {Z : Zt} {X0 : Mm} {post : Option Value → Mm → Prop} (g : Good Z prog_6_method_19_code 3 "BusTelegramsModel" 0) (hq : RetZ Z true X0 0 0 post) (hr : (zM Z).sig.returnType = none) : Snd Z 3 0 (b_M_complete_0 post) := by
  unfold b_M_complete_0
  exact (s_aload_n g d_M_complete_0 rfl (s_getI g (c := 4) (j := 25) cok_4 (by decide) rfl mw_579 rfl d_M_complete_1 (s_push_bipush g d_M_complete_4 (by decide) (s_icmp_lt g d_M_complete_6 (by decide) (t_M_complete_178 g hq hr) (s_aload_n g d_M_complete_9 rfl (s_getI g (c := 4) (j := 22) cok_4 (by decide) rfl mw_576 rfl d_M_complete_10 (s_if_ne g d_M_complete_13 (by decide) (t_M_complete_178 g hq hr) (s_aload_n g d_M_complete_16 rfl (s_push_iconst g d_M_complete_17 (by decide) (s_putZ g (c := 4) (j := 28) cok_4 (by decide) rfl rfl rfl mw_582 rfl d_M_complete_18 (s_aload_n g d_M_complete_21 rfl (s_aload_n g d_M_complete_22 rfl (s_getI g (c := 4) (j := 24) cok_4 (by decide) rfl mw_578 rfl d_M_complete_23 (s_putI g (c := 4) (j := 29) cok_4 (by decide) rfl rfl rfl mw_583 rfl d_M_complete_26 (s_aload_n g d_M_complete_29 rfl (s_aload_n g d_M_complete_30 rfl (s_getI g (c := 4) (j := 25) cok_4 (by decide) rfl mw_579 rfl d_M_complete_31 (s_putI g (c := 4) (j := 30) cok_4 (by decide) rfl rfl rfl mw_584 rfl d_M_complete_34 (s_push_sipush g d_M_complete_37 (by decide) (s_istore_n g (by decide) d_M_complete_40 rfl (s_push_iconst g d_M_complete_41 (by decide) (s_istore_n g (by decide) d_M_complete_42 rfl (t_M_complete_43 g hq hr)))))))))))))))))))))))
def w_M_complete : Wp := wpOf 3 (fun _ post => b_M_complete_0 post)
theorem C_M_complete (l : Launch) : MetS l ({ cls := "BusTelegramsModel", name := "complete", desc := "()V" } : Jvm.MethodName) prog_6_method_19_code 3 none true 0 0 0 w_M_complete := metS_of (by decide +kernel) (fun Z X0 post hZ g hq hr _ => t_M_complete_0 g hq hr)
theorem hd_M_complete : (({ cls := "BusTelegramsModel", name := "complete", desc := "()V" } : Jvm.MethodName)).cls = "BusTelegramsModel" ∧ (({ cls := "BusTelegramsModel", name := "complete", desc := "()V" } : Jvm.MethodName)).cls ≠ "java/lang/invoke/MethodHandle" ∧ (({ cls := "BusTelegramsModel", name := "complete", desc := "()V" } : Jvm.MethodName)).cls ≠ "java/lang/invoke/VarHandle" ∧ (parseMethodDescriptor (({ cls := "BusTelegramsModel", name := "complete", desc := "()V" } : Jvm.MethodName)).desc).map (fun d => d.parameters.length) = some 0 := ⟨rfl, by decide, by decide, by decide +kernel⟩
theorem d_M_drop_0 : decode prog_6_method_25_code 0 = .ok (.bipush 36, 2) := by decide +kernel
theorem d_M_drop_2 : decode prog_6_method_25_code 2 = .ok (.iload_n 1, 1) := by decide +kernel
theorem d_M_drop_3 : decode prog_6_method_25_code 3 = .ok (.imul, 1) := by decide +kernel
theorem d_M_drop_4 : decode prog_6_method_25_code 4 = .ok (.istore_n 2, 1) := by decide +kernel
theorem d_M_drop_5 : decode prog_6_method_25_code 5 = .ok (.iload_n 2, 1) := by decide +kernel
theorem d_M_drop_6 : decode prog_6_method_25_code 6 = .ok (.bipush 36, 2) := by decide +kernel
theorem d_M_drop_8 : decode prog_6_method_25_code 8 = .ok (.iload_n 1, 1) := by decide +kernel
theorem d_M_drop_9 : decode prog_6_method_25_code 9 = .ok (.imul, 1) := by decide +kernel
theorem d_M_drop_10 : decode prog_6_method_25_code 10 = .ok (.bipush 30, 2) := by decide +kernel
theorem d_M_drop_12 : decode prog_6_method_25_code 12 = .ok (.iadd, 1) := by decide +kernel
theorem d_M_drop_13 : decode prog_6_method_25_code 13 = .ok (.if_icmp .ge 24, 3) := by decide +kernel
theorem d_M_drop_16 : decode prog_6_method_25_code 16 = .ok (.aload_n 0, 1) := by decide +kernel
theorem d_M_drop_17 : decode prog_6_method_25_code 17 = .ok (.getfield 28, 3) := by decide +kernel
theorem d_M_drop_20 : decode prog_6_method_25_code 20 = .ok (.iload_n 2, 1) := by decide +kernel
theorem d_M_drop_21 : decode prog_6_method_25_code 21 = .ok (.aload_n 0, 1) := by decide +kernel
theorem d_M_drop_22 : decode prog_6_method_25_code 22 = .ok (.getfield 28, 3) := by decide +kernel
theorem d_M_drop_25 : decode prog_6_method_25_code 25 = .ok (.iload_n 2, 1) := by decide +kernel
theorem d_M_drop_26 : decode prog_6_method_25_code 26 = .ok (.bipush 6, 2) := by decide +kernel
theorem d_M_drop_28 : decode prog_6_method_25_code 28 = .ok (.iadd, 1) := by decide +kernel
theorem d_M_drop_29 : decode prog_6_method_25_code 29 = .ok (.iaload, 1) := by decide +kernel
theorem d_M_drop_30 : decode prog_6_method_25_code 30 = .ok (.iastore, 1) := by decide +kernel
theorem d_M_drop_31 : decode prog_6_method_25_code 31 = .ok (.iinc 2 1, 3) := by decide +kernel
theorem d_M_drop_34 : decode prog_6_method_25_code 34 = .ok (.goto (-29), 3) := by decide +kernel
theorem d_M_drop_37 : decode prog_6_method_25_code 37 = .ok (.aload_n 0, 1) := by decide +kernel
theorem d_M_drop_38 : decode prog_6_method_25_code 38 = .ok (.getfield 25, 3) := by decide +kernel
theorem d_M_drop_41 : decode prog_6_method_25_code 41 = .ok (.iload_n 1, 1) := by decide +kernel
theorem d_M_drop_42 : decode prog_6_method_25_code 42 = .ok (.dup2, 1) := by decide +kernel
theorem d_M_drop_43 : decode prog_6_method_25_code 43 = .ok (.iaload, 1) := by decide +kernel
theorem d_M_drop_44 : decode prog_6_method_25_code 44 = .ok (.iconst 1, 1) := by decide +kernel
theorem d_M_drop_45 : decode prog_6_method_25_code 45 = .ok (.isub, 1) := by decide +kernel
theorem d_M_drop_46 : decode prog_6_method_25_code 46 = .ok (.iastore, 1) := by decide +kernel
theorem d_M_drop_47 : decode prog_6_method_25_code 47 = .ok (.return_, 1) := by decide +kernel
def f_M_drop_5 (post : Option Value → Mm → Prop) (k5 : Kk) : Kk := (i_iload 2 (i_push (.int 36) (i_iload 1 (i_bin (fun x y => x * y) (i_push (.int 30) (i_bin (fun x y => x + y) (i_icmp (fun x y => y ≤ x) (i_aload 0 (i_getR 4 6 (i_iload 1 (i_dup2 (i_ald 10 (i_push (.int 1) (i_bin (fun x y => x - y) (i_ast (i_vret post))))))))) (i_aload 0 (i_getR 4 7 (i_iload 2 (i_aload 0 (i_getR 4 7 (i_iload 2 (i_push (.int 6) (i_bin (fun x y => x + y) (i_ald 10 (i_ast (i_iinc 2 1 k5))))))))))))))))))
def b_M_drop_5 (post : Option Value → Mm → Prop) : Kk := i_loop [0, 1, 2] (f_M_drop_5 post)
theorem t_M_drop_5 {Z : Zt} {X0 : Mm} {post : Option Value → Mm → Prop} (g : Good Z prog_6_method_25_code 3 "BusTelegramsModel" 0) (hq : RetZ Z true X0 0 0 post) (hr : (zM Z).sig.returnType = none) : Snd Z 3 5 (b_M_drop_5 post) := by
  unfold b_M_drop_5
  exact s_loop (fun k5 hk5 => by unfold f_M_drop_5; exact (s_iload_n g d_M_drop_5 rfl (s_push_bipush g d_M_drop_6 (by decide) (s_iload_n g d_M_drop_8 rfl (s_imul g d_M_drop_9 (s_push_bipush g d_M_drop_10 (by decide) (s_iadd g d_M_drop_12 (s_icmp_ge g d_M_drop_13 (by decide) (s_aload_n g d_M_drop_37 rfl (s_getR g (c := 4) (j := 6) cok_4 (by decide) rfl mw_560 rfl d_M_drop_38 (s_iload_n g d_M_drop_41 rfl (s_dup2 g d_M_drop_42 (s_iald g d_M_drop_43 (s_push_iconst g d_M_drop_44 (by decide) (s_isub g d_M_drop_45 (s_iast g d_M_drop_46 (s_vret0 g hq hr d_M_drop_47))))))))) (s_aload_n g d_M_drop_16 rfl (s_getR g (c := 4) (j := 7) cok_4 (by decide) rfl mw_561 rfl d_M_drop_17 (s_iload_n g d_M_drop_20 rfl (s_aload_n g d_M_drop_21 rfl (s_getR g (c := 4) (j := 7) cok_4 (by decide) rfl mw_561 rfl d_M_drop_22 (s_iload_n g d_M_drop_25 rfl (s_push_bipush g d_M_drop_26 (by decide) (s_iadd g d_M_drop_28 (s_iald g d_M_drop_29 (s_iast g d_M_drop_30 (s_iinc g (by decide) d_M_drop_31 (by decide) (s_goto g d_M_drop_34 (by decide) hk5))))))))))))))))))))
def b_M_drop_0 (post : Option Value → Mm → Prop) : Kk := (i_push (.int 36) (i_iload 1 (i_bin (fun x y => x * y) (i_istore 2 (b_M_drop_5 post)))))
theorem t_M_drop_0 {Z : Zt} {X0 : Mm} {post : Option Value → Mm → Prop} (g : Good Z prog_6_method_25_code 3 "BusTelegramsModel" 0) (hq : RetZ Z true X0 0 0 post) (hr : (zM Z).sig.returnType = none) : Snd Z 3 0 (b_M_drop_0 post) := by
  unfold b_M_drop_0
  exact (s_push_bipush g d_M_drop_0 (by decide) (s_iload_n g d_M_drop_2 rfl (s_imul g d_M_drop_3 (s_istore_n g (by decide) d_M_drop_4 rfl (t_M_drop_5 g hq hr)))))
def w_M_drop : Wp := wpOf 3 (fun _ post => b_M_drop_0 post)
theorem C_M_drop (l : Launch) : MetS l ({ cls := "BusTelegramsModel", name := "drop", desc := "(I)V" } : Jvm.MethodName) prog_6_method_25_code 3 none true 0 0 0 w_M_drop := metS_of (by decide +kernel) (fun Z X0 post hZ g hq hr _ => t_M_drop_0 g hq hr)
theorem hd_M_drop : (({ cls := "BusTelegramsModel", name := "drop", desc := "(I)V" } : Jvm.MethodName)).cls = "BusTelegramsModel" ∧ (({ cls := "BusTelegramsModel", name := "drop", desc := "(I)V" } : Jvm.MethodName)).cls ≠ "java/lang/invoke/MethodHandle" ∧ (({ cls := "BusTelegramsModel", name := "drop", desc := "(I)V" } : Jvm.MethodName)).cls ≠ "java/lang/invoke/VarHandle" ∧ (parseMethodDescriptor (({ cls := "BusTelegramsModel", name := "drop", desc := "(I)V" } : Jvm.MethodName)).desc).map (fun d => d.parameters.length) = some 1 := ⟨rfl, by decide, by decide, by decide +kernel⟩
theorem d_M_answer_0 : decode prog_6_method_31_code 0 = .ok (.aload_n 0, 1) := by decide +kernel
theorem d_M_answer_1 : decode prog_6_method_31_code 1 = .ok (.iconst 0, 1) := by decide +kernel
theorem d_M_answer_2 : decode prog_6_method_31_code 2 = .ok (.putfield 70, 3) := by decide +kernel
theorem d_M_answer_5 : decode prog_6_method_31_code 5 = .ok (.aload_n 0, 1) := by decide +kernel
theorem d_M_answer_6 : decode prog_6_method_31_code 6 = .ok (.getfield 102, 3) := by decide +kernel
theorem d_M_answer_9 : decode prog_6_method_31_code 9 = .ok (.ifCond .eq 10, 3) := by decide +kernel
theorem d_M_answer_12 : decode prog_6_method_31_code 12 = .ok (.aload_n 0, 1) := by decide +kernel
theorem d_M_answer_13 : decode prog_6_method_31_code 13 = .ok (.getfield 64, 3) := by decide +kernel
theorem d_M_answer_16 : decode prog_6_method_31_code 16 = .ok (.goto 4, 3) := by decide +kernel
theorem d_M_answer_19 : decode prog_6_method_31_code 19 = .ok (.iconst (-1), 1) := by decide +kernel
theorem d_M_answer_20 : decode prog_6_method_31_code 20 = .ok (.ireturn, 1) := by decide +kernel
def b_M_answer_20 (post : Option Value → Mm → Prop) : Kk := (i_iret post)
theorem t_M_answer_20 {Z : Zt} {X0 : Mm} {post : Option Value → Mm → Prop} (g : Good Z prog_6_method_31_code 1 "BusTelegramsModel" 0) (hq : RetZ Z true X0 0 0 post) (hr : (zM Z).sig.returnType = (some .int)) : Snd Z 1 20 (b_M_answer_20 post) := by
  unfold b_M_answer_20
  exact (s_iret0 g hq hr d_M_answer_20)
def b_M_answer_0 (post : Option Value → Mm → Prop) : Kk := (i_aload 0 (i_push (.int 0) (i_putI 4 0 (i_aload 0 (i_getI 4 28 (i_if (fun x y => x = y) (i_push (.int (-1)) (b_M_answer_20 post)) (i_aload 0 (i_getI 4 33 (b_M_answer_20 post)))))))))
theorem t_M_answer_0 {Z : Zt} {X0 : Mm} {post : Option Value → Mm → Prop} (g : Good Z prog_6_method_31_code 1 "BusTelegramsModel" 0) (hq : RetZ Z true X0 0 0 post) (hr : (zM Z).sig.returnType = (some .int)) : Snd Z 1 0 (b_M_answer_0 post) := by
  unfold b_M_answer_0
  exact (s_aload_n g d_M_answer_0 rfl (s_push_iconst g d_M_answer_1 (by decide) (s_putI g (c := 4) (j := 0) cok_4 (by decide) rfl rfl rfl mw_554 rfl d_M_answer_2 (s_aload_n g d_M_answer_5 rfl (s_getI g (c := 4) (j := 28) cok_4 (by decide) rfl mw_582 rfl d_M_answer_6 (s_if_eq g d_M_answer_9 (by decide) (s_push_iconst g d_M_answer_19 (by decide) (t_M_answer_20 g hq hr)) (s_aload_n g d_M_answer_12 rfl (s_getI g (c := 4) (j := 33) cok_4 (by decide) rfl mw_587 rfl d_M_answer_13 (s_goto g d_M_answer_16 (by decide) (t_M_answer_20 g hq hr))))))))))
def w_M_answer : Wp := wpOf 1 (fun _ post => b_M_answer_0 post)
theorem C_M_answer (l : Launch) : MetS l ({ cls := "BusTelegramsModel", name := "answer", desc := "()I" } : Jvm.MethodName) prog_6_method_31_code 1 (some .int) true 0 0 0 w_M_answer := metS_of (by decide +kernel) (fun Z X0 post hZ g hq hr _ => t_M_answer_0 g hq hr)
theorem hd_M_answer : (({ cls := "BusTelegramsModel", name := "answer", desc := "()I" } : Jvm.MethodName)).cls = "BusTelegramsModel" ∧ (({ cls := "BusTelegramsModel", name := "answer", desc := "()I" } : Jvm.MethodName)).cls ≠ "java/lang/invoke/MethodHandle" ∧ (({ cls := "BusTelegramsModel", name := "answer", desc := "()I" } : Jvm.MethodName)).cls ≠ "java/lang/invoke/VarHandle" ∧ (parseMethodDescriptor (({ cls := "BusTelegramsModel", name := "answer", desc := "()I" } : Jvm.MethodName)).desc).map (fun d => d.parameters.length) = some 0 := ⟨rfl, by decide, by decide, by decide +kernel⟩
theorem d_M_whole_0 : decode prog_6_method_32_code 0 = .ok (.dload_n 0, 1) := by decide +kernel
theorem d_M_whole_1 : decode prog_6_method_32_code 1 = .ok (.d2i, 1) := by decide +kernel
theorem d_M_whole_2 : decode prog_6_method_32_code 2 = .ok (.istore_n 2, 1) := by decide +kernel
theorem d_M_whole_3 : decode prog_6_method_32_code 3 = .ok (.iload_n 2, 1) := by decide +kernel
theorem d_M_whole_4 : decode prog_6_method_32_code 4 = .ok (.i2d, 1) := by decide +kernel
theorem d_M_whole_5 : decode prog_6_method_32_code 5 = .ok (.dload_n 0, 1) := by decide +kernel
theorem d_M_whole_6 : decode prog_6_method_32_code 6 = .ok (.dcmp .l, 1) := by decide +kernel
theorem d_M_whole_7 : decode prog_6_method_32_code 7 = .ok (.ifCond .le 9, 3) := by decide +kernel
theorem d_M_whole_10 : decode prog_6_method_32_code 10 = .ok (.iload_n 2, 1) := by decide +kernel
theorem d_M_whole_11 : decode prog_6_method_32_code 11 = .ok (.iconst 1, 1) := by decide +kernel
theorem d_M_whole_12 : decode prog_6_method_32_code 12 = .ok (.isub, 1) := by decide +kernel
theorem d_M_whole_13 : decode prog_6_method_32_code 13 = .ok (.goto 4, 3) := by decide +kernel
theorem d_M_whole_16 : decode prog_6_method_32_code 16 = .ok (.iload_n 2, 1) := by decide +kernel
theorem d_M_whole_17 : decode prog_6_method_32_code 17 = .ok (.ireturn, 1) := by decide +kernel
def b_M_whole_17 (post : Option Value → Mm → Prop) : Kk := (i_iret post)
theorem t_M_whole_17 {Z : Zt} {X0 : Mm} {post : Option Value → Mm → Prop} (g : Good Z prog_6_method_32_code 3 "BusTelegramsModel" 0) (hq : RetZ Z true X0 0 0 post) (hr : (zM Z).sig.returnType = (some .int)) : Snd Z 3 17 (b_M_whole_17 post) := by
  unfold b_M_whole_17
  exact (s_iret0 g hq hr d_M_whole_17)
def b_M_whole_0 (post : Option Value → Mm → Prop) : Kk := (i_dload 0 (i_d2i (i_istore 2 (i_iload 2 (i_i2d (i_dload 0 (i_dcmp .l (i_if (fun x y => x ≤ y) (i_iload 2 (b_M_whole_17 post)) (i_iload 2 (i_push (.int 1) (i_bin (fun x y => x - y) (b_M_whole_17 post))))))))))))
theorem t_M_whole_0 {Z : Zt} {X0 : Mm} {post : Option Value → Mm → Prop} (g : Good Z prog_6_method_32_code 3 "BusTelegramsModel" 0) (hq : RetZ Z true X0 0 0 post) (hr : (zM Z).sig.returnType = (some .int)) : Snd Z 3 0 (b_M_whole_0 post) := by
  unfold b_M_whole_0
  exact (s_dload_n g d_M_whole_0 rfl (s_d2i g d_M_whole_1 (s_istore_n g (by decide) d_M_whole_2 rfl (s_iload_n g d_M_whole_3 rfl (s_i2d g d_M_whole_4 (s_dload_n g d_M_whole_5 rfl (s_dcmp g d_M_whole_6 (s_if_le g d_M_whole_7 (by decide) (s_iload_n g d_M_whole_16 rfl (t_M_whole_17 g hq hr)) (s_iload_n g d_M_whole_10 rfl (s_push_iconst g d_M_whole_11 (by decide) (s_isub g d_M_whole_12 (s_goto g d_M_whole_13 (by decide) (t_M_whole_17 g hq hr)))))))))))))
def w_M_whole : Wp := wpOf 3 (fun _ post => b_M_whole_0 post)
theorem C_M_whole (l : Launch) : MetS l ({ cls := "BusTelegramsModel", name := "whole", desc := "(D)I" } : Jvm.MethodName) prog_6_method_32_code 3 (some .int) true 0 0 0 w_M_whole := metS_of (by decide +kernel) (fun Z X0 post hZ g hq hr _ => t_M_whole_0 g hq hr)
theorem hd_M_whole : (({ cls := "BusTelegramsModel", name := "whole", desc := "(D)I" } : Jvm.MethodName)).cls ≠ "java/lang/invoke/MethodHandle" ∧ (({ cls := "BusTelegramsModel", name := "whole", desc := "(D)I" } : Jvm.MethodName)).cls ≠ "java/lang/invoke/VarHandle" ∧ (parseMethodDescriptor (({ cls := "BusTelegramsModel", name := "whole", desc := "(D)I" } : Jvm.MethodName)).desc).map (fun d => d.parameters.length) = some 1 := ⟨by decide, by decide, by decide +kernel⟩
theorem d_M_address_0 : decode prog_6_method_4_code 0 = .ok (.aload_n 0, 1) := by decide +kernel
theorem d_M_address_1 : decode prog_6_method_4_code 1 = .ok (.iload_n 1, 1) := by decide +kernel
theorem d_M_address_2 : decode prog_6_method_4_code 2 = .ok (.iconst 0, 1) := by decide +kernel
theorem d_M_address_3 : decode prog_6_method_4_code 3 = .ok (.bipush 7, 2) := by decide +kernel
theorem d_M_address_5 : decode prog_6_method_4_code 5 = .ok (.invokestatic 73, 3) := by decide +kernel
theorem d_M_address_8 : decode prog_6_method_4_code 8 = .ok (.ifCond .eq 17, 3) := by decide +kernel
theorem d_M_address_11 : decode prog_6_method_4_code 11 = .ok (.iload_n 2, 1) := by decide +kernel
theorem d_M_address_12 : decode prog_6_method_4_code 12 = .ok (.iconst 0, 1) := by decide +kernel
theorem d_M_address_13 : decode prog_6_method_4_code 13 = .ok (.ldc 77, 2) := by decide +kernel
theorem d_M_address_15 : decode prog_6_method_4_code 15 = .ok (.invokestatic 73, 3) := by decide +kernel
theorem d_M_address_18 : decode prog_6_method_4_code 18 = .ok (.ifCond .eq 7, 3) := by decide +kernel
theorem d_M_address_21 : decode prog_6_method_4_code 21 = .ok (.iconst 0, 1) := by decide +kernel
theorem d_M_address_22 : decode prog_6_method_4_code 22 = .ok (.goto 4, 3) := by decide +kernel
theorem d_M_address_25 : decode prog_6_method_4_code 25 = .ok (.iconst 1, 1) := by decide +kernel
theorem d_M_address_26 : decode prog_6_method_4_code 26 = .ok (.putfield 70, 3) := by decide +kernel
theorem d_M_address_29 : decode prog_6_method_4_code 29 = .ok (.aload_n 0, 1) := by decide +kernel
theorem d_M_address_30 : decode prog_6_method_4_code 30 = .ok (.getfield 70, 3) := by decide +kernel
theorem d_M_address_33 : decode prog_6_method_4_code 33 = .ok (.ifCond .le 5, 3) := by decide +kernel
theorem d_M_address_36 : decode prog_6_method_4_code 36 = .ok (.iconst 0, 1) := by decide +kernel
theorem d_M_address_37 : decode prog_6_method_4_code 37 = .ok (.ireturn, 1) := by decide +kernel
theorem d_M_address_38 : decode prog_6_method_4_code 38 = .ok (.aload_n 0, 1) := by decide +kernel
theorem d_M_address_39 : decode prog_6_method_4_code 39 = .ok (.getfield 14, 3) := by decide +kernel
theorem d_M_address_42 : decode prog_6_method_4_code 42 = .ok (.iload_n 1, 1) := by decide +kernel
theorem d_M_address_43 : decode prog_6_method_4_code 43 = .ok (.iaload, 1) := by decide +kernel
theorem d_M_address_44 : decode prog_6_method_4_code 44 = .ok (.istore_n 3, 1) := by decide +kernel
theorem d_M_address_45 : decode prog_6_method_4_code 45 = .ok (.aload_n 0, 1) := by decide +kernel
theorem d_M_address_46 : decode prog_6_method_4_code 46 = .ok (.getfield 14, 3) := by decide +kernel
theorem d_M_address_49 : decode prog_6_method_4_code 49 = .ok (.iload_n 1, 1) := by decide +kernel
theorem d_M_address_50 : decode prog_6_method_4_code 50 = .ok (.iload_n 2, 1) := by decide +kernel
theorem d_M_address_51 : decode prog_6_method_4_code 51 = .ok (.iastore, 1) := by decide +kernel
theorem d_M_address_52 : decode prog_6_method_4_code 52 = .ok (.iload_n 3, 1) := by decide +kernel
theorem d_M_address_53 : decode prog_6_method_4_code 53 = .ok (.ireturn, 1) := by decide +kernel
def b_M_address_26 (post : Option Value → Mm → Prop) : Kk := (i_putI 4 0 (i_aload 0 (i_getI 4 0 (i_if (fun x y => x ≤ y) (i_aload 0 (i_getR 4 3 (i_iload 1 (i_ald 10 (i_istore 3 (i_aload 0 (i_getR 4 3 (i_iload 1 (i_iload 2 (i_ast (i_iload 3 (i_iret post)))))))))))) (i_push (.int 0) (i_iret post))))))
theorem t_M_address_26 {Z : Zt} {X0 : Mm} {post : Option Value → Mm → Prop} (g : Good Z prog_6_method_4_code 4 "BusTelegramsModel" 1) (hq : RetZ Z true X0 0 0 post) (hr : (zM Z).sig.returnType = (some .int)) : Snd Z 4 26 (b_M_address_26 post) := by
  unfold b_M_address_26
  exact (s_putI g (c := 4) (j := 0) cok_4 (by decide) rfl rfl rfl mw_554 rfl d_M_address_26 (s_aload_n g d_M_address_29 rfl (s_getI g (c := 4) (j := 0) cok_4 (by decide) rfl mw_554 rfl d_M_address_30 (s_if_le g d_M_address_33 (by decide) (s_aload_n g d_M_address_38 rfl (s_getR g (c := 4) (j := 3) cok_4 (by decide) rfl mw_557 rfl d_M_address_39 (s_iload_n g d_M_address_42 rfl (s_iald g d_M_address_43 (s_istore_n g (by decide) d_M_address_44 rfl (s_aload_n g d_M_address_45 rfl (s_getR g (c := 4) (j := 3) cok_4 (by decide) rfl mw_557 rfl d_M_address_46 (s_iload_n g d_M_address_49 rfl (s_iload_n g d_M_address_50 rfl (s_iast g d_M_address_51 (s_iload_n g d_M_address_52 rfl (s_iret0 g hq hr d_M_address_53)))))))))))) (s_push_iconst g d_M_address_36 (by decide) (s_iret0 g hq hr d_M_address_37))))))
def b_M_address_25 (post : Option Value → Mm → Prop) : Kk := (i_push (.int 1) (b_M_address_26 post))
theorem t_M_address_25 {Z : Zt} {X0 : Mm} {post : Option Value → Mm → Prop} (g : Good Z prog_6_method_4_code 4 "BusTelegramsModel" 1) (hq : RetZ Z true X0 0 0 post) (hr : (zM Z).sig.returnType = (some .int)) : Snd Z 4 25 (b_M_address_25 post) := by
  unfold b_M_address_25
  exact (s_push_iconst g d_M_address_25 (by decide) (t_M_address_26 g hq hr))
def b_M_address_0 (post : Option Value → Mm → Prop) : Kk := (i_aload 0 (i_iload 1 (i_push (.int 0) (i_push (.int 7) (i_callS 3 w_M_isIn (i_if (fun x y => x = y) (b_M_address_25 post) (i_iload 2 (i_push (.int 0) (i_push (.int 65535) (i_callS 3 w_M_isIn (i_if (fun x y => x = y) (b_M_address_25 post) (i_push (.int 0) (b_M_address_26 post)))))))))))))
theorem t_M_address_0 {Z : Zt} {X0 : Mm} {post : Option Value → Mm → Prop} (g : Good Z prog_6_method_4_code 4 "BusTelegramsModel" 1) (hq : RetZ Z true X0 0 0 post) (hr : (zM Z).sig.returnType = (some .int)) : Snd Z 4 0 (b_M_address_0 post) := by
  unfold b_M_address_0
  exact (s_aload_n g d_M_address_0 rfl (s_iload_n g d_M_address_1 rfl (s_push_iconst g d_M_address_2 (by decide) (s_push_bipush g d_M_address_3 (by decide) (s_callS g (C_M_isIn (zl Z)) (gin_S mw_668 mw_669 mw_5 mw_670) hd_M_isIn (by decide) (by decide) d_M_address_5 (s_if_eq g d_M_address_8 (by decide) (t_M_address_25 g hq hr) (s_iload_n g d_M_address_11 rfl (s_push_iconst g d_M_address_12 (by decide) (s_push_ldc g mw_671 d_M_address_13 (s_callS g (C_M_isIn (zl Z)) (gin_S mw_668 mw_669 mw_5 mw_670) hd_M_isIn (by decide) (by decide) d_M_address_15 (s_if_eq g d_M_address_18 (by decide) (t_M_address_25 g hq hr) (s_push_iconst g d_M_address_21 (by decide) (s_goto g d_M_address_22 (by decide) (t_M_address_26 g hq hr))))))))))))))
def w_M_address : Wp := wpOf 4 (fun _ post => b_M_address_0 post)
theorem C_M_address (l : Launch) : MetS l ({ cls := "BusTelegramsModel", name := "address", desc := "(II)I" } : Jvm.MethodName) prog_6_method_4_code 4 (some .int) true 1 0 0 w_M_address := metS_of (by decide +kernel) (fun Z X0 post hZ g hq hr _ => t_M_address_0 g hq hr)
theorem hd_M_address : (({ cls := "BusTelegramsModel", name := "address", desc := "(II)I" } : Jvm.MethodName)).cls = "BusTelegramsModel" ∧ (({ cls := "BusTelegramsModel", name := "address", desc := "(II)I" } : Jvm.MethodName)).cls ≠ "java/lang/invoke/MethodHandle" ∧ (({ cls := "BusTelegramsModel", name := "address", desc := "(II)I" } : Jvm.MethodName)).cls ≠ "java/lang/invoke/VarHandle" ∧ (parseMethodDescriptor (({ cls := "BusTelegramsModel", name := "address", desc := "(II)I" } : Jvm.MethodName)).desc).map (fun d => d.parameters.length) = some 2 := ⟨rfl, by decide, by decide, by decide +kernel⟩
theorem d_M_listen_0 : decode prog_6_method_5_code 0 = .ok (.aload_n 0, 1) := by decide +kernel
theorem d_M_listen_1 : decode prog_6_method_5_code 1 = .ok (.iload_n 1, 1) := by decide +kernel
theorem d_M_listen_2 : decode prog_6_method_5_code 2 = .ok (.iconst 0, 1) := by decide +kernel
theorem d_M_listen_3 : decode prog_6_method_5_code 3 = .ok (.bipush 7, 2) := by decide +kernel
theorem d_M_listen_5 : decode prog_6_method_5_code 5 = .ok (.invokestatic 73, 3) := by decide +kernel
theorem d_M_listen_8 : decode prog_6_method_5_code 8 = .ok (.ifCond .eq 18, 3) := by decide +kernel
theorem d_M_listen_11 : decode prog_6_method_5_code 11 = .ok (.iload_n 2, 1) := by decide +kernel
theorem d_M_listen_12 : decode prog_6_method_5_code 12 = .ok (.iconst 0, 1) := by decide +kernel
theorem d_M_listen_13 : decode prog_6_method_5_code 13 = .ok (.sipush 255, 3) := by decide +kernel
theorem d_M_listen_16 : decode prog_6_method_5_code 16 = .ok (.invokestatic 73, 3) := by decide +kernel
theorem d_M_listen_19 : decode prog_6_method_5_code 19 = .ok (.ifCond .eq 7, 3) := by decide +kernel
theorem d_M_listen_22 : decode prog_6_method_5_code 22 = .ok (.iconst 0, 1) := by decide +kernel
theorem d_M_listen_23 : decode prog_6_method_5_code 23 = .ok (.goto 4, 3) := by decide +kernel
theorem d_M_listen_26 : decode prog_6_method_5_code 26 = .ok (.iconst 1, 1) := by decide +kernel
theorem d_M_listen_27 : decode prog_6_method_5_code 27 = .ok (.putfield 70, 3) := by decide +kernel
theorem d_M_listen_30 : decode prog_6_method_5_code 30 = .ok (.aload_n 0, 1) := by decide +kernel
theorem d_M_listen_31 : decode prog_6_method_5_code 31 = .ok (.getfield 70, 3) := by decide +kernel
theorem d_M_listen_34 : decode prog_6_method_5_code 34 = .ok (.ifCond .le 5, 3) := by decide +kernel
theorem d_M_listen_37 : decode prog_6_method_5_code 37 = .ok (.iconst 0, 1) := by decide +kernel
theorem d_M_listen_38 : decode prog_6_method_5_code 38 = .ok (.ireturn, 1) := by decide +kernel
theorem d_M_listen_39 : decode prog_6_method_5_code 39 = .ok (.aload_n 0, 1) := by decide +kernel
theorem d_M_listen_40 : decode prog_6_method_5_code 40 = .ok (.getfield 18, 3) := by decide +kernel
theorem d_M_listen_43 : decode prog_6_method_5_code 43 = .ok (.sipush 256, 3) := by decide +kernel
theorem d_M_listen_46 : decode prog_6_method_5_code 46 = .ok (.iload_n 1, 1) := by decide +kernel
theorem d_M_listen_47 : decode prog_6_method_5_code 47 = .ok (.imul, 1) := by decide +kernel
theorem d_M_listen_48 : decode prog_6_method_5_code 48 = .ok (.iload_n 2, 1) := by decide +kernel
theorem d_M_listen_49 : decode prog_6_method_5_code 49 = .ok (.iadd, 1) := by decide +kernel
theorem d_M_listen_50 : decode prog_6_method_5_code 50 = .ok (.baload, 1) := by decide +kernel
theorem d_M_listen_51 : decode prog_6_method_5_code 51 = .ok (.istore 4, 2) := by decide +kernel
theorem d_M_listen_53 : decode prog_6_method_5_code 53 = .ok (.aload_n 0, 1) := by decide +kernel
theorem d_M_listen_54 : decode prog_6_method_5_code 54 = .ok (.getfield 18, 3) := by decide +kernel
theorem d_M_listen_57 : decode prog_6_method_5_code 57 = .ok (.sipush 256, 3) := by decide +kernel
theorem d_M_listen_60 : decode prog_6_method_5_code 60 = .ok (.iload_n 1, 1) := by decide +kernel
theorem d_M_listen_61 : decode prog_6_method_5_code 61 = .ok (.imul, 1) := by decide +kernel
theorem d_M_listen_62 : decode prog_6_method_5_code 62 = .ok (.iload_n 2, 1) := by decide +kernel
theorem d_M_listen_63 : decode prog_6_method_5_code 63 = .ok (.iadd, 1) := by decide +kernel
theorem d_M_listen_64 : decode prog_6_method_5_code 64 = .ok (.iload_n 3, 1) := by decide +kernel
theorem d_M_listen_65 : decode prog_6_method_5_code 65 = .ok (.bastore, 1) := by decide +kernel
theorem d_M_listen_66 : decode prog_6_method_5_code 66 = .ok (.iload 4, 2) := by decide +kernel
theorem d_M_listen_68 : decode prog_6_method_5_code 68 = .ok (.ireturn, 1) := by decide +kernel
def b_M_listen_27 (post : Option Value → Mm → Prop) : Kk := (i_putI 4 0 (i_aload 0 (i_getI 4 0 (i_if (fun x y => x ≤ y) (i_aload 0 (i_getR 4 4 (i_push (.int 256) (i_iload 1 (i_bin (fun x y => x * y) (i_iload 2 (i_bin (fun x y => x + y) (i_ald 11 (i_istore 4 (i_aload 0 (i_getR 4 4 (i_push (.int 256) (i_iload 1 (i_bin (fun x y => x * y) (i_iload 2 (i_bin (fun x y => x + y) (i_iload 3 (i_zst (i_iload 4 (i_zret post)))))))))))))))))))) (i_push (.int 0) (i_zret post))))))
theorem t_M_listen_27 {Z : Zt} {X0 : Mm} {post : Option Value → Mm → Prop} (g : Good Z prog_6_method_5_code 5 "BusTelegramsModel" 1) (hq : RetZ Z true X0 0 0 post) (hr : (zM Z).sig.returnType = (some .boolean)) : Snd Z 5 27 (b_M_listen_27 post) := by
  unfold b_M_listen_27
  exact (s_putI g (c := 4) (j := 0) cok_4 (by decide) rfl rfl rfl mw_554 rfl d_M_listen_27 (s_aload_n g d_M_listen_30 rfl (s_getI g (c := 4) (j := 0) cok_4 (by decide) rfl mw_554 rfl d_M_listen_31 (s_if_le g d_M_listen_34 (by decide) (s_aload_n g d_M_listen_39 rfl (s_getR g (c := 4) (j := 4) cok_4 (by decide) rfl mw_558 rfl d_M_listen_40 (s_push_sipush g d_M_listen_43 (by decide) (s_iload_n g d_M_listen_46 rfl (s_imul g d_M_listen_47 (s_iload_n g d_M_listen_48 rfl (s_iadd g d_M_listen_49 (s_zald g d_M_listen_50 (s_istore g (by decide) d_M_listen_51 (s_aload_n g d_M_listen_53 rfl (s_getR g (c := 4) (j := 4) cok_4 (by decide) rfl mw_558 rfl d_M_listen_54 (s_push_sipush g d_M_listen_57 (by decide) (s_iload_n g d_M_listen_60 rfl (s_imul g d_M_listen_61 (s_iload_n g d_M_listen_62 rfl (s_iadd g d_M_listen_63 (s_iload_n g d_M_listen_64 rfl (s_zast g d_M_listen_65 (s_iload g d_M_listen_66 (s_zret0 g hq hr d_M_listen_68)))))))))))))))))))) (s_push_iconst g d_M_listen_37 (by decide) (s_zret0 g hq hr d_M_listen_38))))))
def b_M_listen_26 (post : Option Value → Mm → Prop) : Kk := (i_push (.int 1) (b_M_listen_27 post))
theorem t_M_listen_26 {Z : Zt} {X0 : Mm} {post : Option Value → Mm → Prop} (g : Good Z prog_6_method_5_code 5 "BusTelegramsModel" 1) (hq : RetZ Z true X0 0 0 post) (hr : (zM Z).sig.returnType = (some .boolean)) : Snd Z 5 26 (b_M_listen_26 post) := by
  unfold b_M_listen_26
  exact (s_push_iconst g d_M_listen_26 (by decide) (t_M_listen_27 g hq hr))
def b_M_listen_0 (post : Option Value → Mm → Prop) : Kk := (i_aload 0 (i_iload 1 (i_push (.int 0) (i_push (.int 7) (i_callS 3 w_M_isIn (i_if (fun x y => x = y) (b_M_listen_26 post) (i_iload 2 (i_push (.int 0) (i_push (.int 255) (i_callS 3 w_M_isIn (i_if (fun x y => x = y) (b_M_listen_26 post) (i_push (.int 0) (b_M_listen_27 post)))))))))))))
theorem t_M_listen_0 {Z : Zt} {X0 : Mm} {post : Option Value → Mm → Prop} (g : Good Z prog_6_method_5_code 5 "BusTelegramsModel" 1) (hq : RetZ Z true X0 0 0 post) (hr : (zM Z).sig.returnType = (some .boolean)) : Snd Z 5 0 (b_M_listen_0 post) := by
  unfold b_M_listen_0
  exact (s_aload_n g d_M_listen_0 rfl (s_iload_n g d_M_listen_1 rfl (s_push_iconst g d_M_listen_2 (by decide) (s_push_bipush g d_M_listen_3 (by decide) (s_callS g (C_M_isIn (zl Z)) (gin_S mw_668 mw_669 mw_5 mw_670) hd_M_isIn (by decide) (by decide) d_M_listen_5 (s_if_eq g d_M_listen_8 (by decide) (t_M_listen_26 g hq hr) (s_iload_n g d_M_listen_11 rfl (s_push_iconst g d_M_listen_12 (by decide) (s_push_sipush g d_M_listen_13 (by decide) (s_callS g (C_M_isIn (zl Z)) (gin_S mw_668 mw_669 mw_5 mw_670) hd_M_isIn (by decide) (by decide) d_M_listen_16 (s_if_eq g d_M_listen_19 (by decide) (t_M_listen_26 g hq hr) (s_push_iconst g d_M_listen_22 (by decide) (s_goto g d_M_listen_23 (by decide) (t_M_listen_27 g hq hr))))))))))))))
def w_M_listen : Wp := wpOf 5 (fun _ post => b_M_listen_0 post)
theorem C_M_listen (l : Launch) : MetS l ({ cls := "BusTelegramsModel", name := "listen", desc := "(IIZ)Z" } : Jvm.MethodName) prog_6_method_5_code 5 (some .boolean) true 1 0 0 w_M_listen := metS_of (by decide +kernel) (fun Z X0 post hZ g hq hr _ => t_M_listen_0 g hq hr)
theorem hd_M_listen : (({ cls := "BusTelegramsModel", name := "listen", desc := "(IIZ)Z" } : Jvm.MethodName)).cls = "BusTelegramsModel" ∧ (({ cls := "BusTelegramsModel", name := "listen", desc := "(IIZ)Z" } : Jvm.MethodName)).cls ≠ "java/lang/invoke/MethodHandle" ∧ (({ cls := "BusTelegramsModel", name := "listen", desc := "(IIZ)Z" } : Jvm.MethodName)).cls ≠ "java/lang/invoke/VarHandle" ∧ (parseMethodDescriptor (({ cls := "BusTelegramsModel", name := "listen", desc := "(IIZ)Z" } : Jvm.MethodName)).desc).map (fun d => d.parameters.length) = some 3 := ⟨rfl, by decide, by decide, by decide +kernel⟩
theorem d_M_busy_0 : decode prog_6_method_6_code 0 = .ok (.aload_n 0, 1) := by decide +kernel
theorem d_M_busy_1 : decode prog_6_method_6_code 1 = .ok (.iload_n 1, 1) := by decide +kernel
theorem d_M_busy_2 : decode prog_6_method_6_code 2 = .ok (.iconst 0, 1) := by decide +kernel
theorem d_M_busy_3 : decode prog_6_method_6_code 3 = .ok (.bipush 7, 2) := by decide +kernel
theorem d_M_busy_5 : decode prog_6_method_6_code 5 = .ok (.invokestatic 73, 3) := by decide +kernel
theorem d_M_busy_8 : decode prog_6_method_6_code 8 = .ok (.ifCond .eq 7, 3) := by decide +kernel
theorem d_M_busy_11 : decode prog_6_method_6_code 11 = .ok (.iconst 0, 1) := by decide +kernel
theorem d_M_busy_12 : decode prog_6_method_6_code 12 = .ok (.goto 4, 3) := by decide +kernel
theorem d_M_busy_15 : decode prog_6_method_6_code 15 = .ok (.iconst 1, 1) := by decide +kernel
theorem d_M_busy_16 : decode prog_6_method_6_code 16 = .ok (.putfield 70, 3) := by decide +kernel
theorem d_M_busy_19 : decode prog_6_method_6_code 19 = .ok (.aload_n 0, 1) := by decide +kernel
theorem d_M_busy_20 : decode prog_6_method_6_code 20 = .ok (.getfield 70, 3) := by decide +kernel
theorem d_M_busy_23 : decode prog_6_method_6_code 23 = .ok (.ifCond .le 5, 3) := by decide +kernel
theorem d_M_busy_26 : decode prog_6_method_6_code 26 = .ok (.iconst 0, 1) := by decide +kernel
theorem d_M_busy_27 : decode prog_6_method_6_code 27 = .ok (.ireturn, 1) := by decide +kernel
theorem d_M_busy_28 : decode prog_6_method_6_code 28 = .ok (.aload_n 0, 1) := by decide +kernel
theorem d_M_busy_29 : decode prog_6_method_6_code 29 = .ok (.getfield 22, 3) := by decide +kernel
theorem d_M_busy_32 : decode prog_6_method_6_code 32 = .ok (.iload_n 1, 1) := by decide +kernel
theorem d_M_busy_33 : decode prog_6_method_6_code 33 = .ok (.baload, 1) := by decide +kernel
theorem d_M_busy_34 : decode prog_6_method_6_code 34 = .ok (.istore_n 3, 1) := by decide +kernel
theorem d_M_busy_35 : decode prog_6_method_6_code 35 = .ok (.aload_n 0, 1) := by decide +kernel
theorem d_M_busy_36 : decode prog_6_method_6_code 36 = .ok (.getfield 22, 3) := by decide +kernel
theorem d_M_busy_39 : decode prog_6_method_6_code 39 = .ok (.iload_n 1, 1) := by decide +kernel
theorem d_M_busy_40 : decode prog_6_method_6_code 40 = .ok (.iload_n 2, 1) := by decide +kernel
theorem d_M_busy_41 : decode prog_6_method_6_code 41 = .ok (.bastore, 1) := by decide +kernel
theorem d_M_busy_42 : decode prog_6_method_6_code 42 = .ok (.iload_n 3, 1) := by decide +kernel
theorem d_M_busy_43 : decode prog_6_method_6_code 43 = .ok (.ireturn, 1) := by decide +kernel
def b_M_busy_16 (post : Option Value → Mm → Prop) : Kk := (i_putI 4 0 (i_aload 0 (i_getI 4 0 (i_if (fun x y => x ≤ y) (i_aload 0 (i_getR 4 5 (i_iload 1 (i_ald 11 (i_istore 3 (i_aload 0 (i_getR 4 5 (i_iload 1 (i_iload 2 (i_zst (i_iload 3 (i_zret post)))))))))))) (i_push (.int 0) (i_zret post))))))
theorem t_M_busy_16 {Z : Zt} {X0 : Mm} {post : Option Value → Mm → Prop} (g : Good Z prog_6_method_6_code 4 "BusTelegramsModel" 1) (hq : RetZ Z true X0 0 0 post) (hr : (zM Z).sig.returnType = (some .boolean)) : Snd Z 4 16 (b_M_busy_16 post) := by
  unfold b_M_busy_16
  exact (s_putI g (c := 4) (j := 0) cok_4 (by decide) rfl rfl rfl mw_554 rfl d_M_busy_16 (s_aload_n g d_M_busy_19 rfl (s_getI g (c := 4) (j := 0) cok_4 (by decide) rfl mw_554 rfl d_M_busy_20 (s_if_le g d_M_busy_23 (by decide) (s_aload_n g d_M_busy_28 rfl (s_getR g (c := 4) (j := 5) cok_4 (by decide) rfl mw_559 rfl d_M_busy_29 (s_iload_n g d_M_busy_32 rfl (s_zald g d_M_busy_33 (s_istore_n g (by decide) d_M_busy_34 rfl (s_aload_n g d_M_busy_35 rfl (s_getR g (c := 4) (j := 5) cok_4 (by decide) rfl mw_559 rfl d_M_busy_36 (s_iload_n g d_M_busy_39 rfl (s_iload_n g d_M_busy_40 rfl (s_zast g d_M_busy_41 (s_iload_n g d_M_busy_42 rfl (s_zret0 g hq hr d_M_busy_43)))))))))))) (s_push_iconst g d_M_busy_26 (by decide) (s_zret0 g hq hr d_M_busy_27))))))
def b_M_busy_0 (post : Option Value → Mm → Prop) : Kk := (i_aload 0 (i_iload 1 (i_push (.int 0) (i_push (.int 7) (i_callS 3 w_M_isIn (i_if (fun x y => x = y) (i_push (.int 1) (b_M_busy_16 post)) (i_push (.int 0) (b_M_busy_16 post))))))))
theorem t_M_busy_0 {Z : Zt} {X0 : Mm} {post : Option Value → Mm → Prop} (g : Good Z prog_6_method_6_code 4 "BusTelegramsModel" 1) (hq : RetZ Z true X0 0 0 post) (hr : (zM Z).sig.returnType = (some .boolean)) : Snd Z 4 0 (b_M_busy_0 post) := by
  unfold b_M_busy_0
  exact (s_aload_n g d_M_busy_0 rfl (s_iload_n g d_M_busy_1 rfl (s_push_iconst g d_M_busy_2 (by decide) (s_push_bipush g d_M_busy_3 (by decide) (s_callS g (C_M_isIn (zl Z)) (gin_S mw_668 mw_669 mw_5 mw_670) hd_M_isIn (by decide) (by decide) d_M_busy_5 (s_if_eq g d_M_busy_8 (by decide) (s_push_iconst g d_M_busy_15 (by decide) (t_M_busy_16 g hq hr)) (s_push_iconst g d_M_busy_11 (by decide) (s_goto g d_M_busy_12 (by decide) (t_M_busy_16 g hq hr)))))))))
def w_M_busy : Wp := wpOf 4 (fun _ post => b_M_busy_0 post)
theorem C_M_busy (l : Launch) : MetS l ({ cls := "BusTelegramsModel", name := "busy", desc := "(IZ)Z" } : Jvm.MethodName) prog_6_method_6_code 4 (some .boolean) true 1 0 0 w_M_busy := metS_of (by decide +kernel) (fun Z X0 post hZ g hq hr _ => t_M_busy_0 g hq hr)
theorem hd_M_busy : (({ cls := "BusTelegramsModel", name := "busy", desc := "(IZ)Z" } : Jvm.MethodName)).cls = "BusTelegramsModel" ∧ (({ cls := "BusTelegramsModel", name := "busy", desc := "(IZ)Z" } : Jvm.MethodName)).cls ≠ "java/lang/invoke/MethodHandle" ∧ (({ cls := "BusTelegramsModel", name := "busy", desc := "(IZ)Z" } : Jvm.MethodName)).cls ≠ "java/lang/invoke/VarHandle" ∧ (parseMethodDescriptor (({ cls := "BusTelegramsModel", name := "busy", desc := "(IZ)Z" } : Jvm.MethodName)).desc).map (fun d => d.parameters.length) = some 2 := ⟨rfl, by decide, by decide, by decide +kernel⟩
theorem d_M_maySend_0 : decode prog_6_method_7_code 0 = .ok (.iload_n 0, 1) := by decide +kernel
theorem d_M_maySend_1 : decode prog_6_method_7_code 1 = .ok (.iconst 0, 1) := by decide +kernel
theorem d_M_maySend_2 : decode prog_6_method_7_code 2 = .ok (.bipush 7, 2) := by decide +kernel
theorem d_M_maySend_4 : decode prog_6_method_7_code 4 = .ok (.invokestatic 73, 3) := by decide +kernel
theorem d_M_maySend_7 : decode prog_6_method_7_code 7 = .ok (.ifCond .eq 47, 3) := by decide +kernel
theorem d_M_maySend_10 : decode prog_6_method_7_code 10 = .ok (.iload_n 1, 1) := by decide +kernel
theorem d_M_maySend_11 : decode prog_6_method_7_code 11 = .ok (.iconst 0, 1) := by decide +kernel
theorem d_M_maySend_12 : decode prog_6_method_7_code 12 = .ok (.iconst 3, 1) := by decide +kernel
theorem d_M_maySend_13 : decode prog_6_method_7_code 13 = .ok (.invokestatic 73, 3) := by decide +kernel
theorem d_M_maySend_16 : decode prog_6_method_7_code 16 = .ok (.ifCond .eq 38, 3) := by decide +kernel
theorem d_M_maySend_19 : decode prog_6_method_7_code 19 = .ok (.iload_n 2, 1) := by decide +kernel
theorem d_M_maySend_20 : decode prog_6_method_7_code 20 = .ok (.iconst 0, 1) := by decide +kernel
theorem d_M_maySend_21 : decode prog_6_method_7_code 21 = .ok (.iload_n 3, 1) := by decide +kernel
theorem d_M_maySend_22 : decode prog_6_method_7_code 22 = .ok (.ifCond .eq 9, 3) := by decide +kernel
theorem d_M_maySend_25 : decode prog_6_method_7_code 25 = .ok (.sipush 255, 3) := by decide +kernel
theorem d_M_maySend_28 : decode prog_6_method_7_code 28 = .ok (.goto 5, 3) := by decide +kernel
theorem d_M_maySend_31 : decode prog_6_method_7_code 31 = .ok (.ldc 77, 2) := by decide +kernel
theorem d_M_maySend_33 : decode prog_6_method_7_code 33 = .ok (.invokestatic 73, 3) := by decide +kernel
theorem d_M_maySend_36 : decode prog_6_method_7_code 36 = .ok (.ifCond .eq 18, 3) := by decide +kernel
theorem d_M_maySend_39 : decode prog_6_method_7_code 39 = .ok (.iload 4, 2) := by decide +kernel
theorem d_M_maySend_41 : decode prog_6_method_7_code 41 = .ok (.iconst 1, 1) := by decide +kernel
theorem d_M_maySend_42 : decode prog_6_method_7_code 42 = .ok (.bipush 14, 2) := by decide +kernel
theorem d_M_maySend_44 : decode prog_6_method_7_code 44 = .ok (.invokestatic 73, 3) := by decide +kernel
theorem d_M_maySend_47 : decode prog_6_method_7_code 47 = .ok (.ifCond .eq 7, 3) := by decide +kernel
theorem d_M_maySend_50 : decode prog_6_method_7_code 50 = .ok (.iconst 1, 1) := by decide +kernel
theorem d_M_maySend_51 : decode prog_6_method_7_code 51 = .ok (.goto 4, 3) := by decide +kernel
theorem d_M_maySend_54 : decode prog_6_method_7_code 54 = .ok (.iconst 0, 1) := by decide +kernel
theorem d_M_maySend_55 : decode prog_6_method_7_code 55 = .ok (.ireturn, 1) := by decide +kernel
def b_M_maySend_55 (post : Option Value → Mm → Prop) : Kk := (i_zret post)
theorem t_M_maySend_55 {Z : Zt} {X0 : Mm} {post : Option Value → Mm → Prop} (g : Good Z prog_6_method_7_code 5 "BusTelegramsModel" 1) (hq : RetZ Z true X0 0 0 post) (hr : (zM Z).sig.returnType = (some .boolean)) : Snd Z 5 55 (b_M_maySend_55 post) := by
  unfold b_M_maySend_55
  exact (s_zret0 g hq hr d_M_maySend_55)
def b_M_maySend_54 (post : Option Value → Mm → Prop) : Kk := (i_push (.int 0) (b_M_maySend_55 post))
theorem t_M_maySend_54 {Z : Zt} {X0 : Mm} {post : Option Value → Mm → Prop} (g : Good Z prog_6_method_7_code 5 "BusTelegramsModel" 1) (hq : RetZ Z true X0 0 0 post) (hr : (zM Z).sig.returnType = (some .boolean)) : Snd Z 5 54 (b_M_maySend_54 post) := by
  unfold b_M_maySend_54
  exact (s_push_iconst g d_M_maySend_54 (by decide) (t_M_maySend_55 g hq hr))
def b_M_maySend_33 (post : Option Value → Mm → Prop) : Kk := (i_callS 3 w_M_isIn (i_if (fun x y => x = y) (b_M_maySend_54 post) (i_iload 4 (i_push (.int 1) (i_push (.int 14) (i_callS 3 w_M_isIn (i_if (fun x y => x = y) (b_M_maySend_54 post) (i_push (.int 1) (b_M_maySend_55 post)))))))))
theorem t_M_maySend_33 {Z : Zt} {X0 : Mm} {post : Option Value → Mm → Prop} (g : Good Z prog_6_method_7_code 5 "BusTelegramsModel" 1) (hq : RetZ Z true X0 0 0 post) (hr : (zM Z).sig.returnType = (some .boolean)) : Snd Z 5 33 (b_M_maySend_33 post) := by
  unfold b_M_maySend_33
  exact (s_callS g (C_M_isIn (zl Z)) (gin_S mw_668 mw_669 mw_5 mw_670) hd_M_isIn (by decide) (by decide) d_M_maySend_33 (s_if_eq g d_M_maySend_36 (by decide) (t_M_maySend_54 g hq hr) (s_iload g d_M_maySend_39 (s_push_iconst g d_M_maySend_41 (by decide) (s_push_bipush g d_M_maySend_42 (by decide) (s_callS g (C_M_isIn (zl Z)) (gin_S mw_668 mw_669 mw_5 mw_670) hd_M_isIn (by decide) (by decide) d_M_maySend_44 (s_if_eq g d_M_maySend_47 (by decide) (t_M_maySend_54 g hq hr) (s_push_iconst g d_M_maySend_50 (by decide) (s_goto g d_M_maySend_51 (by decide) (t_M_maySend_55 g hq hr))))))))))
def b_M_maySend_0 (post : Option Value → Mm → Prop) : Kk := (i_iload 0 (i_push (.int 0) (i_push (.int 7) (i_callS 3 w_M_isIn (i_if (fun x y => x = y) (b_M_maySend_54 post) (i_iload 1 (i_push (.int 0) (i_push (.int 3) (i_callS 3 w_M_isIn (i_if (fun x y => x = y) (b_M_maySend_54 post) (i_iload 2 (i_push (.int 0) (i_iload 3 (i_if (fun x y => x = y) (i_push (.int 65535) (b_M_maySend_33 post)) (i_push (.int 255) (b_M_maySend_33 post))))))))))))))))
theorem t_M_maySend_0 {Z : Zt} {X0 : Mm} {post : Option Value → Mm → Prop} (g : Good Z prog_6_method_7_code 5 "BusTelegramsModel" 1) (hq : RetZ Z true X0 0 0 post) (hr : (zM Z).sig.returnType = (some .boolean)) : Snd Z 5 0 (b_M_maySend_0 post) := by
  unfold b_M_maySend_0
  exact (s_iload_n g d_M_maySend_0 rfl (s_push_iconst g d_M_maySend_1 (by decide) (s_push_bipush g d_M_maySend_2 (by decide) (s_callS g (C_M_isIn (zl Z)) (gin_S mw_668 mw_669 mw_5 mw_670) hd_M_isIn (by decide) (by decide) d_M_maySend_4 (s_if_eq g d_M_maySend_7 (by decide) (t_M_maySend_54 g hq hr) (s_iload_n g d_M_maySend_10 rfl (s_push_iconst g d_M_maySend_11 (by decide) (s_push_iconst g d_M_maySend_12 (by decide) (s_callS g (C_M_isIn (zl Z)) (gin_S mw_668 mw_669 mw_5 mw_670) hd_M_isIn (by decide) (by decide) d_M_maySend_13 (s_if_eq g d_M_maySend_16 (by decide) (t_M_maySend_54 g hq hr) (s_iload_n g d_M_maySend_19 rfl (s_push_iconst g d_M_maySend_20 (by decide) (s_iload_n g d_M_maySend_21 rfl (s_if_eq g d_M_maySend_22 (by decide) (s_push_ldc g mw_671 d_M_maySend_31 (t_M_maySend_33 g hq hr)) (s_push_sipush g d_M_maySend_25 (by decide) (s_goto g d_M_maySend_28 (by decide) (t_M_maySend_33 g hq hr)))))))))))))))))
def w_M_maySend : Wp := wpOf 5 (fun _ post => b_M_maySend_0 post)
theorem C_M_maySend (l : Launch) : MetS l ({ cls := "BusTelegramsModel", name := "maySend", desc := "(IIIZI)Z" } : Jvm.MethodName) prog_6_method_7_code 5 (some .boolean) true 1 0 0 w_M_maySend := metS_of (by decide +kernel) (fun Z X0 post hZ g hq hr _ => t_M_maySend_0 g hq hr)
theorem hd_M_maySend : (({ cls := "BusTelegramsModel", name := "maySend", desc := "(IIIZI)Z" } : Jvm.MethodName)).cls ≠ "java/lang/invoke/MethodHandle" ∧ (({ cls := "BusTelegramsModel", name := "maySend", desc := "(IIIZI)Z" } : Jvm.MethodName)).cls ≠ "java/lang/invoke/VarHandle" ∧ (parseMethodDescriptor (({ cls := "BusTelegramsModel", name := "maySend", desc := "(IIIZI)Z" } : Jvm.MethodName)).desc).map (fun d => d.parameters.length) = some 5 := ⟨by decide, by decide, by decide +kernel⟩
theorem d_M_disturb_0 : decode prog_6_method_9_code 0 = .ok (.aload_n 0, 1) := by decide +kernel
theorem d_M_disturb_1 : decode prog_6_method_9_code 1 = .ok (.iload_n 1, 1) := by decide +kernel
theorem d_M_disturb_2 : decode prog_6_method_9_code 2 = .ok (.iconst 1, 1) := by decide +kernel
theorem d_M_disturb_3 : decode prog_6_method_9_code 3 = .ok (.sipush 2000, 3) := by decide +kernel
theorem d_M_disturb_6 : decode prog_6_method_9_code 6 = .ok (.invokestatic 73, 3) := by decide +kernel
theorem d_M_disturb_9 : decode prog_6_method_9_code 9 = .ok (.ifCond .ne 7, 3) := by decide +kernel
theorem d_M_disturb_12 : decode prog_6_method_9_code 12 = .ok (.iconst 1, 1) := by decide +kernel
theorem d_M_disturb_13 : decode prog_6_method_9_code 13 = .ok (.goto 17, 3) := by decide +kernel
theorem d_M_disturb_16 : decode prog_6_method_9_code 16 = .ok (.aload_n 0, 1) := by decide +kernel
theorem d_M_disturb_17 : decode prog_6_method_9_code 17 = .ok (.getfield 82, 3) := by decide +kernel
theorem d_M_disturb_20 : decode prog_6_method_9_code 20 = .ok (.bipush 50, 2) := by decide +kernel
theorem d_M_disturb_22 : decode prog_6_method_9_code 22 = .ok (.if_icmp .ne 7, 3) := by decide +kernel
theorem d_M_disturb_25 : decode prog_6_method_9_code 25 = .ok (.iconst 2, 1) := by decide +kernel
theorem d_M_disturb_26 : decode prog_6_method_9_code 26 = .ok (.goto 4, 3) := by decide +kernel
theorem d_M_disturb_29 : decode prog_6_method_9_code 29 = .ok (.iconst 0, 1) := by decide +kernel
theorem d_M_disturb_30 : decode prog_6_method_9_code 30 = .ok (.putfield 70, 3) := by decide +kernel
theorem d_M_disturb_33 : decode prog_6_method_9_code 33 = .ok (.aload_n 0, 1) := by decide +kernel
theorem d_M_disturb_34 : decode prog_6_method_9_code 34 = .ok (.getfield 85, 3) := by decide +kernel
theorem d_M_disturb_37 : decode prog_6_method_9_code 37 = .ok (.iload_n 1, 1) := by decide +kernel
theorem d_M_disturb_38 : decode prog_6_method_9_code 38 = .ok (.iadd, 1) := by decide +kernel
theorem d_M_disturb_39 : decode prog_6_method_9_code 39 = .ok (.sipush 2048, 3) := by decide +kernel
theorem d_M_disturb_42 : decode prog_6_method_9_code 42 = .ok (.irem, 1) := by decide +kernel
theorem d_M_disturb_43 : decode prog_6_method_9_code 43 = .ok (.istore_n 2, 1) := by decide +kernel
theorem d_M_disturb_44 : decode prog_6_method_9_code 44 = .ok (.aload_n 0, 1) := by decide +kernel
theorem d_M_disturb_45 : decode prog_6_method_9_code 45 = .ok (.getfield 70, 3) := by decide +kernel
theorem d_M_disturb_48 : decode prog_6_method_9_code 48 = .ok (.ifCond .gt 12, 3) := by decide +kernel
theorem d_M_disturb_51 : decode prog_6_method_9_code 51 = .ok (.aload_n 0, 1) := by decide +kernel
theorem d_M_disturb_52 : decode prog_6_method_9_code 52 = .ok (.getfield 52, 3) := by decide +kernel
theorem d_M_disturb_55 : decode prog_6_method_9_code 55 = .ok (.iload_n 2, 1) := by decide +kernel
theorem d_M_disturb_56 : decode prog_6_method_9_code 56 = .ok (.baload, 1) := by decide +kernel
theorem d_M_disturb_57 : decode prog_6_method_9_code 57 = .ok (.ifCond .eq 5, 3) := by decide +kernel
theorem d_M_disturb_60 : decode prog_6_method_9_code 60 = .ok (.iconst 0, 1) := by decide +kernel
theorem d_M_disturb_61 : decode prog_6_method_9_code 61 = .ok (.ireturn, 1) := by decide +kernel
theorem d_M_disturb_62 : decode prog_6_method_9_code 62 = .ok (.aload_n 0, 1) := by decide +kernel
theorem d_M_disturb_63 : decode prog_6_method_9_code 63 = .ok (.getfield 52, 3) := by decide +kernel
theorem d_M_disturb_66 : decode prog_6_method_9_code 66 = .ok (.iload_n 2, 1) := by decide +kernel
theorem d_M_disturb_67 : decode prog_6_method_9_code 67 = .ok (.iconst 1, 1) := by decide +kernel
theorem d_M_disturb_68 : decode prog_6_method_9_code 68 = .ok (.bastore, 1) := by decide +kernel
theorem d_M_disturb_69 : decode prog_6_method_9_code 69 = .ok (.aload_n 0, 1) := by decide +kernel
theorem d_M_disturb_70 : decode prog_6_method_9_code 70 = .ok (.dup, 1) := by decide +kernel
theorem d_M_disturb_71 : decode prog_6_method_9_code 71 = .ok (.getfield 82, 3) := by decide +kernel
theorem d_M_disturb_74 : decode prog_6_method_9_code 74 = .ok (.iconst 1, 1) := by decide +kernel
theorem d_M_disturb_75 : decode prog_6_method_9_code 75 = .ok (.iadd, 1) := by decide +kernel
theorem d_M_disturb_76 : decode prog_6_method_9_code 76 = .ok (.putfield 82, 3) := by decide +kernel
theorem d_M_disturb_79 : decode prog_6_method_9_code 79 = .ok (.iconst 1, 1) := by decide +kernel
theorem d_M_disturb_80 : decode prog_6_method_9_code 80 = .ok (.ireturn, 1) := by decide +kernel
def b_M_disturb_60 (post : Option Value → Mm → Prop) : Kk := (i_push (.int 0) (i_zret post))
theorem t_M_disturb_60 {Z : Zt} {X0 : Mm} {post : Option Value → Mm → Prop} (g : Good Z prog_6_method_9_code 3 "BusTelegramsModel" 1) (hq : RetZ Z true X0 0 0 post) (hr : (zM Z).sig.returnType = (some .boolean)) : Snd Z 3 60 (b_M_disturb_60 post) := by
  unfold b_M_disturb_60
  exact (s_push_iconst g d_M_disturb_60 (by decide) (s_zret0 g hq hr d_M_disturb_61))
def b_M_disturb_30 (post : Option Value → Mm → Prop) : Kk := (i_putI 4 0 (i_aload 0 (i_getI 4 1 (i_iload 1 (i_bin (fun x y => x + y) (i_push (.int 2048) (i_binz (fun x y => x - x / y * y) (i_istore 2 (i_aload 0 (i_getI 4 0 (i_if (fun x y => y < x) (b_M_disturb_60 post) (i_aload 0 (i_getR 4 15 (i_iload 2 (i_ald 11 (i_if (fun x y => x = y) (i_aload 0 (i_getR 4 15 (i_iload 2 (i_push (.int 1) (i_zst (i_aload 0 (i_dup (i_getI 4 16 (i_push (.int 1) (i_bin (fun x y => x + y) (i_putI 4 16 (i_push (.int 1) (i_zret post))))))))))))) (b_M_disturb_60 post)))))))))))))))))
theorem t_M_disturb_30 {Z : Zt} {X0 : Mm} {post : Option Value → Mm → Prop} (g : Good Z prog_6_method_9_code 3 "BusTelegramsModel" 1) (hq : RetZ Z true X0 0 0 post) (hr : (zM Z).sig.returnType = (some .boolean)) : Snd Z 3 30 (b_M_disturb_30 post) := by
  unfold b_M_disturb_30
  exact (s_putI g (c := 4) (j := 0) cok_4 (by decide) rfl rfl rfl mw_554 rfl d_M_disturb_30 (s_aload_n g d_M_disturb_33 rfl (s_getI g (c := 4) (j := 1) cok_4 (by decide) rfl mw_555 rfl d_M_disturb_34 (s_iload_n g d_M_disturb_37 rfl (s_iadd g d_M_disturb_38 (s_push_sipush g d_M_disturb_39 (by decide) (s_irem g d_M_disturb_42 (s_istore_n g (by decide) d_M_disturb_43 rfl (s_aload_n g d_M_disturb_44 rfl (s_getI g (c := 4) (j := 0) cok_4 (by decide) rfl mw_554 rfl d_M_disturb_45 (s_if_gt g d_M_disturb_48 (by decide) (t_M_disturb_60 g hq hr) (s_aload_n g d_M_disturb_51 rfl (s_getR g (c := 4) (j := 15) cok_4 (by decide) rfl mw_569 rfl d_M_disturb_52 (s_iload_n g d_M_disturb_55 rfl (s_zald g d_M_disturb_56 (s_if_eq g d_M_disturb_57 (by decide) (s_aload_n g d_M_disturb_62 rfl (s_getR g (c := 4) (j := 15) cok_4 (by decide) rfl mw_569 rfl d_M_disturb_63 (s_iload_n g d_M_disturb_66 rfl (s_push_iconst g d_M_disturb_67 (by decide) (s_zast g d_M_disturb_68 (s_aload_n g d_M_disturb_69 rfl (s_dup g d_M_disturb_70 (s_getI g (c := 4) (j := 16) cok_4 (by decide) rfl mw_570 rfl d_M_disturb_71 (s_push_iconst g d_M_disturb_74 (by decide) (s_iadd g d_M_disturb_75 (s_putI g (c := 4) (j := 16) cok_4 (by decide) rfl rfl rfl mw_570 rfl d_M_disturb_76 (s_push_iconst g d_M_disturb_79 (by decide) (s_zret0 g hq hr d_M_disturb_80))))))))))))) (t_M_disturb_60 g hq hr)))))))))))))))))
def b_M_disturb_0 (post : Option Value → Mm → Prop) : Kk := (i_aload 0 (i_iload 1 (i_push (.int 1) (i_push (.int 2000) (i_callS 3 w_M_isIn (i_if (fun x y => x = y) (i_push (.int 1) (b_M_disturb_30 post)) (i_aload 0 (i_getI 4 16 (i_push (.int 50) (i_icmp (fun x y => x = y) (i_push (.int 2) (b_M_disturb_30 post)) (i_push (.int 0) (b_M_disturb_30 post))))))))))))
theorem t_M_disturb_0 {Z : Zt} {X0 : Mm} {post : Option Value → Mm → Prop} (g : Good Z prog_6_method_9_code 3 "BusTelegramsModel" 1) (hq : RetZ Z true X0 0 0 post) (hr : (zM Z).sig.returnType = (some .boolean)) : Snd Z 3 0 (b_M_disturb_0 post) := by
  unfold b_M_disturb_0
  exact (s_aload_n g d_M_disturb_0 rfl (s_iload_n g d_M_disturb_1 rfl (s_push_iconst g d_M_disturb_2 (by decide) (s_push_sipush g d_M_disturb_3 (by decide) (s_callS g (C_M_isIn (zl Z)) (gin_S mw_668 mw_669 mw_5 mw_670) hd_M_isIn (by decide) (by decide) d_M_disturb_6 (s_if_ne g d_M_disturb_9 (by decide) (s_aload_n g d_M_disturb_16 rfl (s_getI g (c := 4) (j := 16) cok_4 (by decide) rfl mw_570 rfl d_M_disturb_17 (s_push_bipush g d_M_disturb_20 (by decide) (s_icmp_ne g d_M_disturb_22 (by decide) (s_push_iconst g d_M_disturb_29 (by decide) (t_M_disturb_30 g hq hr)) (s_push_iconst g d_M_disturb_25 (by decide) (s_goto g d_M_disturb_26 (by decide) (t_M_disturb_30 g hq hr))))))) (s_push_iconst g d_M_disturb_12 (by decide) (s_goto g d_M_disturb_13 (by decide) (t_M_disturb_30 g hq hr)))))))))
def w_M_disturb : Wp := wpOf 3 (fun _ post => b_M_disturb_0 post)
theorem C_M_disturb (l : Launch) : MetS l ({ cls := "BusTelegramsModel", name := "disturb", desc := "(I)Z" } : Jvm.MethodName) prog_6_method_9_code 3 (some .boolean) true 1 0 0 w_M_disturb := metS_of (by decide +kernel) (fun Z X0 post hZ g hq hr _ => t_M_disturb_0 g hq hr)
theorem hd_M_disturb : (({ cls := "BusTelegramsModel", name := "disturb", desc := "(I)Z" } : Jvm.MethodName)).cls = "BusTelegramsModel" ∧ (({ cls := "BusTelegramsModel", name := "disturb", desc := "(I)Z" } : Jvm.MethodName)).cls ≠ "java/lang/invoke/MethodHandle" ∧ (({ cls := "BusTelegramsModel", name := "disturb", desc := "(I)Z" } : Jvm.MethodName)).cls ≠ "java/lang/invoke/VarHandle" ∧ (parseMethodDescriptor (({ cls := "BusTelegramsModel", name := "disturb", desc := "(I)Z" } : Jvm.MethodName)).desc).map (fun d => d.parameters.length) = some 1 := ⟨rfl, by decide, by decide, by decide +kernel⟩
theorem d_M_begin_0 : decode prog_6_method_16_code 0 = .ok (.iconst 0, 1) := by decide +kernel
theorem d_M_begin_1 : decode prog_6_method_16_code 1 = .ok (.istore_n 1, 1) := by decide +kernel
theorem d_M_begin_2 : decode prog_6_method_16_code 2 = .ok (.iload_n 1, 1) := by decide +kernel
theorem d_M_begin_3 : decode prog_6_method_16_code 3 = .ok (.bipush 8, 2) := by decide +kernel
theorem d_M_begin_5 : decode prog_6_method_16_code 5 = .ok (.if_icmp .ge 93, 3) := by decide +kernel
theorem d_M_begin_8 : decode prog_6_method_16_code 8 = .ok (.bipush 36, 2) := by decide +kernel
theorem d_M_begin_10 : decode prog_6_method_16_code 10 = .ok (.iload_n 1, 1) := by decide +kernel
theorem d_M_begin_11 : decode prog_6_method_16_code 11 = .ok (.imul, 1) := by decide +kernel
theorem d_M_begin_12 : decode prog_6_method_16_code 12 = .ok (.istore_n 2, 1) := by decide +kernel
theorem d_M_begin_13 : decode prog_6_method_16_code 13 = .ok (.aload_n 0, 1) := by decide +kernel
theorem d_M_begin_14 : decode prog_6_method_16_code 14 = .ok (.getfield 28, 3) := by decide +kernel
theorem d_M_begin_17 : decode prog_6_method_16_code 17 = .ok (.iload_n 2, 1) := by decide +kernel
theorem d_M_begin_18 : decode prog_6_method_16_code 18 = .ok (.iaload, 1) := by decide +kernel
theorem d_M_begin_19 : decode prog_6_method_16_code 19 = .ok (.iconst 2, 1) := by decide +kernel
theorem d_M_begin_20 : decode prog_6_method_16_code 20 = .ok (.if_icmp .lt 18, 3) := by decide +kernel
theorem d_M_begin_23 : decode prog_6_method_16_code 23 = .ok (.aload_n 0, 1) := by decide +kernel
theorem d_M_begin_24 : decode prog_6_method_16_code 24 = .ok (.getfield 28, 3) := by decide +kernel
theorem d_M_begin_27 : decode prog_6_method_16_code 27 = .ok (.iload_n 2, 1) := by decide +kernel
theorem d_M_begin_28 : decode prog_6_method_16_code 28 = .ok (.iconst 5, 1) := by decide +kernel
theorem d_M_begin_29 : decode prog_6_method_16_code 29 = .ok (.iadd, 1) := by decide +kernel
theorem d_M_begin_30 : decode prog_6_method_16_code 30 = .ok (.iaload, 1) := by decide +kernel
theorem d_M_begin_31 : decode prog_6_method_16_code 31 = .ok (.ifCond .ne 7, 3) := by decide +kernel
theorem d_M_begin_34 : decode prog_6_method_16_code 34 = .ok (.iconst 1, 1) := by decide +kernel
theorem d_M_begin_35 : decode prog_6_method_16_code 35 = .ok (.goto 4, 3) := by decide +kernel
theorem d_M_begin_38 : decode prog_6_method_16_code 38 = .ok (.iconst 0, 1) := by decide +kernel
theorem d_M_begin_39 : decode prog_6_method_16_code 39 = .ok (.istore_n 3, 1) := by decide +kernel
theorem d_M_begin_40 : decode prog_6_method_16_code 40 = .ok (.aload_n 0, 1) := by decide +kernel
theorem d_M_begin_41 : decode prog_6_method_16_code 41 = .ok (.getfield 31, 3) := by decide +kernel
theorem d_M_begin_44 : decode prog_6_method_16_code 44 = .ok (.iload_n 1, 1) := by decide +kernel
theorem d_M_begin_45 : decode prog_6_method_16_code 45 = .ok (.iaload, 1) := by decide +kernel
theorem d_M_begin_46 : decode prog_6_method_16_code 46 = .ok (.ifCond .ge 46, 3) := by decide +kernel
theorem d_M_begin_49 : decode prog_6_method_16_code 49 = .ok (.aload_n 0, 1) := by decide +kernel
theorem d_M_begin_50 : decode prog_6_method_16_code 50 = .ok (.getfield 25, 3) := by decide +kernel
theorem d_M_begin_53 : decode prog_6_method_16_code 53 = .ok (.iload_n 1, 1) := by decide +kernel
theorem d_M_begin_54 : decode prog_6_method_16_code 54 = .ok (.iaload, 1) := by decide +kernel
theorem d_M_begin_55 : decode prog_6_method_16_code 55 = .ok (.ifCond .le 37, 3) := by decide +kernel
theorem d_M_begin_58 : decode prog_6_method_16_code 58 = .ok (.aload_n 0, 1) := by decide +kernel
theorem d_M_begin_59 : decode prog_6_method_16_code 59 = .ok (.getfield 40, 3) := by decide +kernel
theorem d_M_begin_62 : decode prog_6_method_16_code 62 = .ok (.iload_n 1, 1) := by decide +kernel
theorem d_M_begin_63 : decode prog_6_method_16_code 63 = .ok (.iaload, 1) := by decide +kernel
theorem d_M_begin_64 : decode prog_6_method_16_code 64 = .ok (.ifCond .ge 28, 3) := by decide +kernel
theorem d_M_begin_67 : decode prog_6_method_16_code 67 = .ok (.aload_n 0, 1) := by decide +kernel
theorem d_M_begin_68 : decode prog_6_method_16_code 68 = .ok (.getfield 8, 3) := by decide +kernel
theorem d_M_begin_71 : decode prog_6_method_16_code 71 = .ok (.iload_n 3, 1) := by decide +kernel
theorem d_M_begin_72 : decode prog_6_method_16_code 72 = .ok (.ifCond .eq 8, 3) := by decide +kernel
theorem d_M_begin_75 : decode prog_6_method_16_code 75 = .ok (.bipush 53, 2) := by decide +kernel
theorem d_M_begin_77 : decode prog_6_method_16_code 77 = .ok (.goto 5, 3) := by decide +kernel
theorem d_M_begin_80 : decode prog_6_method_16_code 80 = .ok (.bipush 50, 2) := by decide +kernel
theorem d_M_begin_82 : decode prog_6_method_16_code 82 = .ok (.if_icmp .lt 10, 3) := by decide +kernel
theorem d_M_begin_85 : decode prog_6_method_16_code 85 = .ok (.aload_n 0, 1) := by decide +kernel
theorem d_M_begin_86 : decode prog_6_method_16_code 86 = .ok (.getfield 31, 3) := by decide +kernel
theorem d_M_begin_89 : decode prog_6_method_16_code 89 = .ok (.iload_n 1, 1) := by decide +kernel
theorem d_M_begin_90 : decode prog_6_method_16_code 90 = .ok (.iconst 0, 1) := by decide +kernel
theorem d_M_begin_91 : decode prog_6_method_16_code 91 = .ok (.iastore, 1) := by decide +kernel
theorem d_M_begin_92 : decode prog_6_method_16_code 92 = .ok (.iinc 1 1, 3) := by decide +kernel
theorem d_M_begin_95 : decode prog_6_method_16_code 95 = .ok (.goto (-93), 3) := by decide +kernel
theorem d_M_begin_98 : decode prog_6_method_16_code 98 = .ok (.aload_n 0, 1) := by decide +kernel
theorem d_M_begin_99 : decode prog_6_method_16_code 99 = .ok (.getfield 102, 3) := by decide +kernel
theorem d_M_begin_102 : decode prog_6_method_16_code 102 = .ok (.ifCond .eq 24, 3) := by decide +kernel
theorem d_M_begin_105 : decode prog_6_method_16_code 105 = .ok (.aload_n 0, 1) := by decide +kernel
theorem d_M_begin_106 : decode prog_6_method_16_code 106 = .ok (.getfield 106, 3) := by decide +kernel
theorem d_M_begin_109 : decode prog_6_method_16_code 109 = .ok (.ifCond .ne 17, 3) := by decide +kernel
theorem d_M_begin_112 : decode prog_6_method_16_code 112 = .ok (.aload_n 0, 1) := by decide +kernel
theorem d_M_begin_113 : decode prog_6_method_16_code 113 = .ok (.getfield 85, 3) := by decide +kernel
theorem d_M_begin_116 : decode prog_6_method_16_code 116 = .ok (.aload_n 0, 1) := by decide +kernel
theorem d_M_begin_117 : decode prog_6_method_16_code 117 = .ok (.getfield 109, 3) := by decide +kernel
theorem d_M_begin_120 : decode prog_6_method_16_code 120 = .ok (.bipush 14, 2) := by decide +kernel
theorem d_M_begin_122 : decode prog_6_method_16_code 122 = .ok (.iadd, 1) := by decide +kernel
theorem d_M_begin_123 : decode prog_6_method_16_code 123 = .ok (.if_icmp .eq 4, 3) := by decide +kernel
theorem d_M_begin_126 : decode prog_6_method_16_code 126 = .ok (.return_, 1) := by decide +kernel
theorem d_M_begin_127 : decode prog_6_method_16_code 127 = .ok (.iconst 0, 1) := by decide +kernel
theorem d_M_begin_128 : decode prog_6_method_16_code 128 = .ok (.istore_n 1, 1) := by decide +kernel
theorem d_M_begin_129 : decode prog_6_method_16_code 129 = .ok (.iload_n 1, 1) := by decide +kernel
theorem d_M_begin_130 : decode prog_6_method_16_code 130 = .ok (.bipush 8, 2) := by decide +kernel
theorem d_M_begin_132 : decode prog_6_method_16_code 132 = .ok (.if_icmp .ge 78, 3) := by decide +kernel
theorem d_M_begin_135 : decode prog_6_method_16_code 135 = .ok (.aload_n 0, 1) := by decide +kernel
theorem d_M_begin_136 : decode prog_6_method_16_code 136 = .ok (.getfield 31, 3) := by decide +kernel
theorem d_M_begin_139 : decode prog_6_method_16_code 139 = .ok (.iload_n 1, 1) := by decide +kernel
theorem d_M_begin_140 : decode prog_6_method_16_code 140 = .ok (.iaload, 1) := by decide +kernel
theorem d_M_begin_141 : decode prog_6_method_16_code 141 = .ok (.ifCond .ge 63, 3) := by decide +kernel
theorem d_M_begin_144 : decode prog_6_method_16_code 144 = .ok (.aload_n 0, 1) := by decide +kernel
theorem d_M_begin_145 : decode prog_6_method_16_code 145 = .ok (.getfield 40, 3) := by decide +kernel
theorem d_M_begin_148 : decode prog_6_method_16_code 148 = .ok (.iload_n 1, 1) := by decide +kernel
theorem d_M_begin_149 : decode prog_6_method_16_code 149 = .ok (.iaload, 1) := by decide +kernel
theorem d_M_begin_150 : decode prog_6_method_16_code 150 = .ok (.ifCond .ge 54, 3) := by decide +kernel
theorem d_M_begin_153 : decode prog_6_method_16_code 153 = .ok (.aload_n 0, 1) := by decide +kernel
theorem d_M_begin_154 : decode prog_6_method_16_code 154 = .ok (.iload_n 1, 1) := by decide +kernel
theorem d_M_begin_155 : decode prog_6_method_16_code 155 = .ok (.invokevirtual 112, 3) := by decide +kernel
theorem d_M_begin_158 : decode prog_6_method_16_code 158 = .ok (.ifCond .eq 46, 3) := by decide +kernel
theorem d_M_begin_161 : decode prog_6_method_16_code 161 = .ok (.aload_n 0, 1) := by decide +kernel
theorem d_M_begin_162 : decode prog_6_method_16_code 162 = .ok (.getfield 34, 3) := by decide +kernel
theorem d_M_begin_165 : decode prog_6_method_16_code 165 = .ok (.iload_n 1, 1) := by decide +kernel
theorem d_M_begin_166 : decode prog_6_method_16_code 166 = .ok (.iconst 0, 1) := by decide +kernel
theorem d_M_begin_167 : decode prog_6_method_16_code 167 = .ok (.iastore, 1) := by decide +kernel
theorem d_M_begin_168 : decode prog_6_method_16_code 168 = .ok (.aload_n 0, 1) := by decide +kernel
theorem d_M_begin_169 : decode prog_6_method_16_code 169 = .ok (.getfield 37, 3) := by decide +kernel
theorem d_M_begin_172 : decode prog_6_method_16_code 172 = .ok (.iload_n 1, 1) := by decide +kernel
theorem d_M_begin_173 : decode prog_6_method_16_code 173 = .ok (.aload_n 0, 1) := by decide +kernel
theorem d_M_begin_174 : decode prog_6_method_16_code 174 = .ok (.getfield 116, 3) := by decide +kernel
theorem d_M_begin_177 : decode prog_6_method_16_code 177 = .ok (.ifCond .ne 8, 3) := by decide +kernel
theorem d_M_begin_180 : decode prog_6_method_16_code 180 = .ok (.bipush 12, 2) := by decide +kernel
theorem d_M_begin_182 : decode prog_6_method_16_code 182 = .ok (.goto 21, 3) := by decide +kernel
theorem d_M_begin_185 : decode prog_6_method_16_code 185 = .ok (.aload_n 0, 1) := by decide +kernel
theorem d_M_begin_186 : decode prog_6_method_16_code 186 = .ok (.getfield 22, 3) := by decide +kernel
theorem d_M_begin_189 : decode prog_6_method_16_code 189 = .ok (.iload_n 1, 1) := by decide +kernel
theorem d_M_begin_190 : decode prog_6_method_16_code 190 = .ok (.baload, 1) := by decide +kernel
theorem d_M_begin_191 : decode prog_6_method_16_code 191 = .ok (.ifCond .eq 9, 3) := by decide +kernel
theorem d_M_begin_194 : decode prog_6_method_16_code 194 = .ok (.sipush 192, 3) := by decide +kernel
theorem d_M_begin_197 : decode prog_6_method_16_code 197 = .ok (.goto 6, 3) := by decide +kernel
theorem d_M_begin_200 : decode prog_6_method_16_code 200 = .ok (.sipush 204, 3) := by decide +kernel
theorem d_M_begin_203 : decode prog_6_method_16_code 203 = .ok (.iastore, 1) := by decide +kernel
theorem d_M_begin_204 : decode prog_6_method_16_code 204 = .ok (.iinc 1 1, 3) := by decide +kernel
theorem d_M_begin_207 : decode prog_6_method_16_code 207 = .ok (.goto (-78), 3) := by decide +kernel
theorem d_M_begin_210 : decode prog_6_method_16_code 210 = .ok (.return_, 1) := by decide +kernel
def b_M_begin_126 (post : Option Value → Mm → Prop) : Kk := (i_vret post)
theorem t_M_begin_126 {Z : Zt} {X0 : Mm} {post : Option Value → Mm → Prop} (g : Good Z prog_6_method_16_code 4 "BusTelegramsModel" 1) (hq : RetZ Z true X0 0 0 post) (hr : (zM Z).sig.returnType = none) : Snd Z 4 126 (b_M_begin_126 post) := by
  unfold b_M_begin_126
  exact (s_vret0 g hq hr d_M_begin_126)
def b_M_begin_204 (post : Option Value → Mm → Prop) (k129 : Kk) : Kk := (i_iinc 1 1 k129)
theorem t_M_begin_204 {Z : Zt} {X0 : Mm} {post : Option Value → Mm → Prop} {k129 : Kk} (g : Good Z prog_6_method_16_code 4 "BusTelegramsModel" 1) (hq : RetZ Z true X0 0 0 post) (hr : (zM Z).sig.returnType = none) (hk129 : Snd Z 4 129 k129) : Snd Z 4 204 (b_M_begin_204 post k129) := by
  unfold b_M_begin_204
  exact (s_iinc g (by decide) d_M_begin_204 (by decide) (s_goto g d_M_begin_207 (by decide) hk129))
def b_M_begin_203 (post : Option Value → Mm → Prop) (k129 : Kk) : Kk := (i_ast (b_M_begin_204 post k129))
theorem t_M_begin_203 {Z : Zt} {X0 : Mm} {post : Option Value → Mm → Prop} {k129 : Kk} (g : Good Z prog_6_method_16_code 4 "BusTelegramsModel" 1) (hq : RetZ Z true X0 0 0 post) (hr : (zM Z).sig.returnType = none) (hk129 : Snd Z 4 129 k129) : Snd Z 4 203 (b_M_begin_203 post k129) := by
  unfold b_M_begin_203
  exact (s_iast g d_M_begin_203 (t_M_begin_204 g hq hr hk129))
def f_M_begin_129 (post : Option Value → Mm → Prop) (k129 : Kk) : Kk := (i_iload 1 (i_push (.int 8) (i_icmp (fun x y => y ≤ x) (i_vret post) (i_aload 0 (i_getR 4 8 (i_iload 1 (i_ald 10 (i_if (fun x y => y ≤ x) (b_M_begin_204 post k129) (i_aload 0 (i_getR 4 11 (i_iload 1 (i_ald 10 (i_if (fun x y => y ≤ x) (b_M_begin_204 post k129) (i_aload 0 (i_iload 1 (i_callV 1 4 w_M_isMeant (i_if (fun x y => x = y) (b_M_begin_204 post k129) (i_aload 0 (i_getR 4 9 (i_iload 1 (i_push (.int 0) (i_ast (i_aload 0 (i_getR 4 10 (i_iload 1 (i_aload 0 (i_getI 4 31 (i_if (fun x y => x = y) (i_push (.int 12) (b_M_begin_203 post k129)) (i_aload 0 (i_getR 4 5 (i_iload 1 (i_ald 11 (i_if (fun x y => x = y) (i_push (.int 204) (b_M_begin_203 post k129)) (i_push (.int 192) (b_M_begin_203 post k129)))))))))))))))))))))))))))))))))))
def b_M_begin_129 (post : Option Value → Mm → Prop) : Kk := i_loop [0, 1] (f_M_begin_129 post)
theorem t_M_begin_129 {Z : Zt} {X0 : Mm} {post : Option Value → Mm → Prop} (g : Good Z prog_6_method_16_code 4 "BusTelegramsModel" 1) (hq : RetZ Z true X0 0 0 post) (hr : (zM Z).sig.returnType = none) : Snd Z 4 129 (b_M_begin_129 post) := by
  unfold b_M_begin_129
  exact s_loop (fun k129 hk129 => by unfold f_M_begin_129; exact (s_iload_n g d_M_begin_129 rfl (s_push_bipush g d_M_begin_130 (by decide) (s_icmp_ge g d_M_begin_132 (by decide) (s_vret0 g hq hr d_M_begin_210) (s_aload_n g d_M_begin_135 rfl (s_getR g (c := 4) (j := 8) cok_4 (by decide) rfl mw_562 rfl d_M_begin_136 (s_iload_n g d_M_begin_139 rfl (s_iald g d_M_begin_140 (s_if_ge g d_M_begin_141 (by decide) (t_M_begin_204 g hq hr hk129) (s_aload_n g d_M_begin_144 rfl (s_getR g (c := 4) (j := 11) cok_4 (by decide) rfl mw_565 rfl d_M_begin_145 (s_iload_n g d_M_begin_148 rfl (s_iald g d_M_begin_149 (s_if_ge g d_M_begin_150 (by decide) (t_M_begin_204 g hq hr hk129) (s_aload_n g d_M_begin_153 rfl (s_iload_n g d_M_begin_154 rfl (s_callV g (C_M_isMeant (zl Z)) (gin_V mw_700 mw_702 ms_16 mw_5 mw_703) hd_M_isMeant rfl (by decide) (by decide) (by decide) d_M_begin_155 (s_if_eq g d_M_begin_158 (by decide) (t_M_begin_204 g hq hr hk129) (s_aload_n g d_M_begin_161 rfl (s_getR g (c := 4) (j := 9) cok_4 (by decide) rfl mw_563 rfl d_M_begin_162 (s_iload_n g d_M_begin_165 rfl (s_push_iconst g d_M_begin_166 (by decide) (s_iast g d_M_begin_167 (s_aload_n g d_M_begin_168 rfl (s_getR g (c := 4) (j := 10) cok_4 (by decide) rfl mw_564 rfl d_M_begin_169 (s_iload_n g d_M_begin_172 rfl (s_aload_n g d_M_begin_173 rfl (s_getI g (c := 4) (j := 31) cok_4 (by decide) rfl mw_585 rfl d_M_begin_174 (s_if_ne g d_M_begin_177 (by decide) (s_aload_n g d_M_begin_185 rfl (s_getR g (c := 4) (j := 5) cok_4 (by decide) rfl mw_559 rfl d_M_begin_186 (s_iload_n g d_M_begin_189 rfl (s_zald g d_M_begin_190 (s_if_eq g d_M_begin_191 (by decide) (s_push_sipush g d_M_begin_200 (by decide) (t_M_begin_203 g hq hr hk129)) (s_push_sipush g d_M_begin_194 (by decide) (s_goto g d_M_begin_197 (by decide) (t_M_begin_203 g hq hr hk129)))))))) (s_push_bipush g d_M_begin_180 (by decide) (s_goto g d_M_begin_182 (by decide) (t_M_begin_203 g hq hr hk129))))))))))))))))))))))))))))))))
def b_M_begin_92 (post : Option Value → Mm → Prop) (k2 : Kk) : Kk := (i_iinc 1 1 k2)
theorem t_M_begin_92 {Z : Zt} {X0 : Mm} {post : Option Value → Mm → Prop} {k2 : Kk} (g : Good Z prog_6_method_16_code 4 "BusTelegramsModel" 1) (hq : RetZ Z true X0 0 0 post) (hr : (zM Z).sig.returnType = none) (hk2 : Snd Z 4 2 k2) : Snd Z 4 92 (b_M_begin_92 post k2) := by
  unfold b_M_begin_92
  exact (s_iinc g (by decide) d_M_begin_92 (by decide) (s_goto g d_M_begin_95 (by decide) hk2))
def b_M_begin_82 (post : Option Value → Mm → Prop) (k2 : Kk) : Kk := (i_icmp (fun x y => x < y) (b_M_begin_92 post k2) (i_aload 0 (i_getR 4 8 (i_iload 1 (i_push (.int 0) (i_ast (b_M_begin_92 post k2)))))))
theorem t_M_begin_82 {Z : Zt} {X0 : Mm} {post : Option Value → Mm → Prop} {k2 : Kk} (g : Good Z prog_6_method_16_code 4 "BusTelegramsModel" 1) (hq : RetZ Z true X0 0 0 post) (hr : (zM Z).sig.returnType = none) (hk2 : Snd Z 4 2 k2) : Snd Z 4 82 (b_M_begin_82 post k2) := by
  unfold b_M_begin_82
  exact (s_icmp_lt g d_M_begin_82 (by decide) (t_M_begin_92 g hq hr hk2) (s_aload_n g d_M_begin_85 rfl (s_getR g (c := 4) (j := 8) cok_4 (by decide) rfl mw_562 rfl d_M_begin_86 (s_iload_n g d_M_begin_89 rfl (s_push_iconst g d_M_begin_90 (by decide) (s_iast g d_M_begin_91 (t_M_begin_92 g hq hr hk2)))))))
def b_M_begin_39 (post : Option Value → Mm → Prop) (k2 : Kk) : Kk := (i_istore 3 (i_aload 0 (i_getR 4 8 (i_iload 1 (i_ald 10 (i_if (fun x y => y ≤ x) (b_M_begin_92 post k2) (i_aload 0 (i_getR 4 6 (i_iload 1 (i_ald 10 (i_if (fun x y => x ≤ y) (b_M_begin_92 post k2) (i_aload 0 (i_getR 4 11 (i_iload 1 (i_ald 10 (i_if (fun x y => y ≤ x) (b_M_begin_92 post k2) (i_aload 0 (i_getI 4 2 (i_iload 3 (i_if (fun x y => x = y) (i_push (.int 50) (b_M_begin_82 post k2)) (i_push (.int 53) (b_M_begin_82 post k2))))))))))))))))))))))
theorem t_M_begin_39 {Z : Zt} {X0 : Mm} {post : Option Value → Mm → Prop} {k2 : Kk} (g : Good Z prog_6_method_16_code 4 "BusTelegramsModel" 1) (hq : RetZ Z true X0 0 0 post) (hr : (zM Z).sig.returnType = none) (hk2 : Snd Z 4 2 k2) : Snd Z 4 39 (b_M_begin_39 post k2) := by
  unfold b_M_begin_39
  exact (s_istore_n g (by decide) d_M_begin_39 rfl (s_aload_n g d_M_begin_40 rfl (s_getR g (c := 4) (j := 8) cok_4 (by decide) rfl mw_562 rfl d_M_begin_41 (s_iload_n g d_M_begin_44 rfl (s_iald g d_M_begin_45 (s_if_ge g d_M_begin_46 (by decide) (t_M_begin_92 g hq hr hk2) (s_aload_n g d_M_begin_49 rfl (s_getR g (c := 4) (j := 6) cok_4 (by decide) rfl mw_560 rfl d_M_begin_50 (s_iload_n g d_M_begin_53 rfl (s_iald g d_M_begin_54 (s_if_le g d_M_begin_55 (by decide) (t_M_begin_92 g hq hr hk2) (s_aload_n g d_M_begin_58 rfl (s_getR g (c := 4) (j := 11) cok_4 (by decide) rfl mw_565 rfl d_M_begin_59 (s_iload_n g d_M_begin_62 rfl (s_iald g d_M_begin_63 (s_if_ge g d_M_begin_64 (by decide) (t_M_begin_92 g hq hr hk2) (s_aload_n g d_M_begin_67 rfl (s_getI g (c := 4) (j := 2) cok_4 (by decide) rfl mw_556 rfl d_M_begin_68 (s_iload_n g d_M_begin_71 rfl (s_if_eq g d_M_begin_72 (by decide) (s_push_bipush g d_M_begin_80 (by decide) (t_M_begin_82 g hq hr hk2)) (s_push_bipush g d_M_begin_75 (by decide) (s_goto g d_M_begin_77 (by decide) (t_M_begin_82 g hq hr hk2)))))))))))))))))))))))
def b_M_begin_38 (post : Option Value → Mm → Prop) (k2 : Kk) : Kk := (i_push (.int 0) (b_M_begin_39 post k2))
theorem t_M_begin_38 {Z : Zt} {X0 : Mm} {post : Option Value → Mm → Prop} {k2 : Kk} (g : Good Z prog_6_method_16_code 4 "BusTelegramsModel" 1) (hq : RetZ Z true X0 0 0 post) (hr : (zM Z).sig.returnType = none) (hk2 : Snd Z 4 2 k2) : Snd Z 4 38 (b_M_begin_38 post k2) := by
  unfold b_M_begin_38
  exact (s_push_iconst g d_M_begin_38 (by decide) (t_M_begin_39 g hq hr hk2))
def f_M_begin_2 (post : Option Value → Mm → Prop) (k2 : Kk) : Kk := (i_iload 1 (i_push (.int 8) (i_icmp (fun x y => y ≤ x) (i_aload 0 (i_getI 4 28 (i_if (fun x y => x = y) (b_M_begin_126 post) (i_aload 0 (i_getI 4 32 (i_if (fun x y => x = y) (i_aload 0 (i_getI 4 1 (i_aload 0 (i_getI 4 29 (i_push (.int 14) (i_bin (fun x y => x + y) (i_icmp (fun x y => x = y) (i_push (.int 0) (i_istore 1 (b_M_begin_129 post))) (b_M_begin_126 post)))))))) (b_M_begin_126 post))))))) (i_push (.int 36) (i_iload 1 (i_bin (fun x y => x * y) (i_istore 2 (i_aload 0 (i_getR 4 7 (i_iload 2 (i_ald 10 (i_push (.int 2) (i_icmp (fun x y => x < y) (b_M_begin_38 post k2) (i_aload 0 (i_getR 4 7 (i_iload 2 (i_push (.int 5) (i_bin (fun x y => x + y) (i_ald 10 (i_if (fun x y => x = y) (i_push (.int 1) (b_M_begin_39 post k2)) (b_M_begin_38 post k2)))))))))))))))))))))
def b_M_begin_2 (post : Option Value → Mm → Prop) : Kk := i_loop [0, 1] (f_M_begin_2 post)
theorem t_M_begin_2 {Z : Zt} {X0 : Mm} {post : Option Value → Mm → Prop} (g : Good Z prog_6_method_16_code 4 "BusTelegramsModel" 1) (hq : RetZ Z true X0 0 0 post) (hr : (zM Z).sig.returnType = none) : Snd Z 4 2 (b_M_begin_2 post) := by
  unfold b_M_begin_2
  exact s_loop (fun k2 hk2 => by unfold f_M_begin_2; exact (s_iload_n g d_M_begin_2 rfl (s_push_bipush g d_M_begin_3 (by decide) (s_icmp_ge g d_M_begin_5 (by decide) (s_aload_n g d_M_begin_98 rfl (s_getI g (c := 4) (j := 28) cok_4 (by decide) rfl mw_582 rfl d_M_begin_99 (s_if_eq g d_M_begin_102 (by decide) (t_M_begin_126 g hq hr) (s_aload_n g d_M_begin_105 rfl (s_getI g (c := 4) (j := 32) cok_4 (by decide) rfl mw_586 rfl d_M_begin_106 (s_if_ne g d_M_begin_109 (by decide) (t_M_begin_126 g hq hr) (s_aload_n g d_M_begin_112 rfl (s_getI g (c := 4) (j := 1) cok_4 (by decide) rfl mw_555 rfl d_M_begin_113 (s_aload_n g d_M_begin_116 rfl (s_getI g (c := 4) (j := 29) cok_4 (by decide) rfl mw_583 rfl d_M_begin_117 (s_push_bipush g d_M_begin_120 (by decide) (s_iadd g d_M_begin_122 (s_icmp_eq g d_M_begin_123 (by decide) (s_push_iconst g d_M_begin_127 (by decide) (s_istore_n g (by decide) d_M_begin_128 rfl (t_M_begin_129 g hq hr))) (t_M_begin_126 g hq hr)))))))))))))) (s_push_bipush g d_M_begin_8 (by decide) (s_iload_n g d_M_begin_10 rfl (s_imul g d_M_begin_11 (s_istore_n g (by decide) d_M_begin_12 rfl (s_aload_n g d_M_begin_13 rfl (s_getR g (c := 4) (j := 7) cok_4 (by decide) rfl mw_561 rfl d_M_begin_14 (s_iload_n g d_M_begin_17 rfl (s_iald g d_M_begin_18 (s_push_iconst g d_M_begin_19 (by decide) (s_icmp_lt g d_M_begin_20 (by decide) (t_M_begin_38 g hq hr hk2) (s_aload_n g d_M_begin_23 rfl (s_getR g (c := 4) (j := 7) cok_4 (by decide) rfl mw_561 rfl d_M_begin_24 (s_iload_n g d_M_begin_27 rfl (s_push_iconst g d_M_begin_28 (by decide) (s_iadd g d_M_begin_29 (s_iald g d_M_begin_30 (s_if_ne g d_M_begin_31 (by decide) (t_M_begin_38 g hq hr hk2) (s_push_iconst g d_M_begin_34 (by decide) (s_goto g d_M_begin_35 (by decide) (t_M_begin_39 g hq hr hk2))))))))))))))))))))))))
def b_M_begin_0 (post : Option Value → Mm → Prop) : Kk := (i_push (.int 0) (i_istore 1 (b_M_begin_2 post)))
theorem t_M_begin_0 {Z : Zt} {X0 : Mm} {post : Option Value → Mm → Prop} (g : Good Z prog_6_method_16_code 4 "BusTelegramsModel" 1) (hq : RetZ Z true X0 0 0 post) (hr : (zM Z).sig.returnType = none) : Snd Z 4 0 (b_M_begin_0 post) := by
  unfold b_M_begin_0
  exact (s_push_iconst g d_M_begin_0 (by decide) (s_istore_n g (by decide) d_M_begin_1 rfl (t_M_begin_2 g hq hr)))
def w_M_begin : Wp := wpOf 4 (fun _ post => b_M_begin_0 post)
theorem C_M_begin (l : Launch) : MetS l ({ cls := "BusTelegramsModel", name := "begin", desc := "()V" } : Jvm.MethodName) prog_6_method_16_code 4 none true 1 0 0 w_M_begin := metS_of (by decide +kernel) (fun Z X0 post hZ g hq hr _ => t_M_begin_0 g hq hr)
theorem hd_M_begin : (({ cls := "BusTelegramsModel", name := "begin", desc := "()V" } : Jvm.MethodName)).cls = "BusTelegramsModel" ∧ (({ cls := "BusTelegramsModel", name := "begin", desc := "()V" } : Jvm.MethodName)).cls ≠ "java/lang/invoke/MethodHandle" ∧ (({ cls := "BusTelegramsModel", name := "begin", desc := "()V" } : Jvm.MethodName)).cls ≠ "java/lang/invoke/VarHandle" ∧ (parseMethodDescriptor (({ cls := "BusTelegramsModel", name := "begin", desc := "()V" } : Jvm.MethodName)).desc).map (fun d => d.parameters.length) = some 0 := ⟨rfl, by decide, by decide, by decide +kernel⟩
theorem d_M_byteOf_0 : decode prog_6_method_12_code 0 = .ok (.iload_n 2, 1) := by decide +kernel
theorem d_M_byteOf_1 : decode prog_6_method_12_code 1 = .ok (.iconst 1, 1) := by decide +kernel
theorem d_M_byteOf_2 : decode prog_6_method_12_code 2 = .ok (.iadd, 1) := by decide +kernel
theorem d_M_byteOf_3 : decode prog_6_method_12_code 3 = .ok (.aload_n 0, 1) := by decide +kernel
theorem d_M_byteOf_4 : decode prog_6_method_12_code 4 = .ok (.iload_n 1, 1) := by decide +kernel
theorem d_M_byteOf_5 : decode prog_6_method_12_code 5 = .ok (.invokevirtual 88, 3) := by decide +kernel
theorem d_M_byteOf_8 : decode prog_6_method_12_code 8 = .ok (.if_icmp .ge 10, 3) := by decide +kernel
theorem d_M_byteOf_11 : decode prog_6_method_12_code 11 = .ok (.aload_n 0, 1) := by decide +kernel
theorem d_M_byteOf_12 : decode prog_6_method_12_code 12 = .ok (.iload_n 1, 1) := by decide +kernel
theorem d_M_byteOf_13 : decode prog_6_method_12_code 13 = .ok (.iload_n 2, 1) := by decide +kernel
theorem d_M_byteOf_14 : decode prog_6_method_12_code 14 = .ok (.invokevirtual 92, 3) := by decide +kernel
theorem d_M_byteOf_17 : decode prog_6_method_12_code 17 = .ok (.ireturn, 1) := by decide +kernel
theorem d_M_byteOf_18 : decode prog_6_method_12_code 18 = .ok (.sipush 255, 3) := by decide +kernel
theorem d_M_byteOf_21 : decode prog_6_method_12_code 21 = .ok (.istore_n 3, 1) := by decide +kernel
theorem d_M_byteOf_22 : decode prog_6_method_12_code 22 = .ok (.iconst 0, 1) := by decide +kernel
theorem d_M_byteOf_23 : decode prog_6_method_12_code 23 = .ok (.istore 4, 2) := by decide +kernel
theorem d_M_byteOf_25 : decode prog_6_method_12_code 25 = .ok (.iload 4, 2) := by decide +kernel
theorem d_M_byteOf_27 : decode prog_6_method_12_code 27 = .ok (.iload_n 2, 1) := by decide +kernel
theorem d_M_byteOf_28 : decode prog_6_method_12_code 28 = .ok (.if_icmp .ge 19, 3) := by decide +kernel
theorem d_M_byteOf_31 : decode prog_6_method_12_code 31 = .ok (.iload_n 3, 1) := by decide +kernel
theorem d_M_byteOf_32 : decode prog_6_method_12_code 32 = .ok (.aload_n 0, 1) := by decide +kernel
theorem d_M_byteOf_33 : decode prog_6_method_12_code 33 = .ok (.iload_n 1, 1) := by decide +kernel
theorem d_M_byteOf_34 : decode prog_6_method_12_code 34 = .ok (.iload 4, 2) := by decide +kernel
theorem d_M_byteOf_36 : decode prog_6_method_12_code 36 = .ok (.invokevirtual 92, 3) := by decide +kernel
theorem d_M_byteOf_39 : decode prog_6_method_12_code 39 = .ok (.ixor, 1) := by decide +kernel
theorem d_M_byteOf_40 : decode prog_6_method_12_code 40 = .ok (.istore_n 3, 1) := by decide +kernel
theorem d_M_byteOf_41 : decode prog_6_method_12_code 41 = .ok (.iinc 4 1, 3) := by decide +kernel
theorem d_M_byteOf_44 : decode prog_6_method_12_code 44 = .ok (.goto (-19), 3) := by decide +kernel
theorem d_M_byteOf_47 : decode prog_6_method_12_code 47 = .ok (.iload_n 3, 1) := by decide +kernel
theorem d_M_byteOf_48 : decode prog_6_method_12_code 48 = .ok (.ireturn, 1) := by decide +kernel
def f_M_byteOf_25 (post : Option Value → Mm → Prop) (k25 : Kk) : Kk := (i_iload 4 (i_iload 2 (i_icmp (fun x y => y ≤ x) (i_iload 3 (i_iret post)) (i_iload 3 (i_aload 0 (i_iload 1 (i_iload 4 (i_callV 2 4 w_M_plain (i_bin (fun x y => x ^^^ y) (i_istore 3 (i_iinc 4 1 k25)))))))))))
def b_M_byteOf_25 (post : Option Value → Mm → Prop) : Kk := i_loop [0, 1, 2, 3, 4] (f_M_byteOf_25 post)
theorem t_M_byteOf_25 {Z : Zt} {X0 : Mm} {post : Option Value → Mm → Prop} (g : Good Z prog_6_method_12_code 5 "BusTelegramsModel" 1) (hq : RetZ Z true X0 0 0 post) (hr : (zM Z).sig.returnType = (some .int)) : Snd Z 5 25 (b_M_byteOf_25 post) := by
  unfold b_M_byteOf_25
  exact s_loop (fun k25 hk25 => by unfold f_M_byteOf_25; exact (s_iload g d_M_byteOf_25 (s_iload_n g d_M_byteOf_27 rfl (s_icmp_ge g d_M_byteOf_28 (by decide) (s_iload_n g d_M_byteOf_47 rfl (s_iret0 g hq hr d_M_byteOf_48)) (s_iload_n g d_M_byteOf_31 rfl (s_aload_n g d_M_byteOf_32 rfl (s_iload_n g d_M_byteOf_33 rfl (s_iload g d_M_byteOf_34 (s_callV g (C_M_plain (zl Z)) (gin_V mw_720 mw_722 ms_21 mw_5 mw_723) hd_M_plain rfl (by decide) (by decide) (by decide) d_M_byteOf_36 (s_ixor g d_M_byteOf_39 (s_istore_n g (by decide) d_M_byteOf_40 rfl (s_iinc g (by decide) d_M_byteOf_41 (by decide) (s_goto g d_M_byteOf_44 (by decide) hk25)))))))))))))
def b_M_byteOf_0 (post : Option Value → Mm → Prop) : Kk := (i_iload 2 (i_push (.int 1) (i_bin (fun x y => x + y) (i_aload 0 (i_iload 1 (i_callV 1 4 w_M_size (i_icmp (fun x y => y ≤ x) (i_push (.int 255) (i_istore 3 (i_push (.int 0) (i_istore 4 (b_M_byteOf_25 post))))) (i_aload 0 (i_iload 1 (i_iload 2 (i_callV 2 4 w_M_plain (i_iret post))))))))))))
theorem t_M_byteOf_0 {Z : Zt} {X0 : Mm} {post : Option Value → Mm → Prop} (g : Good Z prog_6_method_12_code 5 "BusTelegramsModel" 1) (hq : RetZ Z true X0 0 0 post) (hr : (zM Z).sig.returnType = (some .int)) : Snd Z 5 0 (b_M_byteOf_0 post) := by
  unfold b_M_byteOf_0
  exact (s_iload_n g d_M_byteOf_0 rfl (s_push_iconst g d_M_byteOf_1 (by decide) (s_iadd g d_M_byteOf_2 (s_aload_n g d_M_byteOf_3 rfl (s_iload_n g d_M_byteOf_4 rfl (s_callV g (C_M_size (zl Z)) (gin_V mw_716 mw_718 ms_20 mw_5 mw_719) hd_M_size rfl (by decide) (by decide) (by decide) d_M_byteOf_5 (s_icmp_ge g d_M_byteOf_8 (by decide) (s_push_sipush g d_M_byteOf_18 (by decide) (s_istore_n g (by decide) d_M_byteOf_21 rfl (s_push_iconst g d_M_byteOf_22 (by decide) (s_istore g (by decide) d_M_byteOf_23 (t_M_byteOf_25 g hq hr))))) (s_aload_n g d_M_byteOf_11 rfl (s_iload_n g d_M_byteOf_12 rfl (s_iload_n g d_M_byteOf_13 rfl (s_callV g (C_M_plain (zl Z)) (gin_V mw_720 mw_722 ms_21 mw_5 mw_723) hd_M_plain rfl (by decide) (by decide) (by decide) d_M_byteOf_14 (s_iret0 g hq hr d_M_byteOf_17))))))))))))
def w_M_byteOf : Wp := wpOf 5 (fun _ post => b_M_byteOf_0 post)
theorem C_M_byteOf (l : Launch) : MetS l ({ cls := "BusTelegramsModel", name := "byteOf", desc := "(II)I" } : Jvm.MethodName) prog_6_method_12_code 5 (some .int) true 1 0 0 w_M_byteOf := metS_of (by decide +kernel) (fun Z X0 post hZ g hq hr _ => t_M_byteOf_0 g hq hr)
theorem hd_M_byteOf : (({ cls := "BusTelegramsModel", name := "byteOf", desc := "(II)I" } : Jvm.MethodName)).cls = "BusTelegramsModel" ∧ (({ cls := "BusTelegramsModel", name := "byteOf", desc := "(II)I" } : Jvm.MethodName)).cls ≠ "java/lang/invoke/MethodHandle" ∧ (({ cls := "BusTelegramsModel", name := "byteOf", desc := "(II)I" } : Jvm.MethodName)).cls ≠ "java/lang/invoke/VarHandle" ∧ (parseMethodDescriptor (({ cls := "BusTelegramsModel", name := "byteOf", desc := "(II)I" } : Jvm.MethodName)).desc).map (fun d => d.parameters.length) = some 2 := ⟨rfl, by decide, by decide, by decide +kernel⟩
theorem d_M_first_0 : decode prog_6_method_21_code 0 = .ok (.aload_n 0, 1) := by decide +kernel
theorem d_M_first_1 : decode prog_6_method_21_code 1 = .ok (.aload_n 0, 1) := by decide +kernel
theorem d_M_first_2 : decode prog_6_method_21_code 2 = .ok (.getfield 85, 3) := by decide +kernel
theorem d_M_first_5 : decode prog_6_method_21_code 5 = .ok (.putfield 134, 3) := by decide +kernel
theorem d_M_first_8 : decode prog_6_method_21_code 8 = .ok (.aload_n 0, 1) := by decide +kernel
theorem d_M_first_9 : decode prog_6_method_21_code 9 = .ok (.iconst 0, 1) := by decide +kernel
theorem d_M_first_10 : decode prog_6_method_21_code 10 = .ok (.putfield 122, 3) := by decide +kernel
theorem d_M_first_13 : decode prog_6_method_21_code 13 = .ok (.aload_n 0, 1) := by decide +kernel
theorem d_M_first_14 : decode prog_6_method_21_code 14 = .ok (.iconst 0, 1) := by decide +kernel
theorem d_M_first_15 : decode prog_6_method_21_code 15 = .ok (.putfield 125, 3) := by decide +kernel
theorem d_M_first_18 : decode prog_6_method_21_code 18 = .ok (.aload_n 0, 1) := by decide +kernel
theorem d_M_first_19 : decode prog_6_method_21_code 19 = .ok (.invokevirtual 149, 3) := by decide +kernel
theorem d_M_first_22 : decode prog_6_method_21_code 22 = .ok (.return_, 1) := by decide +kernel
def b_M_first_0 (post : Option Value → Mm → Prop) : Kk := (i_aload 0 (i_aload 0 (i_getI 4 1 (i_putI 4 23 (i_aload 0 (i_push (.int 0) (i_putI 4 25 (i_aload 0 (i_push (.int 0) (i_putZ 4 22 (i_aload 0 (i_callV 0 4 w_M_open (i_vret post)))))))))))))
theorem t_M_first_0 {Z : Zt} {X0 : Mm} {post : Option Value → Mm → Prop} (g : Good Z prog_6_method_21_code 1 "BusTelegramsModel" 1) (hq : RetZ Z true X0 0 0 post) (hr : (zM Z).sig.returnType = none) : Snd Z 1 0 (b_M_first_0 post) := by
  unfold b_M_first_0
  exact (s_aload_n g d_M_first_0 rfl (s_aload_n g d_M_first_1 rfl (s_getI g (c := 4) (j := 1) cok_4 (by decide) rfl mw_555 rfl d_M_first_2 (s_putI g (c := 4) (j := 23) cok_4 (by decide) rfl rfl rfl mw_577 rfl d_M_first_5 (s_aload_n g d_M_first_8 rfl (s_push_iconst g d_M_first_9 (by decide) (s_putI g (c := 4) (j := 25) cok_4 (by decide) rfl rfl rfl mw_579 rfl d_M_first_10 (s_aload_n g d_M_first_13 rfl (s_push_iconst g d_M_first_14 (by decide) (s_putZ g (c := 4) (j := 22) cok_4 (by decide) rfl rfl rfl mw_576 rfl d_M_first_15 (s_aload_n g d_M_first_18 rfl (s_callV g (C_M_open (zl Z)) (gin_V mw_739 mw_741 ms_25 mw_5 mw_742) hd_M_open rfl (by decide) (by decide) (by decide) d_M_first_19 (s_vret0 g hq hr d_M_first_22)))))))))))))
def w_M_first : Wp := wpOf 1 (fun _ post => b_M_first_0 post)
theorem C_M_first (l : Launch) : MetS l ({ cls := "BusTelegramsModel", name := "first", desc := "()V" } : Jvm.MethodName) prog_6_method_21_code 1 none true 1 0 0 w_M_first := metS_of (by decide +kernel) (fun Z X0 post hZ g hq hr _ => t_M_first_0 g hq hr)
theorem hd_M_first : (({ cls := "BusTelegramsModel", name := "first", desc := "()V" } : Jvm.MethodName)).cls = "BusTelegramsModel" ∧ (({ cls := "BusTelegramsModel", name := "first", desc := "()V" } : Jvm.MethodName)).cls ≠ "java/lang/invoke/MethodHandle" ∧ (({ cls := "BusTelegramsModel", name := "first", desc := "()V" } : Jvm.MethodName)).cls ≠ "java/lang/invoke/VarHandle" ∧ (parseMethodDescriptor (({ cls := "BusTelegramsModel", name := "first", desc := "()V" } : Jvm.MethodName)).desc).map (fun d => d.parameters.length) = some 0 := ⟨rfl, by decide, by decide, by decide +kernel⟩
theorem d_M_look_0 : decode prog_6_method_24_code 0 = .ok (.iconst 0, 1) := by decide +kernel
theorem d_M_look_1 : decode prog_6_method_24_code 1 = .ok (.istore_n 1, 1) := by decide +kernel
theorem d_M_look_2 : decode prog_6_method_24_code 2 = .ok (.iload_n 1, 1) := by decide +kernel
theorem d_M_look_3 : decode prog_6_method_24_code 3 = .ok (.bipush 8, 2) := by decide +kernel
theorem d_M_look_5 : decode prog_6_method_24_code 5 = .ok (.if_icmp .ge 152, 3) := by decide +kernel
theorem d_M_look_8 : decode prog_6_method_24_code 8 = .ok (.aload_n 0, 1) := by decide +kernel
theorem d_M_look_9 : decode prog_6_method_24_code 9 = .ok (.getfield 40, 3) := by decide +kernel
theorem d_M_look_12 : decode prog_6_method_24_code 12 = .ok (.iload_n 1, 1) := by decide +kernel
theorem d_M_look_13 : decode prog_6_method_24_code 13 = .ok (.iaload, 1) := by decide +kernel
theorem d_M_look_14 : decode prog_6_method_24_code 14 = .ok (.ifCond .lt 137, 3) := by decide +kernel
theorem d_M_look_17 : decode prog_6_method_24_code 17 = .ok (.aload_n 0, 1) := by decide +kernel
theorem d_M_look_18 : decode prog_6_method_24_code 18 = .ok (.getfield 40, 3) := by decide +kernel
theorem d_M_look_21 : decode prog_6_method_24_code 21 = .ok (.iload_n 1, 1) := by decide +kernel
theorem d_M_look_22 : decode prog_6_method_24_code 22 = .ok (.iaload, 1) := by decide +kernel
theorem d_M_look_23 : decode prog_6_method_24_code 23 = .ok (.aload_n 0, 1) := by decide +kernel
theorem d_M_look_24 : decode prog_6_method_24_code 24 = .ok (.getfield 85, 3) := by decide +kernel
theorem d_M_look_27 : decode prog_6_method_24_code 27 = .ok (.bipush 28, 2) := by decide +kernel
theorem d_M_look_29 : decode prog_6_method_24_code 29 = .ok (.isub, 1) := by decide +kernel
theorem d_M_look_30 : decode prog_6_method_24_code 30 = .ok (.if_icmp .ne 121, 3) := by decide +kernel
theorem d_M_look_33 : decode prog_6_method_24_code 33 = .ok (.aload_n 0, 1) := by decide +kernel
theorem d_M_look_34 : decode prog_6_method_24_code 34 = .ok (.getfield 40, 3) := by decide +kernel
theorem d_M_look_37 : decode prog_6_method_24_code 37 = .ok (.iload_n 1, 1) := by decide +kernel
theorem d_M_look_38 : decode prog_6_method_24_code 38 = .ok (.iconst (-1), 1) := by decide +kernel
theorem d_M_look_39 : decode prog_6_method_24_code 39 = .ok (.iastore, 1) := by decide +kernel
theorem d_M_look_40 : decode prog_6_method_24_code 40 = .ok (.aload_n 0, 1) := by decide +kernel
theorem d_M_look_41 : decode prog_6_method_24_code 41 = .ok (.getfield 102, 3) := by decide +kernel
theorem d_M_look_44 : decode prog_6_method_24_code 44 = .ok (.ifCond .eq 31, 3) := by decide +kernel
theorem d_M_look_47 : decode prog_6_method_24_code 47 = .ok (.aload_n 0, 1) := by decide +kernel
theorem d_M_look_48 : decode prog_6_method_24_code 48 = .ok (.getfield 109, 3) := by decide +kernel
theorem d_M_look_51 : decode prog_6_method_24_code 51 = .ok (.aload_n 0, 1) := by decide +kernel
theorem d_M_look_52 : decode prog_6_method_24_code 52 = .ok (.getfield 85, 3) := by decide +kernel
theorem d_M_look_55 : decode prog_6_method_24_code 55 = .ok (.bipush 28, 2) := by decide +kernel
theorem d_M_look_57 : decode prog_6_method_24_code 57 = .ok (.isub, 1) := by decide +kernel
theorem d_M_look_58 : decode prog_6_method_24_code 58 = .ok (.if_icmp .ne 17, 3) := by decide +kernel
theorem d_M_look_61 : decode prog_6_method_24_code 61 = .ok (.aload_n 0, 1) := by decide +kernel
theorem d_M_look_62 : decode prog_6_method_24_code 62 = .ok (.getfield 64, 3) := by decide +kernel
theorem d_M_look_65 : decode prog_6_method_24_code 65 = .ok (.sipush 204, 3) := by decide +kernel
theorem d_M_look_68 : decode prog_6_method_24_code 68 = .ok (.if_icmp .ne 7, 3) := by decide +kernel
theorem d_M_look_71 : decode prog_6_method_24_code 71 = .ok (.iconst 1, 1) := by decide +kernel
theorem d_M_look_72 : decode prog_6_method_24_code 72 = .ok (.goto 4, 3) := by decide +kernel
theorem d_M_look_75 : decode prog_6_method_24_code 75 = .ok (.iconst 0, 1) := by decide +kernel
theorem d_M_look_76 : decode prog_6_method_24_code 76 = .ok (.istore_n 2, 1) := by decide +kernel
theorem d_M_look_77 : decode prog_6_method_24_code 77 = .ok (.iload_n 2, 1) := by decide +kernel
theorem d_M_look_78 : decode prog_6_method_24_code 78 = .ok (.ifCond .ne 22, 3) := by decide +kernel
theorem d_M_look_81 : decode prog_6_method_24_code 81 = .ok (.aload_n 0, 1) := by decide +kernel
theorem d_M_look_82 : decode prog_6_method_24_code 82 = .ok (.getfield 28, 3) := by decide +kernel
theorem d_M_look_85 : decode prog_6_method_24_code 85 = .ok (.bipush 36, 2) := by decide +kernel
theorem d_M_look_87 : decode prog_6_method_24_code 87 = .ok (.iload_n 1, 1) := by decide +kernel
theorem d_M_look_88 : decode prog_6_method_24_code 88 = .ok (.imul, 1) := by decide +kernel
theorem d_M_look_89 : decode prog_6_method_24_code 89 = .ok (.iconst 5, 1) := by decide +kernel
theorem d_M_look_90 : decode prog_6_method_24_code 90 = .ok (.iadd, 1) := by decide +kernel
theorem d_M_look_91 : decode prog_6_method_24_code 91 = .ok (.iaload, 1) := by decide +kernel
theorem d_M_look_92 : decode prog_6_method_24_code 92 = .ok (.iconst 4, 1) := by decide +kernel
theorem d_M_look_93 : decode prog_6_method_24_code 93 = .ok (.if_icmp .ne 7, 3) := by decide +kernel
theorem d_M_look_96 : decode prog_6_method_24_code 96 = .ok (.iconst 1, 1) := by decide +kernel
theorem d_M_look_97 : decode prog_6_method_24_code 97 = .ok (.goto 4, 3) := by decide +kernel
theorem d_M_look_100 : decode prog_6_method_24_code 100 = .ok (.iconst 0, 1) := by decide +kernel
theorem d_M_look_101 : decode prog_6_method_24_code 101 = .ok (.istore_n 3, 1) := by decide +kernel
theorem d_M_look_102 : decode prog_6_method_24_code 102 = .ok (.aload_n 0, 1) := by decide +kernel
theorem d_M_look_103 : decode prog_6_method_24_code 103 = .ok (.getfield 43, 3) := by decide +kernel
theorem d_M_look_106 : decode prog_6_method_24_code 106 = .ok (.iload_n 1, 1) := by decide +kernel
theorem d_M_look_107 : decode prog_6_method_24_code 107 = .ok (.dup2, 1) := by decide +kernel
theorem d_M_look_108 : decode prog_6_method_24_code 108 = .ok (.iaload, 1) := by decide +kernel
theorem d_M_look_109 : decode prog_6_method_24_code 109 = .ok (.iload_n 2, 1) := by decide +kernel
theorem d_M_look_110 : decode prog_6_method_24_code 110 = .ok (.ifCond .eq 7, 3) := by decide +kernel
theorem d_M_look_113 : decode prog_6_method_24_code 113 = .ok (.iconst 1, 1) := by decide +kernel
theorem d_M_look_114 : decode prog_6_method_24_code 114 = .ok (.goto 4, 3) := by decide +kernel
theorem d_M_look_117 : decode prog_6_method_24_code 117 = .ok (.iconst 0, 1) := by decide +kernel
theorem d_M_look_118 : decode prog_6_method_24_code 118 = .ok (.iadd, 1) := by decide +kernel
theorem d_M_look_119 : decode prog_6_method_24_code 119 = .ok (.iastore, 1) := by decide +kernel
theorem d_M_look_120 : decode prog_6_method_24_code 120 = .ok (.aload_n 0, 1) := by decide +kernel
theorem d_M_look_121 : decode prog_6_method_24_code 121 = .ok (.getfield 46, 3) := by decide +kernel
theorem d_M_look_124 : decode prog_6_method_24_code 124 = .ok (.iload_n 1, 1) := by decide +kernel
theorem d_M_look_125 : decode prog_6_method_24_code 125 = .ok (.dup2, 1) := by decide +kernel
theorem d_M_look_126 : decode prog_6_method_24_code 126 = .ok (.iaload, 1) := by decide +kernel
theorem d_M_look_127 : decode prog_6_method_24_code 127 = .ok (.iload_n 3, 1) := by decide +kernel
theorem d_M_look_128 : decode prog_6_method_24_code 128 = .ok (.ifCond .eq 7, 3) := by decide +kernel
theorem d_M_look_131 : decode prog_6_method_24_code 131 = .ok (.iconst 1, 1) := by decide +kernel
theorem d_M_look_132 : decode prog_6_method_24_code 132 = .ok (.goto 4, 3) := by decide +kernel
theorem d_M_look_135 : decode prog_6_method_24_code 135 = .ok (.iconst 0, 1) := by decide +kernel
theorem d_M_look_136 : decode prog_6_method_24_code 136 = .ok (.iadd, 1) := by decide +kernel
theorem d_M_look_137 : decode prog_6_method_24_code 137 = .ok (.iastore, 1) := by decide +kernel
theorem d_M_look_138 : decode prog_6_method_24_code 138 = .ok (.iload_n 2, 1) := by decide +kernel
theorem d_M_look_139 : decode prog_6_method_24_code 139 = .ok (.ifCond .ne 7, 3) := by decide +kernel
theorem d_M_look_142 : decode prog_6_method_24_code 142 = .ok (.iload_n 3, 1) := by decide +kernel
theorem d_M_look_143 : decode prog_6_method_24_code 143 = .ok (.ifCond .eq 8, 3) := by decide +kernel
theorem d_M_look_146 : decode prog_6_method_24_code 146 = .ok (.aload_n 0, 1) := by decide +kernel
theorem d_M_look_147 : decode prog_6_method_24_code 147 = .ok (.iload_n 1, 1) := by decide +kernel
theorem d_M_look_148 : decode prog_6_method_24_code 148 = .ok (.invokevirtual 162, 3) := by decide +kernel
theorem d_M_look_151 : decode prog_6_method_24_code 151 = .ok (.iinc 1 1, 3) := by decide +kernel
theorem d_M_look_154 : decode prog_6_method_24_code 154 = .ok (.goto (-152), 3) := by decide +kernel
theorem d_M_look_157 : decode prog_6_method_24_code 157 = .ok (.return_, 1) := by decide +kernel
def b_M_look_151 (post : Option Value → Mm → Prop) (k2 : Kk) : Kk := (i_iinc 1 1 k2)
theorem t_M_look_151 {Z : Zt} {X0 : Mm} {post : Option Value → Mm → Prop} {k2 : Kk} (g : Good Z prog_6_method_24_code 4 "BusTelegramsModel" 1) (hq : RetZ Z true X0 0 0 post) (hr : (zM Z).sig.returnType = none) (hk2 : Snd Z 4 2 k2) : Snd Z 4 151 (b_M_look_151 post k2) := by
  unfold b_M_look_151
  exact (s_iinc g (by decide) d_M_look_151 (by decide) (s_goto g d_M_look_154 (by decide) hk2))
def b_M_look_146 (post : Option Value → Mm → Prop) (k2 : Kk) : Kk := (i_aload 0 (i_iload 1 (i_callV 1 4 w_M_drop (b_M_look_151 post k2))))
theorem t_M_look_146 {Z : Zt} {X0 : Mm} {post : Option Value → Mm → Prop} {k2 : Kk} (g : Good Z prog_6_method_24_code 4 "BusTelegramsModel" 1) (hq : RetZ Z true X0 0 0 post) (hr : (zM Z).sig.returnType = none) (hk2 : Snd Z 4 2 k2) : Snd Z 4 146 (b_M_look_146 post k2) := by
  unfold b_M_look_146
  exact (s_aload_n g d_M_look_146 rfl (s_iload_n g d_M_look_147 rfl (s_callV g (C_M_drop (zl Z)) (gin_V mw_755 mw_757 ms_29 mw_5 mw_758) hd_M_drop rfl (by decide) (by decide) (by decide) d_M_look_148 (t_M_look_151 g hq hr hk2))))
def b_M_look_136 (post : Option Value → Mm → Prop) (k2 : Kk) : Kk := (i_bin (fun x y => x + y) (i_ast (i_iload 2 (i_if (fun x y => x = y) (i_iload 3 (i_if (fun x y => x = y) (b_M_look_151 post k2) (b_M_look_146 post k2))) (b_M_look_146 post k2)))))
theorem t_M_look_136 {Z : Zt} {X0 : Mm} {post : Option Value → Mm → Prop} {k2 : Kk} (g : Good Z prog_6_method_24_code 4 "BusTelegramsModel" 1) (hq : RetZ Z true X0 0 0 post) (hr : (zM Z).sig.returnType = none) (hk2 : Snd Z 4 2 k2) : Snd Z 4 136 (b_M_look_136 post k2) := by
  unfold b_M_look_136
  exact (s_iadd g d_M_look_136 (s_iast g d_M_look_137 (s_iload_n g d_M_look_138 rfl (s_if_ne g d_M_look_139 (by decide) (t_M_look_146 g hq hr hk2) (s_iload_n g d_M_look_142 rfl (s_if_eq g d_M_look_143 (by decide) (t_M_look_151 g hq hr hk2) (t_M_look_146 g hq hr hk2)))))))
def b_M_look_118 (post : Option Value → Mm → Prop) (k2 : Kk) : Kk := (i_bin (fun x y => x + y) (i_ast (i_aload 0 (i_getR 4 13 (i_iload 1 (i_dup2 (i_ald 10 (i_iload 3 (i_if (fun x y => x = y) (i_push (.int 0) (b_M_look_136 post k2)) (i_push (.int 1) (b_M_look_136 post k2)))))))))))
theorem t_M_look_118 {Z : Zt} {X0 : Mm} {post : Option Value → Mm → Prop} {k2 : Kk} (g : Good Z prog_6_method_24_code 4 "BusTelegramsModel" 1) (hq : RetZ Z true X0 0 0 post) (hr : (zM Z).sig.returnType = none) (hk2 : Snd Z 4 2 k2) : Snd Z 4 118 (b_M_look_118 post k2) := by
  unfold b_M_look_118
  exact (s_iadd g d_M_look_118 (s_iast g d_M_look_119 (s_aload_n g d_M_look_120 rfl (s_getR g (c := 4) (j := 13) cok_4 (by decide) rfl mw_567 rfl d_M_look_121 (s_iload_n g d_M_look_124 rfl (s_dup2 g d_M_look_125 (s_iald g d_M_look_126 (s_iload_n g d_M_look_127 rfl (s_if_eq g d_M_look_128 (by decide) (s_push_iconst g d_M_look_135 (by decide) (t_M_look_136 g hq hr hk2)) (s_push_iconst g d_M_look_131 (by decide) (s_goto g d_M_look_132 (by decide) (t_M_look_136 g hq hr hk2))))))))))))
def b_M_look_101 (post : Option Value → Mm → Prop) (k2 : Kk) : Kk := (i_istore 3 (i_aload 0 (i_getR 4 12 (i_iload 1 (i_dup2 (i_ald 10 (i_iload 2 (i_if (fun x y => x = y) (i_push (.int 0) (b_M_look_118 post k2)) (i_push (.int 1) (b_M_look_118 post k2))))))))))
theorem t_M_look_101 {Z : Zt} {X0 : Mm} {post : Option Value → Mm → Prop} {k2 : Kk} (g : Good Z prog_6_method_24_code 4 "BusTelegramsModel" 1) (hq : RetZ Z true X0 0 0 post) (hr : (zM Z).sig.returnType = none) (hk2 : Snd Z 4 2 k2) : Snd Z 4 101 (b_M_look_101 post k2) := by
  unfold b_M_look_101
  exact (s_istore_n g (by decide) d_M_look_101 rfl (s_aload_n g d_M_look_102 rfl (s_getR g (c := 4) (j := 12) cok_4 (by decide) rfl mw_566 rfl d_M_look_103 (s_iload_n g d_M_look_106 rfl (s_dup2 g d_M_look_107 (s_iald g d_M_look_108 (s_iload_n g d_M_look_109 rfl (s_if_eq g d_M_look_110 (by decide) (s_push_iconst g d_M_look_117 (by decide) (t_M_look_118 g hq hr hk2)) (s_push_iconst g d_M_look_113 (by decide) (s_goto g d_M_look_114 (by decide) (t_M_look_118 g hq hr hk2)))))))))))
def b_M_look_100 (post : Option Value → Mm → Prop) (k2 : Kk) : Kk := (i_push (.int 0) (b_M_look_101 post k2))
theorem t_M_look_100 {Z : Zt} {X0 : Mm} {post : Option Value → Mm → Prop} {k2 : Kk} (g : Good Z prog_6_method_24_code 4 "BusTelegramsModel" 1) (hq : RetZ Z true X0 0 0 post) (hr : (zM Z).sig.returnType = none) (hk2 : Snd Z 4 2 k2) : Snd Z 4 100 (b_M_look_100 post k2) := by
  unfold b_M_look_100
  exact (s_push_iconst g d_M_look_100 (by decide) (t_M_look_101 g hq hr hk2))
def b_M_look_76 (post : Option Value → Mm → Prop) (k2 : Kk) : Kk := (i_istore 2 (i_iload 2 (i_if (fun x y => x = y) (i_aload 0 (i_getR 4 7 (i_push (.int 36) (i_iload 1 (i_bin (fun x y => x * y) (i_push (.int 5) (i_bin (fun x y => x + y) (i_ald 10 (i_push (.int 4) (i_icmp (fun x y => x = y) (i_push (.int 1) (b_M_look_101 post k2)) (b_M_look_100 post k2))))))))))) (b_M_look_100 post k2))))
theorem t_M_look_76 {Z : Zt} {X0 : Mm} {post : Option Value → Mm → Prop} {k2 : Kk} (g : Good Z prog_6_method_24_code 4 "BusTelegramsModel" 1) (hq : RetZ Z true X0 0 0 post) (hr : (zM Z).sig.returnType = none) (hk2 : Snd Z 4 2 k2) : Snd Z 4 76 (b_M_look_76 post k2) := by
  unfold b_M_look_76
  exact (s_istore_n g (by decide) d_M_look_76 rfl (s_iload_n g d_M_look_77 rfl (s_if_ne g d_M_look_78 (by decide) (t_M_look_100 g hq hr hk2) (s_aload_n g d_M_look_81 rfl (s_getR g (c := 4) (j := 7) cok_4 (by decide) rfl mw_561 rfl d_M_look_82 (s_push_bipush g d_M_look_85 (by decide) (s_iload_n g d_M_look_87 rfl (s_imul g d_M_look_88 (s_push_iconst g d_M_look_89 (by decide) (s_iadd g d_M_look_90 (s_iald g d_M_look_91 (s_push_iconst g d_M_look_92 (by decide) (s_icmp_ne g d_M_look_93 (by decide) (t_M_look_100 g hq hr hk2) (s_push_iconst g d_M_look_96 (by decide) (s_goto g d_M_look_97 (by decide) (t_M_look_101 g hq hr hk2))))))))))))))))
def b_M_look_75 (post : Option Value → Mm → Prop) (k2 : Kk) : Kk := (i_push (.int 0) (b_M_look_76 post k2))
theorem t_M_look_75 {Z : Zt} {X0 : Mm} {post : Option Value → Mm → Prop} {k2 : Kk} (g : Good Z prog_6_method_24_code 4 "BusTelegramsModel" 1) (hq : RetZ Z true X0 0 0 post) (hr : (zM Z).sig.returnType = none) (hk2 : Snd Z 4 2 k2) : Snd Z 4 75 (b_M_look_75 post k2) := by
  unfold b_M_look_75
  exact (s_push_iconst g d_M_look_75 (by decide) (t_M_look_76 g hq hr hk2))
def f_M_look_2 (post : Option Value → Mm → Prop) (k2 : Kk) : Kk := (i_iload 1 (i_push (.int 8) (i_icmp (fun x y => y ≤ x) (i_vret post) (i_aload 0 (i_getR 4 11 (i_iload 1 (i_ald 10 (i_if (fun x y => x < y) (b_M_look_151 post k2) (i_aload 0 (i_getR 4 11 (i_iload 1 (i_ald 10 (i_aload 0 (i_getI 4 1 (i_push (.int 28) (i_bin (fun x y => x - y) (i_icmp (fun x y => x = y) (i_aload 0 (i_getR 4 11 (i_iload 1 (i_push (.int (-1)) (i_ast (i_aload 0 (i_getI 4 28 (i_if (fun x y => x = y) (b_M_look_75 post k2) (i_aload 0 (i_getI 4 29 (i_aload 0 (i_getI 4 1 (i_push (.int 28) (i_bin (fun x y => x - y) (i_icmp (fun x y => x = y) (i_aload 0 (i_getI 4 33 (i_push (.int 204) (i_icmp (fun x y => x = y) (i_push (.int 1) (b_M_look_76 post k2)) (b_M_look_75 post k2))))) (b_M_look_75 post k2)))))))))))))))) (b_M_look_151 post k2))))))))))))))))))
def b_M_look_2 (post : Option Value → Mm → Prop) : Kk := i_loop [0, 1] (f_M_look_2 post)
theorem t_M_look_2 {Z : Zt} {X0 : Mm} {post : Option Value → Mm → Prop} (g : Good Z prog_6_method_24_code 4 "BusTelegramsModel" 1) (hq : RetZ Z true X0 0 0 post) (hr : (zM Z).sig.returnType = none) : Snd Z 4 2 (b_M_look_2 post) := by
  unfold b_M_look_2
  exact s_loop (fun k2 hk2 => by unfold f_M_look_2; exact (s_iload_n g d_M_look_2 rfl (s_push_bipush g d_M_look_3 (by decide) (s_icmp_ge g d_M_look_5 (by decide) (s_vret0 g hq hr d_M_look_157) (s_aload_n g d_M_look_8 rfl (s_getR g (c := 4) (j := 11) cok_4 (by decide) rfl mw_565 rfl d_M_look_9 (s_iload_n g d_M_look_12 rfl (s_iald g d_M_look_13 (s_if_lt g d_M_look_14 (by decide) (t_M_look_151 g hq hr hk2) (s_aload_n g d_M_look_17 rfl (s_getR g (c := 4) (j := 11) cok_4 (by decide) rfl mw_565 rfl d_M_look_18 (s_iload_n g d_M_look_21 rfl (s_iald g d_M_look_22 (s_aload_n g d_M_look_23 rfl (s_getI g (c := 4) (j := 1) cok_4 (by decide) rfl mw_555 rfl d_M_look_24 (s_push_bipush g d_M_look_27 (by decide) (s_isub g d_M_look_29 (s_icmp_ne g d_M_look_30 (by decide) (t_M_look_151 g hq hr hk2) (s_aload_n g d_M_look_33 rfl (s_getR g (c := 4) (j := 11) cok_4 (by decide) rfl mw_565 rfl d_M_look_34 (s_iload_n g d_M_look_37 rfl (s_push_iconst g d_M_look_38 (by decide) (s_iast g d_M_look_39 (s_aload_n g d_M_look_40 rfl (s_getI g (c := 4) (j := 28) cok_4 (by decide) rfl mw_582 rfl d_M_look_41 (s_if_eq g d_M_look_44 (by decide) (t_M_look_75 g hq hr hk2) (s_aload_n g d_M_look_47 rfl (s_getI g (c := 4) (j := 29) cok_4 (by decide) rfl mw_583 rfl d_M_look_48 (s_aload_n g d_M_look_51 rfl (s_getI g (c := 4) (j := 1) cok_4 (by decide) rfl mw_555 rfl d_M_look_52 (s_push_bipush g d_M_look_55 (by decide) (s_isub g d_M_look_57 (s_icmp_ne g d_M_look_58 (by decide) (t_M_look_75 g hq hr hk2) (s_aload_n g d_M_look_61 rfl (s_getI g (c := 4) (j := 33) cok_4 (by decide) rfl mw_587 rfl d_M_look_62 (s_push_sipush g d_M_look_65 (by decide) (s_icmp_ne g d_M_look_68 (by decide) (t_M_look_75 g hq hr hk2) (s_push_iconst g d_M_look_71 (by decide) (s_goto g d_M_look_72 (by decide) (t_M_look_76 g hq hr hk2))))))))))))))))))))))))))))))))))))))))
def b_M_look_0 (post : Option Value → Mm → Prop) : Kk := (i_push (.int 0) (i_istore 1 (b_M_look_2 post)))
theorem t_M_look_0 {Z : Zt} {X0 : Mm} {post : Option Value → Mm → Prop} (g : Good Z prog_6_method_24_code 4 "BusTelegramsModel" 1) (hq : RetZ Z true X0 0 0 post) (hr : (zM Z).sig.returnType = none) : Snd Z 4 0 (b_M_look_0 post) := by
  unfold b_M_look_0
  exact (s_push_iconst g d_M_look_0 (by decide) (s_istore_n g (by decide) d_M_look_1 rfl (t_M_look_2 g hq hr)))
def w_M_look : Wp := wpOf 4 (fun _ post => b_M_look_0 post)
theorem C_M_look (l : Launch) : MetS l ({ cls := "BusTelegramsModel", name := "look", desc := "()V" } : Jvm.MethodName) prog_6_method_24_code 4 none true 1 0 0 w_M_look := metS_of (by decide +kernel) (fun Z X0 post hZ g hq hr _ => t_M_look_0 g hq hr)
theorem hd_M_look : (({ cls := "BusTelegramsModel", name := "look", desc := "()V" } : Jvm.MethodName)).cls = "BusTelegramsModel" ∧ (({ cls := "BusTelegramsModel", name := "look", desc := "()V" } : Jvm.MethodName)).cls ≠ "java/lang/invoke/MethodHandle" ∧ (({ cls := "BusTelegramsModel", name := "look", desc := "()V" } : Jvm.MethodName)).cls ≠ "java/lang/invoke/VarHandle" ∧ (parseMethodDescriptor (({ cls := "BusTelegramsModel", name := "look", desc := "()V" } : Jvm.MethodName)).desc).map (fun d => d.parameters.length) = some 0 := ⟨rfl, by decide, by decide, by decide +kernel⟩
theorem d_M_bit_0 : decode prog_6_method_27_code 0 = .ok (.aload_n 0, 1) := by decide +kernel
theorem d_M_bit_1 : decode prog_6_method_27_code 1 = .ok (.iload_n 1, 1) := by decide +kernel
theorem d_M_bit_2 : decode prog_6_method_27_code 2 = .ok (.iconst 0, 1) := by decide +kernel
theorem d_M_bit_3 : decode prog_6_method_27_code 3 = .ok (.bipush 63, 2) := by decide +kernel
theorem d_M_bit_5 : decode prog_6_method_27_code 5 = .ok (.invokestatic 73, 3) := by decide +kernel
theorem d_M_bit_8 : decode prog_6_method_27_code 8 = .ok (.ifCond .eq 15, 3) := by decide +kernel
theorem d_M_bit_11 : decode prog_6_method_27_code 11 = .ok (.iload_n 1, 1) := by decide +kernel
theorem d_M_bit_12 : decode prog_6_method_27_code 12 = .ok (.aload_n 0, 1) := by decide +kernel
theorem d_M_bit_13 : decode prog_6_method_27_code 13 = .ok (.getfield 85, 3) := by decide +kernel
theorem d_M_bit_16 : decode prog_6_method_27_code 16 = .ok (.if_icmp .ge 7, 3) := by decide +kernel
theorem d_M_bit_19 : decode prog_6_method_27_code 19 = .ok (.iconst 0, 1) := by decide +kernel
theorem d_M_bit_20 : decode prog_6_method_27_code 20 = .ok (.goto 4, 3) := by decide +kernel
theorem d_M_bit_23 : decode prog_6_method_27_code 23 = .ok (.iconst 1, 1) := by decide +kernel
theorem d_M_bit_24 : decode prog_6_method_27_code 24 = .ok (.putfield 70, 3) := by decide +kernel
theorem d_M_bit_27 : decode prog_6_method_27_code 27 = .ok (.aload_n 0, 1) := by decide +kernel
theorem d_M_bit_28 : decode prog_6_method_27_code 28 = .ok (.getfield 70, 3) := by decide +kernel
theorem d_M_bit_31 : decode prog_6_method_27_code 31 = .ok (.ifCond .le 7, 3) := by decide +kernel
theorem d_M_bit_34 : decode prog_6_method_27_code 34 = .ok (.iconst 0, 1) := by decide +kernel
theorem d_M_bit_35 : decode prog_6_method_27_code 35 = .ok (.goto 17, 3) := by decide +kernel
theorem d_M_bit_38 : decode prog_6_method_27_code 38 = .ok (.aload_n 0, 1) := by decide +kernel
theorem d_M_bit_39 : decode prog_6_method_27_code 39 = .ok (.getfield 55, 3) := by decide +kernel
theorem d_M_bit_42 : decode prog_6_method_27_code 42 = .ok (.aload_n 0, 1) := by decide +kernel
theorem d_M_bit_43 : decode prog_6_method_27_code 43 = .ok (.getfield 85, 3) := by decide +kernel
theorem d_M_bit_46 : decode prog_6_method_27_code 46 = .ok (.iload_n 1, 1) := by decide +kernel
theorem d_M_bit_47 : decode prog_6_method_27_code 47 = .ok (.isub, 1) := by decide +kernel
theorem d_M_bit_48 : decode prog_6_method_27_code 48 = .ok (.bipush 64, 2) := by decide +kernel
theorem d_M_bit_50 : decode prog_6_method_27_code 50 = .ok (.irem, 1) := by decide +kernel
theorem d_M_bit_51 : decode prog_6_method_27_code 51 = .ok (.iaload, 1) := by decide +kernel
theorem d_M_bit_52 : decode prog_6_method_27_code 52 = .ok (.ireturn, 1) := by decide +kernel
def b_M_bit_52 (post : Option Value → Mm → Prop) : Kk := (i_iret post)
theorem t_M_bit_52 {Z : Zt} {X0 : Mm} {post : Option Value → Mm → Prop} (g : Good Z prog_6_method_27_code 2 "BusTelegramsModel" 1) (hq : RetZ Z true X0 0 0 post) (hr : (zM Z).sig.returnType = (some .int)) : Snd Z 2 52 (b_M_bit_52 post) := by
  unfold b_M_bit_52
  exact (s_iret0 g hq hr d_M_bit_52)
def b_M_bit_24 (post : Option Value → Mm → Prop) : Kk := (i_putI 4 0 (i_aload 0 (i_getI 4 0 (i_if (fun x y => x ≤ y) (i_aload 0 (i_getR 4 17 (i_aload 0 (i_getI 4 1 (i_iload 1 (i_bin (fun x y => x - y) (i_push (.int 64) (i_binz (fun x y => x - x / y * y) (i_ald 10 (b_M_bit_52 post)))))))))) (i_push (.int 0) (b_M_bit_52 post))))))
theorem t_M_bit_24 {Z : Zt} {X0 : Mm} {post : Option Value → Mm → Prop} (g : Good Z prog_6_method_27_code 2 "BusTelegramsModel" 1) (hq : RetZ Z true X0 0 0 post) (hr : (zM Z).sig.returnType = (some .int)) : Snd Z 2 24 (b_M_bit_24 post) := by
  unfold b_M_bit_24
  exact (s_putI g (c := 4) (j := 0) cok_4 (by decide) rfl rfl rfl mw_554 rfl d_M_bit_24 (s_aload_n g d_M_bit_27 rfl (s_getI g (c := 4) (j := 0) cok_4 (by decide) rfl mw_554 rfl d_M_bit_28 (s_if_le g d_M_bit_31 (by decide) (s_aload_n g d_M_bit_38 rfl (s_getR g (c := 4) (j := 17) cok_4 (by decide) rfl mw_571 rfl d_M_bit_39 (s_aload_n g d_M_bit_42 rfl (s_getI g (c := 4) (j := 1) cok_4 (by decide) rfl mw_555 rfl d_M_bit_43 (s_iload_n g d_M_bit_46 rfl (s_isub g d_M_bit_47 (s_push_bipush g d_M_bit_48 (by decide) (s_irem g d_M_bit_50 (s_iald g d_M_bit_51 (t_M_bit_52 g hq hr)))))))))) (s_push_iconst g d_M_bit_34 (by decide) (s_goto g d_M_bit_35 (by decide) (t_M_bit_52 g hq hr)))))))
def b_M_bit_23 (post : Option Value → Mm → Prop) : Kk := (i_push (.int 1) (b_M_bit_24 post))
theorem t_M_bit_23 {Z : Zt} {X0 : Mm} {post : Option Value → Mm → Prop} (g : Good Z prog_6_method_27_code 2 "BusTelegramsModel" 1) (hq : RetZ Z true X0 0 0 post) (hr : (zM Z).sig.returnType = (some .int)) : Snd Z 2 23 (b_M_bit_23 post) := by
  unfold b_M_bit_23
  exact (s_push_iconst g d_M_bit_23 (by decide) (t_M_bit_24 g hq hr))
def b_M_bit_0 (post : Option Value → Mm → Prop) : Kk := (i_aload 0 (i_iload 1 (i_push (.int 0) (i_push (.int 63) (i_callS 3 w_M_isIn (i_if (fun x y => x = y) (b_M_bit_23 post) (i_iload 1 (i_aload 0 (i_getI 4 1 (i_icmp (fun x y => y ≤ x) (b_M_bit_23 post) (i_push (.int 0) (b_M_bit_24 post))))))))))))
theorem t_M_bit_0 {Z : Zt} {X0 : Mm} {post : Option Value → Mm → Prop} (g : Good Z prog_6_method_27_code 2 "BusTelegramsModel" 1) (hq : RetZ Z true X0 0 0 post) (hr : (zM Z).sig.returnType = (some .int)) : Snd Z 2 0 (b_M_bit_0 post) := by
  unfold b_M_bit_0
  exact (s_aload_n g d_M_bit_0 rfl (s_iload_n g d_M_bit_1 rfl (s_push_iconst g d_M_bit_2 (by decide) (s_push_bipush g d_M_bit_3 (by decide) (s_callS g (C_M_isIn (zl Z)) (gin_S mw_668 mw_669 mw_5 mw_670) hd_M_isIn (by decide) (by decide) d_M_bit_5 (s_if_eq g d_M_bit_8 (by decide) (t_M_bit_23 g hq hr) (s_iload_n g d_M_bit_11 rfl (s_aload_n g d_M_bit_12 rfl (s_getI g (c := 4) (j := 1) cok_4 (by decide) rfl mw_555 rfl d_M_bit_13 (s_icmp_ge g d_M_bit_16 (by decide) (t_M_bit_23 g hq hr) (s_push_iconst g d_M_bit_19 (by decide) (s_goto g d_M_bit_20 (by decide) (t_M_bit_24 g hq hr)))))))))))))
def w_M_bit : Wp := wpOf 2 (fun _ post => b_M_bit_0 post)
theorem C_M_bit (l : Launch) : MetS l ({ cls := "BusTelegramsModel", name := "bit", desc := "(I)I" } : Jvm.MethodName) prog_6_method_27_code 2 (some .int) true 1 0 0 w_M_bit := metS_of (by decide +kernel) (fun Z X0 post hZ g hq hr _ => t_M_bit_0 g hq hr)
theorem hd_M_bit : (({ cls := "BusTelegramsModel", name := "bit", desc := "(I)I" } : Jvm.MethodName)).cls = "BusTelegramsModel" ∧ (({ cls := "BusTelegramsModel", name := "bit", desc := "(I)I" } : Jvm.MethodName)).cls ≠ "java/lang/invoke/MethodHandle" ∧ (({ cls := "BusTelegramsModel", name := "bit", desc := "(I)I" } : Jvm.MethodName)).cls ≠ "java/lang/invoke/VarHandle" ∧ (parseMethodDescriptor (({ cls := "BusTelegramsModel", name := "bit", desc := "(I)I" } : Jvm.MethodName)).desc).map (fun d => d.parameters.length) = some 1 := ⟨rfl, by decide, by decide, by decide +kernel⟩
theorem d_M_station_0 : decode prog_6_method_28_code 0 = .ok (.aload_n 0, 1) := by decide +kernel
theorem d_M_station_1 : decode prog_6_method_28_code 1 = .ok (.iload_n 1, 1) := by decide +kernel
theorem d_M_station_2 : decode prog_6_method_28_code 2 = .ok (.iconst 0, 1) := by decide +kernel
theorem d_M_station_3 : decode prog_6_method_28_code 3 = .ok (.bipush 7, 2) := by decide +kernel
theorem d_M_station_5 : decode prog_6_method_28_code 5 = .ok (.invokestatic 73, 3) := by decide +kernel
theorem d_M_station_8 : decode prog_6_method_28_code 8 = .ok (.ifCond .eq 16, 3) := by decide +kernel
theorem d_M_station_11 : decode prog_6_method_28_code 11 = .ok (.iload_n 2, 1) := by decide +kernel
theorem d_M_station_12 : decode prog_6_method_28_code 12 = .ok (.iconst 0, 1) := by decide +kernel
theorem d_M_station_13 : decode prog_6_method_28_code 13 = .ok (.iconst 5, 1) := by decide +kernel
theorem d_M_station_14 : decode prog_6_method_28_code 14 = .ok (.invokestatic 73, 3) := by decide +kernel
theorem d_M_station_17 : decode prog_6_method_28_code 17 = .ok (.ifCond .eq 7, 3) := by decide +kernel
theorem d_M_station_20 : decode prog_6_method_28_code 20 = .ok (.iconst 0, 1) := by decide +kernel
theorem d_M_station_21 : decode prog_6_method_28_code 21 = .ok (.goto 4, 3) := by decide +kernel
theorem d_M_station_24 : decode prog_6_method_28_code 24 = .ok (.iconst 1, 1) := by decide +kernel
theorem d_M_station_25 : decode prog_6_method_28_code 25 = .ok (.putfield 70, 3) := by decide +kernel
theorem d_M_station_28 : decode prog_6_method_28_code 28 = .ok (.aload_n 0, 1) := by decide +kernel
theorem d_M_station_29 : decode prog_6_method_28_code 29 = .ok (.getfield 70, 3) := by decide +kernel
theorem d_M_station_32 : decode prog_6_method_28_code 32 = .ok (.ifCond .le 5, 3) := by decide +kernel
theorem d_M_station_35 : decode prog_6_method_28_code 35 = .ok (.iconst 0, 1) := by decide +kernel
theorem d_M_station_36 : decode prog_6_method_28_code 36 = .ok (.ireturn, 1) := by decide +kernel
theorem d_M_station_37 : decode prog_6_method_28_code 37 = .ok (.iload_n 2, 1) := by decide +kernel
theorem d_M_station_38 : decode prog_6_method_28_code 38 = .ok (.tableswitch 85 0 4 #[34, 41, 56, 71, 78], 34) := by decide +kernel
theorem d_M_station_72 : decode prog_6_method_28_code 72 = .ok (.aload_n 0, 1) := by decide +kernel
theorem d_M_station_73 : decode prog_6_method_28_code 73 = .ok (.getfield 25, 3) := by decide +kernel
theorem d_M_station_76 : decode prog_6_method_28_code 76 = .ok (.iload_n 1, 1) := by decide +kernel
theorem d_M_station_77 : decode prog_6_method_28_code 77 = .ok (.iaload, 1) := by decide +kernel
theorem d_M_station_78 : decode prog_6_method_28_code 78 = .ok (.ireturn, 1) := by decide +kernel
theorem d_M_station_79 : decode prog_6_method_28_code 79 = .ok (.aload_n 0, 1) := by decide +kernel
theorem d_M_station_80 : decode prog_6_method_28_code 80 = .ok (.getfield 31, 3) := by decide +kernel
theorem d_M_station_83 : decode prog_6_method_28_code 83 = .ok (.iload_n 1, 1) := by decide +kernel
theorem d_M_station_84 : decode prog_6_method_28_code 84 = .ok (.iaload, 1) := by decide +kernel
theorem d_M_station_85 : decode prog_6_method_28_code 85 = .ok (.ifCond .lt 7, 3) := by decide +kernel
theorem d_M_station_88 : decode prog_6_method_28_code 88 = .ok (.iconst 1, 1) := by decide +kernel
theorem d_M_station_89 : decode prog_6_method_28_code 89 = .ok (.goto 4, 3) := by decide +kernel
theorem d_M_station_92 : decode prog_6_method_28_code 92 = .ok (.iconst 0, 1) := by decide +kernel
theorem d_M_station_93 : decode prog_6_method_28_code 93 = .ok (.ireturn, 1) := by decide +kernel
theorem d_M_station_94 : decode prog_6_method_28_code 94 = .ok (.aload_n 0, 1) := by decide +kernel
theorem d_M_station_95 : decode prog_6_method_28_code 95 = .ok (.getfield 40, 3) := by decide +kernel
theorem d_M_station_98 : decode prog_6_method_28_code 98 = .ok (.iload_n 1, 1) := by decide +kernel
theorem d_M_station_99 : decode prog_6_method_28_code 99 = .ok (.iaload, 1) := by decide +kernel
theorem d_M_station_100 : decode prog_6_method_28_code 100 = .ok (.ifCond .lt 7, 3) := by decide +kernel
theorem d_M_station_103 : decode prog_6_method_28_code 103 = .ok (.iconst 1, 1) := by decide +kernel
theorem d_M_station_104 : decode prog_6_method_28_code 104 = .ok (.goto 4, 3) := by decide +kernel
theorem d_M_station_107 : decode prog_6_method_28_code 107 = .ok (.iconst 0, 1) := by decide +kernel
theorem d_M_station_108 : decode prog_6_method_28_code 108 = .ok (.ireturn, 1) := by decide +kernel
theorem d_M_station_109 : decode prog_6_method_28_code 109 = .ok (.aload_n 0, 1) := by decide +kernel
theorem d_M_station_110 : decode prog_6_method_28_code 110 = .ok (.getfield 43, 3) := by decide +kernel
theorem d_M_station_113 : decode prog_6_method_28_code 113 = .ok (.iload_n 1, 1) := by decide +kernel
theorem d_M_station_114 : decode prog_6_method_28_code 114 = .ok (.iaload, 1) := by decide +kernel
theorem d_M_station_115 : decode prog_6_method_28_code 115 = .ok (.ireturn, 1) := by decide +kernel
theorem d_M_station_116 : decode prog_6_method_28_code 116 = .ok (.aload_n 0, 1) := by decide +kernel
theorem d_M_station_117 : decode prog_6_method_28_code 117 = .ok (.getfield 46, 3) := by decide +kernel
theorem d_M_station_120 : decode prog_6_method_28_code 120 = .ok (.iload_n 1, 1) := by decide +kernel
theorem d_M_station_121 : decode prog_6_method_28_code 121 = .ok (.iaload, 1) := by decide +kernel
theorem d_M_station_122 : decode prog_6_method_28_code 122 = .ok (.ireturn, 1) := by decide +kernel
theorem d_M_station_123 : decode prog_6_method_28_code 123 = .ok (.aload_n 0, 1) := by decide +kernel
theorem d_M_station_124 : decode prog_6_method_28_code 124 = .ok (.getfield 49, 3) := by decide +kernel
theorem d_M_station_127 : decode prog_6_method_28_code 127 = .ok (.iload_n 1, 1) := by decide +kernel
theorem d_M_station_128 : decode prog_6_method_28_code 128 = .ok (.iaload, 1) := by decide +kernel
theorem d_M_station_129 : decode prog_6_method_28_code 129 = .ok (.ireturn, 1) := by decide +kernel
def b_M_station_93 (post : Option Value → Mm → Prop) : Kk := (i_iret post)
theorem t_M_station_93 {Z : Zt} {X0 : Mm} {post : Option Value → Mm → Prop} (g : Good Z prog_6_method_28_code 3 "BusTelegramsModel" 1) (hq : RetZ Z true X0 0 0 post) (hr : (zM Z).sig.returnType = (some .int)) : Snd Z 3 93 (b_M_station_93 post) := by
  unfold b_M_station_93
  exact (s_iret0 g hq hr d_M_station_93)
def b_M_station_108 (post : Option Value → Mm → Prop) : Kk := (i_iret post)
theorem t_M_station_108 {Z : Zt} {X0 : Mm} {post : Option Value → Mm → Prop} (g : Good Z prog_6_method_28_code 3 "BusTelegramsModel" 1) (hq : RetZ Z true X0 0 0 post) (hr : (zM Z).sig.returnType = (some .int)) : Snd Z 3 108 (b_M_station_108 post) := by
  unfold b_M_station_108
  exact (s_iret0 g hq hr d_M_station_108)
def b_M_station_25 (post : Option Value → Mm → Prop) : Kk := (i_putI 4 0 (i_aload 0 (i_getI 4 0 (i_if (fun x y => x ≤ y) (i_iload 2 (i_tsw 0 [(i_aload 0 (i_getR 4 6 (i_iload 1 (i_ald 10 (i_iret post))))), (i_aload 0 (i_getR 4 8 (i_iload 1 (i_ald 10 (i_if (fun x y => x < y) (i_push (.int 0) (b_M_station_93 post)) (i_push (.int 1) (b_M_station_93 post))))))), (i_aload 0 (i_getR 4 11 (i_iload 1 (i_ald 10 (i_if (fun x y => x < y) (i_push (.int 0) (b_M_station_108 post)) (i_push (.int 1) (b_M_station_108 post))))))), (i_aload 0 (i_getR 4 12 (i_iload 1 (i_ald 10 (i_iret post))))), (i_aload 0 (i_getR 4 13 (i_iload 1 (i_ald 10 (i_iret post)))))] (i_aload 0 (i_getR 4 14 (i_iload 1 (i_ald 10 (i_iret post))))))) (i_push (.int 0) (i_iret post))))))
theorem t_M_station_25 {Z : Zt} {X0 : Mm} {post : Option Value → Mm → Prop} (g : Good Z prog_6_method_28_code 3 "BusTelegramsModel" 1) (hq : RetZ Z true X0 0 0 post) (hr : (zM Z).sig.returnType = (some .int)) : Snd Z 3 25 (b_M_station_25 post) := by
  unfold b_M_station_25
  exact (s_putI g (c := 4) (j := 0) cok_4 (by decide) rfl rfl rfl mw_554 rfl d_M_station_25 (s_aload_n g d_M_station_28 rfl (s_getI g (c := 4) (j := 0) cok_4 (by decide) rfl mw_554 rfl d_M_station_29 (s_if_le g d_M_station_32 (by decide) (s_iload_n g d_M_station_37 rfl (s_tsw g d_M_station_38 rfl (by decide) (tsw_cons (by decide) (s_aload_n g d_M_station_72 rfl (s_getR g (c := 4) (j := 6) cok_4 (by decide) rfl mw_560 rfl d_M_station_73 (s_iload_n g d_M_station_76 rfl (s_iald g d_M_station_77 (s_iret0 g hq hr d_M_station_78))))) (tsw_cons (by decide) (s_aload_n g d_M_station_79 rfl (s_getR g (c := 4) (j := 8) cok_4 (by decide) rfl mw_562 rfl d_M_station_80 (s_iload_n g d_M_station_83 rfl (s_iald g d_M_station_84 (s_if_lt g d_M_station_85 (by decide) (s_push_iconst g d_M_station_92 (by decide) (t_M_station_93 g hq hr)) (s_push_iconst g d_M_station_88 (by decide) (s_goto g d_M_station_89 (by decide) (t_M_station_93 g hq hr)))))))) (tsw_cons (by decide) (s_aload_n g d_M_station_94 rfl (s_getR g (c := 4) (j := 11) cok_4 (by decide) rfl mw_565 rfl d_M_station_95 (s_iload_n g d_M_station_98 rfl (s_iald g d_M_station_99 (s_if_lt g d_M_station_100 (by decide) (s_push_iconst g d_M_station_107 (by decide) (t_M_station_108 g hq hr)) (s_push_iconst g d_M_station_103 (by decide) (s_goto g d_M_station_104 (by decide) (t_M_station_108 g hq hr)))))))) (tsw_cons (by decide) (s_aload_n g d_M_station_109 rfl (s_getR g (c := 4) (j := 12) cok_4 (by decide) rfl mw_566 rfl d_M_station_110 (s_iload_n g d_M_station_113 rfl (s_iald g d_M_station_114 (s_iret0 g hq hr d_M_station_115))))) (tsw_cons (by decide) (s_aload_n g d_M_station_116 rfl (s_getR g (c := 4) (j := 13) cok_4 (by decide) rfl mw_567 rfl d_M_station_117 (s_iload_n g d_M_station_120 rfl (s_iald g d_M_station_121 (s_iret0 g hq hr d_M_station_122))))) tsw_nil))))) (s_aload_n g d_M_station_123 rfl (s_getR g (c := 4) (j := 14) cok_4 (by decide) rfl mw_568 rfl d_M_station_124 (s_iload_n g d_M_station_127 rfl (s_iald g d_M_station_128 (s_iret0 g hq hr d_M_station_129))))))) (s_push_iconst g d_M_station_35 (by decide) (s_iret0 g hq hr d_M_station_36))))))
def b_M_station_24 (post : Option Value → Mm → Prop) : Kk := (i_push (.int 1) (b_M_station_25 post))
theorem t_M_station_24 {Z : Zt} {X0 : Mm} {post : Option Value → Mm → Prop} (g : Good Z prog_6_method_28_code 3 "BusTelegramsModel" 1) (hq : RetZ Z true X0 0 0 post) (hr : (zM Z).sig.returnType = (some .int)) : Snd Z 3 24 (b_M_station_24 post) := by
  unfold b_M_station_24
  exact (s_push_iconst g d_M_station_24 (by decide) (t_M_station_25 g hq hr))
def b_M_station_0 (post : Option Value → Mm → Prop) : Kk := (i_aload 0 (i_iload 1 (i_push (.int 0) (i_push (.int 7) (i_callS 3 w_M_isIn (i_if (fun x y => x = y) (b_M_station_24 post) (i_iload 2 (i_push (.int 0) (i_push (.int 5) (i_callS 3 w_M_isIn (i_if (fun x y => x = y) (b_M_station_24 post) (i_push (.int 0) (b_M_station_25 post)))))))))))))
theorem t_M_station_0 {Z : Zt} {X0 : Mm} {post : Option Value → Mm → Prop} (g : Good Z prog_6_method_28_code 3 "BusTelegramsModel" 1) (hq : RetZ Z true X0 0 0 post) (hr : (zM Z).sig.returnType = (some .int)) : Snd Z 3 0 (b_M_station_0 post) := by
  unfold b_M_station_0
  exact (s_aload_n g d_M_station_0 rfl (s_iload_n g d_M_station_1 rfl (s_push_iconst g d_M_station_2 (by decide) (s_push_bipush g d_M_station_3 (by decide) (s_callS g (C_M_isIn (zl Z)) (gin_S mw_668 mw_669 mw_5 mw_670) hd_M_isIn (by decide) (by decide) d_M_station_5 (s_if_eq g d_M_station_8 (by decide) (t_M_station_24 g hq hr) (s_iload_n g d_M_station_11 rfl (s_push_iconst g d_M_station_12 (by decide) (s_push_iconst g d_M_station_13 (by decide) (s_callS g (C_M_isIn (zl Z)) (gin_S mw_668 mw_669 mw_5 mw_670) hd_M_isIn (by decide) (by decide) d_M_station_14 (s_if_eq g d_M_station_17 (by decide) (t_M_station_24 g hq hr) (s_push_iconst g d_M_station_20 (by decide) (s_goto g d_M_station_21 (by decide) (t_M_station_25 g hq hr))))))))))))))
def w_M_station : Wp := wpOf 3 (fun _ post => b_M_station_0 post)
theorem C_M_station (l : Launch) : MetS l ({ cls := "BusTelegramsModel", name := "station", desc := "(II)I" } : Jvm.MethodName) prog_6_method_28_code 3 (some .int) true 1 0 0 w_M_station := metS_of (by decide +kernel) (fun Z X0 post hZ g hq hr _ => t_M_station_0 g hq hr)
theorem hd_M_station : (({ cls := "BusTelegramsModel", name := "station", desc := "(II)I" } : Jvm.MethodName)).cls = "BusTelegramsModel" ∧ (({ cls := "BusTelegramsModel", name := "station", desc := "(II)I" } : Jvm.MethodName)).cls ≠ "java/lang/invoke/MethodHandle" ∧ (({ cls := "BusTelegramsModel", name := "station", desc := "(II)I" } : Jvm.MethodName)).cls ≠ "java/lang/invoke/VarHandle" ∧ (parseMethodDescriptor (({ cls := "BusTelegramsModel", name := "station", desc := "(II)I" } : Jvm.MethodName)).desc).map (fun d => d.parameters.length) = some 2 := ⟨rfl, by decide, by decide, by decide +kernel⟩
theorem d_M_heard_0 : decode prog_6_method_29_code 0 = .ok (.aload_n 0, 1) := by decide +kernel
theorem d_M_heard_1 : decode prog_6_method_29_code 1 = .ok (.iload_n 1, 1) := by decide +kernel
theorem d_M_heard_2 : decode prog_6_method_29_code 2 = .ok (.iconst 0, 1) := by decide +kernel
theorem d_M_heard_3 : decode prog_6_method_29_code 3 = .ok (.iconst 4, 1) := by decide +kernel
theorem d_M_heard_4 : decode prog_6_method_29_code 4 = .ok (.invokestatic 73, 3) := by decide +kernel
theorem d_M_heard_7 : decode prog_6_method_29_code 7 = .ok (.ifCond .eq 7, 3) := by decide +kernel
theorem d_M_heard_10 : decode prog_6_method_29_code 10 = .ok (.iconst 0, 1) := by decide +kernel
theorem d_M_heard_11 : decode prog_6_method_29_code 11 = .ok (.goto 4, 3) := by decide +kernel
theorem d_M_heard_14 : decode prog_6_method_29_code 14 = .ok (.iconst 1, 1) := by decide +kernel
theorem d_M_heard_15 : decode prog_6_method_29_code 15 = .ok (.putfield 70, 3) := by decide +kernel
theorem d_M_heard_18 : decode prog_6_method_29_code 18 = .ok (.aload_n 0, 1) := by decide +kernel
theorem d_M_heard_19 : decode prog_6_method_29_code 19 = .ok (.getfield 70, 3) := by decide +kernel
theorem d_M_heard_22 : decode prog_6_method_29_code 22 = .ok (.ifCond .le 7, 3) := by decide +kernel
theorem d_M_heard_25 : decode prog_6_method_29_code 25 = .ok (.iconst 0, 1) := by decide +kernel
theorem d_M_heard_26 : decode prog_6_method_29_code 26 = .ok (.goto 9, 3) := by decide +kernel
theorem d_M_heard_29 : decode prog_6_method_29_code 29 = .ok (.aload_n 0, 1) := by decide +kernel
theorem d_M_heard_30 : decode prog_6_method_29_code 30 = .ok (.getfield 61, 3) := by decide +kernel
theorem d_M_heard_33 : decode prog_6_method_29_code 33 = .ok (.iload_n 1, 1) := by decide +kernel
theorem d_M_heard_34 : decode prog_6_method_29_code 34 = .ok (.iaload, 1) := by decide +kernel
theorem d_M_heard_35 : decode prog_6_method_29_code 35 = .ok (.ireturn, 1) := by decide +kernel
def b_M_heard_35 (post : Option Value → Mm → Prop) : Kk := (i_iret post)
theorem t_M_heard_35 {Z : Zt} {X0 : Mm} {post : Option Value → Mm → Prop} (g : Good Z prog_6_method_29_code 2 "BusTelegramsModel" 1) (hq : RetZ Z true X0 0 0 post) (hr : (zM Z).sig.returnType = (some .int)) : Snd Z 2 35 (b_M_heard_35 post) := by
  unfold b_M_heard_35
  exact (s_iret0 g hq hr d_M_heard_35)
def b_M_heard_15 (post : Option Value → Mm → Prop) : Kk := (i_putI 4 0 (i_aload 0 (i_getI 4 0 (i_if (fun x y => x ≤ y) (i_aload 0 (i_getR 4 27 (i_iload 1 (i_ald 10 (b_M_heard_35 post))))) (i_push (.int 0) (b_M_heard_35 post))))))
theorem t_M_heard_15 {Z : Zt} {X0 : Mm} {post : Option Value → Mm → Prop} (g : Good Z prog_6_method_29_code 2 "BusTelegramsModel" 1) (hq : RetZ Z true X0 0 0 post) (hr : (zM Z).sig.returnType = (some .int)) : Snd Z 2 15 (b_M_heard_15 post) := by
  unfold b_M_heard_15
  exact (s_putI g (c := 4) (j := 0) cok_4 (by decide) rfl rfl rfl mw_554 rfl d_M_heard_15 (s_aload_n g d_M_heard_18 rfl (s_getI g (c := 4) (j := 0) cok_4 (by decide) rfl mw_554 rfl d_M_heard_19 (s_if_le g d_M_heard_22 (by decide) (s_aload_n g d_M_heard_29 rfl (s_getR g (c := 4) (j := 27) cok_4 (by decide) rfl mw_581 rfl d_M_heard_30 (s_iload_n g d_M_heard_33 rfl (s_iald g d_M_heard_34 (t_M_heard_35 g hq hr))))) (s_push_iconst g d_M_heard_25 (by decide) (s_goto g d_M_heard_26 (by decide) (t_M_heard_35 g hq hr)))))))
def b_M_heard_0 (post : Option Value → Mm → Prop) : Kk := (i_aload 0 (i_iload 1 (i_push (.int 0) (i_push (.int 4) (i_callS 3 w_M_isIn (i_if (fun x y => x = y) (i_push (.int 1) (b_M_heard_15 post)) (i_push (.int 0) (b_M_heard_15 post))))))))
theorem t_M_heard_0 {Z : Zt} {X0 : Mm} {post : Option Value → Mm → Prop} (g : Good Z prog_6_method_29_code 2 "BusTelegramsModel" 1) (hq : RetZ Z true X0 0 0 post) (hr : (zM Z).sig.returnType = (some .int)) : Snd Z 2 0 (b_M_heard_0 post) := by
  unfold b_M_heard_0
  exact (s_aload_n g d_M_heard_0 rfl (s_iload_n g d_M_heard_1 rfl (s_push_iconst g d_M_heard_2 (by decide) (s_push_iconst g d_M_heard_3 (by decide) (s_callS g (C_M_isIn (zl Z)) (gin_S mw_668 mw_669 mw_5 mw_670) hd_M_isIn (by decide) (by decide) d_M_heard_4 (s_if_eq g d_M_heard_7 (by decide) (s_push_iconst g d_M_heard_14 (by decide) (t_M_heard_15 g hq hr)) (s_push_iconst g d_M_heard_10 (by decide) (s_goto g d_M_heard_11 (by decide) (t_M_heard_15 g hq hr)))))))))
def w_M_heard : Wp := wpOf 2 (fun _ post => b_M_heard_0 post)
theorem C_M_heard (l : Launch) : MetS l ({ cls := "BusTelegramsModel", name := "heard", desc := "(I)I" } : Jvm.MethodName) prog_6_method_29_code 2 (some .int) true 1 0 0 w_M_heard := metS_of (by decide +kernel) (fun Z X0 post hZ g hq hr _ => t_M_heard_0 g hq hr)
theorem hd_M_heard : (({ cls := "BusTelegramsModel", name := "heard", desc := "(I)I" } : Jvm.MethodName)).cls = "BusTelegramsModel" ∧ (({ cls := "BusTelegramsModel", name := "heard", desc := "(I)I" } : Jvm.MethodName)).cls ≠ "java/lang/invoke/MethodHandle" ∧ (({ cls := "BusTelegramsModel", name := "heard", desc := "(I)I" } : Jvm.MethodName)).cls ≠ "java/lang/invoke/VarHandle" ∧ (parseMethodDescriptor (({ cls := "BusTelegramsModel", name := "heard", desc := "(I)I" } : Jvm.MethodName)).desc).map (fun d => d.parameters.length) = some 1 := ⟨rfl, by decide, by decide, by decide +kernel⟩
theorem d_M_byteAt_0 : decode prog_6_method_30_code 0 = .ok (.aload_n 0, 1) := by decide +kernel
theorem d_M_byteAt_1 : decode prog_6_method_30_code 1 = .ok (.aload_n 0, 1) := by decide +kernel
theorem d_M_byteAt_2 : decode prog_6_method_30_code 2 = .ok (.getfield 102, 3) := by decide +kernel
theorem d_M_byteAt_5 : decode prog_6_method_30_code 5 = .ok (.ifCond .eq 21, 3) := by decide +kernel
theorem d_M_byteAt_8 : decode prog_6_method_30_code 8 = .ok (.iload_n 1, 1) := by decide +kernel
theorem d_M_byteAt_9 : decode prog_6_method_30_code 9 = .ok (.iconst 0, 1) := by decide +kernel
theorem d_M_byteAt_10 : decode prog_6_method_30_code 10 = .ok (.aload_n 0, 1) := by decide +kernel
theorem d_M_byteAt_11 : decode prog_6_method_30_code 11 = .ok (.getfield 131, 3) := by decide +kernel
theorem d_M_byteAt_14 : decode prog_6_method_30_code 14 = .ok (.iconst 1, 1) := by decide +kernel
theorem d_M_byteAt_15 : decode prog_6_method_30_code 15 = .ok (.isub, 1) := by decide +kernel
theorem d_M_byteAt_16 : decode prog_6_method_30_code 16 = .ok (.invokestatic 73, 3) := by decide +kernel
theorem d_M_byteAt_19 : decode prog_6_method_30_code 19 = .ok (.ifCond .eq 7, 3) := by decide +kernel
theorem d_M_byteAt_22 : decode prog_6_method_30_code 22 = .ok (.iconst 0, 1) := by decide +kernel
theorem d_M_byteAt_23 : decode prog_6_method_30_code 23 = .ok (.goto 4, 3) := by decide +kernel
theorem d_M_byteAt_26 : decode prog_6_method_30_code 26 = .ok (.iconst 1, 1) := by decide +kernel
theorem d_M_byteAt_27 : decode prog_6_method_30_code 27 = .ok (.putfield 70, 3) := by decide +kernel
theorem d_M_byteAt_30 : decode prog_6_method_30_code 30 = .ok (.aload_n 0, 1) := by decide +kernel
theorem d_M_byteAt_31 : decode prog_6_method_30_code 31 = .ok (.getfield 70, 3) := by decide +kernel
theorem d_M_byteAt_34 : decode prog_6_method_30_code 34 = .ok (.ifCond .le 7, 3) := by decide +kernel
theorem d_M_byteAt_37 : decode prog_6_method_30_code 37 = .ok (.iconst 0, 1) := by decide +kernel
theorem d_M_byteAt_38 : decode prog_6_method_30_code 38 = .ok (.goto 9, 3) := by decide +kernel
theorem d_M_byteAt_41 : decode prog_6_method_30_code 41 = .ok (.aload_n 0, 1) := by decide +kernel
theorem d_M_byteAt_42 : decode prog_6_method_30_code 42 = .ok (.getfield 67, 3) := by decide +kernel
theorem d_M_byteAt_45 : decode prog_6_method_30_code 45 = .ok (.iload_n 1, 1) := by decide +kernel
theorem d_M_byteAt_46 : decode prog_6_method_30_code 46 = .ok (.iaload, 1) := by decide +kernel
theorem d_M_byteAt_47 : decode prog_6_method_30_code 47 = .ok (.ireturn, 1) := by decide +kernel
def b_M_byteAt_47 (post : Option Value → Mm → Prop) : Kk := (i_iret post)
theorem t_M_byteAt_47 {Z : Zt} {X0 : Mm} {post : Option Value → Mm → Prop} (g : Good Z prog_6_method_30_code 2 "BusTelegramsModel" 1) (hq : RetZ Z true X0 0 0 post) (hr : (zM Z).sig.returnType = (some .int)) : Snd Z 2 47 (b_M_byteAt_47 post) := by
  unfold b_M_byteAt_47
  exact (s_iret0 g hq hr d_M_byteAt_47)
def b_M_byteAt_27 (post : Option Value → Mm → Prop) : Kk := (i_putI 4 0 (i_aload 0 (i_getI 4 0 (i_if (fun x y => x ≤ y) (i_aload 0 (i_getR 4 34 (i_iload 1 (i_ald 10 (b_M_byteAt_47 post))))) (i_push (.int 0) (b_M_byteAt_47 post))))))
theorem t_M_byteAt_27 {Z : Zt} {X0 : Mm} {post : Option Value → Mm → Prop} (g : Good Z prog_6_method_30_code 2 "BusTelegramsModel" 1) (hq : RetZ Z true X0 0 0 post) (hr : (zM Z).sig.returnType = (some .int)) : Snd Z 2 27 (b_M_byteAt_27 post) := by
  unfold b_M_byteAt_27
  exact (s_putI g (c := 4) (j := 0) cok_4 (by decide) rfl rfl rfl mw_554 rfl d_M_byteAt_27 (s_aload_n g d_M_byteAt_30 rfl (s_getI g (c := 4) (j := 0) cok_4 (by decide) rfl mw_554 rfl d_M_byteAt_31 (s_if_le g d_M_byteAt_34 (by decide) (s_aload_n g d_M_byteAt_41 rfl (s_getR g (c := 4) (j := 34) cok_4 (by decide) rfl mw_588 rfl d_M_byteAt_42 (s_iload_n g d_M_byteAt_45 rfl (s_iald g d_M_byteAt_46 (t_M_byteAt_47 g hq hr))))) (s_push_iconst g d_M_byteAt_37 (by decide) (s_goto g d_M_byteAt_38 (by decide) (t_M_byteAt_47 g hq hr)))))))
def b_M_byteAt_26 (post : Option Value → Mm → Prop) : Kk := (i_push (.int 1) (b_M_byteAt_27 post))
theorem t_M_byteAt_26 {Z : Zt} {X0 : Mm} {post : Option Value → Mm → Prop} (g : Good Z prog_6_method_30_code 2 "BusTelegramsModel" 1) (hq : RetZ Z true X0 0 0 post) (hr : (zM Z).sig.returnType = (some .int)) : Snd Z 2 26 (b_M_byteAt_26 post) := by
  unfold b_M_byteAt_26
  exact (s_push_iconst g d_M_byteAt_26 (by decide) (t_M_byteAt_27 g hq hr))
def b_M_byteAt_0 (post : Option Value → Mm → Prop) : Kk := (i_aload 0 (i_aload 0 (i_getI 4 28 (i_if (fun x y => x = y) (b_M_byteAt_26 post) (i_iload 1 (i_push (.int 0) (i_aload 0 (i_getI 4 30 (i_push (.int 1) (i_bin (fun x y => x - y) (i_callS 3 w_M_isIn (i_if (fun x y => x = y) (b_M_byteAt_26 post) (i_push (.int 0) (b_M_byteAt_27 post))))))))))))))
theorem t_M_byteAt_0 {Z : Zt} {X0 : Mm} {post : Option Value → Mm → Prop} (g : Good Z prog_6_method_30_code 2 "BusTelegramsModel" 1) (hq : RetZ Z true X0 0 0 post) (hr : (zM Z).sig.returnType = (some .int)) : Snd Z 2 0 (b_M_byteAt_0 post) := by
  unfold b_M_byteAt_0
  exact (s_aload_n g d_M_byteAt_0 rfl (s_aload_n g d_M_byteAt_1 rfl (s_getI g (c := 4) (j := 28) cok_4 (by decide) rfl mw_582 rfl d_M_byteAt_2 (s_if_eq g d_M_byteAt_5 (by decide) (t_M_byteAt_26 g hq hr) (s_iload_n g d_M_byteAt_8 rfl (s_push_iconst g d_M_byteAt_9 (by decide) (s_aload_n g d_M_byteAt_10 rfl (s_getI g (c := 4) (j := 30) cok_4 (by decide) rfl mw_584 rfl d_M_byteAt_11 (s_push_iconst g d_M_byteAt_14 (by decide) (s_isub g d_M_byteAt_15 (s_callS g (C_M_isIn (zl Z)) (gin_S mw_668 mw_669 mw_5 mw_670) hd_M_isIn (by decide) (by decide) d_M_byteAt_16 (s_if_eq g d_M_byteAt_19 (by decide) (t_M_byteAt_26 g hq hr) (s_push_iconst g d_M_byteAt_22 (by decide) (s_goto g d_M_byteAt_23 (by decide) (t_M_byteAt_27 g hq hr)))))))))))))))
def w_M_byteAt : Wp := wpOf 2 (fun _ post => b_M_byteAt_0 post)
theorem C_M_byteAt (l : Launch) : MetS l ({ cls := "BusTelegramsModel", name := "byteAt", desc := "(I)I" } : Jvm.MethodName) prog_6_method_30_code 2 (some .int) true 1 0 0 w_M_byteAt := metS_of (by decide +kernel) (fun Z X0 post hZ g hq hr _ => t_M_byteAt_0 g hq hr)
theorem hd_M_byteAt : (({ cls := "BusTelegramsModel", name := "byteAt", desc := "(I)I" } : Jvm.MethodName)).cls = "BusTelegramsModel" ∧ (({ cls := "BusTelegramsModel", name := "byteAt", desc := "(I)I" } : Jvm.MethodName)).cls ≠ "java/lang/invoke/MethodHandle" ∧ (({ cls := "BusTelegramsModel", name := "byteAt", desc := "(I)I" } : Jvm.MethodName)).cls ≠ "java/lang/invoke/VarHandle" ∧ (parseMethodDescriptor (({ cls := "BusTelegramsModel", name := "byteAt", desc := "(I)I" } : Jvm.MethodName)).desc).map (fun d => d.parameters.length) = some 1 := ⟨rfl, by decide, by decide, by decide +kernel⟩
theorem d_M_pack_0 : decode prog_6_method_33_code 0 = .ok (.aload_n 0, 1) := by decide +kernel
theorem d_M_pack_1 : decode prog_6_method_33_code 1 = .ok (.iconst 0, 1) := by decide +kernel
theorem d_M_pack_2 : decode prog_6_method_33_code 2 = .ok (.putfield 70, 3) := by decide +kernel
theorem d_M_pack_5 : decode prog_6_method_33_code 5 = .ok (.dload_n 1, 1) := by decide +kernel
theorem d_M_pack_6 : decode prog_6_method_33_code 6 = .ok (.dload_n 1, 1) := by decide +kernel
theorem d_M_pack_7 : decode prog_6_method_33_code 7 = .ok (.dcmp .l, 1) := by decide +kernel
theorem d_M_pack_8 : decode prog_6_method_33_code 8 = .ok (.ifCond .eq 5, 3) := by decide +kernel
theorem d_M_pack_11 : decode prog_6_method_33_code 11 = .ok (.iconst 0, 1) := by decide +kernel
theorem d_M_pack_12 : decode prog_6_method_33_code 12 = .ok (.ireturn, 1) := by decide +kernel
theorem d_M_pack_13 : decode prog_6_method_33_code 13 = .ok (.dconst 1, 1) := by decide +kernel
theorem d_M_pack_14 : decode prog_6_method_33_code 14 = .ok (.dstore_n 3, 1) := by decide +kernel
theorem d_M_pack_15 : decode prog_6_method_33_code 15 = .ok (.iconst 0, 1) := by decide +kernel
theorem d_M_pack_16 : decode prog_6_method_33_code 16 = .ok (.istore 5, 2) := by decide +kernel
theorem d_M_pack_18 : decode prog_6_method_33_code 18 = .ok (.iload 5, 2) := by decide +kernel
theorem d_M_pack_20 : decode prog_6_method_33_code 20 = .ok (.bipush 16, 2) := by decide +kernel
theorem d_M_pack_22 : decode prog_6_method_33_code 22 = .ok (.if_icmp .ge 87, 3) := by decide +kernel
theorem d_M_pack_25 : decode prog_6_method_33_code 25 = .ok (.ldc2_w 182, 3) := by decide +kernel
theorem d_M_pack_28 : decode prog_6_method_33_code 28 = .ok (.dload_n 1, 1) := by decide +kernel
theorem d_M_pack_29 : decode prog_6_method_33_code 29 = .ok (.dmul, 1) := by decide +kernel
theorem d_M_pack_30 : decode prog_6_method_33_code 30 = .ok (.dload_n 3, 1) := by decide +kernel
theorem d_M_pack_31 : decode prog_6_method_33_code 31 = .ok (.ddiv, 1) := by decide +kernel
theorem d_M_pack_32 : decode prog_6_method_33_code 32 = .ok (.ldc2_w 184, 3) := by decide +kernel
theorem d_M_pack_35 : decode prog_6_method_33_code 35 = .ok (.dadd, 1) := by decide +kernel
theorem d_M_pack_36 : decode prog_6_method_33_code 36 = .ok (.dstore 6, 2) := by decide +kernel
theorem d_M_pack_38 : decode prog_6_method_33_code 38 = .ok (.dload 6, 2) := by decide +kernel
theorem d_M_pack_40 : decode prog_6_method_33_code 40 = .ok (.ldc2_w 186, 3) := by decide +kernel
theorem d_M_pack_43 : decode prog_6_method_33_code 43 = .ok (.dcmp .l, 1) := by decide +kernel
theorem d_M_pack_44 : decode prog_6_method_33_code 44 = .ok (.ifCond .lt 53, 3) := by decide +kernel
theorem d_M_pack_47 : decode prog_6_method_33_code 47 = .ok (.dload 6, 2) := by decide +kernel
theorem d_M_pack_49 : decode prog_6_method_33_code 49 = .ok (.ldc2_w 188, 3) := by decide +kernel
theorem d_M_pack_52 : decode prog_6_method_33_code 52 = .ok (.dcmp .g, 1) := by decide +kernel
theorem d_M_pack_53 : decode prog_6_method_33_code 53 = .ok (.ifCond .ge 44, 3) := by decide +kernel
theorem d_M_pack_56 : decode prog_6_method_33_code 56 = .ok (.dload 6, 2) := by decide +kernel
theorem d_M_pack_58 : decode prog_6_method_33_code 58 = .ok (.invokestatic 190, 3) := by decide +kernel
theorem d_M_pack_61 : decode prog_6_method_33_code 61 = .ok (.istore 8, 2) := by decide +kernel
theorem d_M_pack_63 : decode prog_6_method_33_code 63 = .ok (.iload 8, 2) := by decide +kernel
theorem d_M_pack_65 : decode prog_6_method_33_code 65 = .ok (.ifCond .ge 22, 3) := by decide +kernel
theorem d_M_pack_68 : decode prog_6_method_33_code 68 = .ok (.ldc 194, 2) := by decide +kernel
theorem d_M_pack_70 : decode prog_6_method_33_code 70 = .ok (.sipush 2048, 3) := by decide +kernel
theorem d_M_pack_73 : decode prog_6_method_33_code 73 = .ok (.iload 5, 2) := by decide +kernel
theorem d_M_pack_75 : decode prog_6_method_33_code 75 = .ok (.imul, 1) := by decide +kernel
theorem d_M_pack_76 : decode prog_6_method_33_code 76 = .ok (.iadd, 1) := by decide +kernel
theorem d_M_pack_77 : decode prog_6_method_33_code 77 = .ok (.iload 8, 2) := by decide +kernel
theorem d_M_pack_79 : decode prog_6_method_33_code 79 = .ok (.iadd, 1) := by decide +kernel
theorem d_M_pack_80 : decode prog_6_method_33_code 80 = .ok (.sipush 2048, 3) := by decide +kernel
theorem d_M_pack_83 : decode prog_6_method_33_code 83 = .ok (.iadd, 1) := by decide +kernel
theorem d_M_pack_84 : decode prog_6_method_33_code 84 = .ok (.goto 12, 3) := by decide +kernel
theorem d_M_pack_87 : decode prog_6_method_33_code 87 = .ok (.sipush 2048, 3) := by decide +kernel
theorem d_M_pack_90 : decode prog_6_method_33_code 90 = .ok (.iload 5, 2) := by decide +kernel
theorem d_M_pack_92 : decode prog_6_method_33_code 92 = .ok (.imul, 1) := by decide +kernel
theorem d_M_pack_93 : decode prog_6_method_33_code 93 = .ok (.iload 8, 2) := by decide +kernel
theorem d_M_pack_95 : decode prog_6_method_33_code 95 = .ok (.iadd, 1) := by decide +kernel
theorem d_M_pack_96 : decode prog_6_method_33_code 96 = .ok (.ireturn, 1) := by decide +kernel
theorem d_M_pack_97 : decode prog_6_method_33_code 97 = .ok (.dload_n 3, 1) := by decide +kernel
theorem d_M_pack_98 : decode prog_6_method_33_code 98 = .ok (.ldc2_w 195, 3) := by decide +kernel
theorem d_M_pack_101 : decode prog_6_method_33_code 101 = .ok (.dmul, 1) := by decide +kernel
theorem d_M_pack_102 : decode prog_6_method_33_code 102 = .ok (.dstore_n 3, 1) := by decide +kernel
theorem d_M_pack_103 : decode prog_6_method_33_code 103 = .ok (.iinc 5 1, 3) := by decide +kernel
theorem d_M_pack_106 : decode prog_6_method_33_code 106 = .ok (.goto (-88), 3) := by decide +kernel
theorem d_M_pack_109 : decode prog_6_method_33_code 109 = .ok (.dload_n 1, 1) := by decide +kernel
theorem d_M_pack_110 : decode prog_6_method_33_code 110 = .ok (.dconst 0, 1) := by decide +kernel
theorem d_M_pack_111 : decode prog_6_method_33_code 111 = .ok (.dcmp .g, 1) := by decide +kernel
theorem d_M_pack_112 : decode prog_6_method_33_code 112 = .ok (.ifCond .ge 8, 3) := by decide +kernel
theorem d_M_pack_115 : decode prog_6_method_33_code 115 = .ok (.ldc 197, 2) := by decide +kernel
theorem d_M_pack_117 : decode prog_6_method_33_code 117 = .ok (.goto 6, 3) := by decide +kernel
theorem d_M_pack_120 : decode prog_6_method_33_code 120 = .ok (.sipush 32767, 3) := by decide +kernel
theorem d_M_pack_123 : decode prog_6_method_33_code 123 = .ok (.ireturn, 1) := by decide +kernel
def b_M_pack_123 (post : Option Value → Mm → Prop) : Kk := (i_iret post)
theorem t_M_pack_123 {Z : Zt} {X0 : Mm} {post : Option Value → Mm → Prop} (g : Good Z prog_6_method_33_code 9 "BusTelegramsModel" 1) (hq : RetZ Z true X0 0 0 post) (hr : (zM Z).sig.returnType = (some .int)) : Snd Z 9 123 (b_M_pack_123 post) := by
  unfold b_M_pack_123
  exact (s_iret0 g hq hr d_M_pack_123)
def b_M_pack_97 (post : Option Value → Mm → Prop) (k18 : Kk) : Kk := (i_dload 3 (i_push (.double 4611686018427387904) (i_dbin FP.dmul (i_dstore 3 (i_iinc 5 1 k18)))))
theorem t_M_pack_97 {Z : Zt} {X0 : Mm} {post : Option Value → Mm → Prop} {k18 : Kk} (g : Good Z prog_6_method_33_code 9 "BusTelegramsModel" 1) (hq : RetZ Z true X0 0 0 post) (hr : (zM Z).sig.returnType = (some .int)) (hk18 : Snd Z 9 18 k18) : Snd Z 9 97 (b_M_pack_97 post k18) := by
  unfold b_M_pack_97
  exact (s_dload_n g d_M_pack_97 rfl (s_push_ldc2 g mw_791 d_M_pack_98 (s_dmul g d_M_pack_101 (s_dstore_n g (by decide) d_M_pack_102 rfl (s_iinc g (by decide) d_M_pack_103 (by decide) (s_goto g d_M_pack_106 (by decide) hk18))))))
def b_M_pack_96 (post : Option Value → Mm → Prop) : Kk := (i_iret post)
theorem t_M_pack_96 {Z : Zt} {X0 : Mm} {post : Option Value → Mm → Prop} (g : Good Z prog_6_method_33_code 9 "BusTelegramsModel" 1) (hq : RetZ Z true X0 0 0 post) (hr : (zM Z).sig.returnType = (some .int)) : Snd Z 9 96 (b_M_pack_96 post) := by
  unfold b_M_pack_96
  exact (s_iret0 g hq hr d_M_pack_96)
def f_M_pack_18 (post : Option Value → Mm → Prop) (k18 : Kk) : Kk := (i_iload 5 (i_push (.int 16) (i_icmp (fun x y => y ≤ x) (i_dload 1 (i_push (.double FP.dconst0) (i_dcmp .g (i_if (fun x y => y ≤ x) (i_push (.int 32767) (b_M_pack_123 post)) (i_push (.int 63488) (b_M_pack_123 post)))))) (i_push (.double 4636737291354636288) (i_dload 1 (i_dbin FP.dmul (i_dload 3 (i_dbin FP.ddiv (i_push (.double 4602678819172646912) (i_dbin FP.dadd (i_dstore 6 (i_dload 6 (i_push (.double 13880094051555868672) (i_dcmp .l (i_if (fun x y => x < y) (b_M_pack_97 post k18) (i_dload 6 (i_push (.double 4656722014701092864) (i_dcmp .g (i_if (fun x y => y ≤ x) (b_M_pack_97 post k18) (i_dload 6 (i_callS 1 w_M_whole (i_istore 8 (i_iload 8 (i_if (fun x y => y ≤ x) (i_push (.int 2048) (i_iload 5 (i_bin (fun x y => x * y) (i_iload 8 (i_bin (fun x y => x + y) (b_M_pack_96 post)))))) (i_push (.int 32768) (i_push (.int 2048) (i_iload 5 (i_bin (fun x y => x * y) (i_bin (fun x y => x + y) (i_iload 8 (i_bin (fun x y => x + y) (i_push (.int 2048) (i_bin (fun x y => x + y) (b_M_pack_96 post))))))))))))))))))))))))))))))))))
def b_M_pack_18 (post : Option Value → Mm → Prop) : Kk := i_loop [0, 1, 3, 5] (f_M_pack_18 post)
theorem t_M_pack_18 {Z : Zt} {X0 : Mm} {post : Option Value → Mm → Prop} (g : Good Z prog_6_method_33_code 9 "BusTelegramsModel" 1) (hq : RetZ Z true X0 0 0 post) (hr : (zM Z).sig.returnType = (some .int)) : Snd Z 9 18 (b_M_pack_18 post) := by
  unfold b_M_pack_18
  exact s_loop (fun k18 hk18 => by unfold f_M_pack_18; exact (s_iload g d_M_pack_18 (s_push_bipush g d_M_pack_20 (by decide) (s_icmp_ge g d_M_pack_22 (by decide) (s_dload_n g d_M_pack_109 rfl (s_push_dconst0 g d_M_pack_110 (s_dcmp g d_M_pack_111 (s_if_ge g d_M_pack_112 (by decide) (s_push_sipush g d_M_pack_120 (by decide) (t_M_pack_123 g hq hr)) (s_push_ldc g mw_792 d_M_pack_115 (s_goto g d_M_pack_117 (by decide) (t_M_pack_123 g hq hr))))))) (s_push_ldc2 g mw_783 d_M_pack_25 (s_dload_n g d_M_pack_28 rfl (s_dmul g d_M_pack_29 (s_dload_n g d_M_pack_30 rfl (s_ddiv g d_M_pack_31 (s_push_ldc2 g mw_784 d_M_pack_32 (s_dadd g d_M_pack_35 (s_dstore g (by decide) d_M_pack_36 (s_dload g d_M_pack_38 (s_push_ldc2 g mw_785 d_M_pack_40 (s_dcmp g d_M_pack_43 (s_if_lt g d_M_pack_44 (by decide) (t_M_pack_97 g hq hr hk18) (s_dload g d_M_pack_47 (s_push_ldc2 g mw_786 d_M_pack_49 (s_dcmp g d_M_pack_52 (s_if_ge g d_M_pack_53 (by decide) (t_M_pack_97 g hq hr hk18) (s_dload g d_M_pack_56 (s_callS g (C_M_whole (zl Z)) (gin_S mw_787 mw_788 mw_5 mw_789) hd_M_whole (by decide) (by decide) d_M_pack_58 (s_istore g (by decide) d_M_pack_61 (s_iload g d_M_pack_63 (s_if_ge g d_M_pack_65 (by decide) (s_push_sipush g d_M_pack_87 (by decide) (s_iload g d_M_pack_90 (s_imul g d_M_pack_92 (s_iload g d_M_pack_93 (s_iadd g d_M_pack_95 (t_M_pack_96 g hq hr)))))) (s_push_ldc g mw_790 d_M_pack_68 (s_push_sipush g d_M_pack_70 (by decide) (s_iload g d_M_pack_73 (s_imul g d_M_pack_75 (s_iadd g d_M_pack_76 (s_iload g d_M_pack_77 (s_iadd g d_M_pack_79 (s_push_sipush g d_M_pack_80 (by decide) (s_iadd g d_M_pack_83 (s_goto g d_M_pack_84 (by decide) (t_M_pack_96 g hq hr))))))))))))))))))))))))))))))))))))
def b_M_pack_0 (post : Option Value → Mm → Prop) : Kk := (i_aload 0 (i_push (.int 0) (i_putI 4 0 (i_dload 1 (i_dload 1 (i_dcmp .l (i_if (fun x y => x = y) (i_push (.double FP.dconst1) (i_dstore 3 (i_push (.int 0) (i_istore 5 (b_M_pack_18 post))))) (i_push (.int 0) (i_iret post)))))))))
theorem t_M_pack_0 {Z : Zt} {X0 : Mm} {post : Option Value → Mm → Prop} (g : Good Z prog_6_method_33_code 9 "BusTelegramsModel" 1) (hq : RetZ Z true X0 0 0 post) (hr : (zM Z).sig.returnType = (some .int)) : Snd Z 9 0 (b_M_pack_0 post) := by
  unfold b_M_pack_0
  exact (s_aload_n g d_M_pack_0 rfl (s_push_iconst g d_M_pack_1 (by decide) (s_putI g (c := 4) (j := 0) cok_4 (by decide) rfl rfl rfl mw_554 rfl d_M_pack_2 (s_dload_n g d_M_pack_5 rfl (s_dload_n g d_M_pack_6 rfl (s_dcmp g d_M_pack_7 (s_if_eq g d_M_pack_8 (by decide) (s_push_dconst1 g d_M_pack_13 (s_dstore_n g (by decide) d_M_pack_14 rfl (s_push_iconst g d_M_pack_15 (by decide) (s_istore g (by decide) d_M_pack_16 (t_M_pack_18 g hq hr))))) (s_push_iconst g d_M_pack_11 (by decide) (s_iret0 g hq hr d_M_pack_12)))))))))
def w_M_pack : Wp := wpOf 9 (fun _ post => b_M_pack_0 post)
theorem C_M_pack (l : Launch) : MetS l ({ cls := "BusTelegramsModel", name := "pack", desc := "(D)I" } : Jvm.MethodName) prog_6_method_33_code 9 (some .int) true 1 0 0 w_M_pack := metS_of (by decide +kernel) (fun Z X0 post hZ g hq hr _ => t_M_pack_0 g hq hr)
theorem hd_M_pack : (({ cls := "BusTelegramsModel", name := "pack", desc := "(D)I" } : Jvm.MethodName)).cls = "BusTelegramsModel" ∧ (({ cls := "BusTelegramsModel", name := "pack", desc := "(D)I" } : Jvm.MethodName)).cls ≠ "java/lang/invoke/MethodHandle" ∧ (({ cls := "BusTelegramsModel", name := "pack", desc := "(D)I" } : Jvm.MethodName)).cls ≠ "java/lang/invoke/VarHandle" ∧ (parseMethodDescriptor (({ cls := "BusTelegramsModel", name := "pack", desc := "(D)I" } : Jvm.MethodName)).desc).map (fun d => d.parameters.length) = some 1 := ⟨rfl, by decide, by decide, by decide +kernel⟩
theorem d_M_unpack_0 : decode prog_6_method_34_code 0 = .ok (.aload_n 0, 1) := by decide +kernel
theorem d_M_unpack_1 : decode prog_6_method_34_code 1 = .ok (.iload_n 1, 1) := by decide +kernel
theorem d_M_unpack_2 : decode prog_6_method_34_code 2 = .ok (.iconst 0, 1) := by decide +kernel
theorem d_M_unpack_3 : decode prog_6_method_34_code 3 = .ok (.ldc 77, 2) := by decide +kernel
theorem d_M_unpack_5 : decode prog_6_method_34_code 5 = .ok (.invokestatic 73, 3) := by decide +kernel
theorem d_M_unpack_8 : decode prog_6_method_34_code 8 = .ok (.ifCond .eq 7, 3) := by decide +kernel
theorem d_M_unpack_11 : decode prog_6_method_34_code 11 = .ok (.iconst 0, 1) := by decide +kernel
theorem d_M_unpack_12 : decode prog_6_method_34_code 12 = .ok (.goto 4, 3) := by decide +kernel
theorem d_M_unpack_15 : decode prog_6_method_34_code 15 = .ok (.iconst 1, 1) := by decide +kernel
theorem d_M_unpack_16 : decode prog_6_method_34_code 16 = .ok (.putfield 70, 3) := by decide +kernel
theorem d_M_unpack_19 : decode prog_6_method_34_code 19 = .ok (.aload_n 0, 1) := by decide +kernel
theorem d_M_unpack_20 : decode prog_6_method_34_code 20 = .ok (.getfield 70, 3) := by decide +kernel
theorem d_M_unpack_23 : decode prog_6_method_34_code 23 = .ok (.ifCond .le 5, 3) := by decide +kernel
theorem d_M_unpack_26 : decode prog_6_method_34_code 26 = .ok (.dconst 0, 1) := by decide +kernel
theorem d_M_unpack_27 : decode prog_6_method_34_code 27 = .ok (.dreturn, 1) := by decide +kernel
theorem d_M_unpack_28 : decode prog_6_method_34_code 28 = .ok (.iload_n 1, 1) := by decide +kernel
theorem d_M_unpack_29 : decode prog_6_method_34_code 29 = .ok (.sipush 2048, 3) := by decide +kernel
theorem d_M_unpack_32 : decode prog_6_method_34_code 32 = .ok (.irem, 1) := by decide +kernel
theorem d_M_unpack_33 : decode prog_6_method_34_code 33 = .ok (.iload_n 1, 1) := by decide +kernel
theorem d_M_unpack_34 : decode prog_6_method_34_code 34 = .ok (.ldc 194, 2) := by decide +kernel
theorem d_M_unpack_36 : decode prog_6_method_34_code 36 = .ok (.if_icmp .lt 9, 3) := by decide +kernel
theorem d_M_unpack_39 : decode prog_6_method_34_code 39 = .ok (.sipush 2048, 3) := by decide +kernel
theorem d_M_unpack_42 : decode prog_6_method_34_code 42 = .ok (.goto 4, 3) := by decide +kernel
theorem d_M_unpack_45 : decode prog_6_method_34_code 45 = .ok (.iconst 0, 1) := by decide +kernel
theorem d_M_unpack_46 : decode prog_6_method_34_code 46 = .ok (.isub, 1) := by decide +kernel
theorem d_M_unpack_47 : decode prog_6_method_34_code 47 = .ok (.istore_n 2, 1) := by decide +kernel
theorem d_M_unpack_48 : decode prog_6_method_34_code 48 = .ok (.iconst 1, 1) := by decide +kernel
theorem d_M_unpack_49 : decode prog_6_method_34_code 49 = .ok (.iload_n 1, 1) := by decide +kernel
theorem d_M_unpack_50 : decode prog_6_method_34_code 50 = .ok (.sipush 2048, 3) := by decide +kernel
theorem d_M_unpack_53 : decode prog_6_method_34_code 53 = .ok (.idiv, 1) := by decide +kernel
theorem d_M_unpack_54 : decode prog_6_method_34_code 54 = .ok (.bipush 16, 2) := by decide +kernel
theorem d_M_unpack_56 : decode prog_6_method_34_code 56 = .ok (.irem, 1) := by decide +kernel
theorem d_M_unpack_57 : decode prog_6_method_34_code 57 = .ok (.ishl, 1) := by decide +kernel
theorem d_M_unpack_58 : decode prog_6_method_34_code 58 = .ok (.istore_n 3, 1) := by decide +kernel
theorem d_M_unpack_59 : decode prog_6_method_34_code 59 = .ok (.iload_n 2, 1) := by decide +kernel
theorem d_M_unpack_60 : decode prog_6_method_34_code 60 = .ok (.iload_n 3, 1) := by decide +kernel
theorem d_M_unpack_61 : decode prog_6_method_34_code 61 = .ok (.imul, 1) := by decide +kernel
theorem d_M_unpack_62 : decode prog_6_method_34_code 62 = .ok (.i2d, 1) := by decide +kernel
theorem d_M_unpack_63 : decode prog_6_method_34_code 63 = .ok (.ldc2_w 182, 3) := by decide +kernel
theorem d_M_unpack_66 : decode prog_6_method_34_code 66 = .ok (.ddiv, 1) := by decide +kernel
theorem d_M_unpack_67 : decode prog_6_method_34_code 67 = .ok (.dreturn, 1) := by decide +kernel
def b_M_unpack_46 (post : Option Value → Mm → Prop) : Kk := (i_bin (fun x y => x - y) (i_istore 2 (i_push (.int 1) (i_iload 1 (i_push (.int 2048) (i_binz (fun x y => x / y) (i_push (.int 16) (i_binz (fun x y => x - x / y * y) (i_bin (fun x y => x <<< (y &&& 31)) (i_istore 3 (i_iload 2 (i_iload 3 (i_bin (fun x y => x * y) (i_i2d (i_push (.double 4636737291354636288) (i_dbin FP.ddiv (i_dret post)))))))))))))))))
theorem t_M_unpack_46 {Z : Zt} {X0 : Mm} {post : Option Value → Mm → Prop} (g : Good Z prog_6_method_34_code 4 "BusTelegramsModel" 1) (hq : RetZ Z true X0 0 0 post) (hr : (zM Z).sig.returnType = (some .double)) : Snd Z 4 46 (b_M_unpack_46 post) := by
  unfold b_M_unpack_46
  exact (s_isub g d_M_unpack_46 (s_istore_n g (by decide) d_M_unpack_47 rfl (s_push_iconst g d_M_unpack_48 (by decide) (s_iload_n g d_M_unpack_49 rfl (s_push_sipush g d_M_unpack_50 (by decide) (s_idiv g d_M_unpack_53 (s_push_bipush g d_M_unpack_54 (by decide) (s_irem g d_M_unpack_56 (s_ishl g d_M_unpack_57 (s_istore_n g (by decide) d_M_unpack_58 rfl (s_iload_n g d_M_unpack_59 rfl (s_iload_n g d_M_unpack_60 rfl (s_imul g d_M_unpack_61 (s_i2d g d_M_unpack_62 (s_push_ldc2 g mw_783 d_M_unpack_63 (s_ddiv g d_M_unpack_66 (s_dret0 g hq hr d_M_unpack_67)))))))))))))))))
def b_M_unpack_16 (post : Option Value → Mm → Prop) : Kk := (i_putI 4 0 (i_aload 0 (i_getI 4 0 (i_if (fun x y => x ≤ y) (i_iload 1 (i_push (.int 2048) (i_binz (fun x y => x - x / y * y) (i_iload 1 (i_push (.int 32768) (i_icmp (fun x y => x < y) (i_push (.int 0) (b_M_unpack_46 post)) (i_push (.int 2048) (b_M_unpack_46 post)))))))) (i_push (.double FP.dconst0) (i_dret post))))))
theorem t_M_unpack_16 {Z : Zt} {X0 : Mm} {post : Option Value → Mm → Prop} (g : Good Z prog_6_method_34_code 4 "BusTelegramsModel" 1) (hq : RetZ Z true X0 0 0 post) (hr : (zM Z).sig.returnType = (some .double)) : Snd Z 4 16 (b_M_unpack_16 post) := by
  unfold b_M_unpack_16
  exact (s_putI g (c := 4) (j := 0) cok_4 (by decide) rfl rfl rfl mw_554 rfl d_M_unpack_16 (s_aload_n g d_M_unpack_19 rfl (s_getI g (c := 4) (j := 0) cok_4 (by decide) rfl mw_554 rfl d_M_unpack_20 (s_if_le g d_M_unpack_23 (by decide) (s_iload_n g d_M_unpack_28 rfl (s_push_sipush g d_M_unpack_29 (by decide) (s_irem g d_M_unpack_32 (s_iload_n g d_M_unpack_33 rfl (s_push_ldc g mw_790 d_M_unpack_34 (s_icmp_lt g d_M_unpack_36 (by decide) (s_push_iconst g d_M_unpack_45 (by decide) (t_M_unpack_46 g hq hr)) (s_push_sipush g d_M_unpack_39 (by decide) (s_goto g d_M_unpack_42 (by decide) (t_M_unpack_46 g hq hr))))))))) (s_push_dconst0 g d_M_unpack_26 (s_dret0 g hq hr d_M_unpack_27))))))
def b_M_unpack_0 (post : Option Value → Mm → Prop) : Kk := (i_aload 0 (i_iload 1 (i_push (.int 0) (i_push (.int 65535) (i_callS 3 w_M_isIn (i_if (fun x y => x = y) (i_push (.int 1) (b_M_unpack_16 post)) (i_push (.int 0) (b_M_unpack_16 post))))))))
theorem t_M_unpack_0 {Z : Zt} {X0 : Mm} {post : Option Value → Mm → Prop} (g : Good Z prog_6_method_34_code 4 "BusTelegramsModel" 1) (hq : RetZ Z true X0 0 0 post) (hr : (zM Z).sig.returnType = (some .double)) : Snd Z 4 0 (b_M_unpack_0 post) := by
  unfold b_M_unpack_0
  exact (s_aload_n g d_M_unpack_0 rfl (s_iload_n g d_M_unpack_1 rfl (s_push_iconst g d_M_unpack_2 (by decide) (s_push_ldc g mw_671 d_M_unpack_3 (s_callS g (C_M_isIn (zl Z)) (gin_S mw_668 mw_669 mw_5 mw_670) hd_M_isIn (by decide) (by decide) d_M_unpack_5 (s_if_eq g d_M_unpack_8 (by decide) (s_push_iconst g d_M_unpack_15 (by decide) (t_M_unpack_16 g hq hr)) (s_push_iconst g d_M_unpack_11 (by decide) (s_goto g d_M_unpack_12 (by decide) (t_M_unpack_16 g hq hr)))))))))
def w_M_unpack : Wp := wpOf 4 (fun _ post => b_M_unpack_0 post)
theorem C_M_unpack (l : Launch) : MetS l ({ cls := "BusTelegramsModel", name := "unpack", desc := "(I)D" } : Jvm.MethodName) prog_6_method_34_code 4 (some .double) true 1 0 0 w_M_unpack := metS_of (by decide +kernel) (fun Z X0 post hZ g hq hr _ => t_M_unpack_0 g hq hr)
theorem hd_M_unpack : (({ cls := "BusTelegramsModel", name := "unpack", desc := "(I)D" } : Jvm.MethodName)).cls = "BusTelegramsModel" ∧ (({ cls := "BusTelegramsModel", name := "unpack", desc := "(I)D" } : Jvm.MethodName)).cls ≠ "java/lang/invoke/MethodHandle" ∧ (({ cls := "BusTelegramsModel", name := "unpack", desc := "(I)D" } : Jvm.MethodName)).cls ≠ "java/lang/invoke/VarHandle" ∧ (parseMethodDescriptor (({ cls := "BusTelegramsModel", name := "unpack", desc := "(I)D" } : Jvm.MethodName)).desc).map (fun d => d.parameters.length) = some 1 := ⟨rfl, by decide, by decide, by decide +kernel⟩
theorem d_M_send_0 : decode prog_6_method_8_code 0 = .ok (.aload_n 0, 1) := by decide +kernel
theorem d_M_send_1 : decode prog_6_method_8_code 1 = .ok (.iload_n 1, 1) := by decide +kernel
theorem d_M_send_2 : decode prog_6_method_8_code 2 = .ok (.iload_n 2, 1) := by decide +kernel
theorem d_M_send_3 : decode prog_6_method_8_code 3 = .ok (.iload_n 3, 1) := by decide +kernel
theorem d_M_send_4 : decode prog_6_method_8_code 4 = .ok (.iload 4, 2) := by decide +kernel
theorem d_M_send_6 : decode prog_6_method_8_code 6 = .ok (.iload 5, 2) := by decide +kernel
theorem d_M_send_8 : decode prog_6_method_8_code 8 = .ok (.invokestatic 78, 3) := by decide +kernel
theorem d_M_send_11 : decode prog_6_method_8_code 11 = .ok (.ifCond .eq 15, 3) := by decide +kernel
theorem d_M_send_14 : decode prog_6_method_8_code 14 = .ok (.iload 6, 2) := by decide +kernel
theorem d_M_send_16 : decode prog_6_method_8_code 16 = .ok (.iconst 0, 1) := by decide +kernel
theorem d_M_send_17 : decode prog_6_method_8_code 17 = .ok (.sipush 255, 3) := by decide +kernel
theorem d_M_send_20 : decode prog_6_method_8_code 20 = .ok (.invokestatic 73, 3) := by decide +kernel
theorem d_M_send_23 : decode prog_6_method_8_code 23 = .ok (.ifCond .ne 7, 3) := by decide +kernel
theorem d_M_send_26 : decode prog_6_method_8_code 26 = .ok (.iconst 1, 1) := by decide +kernel
theorem d_M_send_27 : decode prog_6_method_8_code 27 = .ok (.goto 19, 3) := by decide +kernel
theorem d_M_send_30 : decode prog_6_method_8_code 30 = .ok (.aload_n 0, 1) := by decide +kernel
theorem d_M_send_31 : decode prog_6_method_8_code 31 = .ok (.getfield 25, 3) := by decide +kernel
theorem d_M_send_34 : decode prog_6_method_8_code 34 = .ok (.iload_n 1, 1) := by decide +kernel
theorem d_M_send_35 : decode prog_6_method_8_code 35 = .ok (.iaload, 1) := by decide +kernel
theorem d_M_send_36 : decode prog_6_method_8_code 36 = .ok (.bipush 6, 2) := by decide +kernel
theorem d_M_send_38 : decode prog_6_method_8_code 38 = .ok (.if_icmp .ne 7, 3) := by decide +kernel
theorem d_M_send_41 : decode prog_6_method_8_code 41 = .ok (.iconst 2, 1) := by decide +kernel
theorem d_M_send_42 : decode prog_6_method_8_code 42 = .ok (.goto 4, 3) := by decide +kernel
theorem d_M_send_45 : decode prog_6_method_8_code 45 = .ok (.iconst 0, 1) := by decide +kernel
theorem d_M_send_46 : decode prog_6_method_8_code 46 = .ok (.putfield 70, 3) := by decide +kernel
theorem d_M_send_49 : decode prog_6_method_8_code 49 = .ok (.aload_n 0, 1) := by decide +kernel
theorem d_M_send_50 : decode prog_6_method_8_code 50 = .ok (.getfield 70, 3) := by decide +kernel
theorem d_M_send_53 : decode prog_6_method_8_code 53 = .ok (.ifCond .le 5, 3) := by decide +kernel
theorem d_M_send_56 : decode prog_6_method_8_code 56 = .ok (.iconst 0, 1) := by decide +kernel
theorem d_M_send_57 : decode prog_6_method_8_code 57 = .ok (.ireturn, 1) := by decide +kernel
theorem d_M_send_58 : decode prog_6_method_8_code 58 = .ok (.bipush 36, 2) := by decide +kernel
theorem d_M_send_60 : decode prog_6_method_8_code 60 = .ok (.iload_n 1, 1) := by decide +kernel
theorem d_M_send_61 : decode prog_6_method_8_code 61 = .ok (.imul, 1) := by decide +kernel
theorem d_M_send_62 : decode prog_6_method_8_code 62 = .ok (.bipush 6, 2) := by decide +kernel
theorem d_M_send_64 : decode prog_6_method_8_code 64 = .ok (.aload_n 0, 1) := by decide +kernel
theorem d_M_send_65 : decode prog_6_method_8_code 65 = .ok (.getfield 25, 3) := by decide +kernel
theorem d_M_send_68 : decode prog_6_method_8_code 68 = .ok (.iload_n 1, 1) := by decide +kernel
theorem d_M_send_69 : decode prog_6_method_8_code 69 = .ok (.iaload, 1) := by decide +kernel
theorem d_M_send_70 : decode prog_6_method_8_code 70 = .ok (.imul, 1) := by decide +kernel
theorem d_M_send_71 : decode prog_6_method_8_code 71 = .ok (.iadd, 1) := by decide +kernel
theorem d_M_send_72 : decode prog_6_method_8_code 72 = .ok (.istore 7, 2) := by decide +kernel
theorem d_M_send_74 : decode prog_6_method_8_code 74 = .ok (.aload_n 0, 1) := by decide +kernel
theorem d_M_send_75 : decode prog_6_method_8_code 75 = .ok (.getfield 28, 3) := by decide +kernel
theorem d_M_send_78 : decode prog_6_method_8_code 78 = .ok (.iload 7, 2) := by decide +kernel
theorem d_M_send_80 : decode prog_6_method_8_code 80 = .ok (.iload_n 2, 1) := by decide +kernel
theorem d_M_send_81 : decode prog_6_method_8_code 81 = .ok (.iastore, 1) := by decide +kernel
theorem d_M_send_82 : decode prog_6_method_8_code 82 = .ok (.aload_n 0, 1) := by decide +kernel
theorem d_M_send_83 : decode prog_6_method_8_code 83 = .ok (.getfield 28, 3) := by decide +kernel
theorem d_M_send_86 : decode prog_6_method_8_code 86 = .ok (.iload 7, 2) := by decide +kernel
theorem d_M_send_88 : decode prog_6_method_8_code 88 = .ok (.iconst 1, 1) := by decide +kernel
theorem d_M_send_89 : decode prog_6_method_8_code 89 = .ok (.iadd, 1) := by decide +kernel
theorem d_M_send_90 : decode prog_6_method_8_code 90 = .ok (.aload_n 0, 1) := by decide +kernel
theorem d_M_send_91 : decode prog_6_method_8_code 91 = .ok (.getfield 14, 3) := by decide +kernel
theorem d_M_send_94 : decode prog_6_method_8_code 94 = .ok (.iload_n 1, 1) := by decide +kernel
theorem d_M_send_95 : decode prog_6_method_8_code 95 = .ok (.iaload, 1) := by decide +kernel
theorem d_M_send_96 : decode prog_6_method_8_code 96 = .ok (.iastore, 1) := by decide +kernel
theorem d_M_send_97 : decode prog_6_method_8_code 97 = .ok (.aload_n 0, 1) := by decide +kernel
theorem d_M_send_98 : decode prog_6_method_8_code 98 = .ok (.getfield 28, 3) := by decide +kernel
theorem d_M_send_101 : decode prog_6_method_8_code 101 = .ok (.iload 7, 2) := by decide +kernel
theorem d_M_send_103 : decode prog_6_method_8_code 103 = .ok (.iconst 2, 1) := by decide +kernel
theorem d_M_send_104 : decode prog_6_method_8_code 104 = .ok (.iadd, 1) := by decide +kernel
theorem d_M_send_105 : decode prog_6_method_8_code 105 = .ok (.iload_n 3, 1) := by decide +kernel
theorem d_M_send_106 : decode prog_6_method_8_code 106 = .ok (.iastore, 1) := by decide +kernel
theorem d_M_send_107 : decode prog_6_method_8_code 107 = .ok (.aload_n 0, 1) := by decide +kernel
theorem d_M_send_108 : decode prog_6_method_8_code 108 = .ok (.getfield 28, 3) := by decide +kernel
theorem d_M_send_111 : decode prog_6_method_8_code 111 = .ok (.iload 7, 2) := by decide +kernel
theorem d_M_send_113 : decode prog_6_method_8_code 113 = .ok (.iconst 3, 1) := by decide +kernel
theorem d_M_send_114 : decode prog_6_method_8_code 114 = .ok (.iadd, 1) := by decide +kernel
theorem d_M_send_115 : decode prog_6_method_8_code 115 = .ok (.iload 4, 2) := by decide +kernel
theorem d_M_send_117 : decode prog_6_method_8_code 117 = .ok (.ifCond .eq 9, 3) := by decide +kernel
theorem d_M_send_120 : decode prog_6_method_8_code 120 = .ok (.sipush 128, 3) := by decide +kernel
theorem d_M_send_123 : decode prog_6_method_8_code 123 = .ok (.goto 4, 3) := by decide +kernel
theorem d_M_send_126 : decode prog_6_method_8_code 126 = .ok (.iconst 0, 1) := by decide +kernel
theorem d_M_send_127 : decode prog_6_method_8_code 127 = .ok (.iload 5, 2) := by decide +kernel
theorem d_M_send_129 : decode prog_6_method_8_code 129 = .ok (.iadd, 1) := by decide +kernel
theorem d_M_send_130 : decode prog_6_method_8_code 130 = .ok (.iconst 1, 1) := by decide +kernel
theorem d_M_send_131 : decode prog_6_method_8_code 131 = .ok (.isub, 1) := by decide +kernel
theorem d_M_send_132 : decode prog_6_method_8_code 132 = .ok (.iastore, 1) := by decide +kernel
theorem d_M_send_133 : decode prog_6_method_8_code 133 = .ok (.aload_n 0, 1) := by decide +kernel
theorem d_M_send_134 : decode prog_6_method_8_code 134 = .ok (.getfield 28, 3) := by decide +kernel
theorem d_M_send_137 : decode prog_6_method_8_code 137 = .ok (.iload 7, 2) := by decide +kernel
theorem d_M_send_139 : decode prog_6_method_8_code 139 = .ok (.iconst 4, 1) := by decide +kernel
theorem d_M_send_140 : decode prog_6_method_8_code 140 = .ok (.iadd, 1) := by decide +kernel
theorem d_M_send_141 : decode prog_6_method_8_code 141 = .ok (.iload 6, 2) := by decide +kernel
theorem d_M_send_143 : decode prog_6_method_8_code 143 = .ok (.iastore, 1) := by decide +kernel
theorem d_M_send_144 : decode prog_6_method_8_code 144 = .ok (.aload_n 0, 1) := by decide +kernel
theorem d_M_send_145 : decode prog_6_method_8_code 145 = .ok (.getfield 28, 3) := by decide +kernel
theorem d_M_send_148 : decode prog_6_method_8_code 148 = .ok (.iload 7, 2) := by decide +kernel
theorem d_M_send_150 : decode prog_6_method_8_code 150 = .ok (.iconst 5, 1) := by decide +kernel
theorem d_M_send_151 : decode prog_6_method_8_code 151 = .ok (.iadd, 1) := by decide +kernel
theorem d_M_send_152 : decode prog_6_method_8_code 152 = .ok (.iconst 0, 1) := by decide +kernel
theorem d_M_send_153 : decode prog_6_method_8_code 153 = .ok (.iastore, 1) := by decide +kernel
theorem d_M_send_154 : decode prog_6_method_8_code 154 = .ok (.aload_n 0, 1) := by decide +kernel
theorem d_M_send_155 : decode prog_6_method_8_code 155 = .ok (.getfield 25, 3) := by decide +kernel
theorem d_M_send_158 : decode prog_6_method_8_code 158 = .ok (.iload_n 1, 1) := by decide +kernel
theorem d_M_send_159 : decode prog_6_method_8_code 159 = .ok (.dup2, 1) := by decide +kernel
theorem d_M_send_160 : decode prog_6_method_8_code 160 = .ok (.iaload, 1) := by decide +kernel
theorem d_M_send_161 : decode prog_6_method_8_code 161 = .ok (.iconst 1, 1) := by decide +kernel
theorem d_M_send_162 : decode prog_6_method_8_code 162 = .ok (.iadd, 1) := by decide +kernel
theorem d_M_send_163 : decode prog_6_method_8_code 163 = .ok (.iastore, 1) := by decide +kernel
theorem d_M_send_164 : decode prog_6_method_8_code 164 = .ok (.aload_n 0, 1) := by decide +kernel
theorem d_M_send_165 : decode prog_6_method_8_code 165 = .ok (.getfield 25, 3) := by decide +kernel
theorem d_M_send_168 : decode prog_6_method_8_code 168 = .ok (.iload_n 1, 1) := by decide +kernel
theorem d_M_send_169 : decode prog_6_method_8_code 169 = .ok (.iaload, 1) := by decide +kernel
theorem d_M_send_170 : decode prog_6_method_8_code 170 = .ok (.ireturn, 1) := by decide +kernel
def b_M_send_127 (post : Option Value → Mm → Prop) : Kk := (i_iload 5 (i_bin (fun x y => x + y) (i_push (.int 1) (i_bin (fun x y => x - y) (i_ast (i_aload 0 (i_getR 4 7 (i_iload 7 (i_push (.int 4) (i_bin (fun x y => x + y) (i_iload 6 (i_ast (i_aload 0 (i_getR 4 7 (i_iload 7 (i_push (.int 5) (i_bin (fun x y => x + y) (i_push (.int 0) (i_ast (i_aload 0 (i_getR 4 6 (i_iload 1 (i_dup2 (i_ald 10 (i_push (.int 1) (i_bin (fun x y => x + y) (i_ast (i_aload 0 (i_getR 4 6 (i_iload 1 (i_ald 10 (i_iret post))))))))))))))))))))))))))))))))
theorem t_M_send_127 {Z : Zt} {X0 : Mm} {post : Option Value → Mm → Prop} (g : Good Z prog_6_method_8_code 8 "BusTelegramsModel" 2) (hq : RetZ Z true X0 0 0 post) (hr : (zM Z).sig.returnType = (some .int)) : Snd Z 8 127 (b_M_send_127 post) := by
  unfold b_M_send_127
  exact (s_iload g d_M_send_127 (s_iadd g d_M_send_129 (s_push_iconst g d_M_send_130 (by decide) (s_isub g d_M_send_131 (s_iast g d_M_send_132 (s_aload_n g d_M_send_133 rfl (s_getR g (c := 4) (j := 7) cok_4 (by decide) rfl mw_561 rfl d_M_send_134 (s_iload g d_M_send_137 (s_push_iconst g d_M_send_139 (by decide) (s_iadd g d_M_send_140 (s_iload g d_M_send_141 (s_iast g d_M_send_143 (s_aload_n g d_M_send_144 rfl (s_getR g (c := 4) (j := 7) cok_4 (by decide) rfl mw_561 rfl d_M_send_145 (s_iload g d_M_send_148 (s_push_iconst g d_M_send_150 (by decide) (s_iadd g d_M_send_151 (s_push_iconst g d_M_send_152 (by decide) (s_iast g d_M_send_153 (s_aload_n g d_M_send_154 rfl (s_getR g (c := 4) (j := 6) cok_4 (by decide) rfl mw_560 rfl d_M_send_155 (s_iload_n g d_M_send_158 rfl (s_dup2 g d_M_send_159 (s_iald g d_M_send_160 (s_push_iconst g d_M_send_161 (by decide) (s_iadd g d_M_send_162 (s_iast g d_M_send_163 (s_aload_n g d_M_send_164 rfl (s_getR g (c := 4) (j := 6) cok_4 (by decide) rfl mw_560 rfl d_M_send_165 (s_iload_n g d_M_send_168 rfl (s_iald g d_M_send_169 (s_iret0 g hq hr d_M_send_170))))))))))))))))))))))))))))))))
def b_M_send_46 (post : Option Value → Mm → Prop) : Kk := (i_putI 4 0 (i_aload 0 (i_getI 4 0 (i_if (fun x y => x ≤ y) (i_push (.int 36) (i_iload 1 (i_bin (fun x y => x * y) (i_push (.int 6) (i_aload 0 (i_getR 4 6 (i_iload 1 (i_ald 10 (i_bin (fun x y => x * y) (i_bin (fun x y => x + y) (i_istore 7 (i_aload 0 (i_getR 4 7 (i_iload 7 (i_iload 2 (i_ast (i_aload 0 (i_getR 4 7 (i_iload 7 (i_push (.int 1) (i_bin (fun x y => x + y) (i_aload 0 (i_getR 4 3 (i_iload 1 (i_ald 10 (i_ast (i_aload 0 (i_getR 4 7 (i_iload 7 (i_push (.int 2) (i_bin (fun x y => x + y) (i_iload 3 (i_ast (i_aload 0 (i_getR 4 7 (i_iload 7 (i_push (.int 3) (i_bin (fun x y => x + y) (i_iload 4 (i_if (fun x y => x = y) (i_push (.int 0) (b_M_send_127 post)) (i_push (.int 128) (b_M_send_127 post)))))))))))))))))))))))))))))))))))))))))) (i_push (.int 0) (i_iret post))))))
theorem t_M_send_46 {Z : Zt} {X0 : Mm} {post : Option Value → Mm → Prop} (g : Good Z prog_6_method_8_code 8 "BusTelegramsModel" 2) (hq : RetZ Z true X0 0 0 post) (hr : (zM Z).sig.returnType = (some .int)) : Snd Z 8 46 (b_M_send_46 post) := by
  unfold b_M_send_46
  exact (s_putI g (c := 4) (j := 0) cok_4 (by decide) rfl rfl rfl mw_554 rfl d_M_send_46 (s_aload_n g d_M_send_49 rfl (s_getI g (c := 4) (j := 0) cok_4 (by decide) rfl mw_554 rfl d_M_send_50 (s_if_le g d_M_send_53 (by decide) (s_push_bipush g d_M_send_58 (by decide) (s_iload_n g d_M_send_60 rfl (s_imul g d_M_send_61 (s_push_bipush g d_M_send_62 (by decide) (s_aload_n g d_M_send_64 rfl (s_getR g (c := 4) (j := 6) cok_4 (by decide) rfl mw_560 rfl d_M_send_65 (s_iload_n g d_M_send_68 rfl (s_iald g d_M_send_69 (s_imul g d_M_send_70 (s_iadd g d_M_send_71 (s_istore g (by decide) d_M_send_72 (s_aload_n g d_M_send_74 rfl (s_getR g (c := 4) (j := 7) cok_4 (by decide) rfl mw_561 rfl d_M_send_75 (s_iload g d_M_send_78 (s_iload_n g d_M_send_80 rfl (s_iast g d_M_send_81 (s_aload_n g d_M_send_82 rfl (s_getR g (c := 4) (j := 7) cok_4 (by decide) rfl mw_561 rfl d_M_send_83 (s_iload g d_M_send_86 (s_push_iconst g d_M_send_88 (by decide) (s_iadd g d_M_send_89 (s_aload_n g d_M_send_90 rfl (s_getR g (c := 4) (j := 3) cok_4 (by decide) rfl mw_557 rfl d_M_send_91 (s_iload_n g d_M_send_94 rfl (s_iald g d_M_send_95 (s_iast g d_M_send_96 (s_aload_n g d_M_send_97 rfl (s_getR g (c := 4) (j := 7) cok_4 (by decide) rfl mw_561 rfl d_M_send_98 (s_iload g d_M_send_101 (s_push_iconst g d_M_send_103 (by decide) (s_iadd g d_M_send_104 (s_iload_n g d_M_send_105 rfl (s_iast g d_M_send_106 (s_aload_n g d_M_send_107 rfl (s_getR g (c := 4) (j := 7) cok_4 (by decide) rfl mw_561 rfl d_M_send_108 (s_iload g d_M_send_111 (s_push_iconst g d_M_send_113 (by decide) (s_iadd g d_M_send_114 (s_iload g d_M_send_115 (s_if_eq g d_M_send_117 (by decide) (s_push_iconst g d_M_send_126 (by decide) (t_M_send_127 g hq hr)) (s_push_sipush g d_M_send_120 (by decide) (s_goto g d_M_send_123 (by decide) (t_M_send_127 g hq hr))))))))))))))))))))))))))))))))))))))))))) (s_push_iconst g d_M_send_56 (by decide) (s_iret0 g hq hr d_M_send_57))))))
def b_M_send_26 (post : Option Value → Mm → Prop) : Kk := (i_push (.int 1) (b_M_send_46 post))
theorem t_M_send_26 {Z : Zt} {X0 : Mm} {post : Option Value → Mm → Prop} (g : Good Z prog_6_method_8_code 8 "BusTelegramsModel" 2) (hq : RetZ Z true X0 0 0 post) (hr : (zM Z).sig.returnType = (some .int)) : Snd Z 8 26 (b_M_send_26 post) := by
  unfold b_M_send_26
  exact (s_push_iconst g d_M_send_26 (by decide) (s_goto g d_M_send_27 (by decide) (t_M_send_46 g hq hr)))
def b_M_send_0 (post : Option Value → Mm → Prop) : Kk := (i_aload 0 (i_iload 1 (i_iload 2 (i_iload 3 (i_iload 4 (i_iload 5 (i_callS 5 w_M_maySend (i_if (fun x y => x = y) (b_M_send_26 post) (i_iload 6 (i_push (.int 0) (i_push (.int 255) (i_callS 3 w_M_isIn (i_if (fun x y => x = y) (b_M_send_26 post) (i_aload 0 (i_getR 4 6 (i_iload 1 (i_ald 10 (i_push (.int 6) (i_icmp (fun x y => x = y) (i_push (.int 2) (b_M_send_46 post)) (i_push (.int 0) (b_M_send_46 post)))))))))))))))))))))
theorem t_M_send_0 {Z : Zt} {X0 : Mm} {post : Option Value → Mm → Prop} (g : Good Z prog_6_method_8_code 8 "BusTelegramsModel" 2) (hq : RetZ Z true X0 0 0 post) (hr : (zM Z).sig.returnType = (some .int)) : Snd Z 8 0 (b_M_send_0 post) := by
  unfold b_M_send_0
  exact (s_aload_n g d_M_send_0 rfl (s_iload_n g d_M_send_1 rfl (s_iload_n g d_M_send_2 rfl (s_iload_n g d_M_send_3 rfl (s_iload g d_M_send_4 (s_iload g d_M_send_6 (s_callS g (C_M_maySend (zl Z)) (gin_S mw_684 mw_685 mw_5 mw_686) hd_M_maySend (by decide) (by decide) d_M_send_8 (s_if_eq g d_M_send_11 (by decide) (t_M_send_26 g hq hr) (s_iload g d_M_send_14 (s_push_iconst g d_M_send_16 (by decide) (s_push_sipush g d_M_send_17 (by decide) (s_callS g (C_M_isIn (zl Z)) (gin_S mw_668 mw_669 mw_5 mw_670) hd_M_isIn (by decide) (by decide) d_M_send_20 (s_if_ne g d_M_send_23 (by decide) (s_aload_n g d_M_send_30 rfl (s_getR g (c := 4) (j := 6) cok_4 (by decide) rfl mw_560 rfl d_M_send_31 (s_iload_n g d_M_send_34 rfl (s_iald g d_M_send_35 (s_push_bipush g d_M_send_36 (by decide) (s_icmp_ne g d_M_send_38 (by decide) (s_push_iconst g d_M_send_45 (by decide) (t_M_send_46 g hq hr)) (s_push_iconst g d_M_send_41 (by decide) (s_goto g d_M_send_42 (by decide) (t_M_send_46 g hq hr))))))))) (t_M_send_26 g hq hr))))))))))))))
def w_M_send : Wp := wpOf 8 (fun _ post => b_M_send_0 post)
theorem C_M_send (l : Launch) : MetS l ({ cls := "BusTelegramsModel", name := "send", desc := "(IIIZII)I" } : Jvm.MethodName) prog_6_method_8_code 8 (some .int) true 2 0 0 w_M_send := metS_of (by decide +kernel) (fun Z X0 post hZ g hq hr _ => t_M_send_0 g hq hr)
theorem hd_M_send : (({ cls := "BusTelegramsModel", name := "send", desc := "(IIIZII)I" } : Jvm.MethodName)).cls = "BusTelegramsModel" ∧ (({ cls := "BusTelegramsModel", name := "send", desc := "(IIIZII)I" } : Jvm.MethodName)).cls ≠ "java/lang/invoke/MethodHandle" ∧ (({ cls := "BusTelegramsModel", name := "send", desc := "(IIIZII)I" } : Jvm.MethodName)).cls ≠ "java/lang/invoke/VarHandle" ∧ (parseMethodDescriptor (({ cls := "BusTelegramsModel", name := "send", desc := "(IIIZII)I" } : Jvm.MethodName)).desc).map (fun d => d.parameters.length) = some 6 := ⟨rfl, by decide, by decide, by decide +kernel⟩
theorem d_M_said_0 : decode prog_6_method_14_code 0 = .ok (.aload_n 0, 1) := by decide +kernel
theorem d_M_said_1 : decode prog_6_method_14_code 1 = .ok (.getfield 31, 3) := by decide +kernel
theorem d_M_said_4 : decode prog_6_method_14_code 4 = .ok (.iload_n 1, 1) := by decide +kernel
theorem d_M_said_5 : decode prog_6_method_14_code 5 = .ok (.iaload, 1) := by decide +kernel
theorem d_M_said_6 : decode prog_6_method_14_code 6 = .ok (.bipush 13, 2) := by decide +kernel
theorem d_M_said_8 : decode prog_6_method_14_code 8 = .ok (.irem, 1) := by decide +kernel
theorem d_M_said_9 : decode prog_6_method_14_code 9 = .ok (.bipush 10, 2) := by decide +kernel
theorem d_M_said_11 : decode prog_6_method_14_code 11 = .ok (.if_icmp .le 7, 3) := by decide +kernel
theorem d_M_said_14 : decode prog_6_method_14_code 14 = .ok (.iconst 1, 1) := by decide +kernel
theorem d_M_said_15 : decode prog_6_method_14_code 15 = .ok (.goto 29, 3) := by decide +kernel
theorem d_M_said_18 : decode prog_6_method_14_code 18 = .ok (.aload_n 0, 1) := by decide +kernel
theorem d_M_said_19 : decode prog_6_method_14_code 19 = .ok (.iload_n 1, 1) := by decide +kernel
theorem d_M_said_20 : decode prog_6_method_14_code 20 = .ok (.aload_n 0, 1) := by decide +kernel
theorem d_M_said_21 : decode prog_6_method_14_code 21 = .ok (.getfield 31, 3) := by decide +kernel
theorem d_M_said_24 : decode prog_6_method_14_code 24 = .ok (.iload_n 1, 1) := by decide +kernel
theorem d_M_said_25 : decode prog_6_method_14_code 25 = .ok (.iaload, 1) := by decide +kernel
theorem d_M_said_26 : decode prog_6_method_14_code 26 = .ok (.bipush 13, 2) := by decide +kernel
theorem d_M_said_28 : decode prog_6_method_14_code 28 = .ok (.idiv, 1) := by decide +kernel
theorem d_M_said_29 : decode prog_6_method_14_code 29 = .ok (.invokevirtual 96, 3) := by decide +kernel
theorem d_M_said_32 : decode prog_6_method_14_code 32 = .ok (.aload_n 0, 1) := by decide +kernel
theorem d_M_said_33 : decode prog_6_method_14_code 33 = .ok (.getfield 31, 3) := by decide +kernel
theorem d_M_said_36 : decode prog_6_method_14_code 36 = .ok (.iload_n 1, 1) := by decide +kernel
theorem d_M_said_37 : decode prog_6_method_14_code 37 = .ok (.iaload, 1) := by decide +kernel
theorem d_M_said_38 : decode prog_6_method_14_code 38 = .ok (.bipush 13, 2) := by decide +kernel
theorem d_M_said_40 : decode prog_6_method_14_code 40 = .ok (.irem, 1) := by decide +kernel
theorem d_M_said_41 : decode prog_6_method_14_code 41 = .ok (.invokestatic 99, 3) := by decide +kernel
theorem d_M_said_44 : decode prog_6_method_14_code 44 = .ok (.ireturn, 1) := by decide +kernel
def b_M_said_44 (post : Option Value → Mm → Prop) : Kk := (i_iret post)
theorem t_M_said_44 {Z : Zt} {X0 : Mm} {post : Option Value → Mm → Prop} (g : Good Z prog_6_method_14_code 2 "BusTelegramsModel" 2) (hq : RetZ Z true X0 0 0 post) (hr : (zM Z).sig.returnType = (some .int)) : Snd Z 2 44 (b_M_said_44 post) := by
  unfold b_M_said_44
  exact (s_iret0 g hq hr d_M_said_44)
def b_M_said_0 (post : Option Value → Mm → Prop) : Kk := (i_aload 0 (i_getR 4 8 (i_iload 1 (i_ald 10 (i_push (.int 13) (i_binz (fun x y => x - x / y * y) (i_push (.int 10) (i_icmp (fun x y => x ≤ y) (i_aload 0 (i_iload 1 (i_aload 0 (i_getR 4 8 (i_iload 1 (i_ald 10 (i_push (.int 13) (i_binz (fun x y => x / y) (i_callV 2 4 w_M_byteOf (i_aload 0 (i_getR 4 8 (i_iload 1 (i_ald 10 (i_push (.int 13) (i_binz (fun x y => x - x / y * y) (i_callS 2 w_M_bitOf (b_M_said_44 post))))))))))))))))) (i_push (.int 1) (b_M_said_44 post))))))))))
theorem t_M_said_0 {Z : Zt} {X0 : Mm} {post : Option Value → Mm → Prop} (g : Good Z prog_6_method_14_code 2 "BusTelegramsModel" 2) (hq : RetZ Z true X0 0 0 post) (hr : (zM Z).sig.returnType = (some .int)) : Snd Z 2 0 (b_M_said_0 post) := by
  unfold b_M_said_0
  exact (s_aload_n g d_M_said_0 rfl (s_getR g (c := 4) (j := 8) cok_4 (by decide) rfl mw_562 rfl d_M_said_1 (s_iload_n g d_M_said_4 rfl (s_iald g d_M_said_5 (s_push_bipush g d_M_said_6 (by decide) (s_irem g d_M_said_8 (s_push_bipush g d_M_said_9 (by decide) (s_icmp_le g d_M_said_11 (by decide) (s_aload_n g d_M_said_18 rfl (s_iload_n g d_M_said_19 rfl (s_aload_n g d_M_said_20 rfl (s_getR g (c := 4) (j := 8) cok_4 (by decide) rfl mw_562 rfl d_M_said_21 (s_iload_n g d_M_said_24 rfl (s_iald g d_M_said_25 (s_push_bipush g d_M_said_26 (by decide) (s_idiv g d_M_said_28 (s_callV g (C_M_byteOf (zl Z)) (gin_V mw_712 mw_714 ms_19 mw_5 mw_715) hd_M_byteOf rfl (by decide) (by decide) (by decide) d_M_said_29 (s_aload_n g d_M_said_32 rfl (s_getR g (c := 4) (j := 8) cok_4 (by decide) rfl mw_562 rfl d_M_said_33 (s_iload_n g d_M_said_36 rfl (s_iald g d_M_said_37 (s_push_bipush g d_M_said_38 (by decide) (s_irem g d_M_said_40 (s_callS g (C_M_bitOf (zl Z)) (gin_S mw_724 mw_725 mw_5 mw_726) hd_M_bitOf (by decide) (by decide) d_M_said_41 (t_M_said_44 g hq hr))))))))))))))))) (s_push_iconst g d_M_said_14 (by decide) (s_goto g d_M_said_15 (by decide) (t_M_said_44 g hq hr)))))))))))
def w_M_said : Wp := wpOf 2 (fun _ post => b_M_said_0 post)
theorem C_M_said (l : Launch) : MetS l ({ cls := "BusTelegramsModel", name := "said", desc := "(I)I" } : Jvm.MethodName) prog_6_method_14_code 2 (some .int) true 2 0 0 w_M_said := metS_of (by decide +kernel) (fun Z X0 post hZ g hq hr _ => t_M_said_0 g hq hr)
theorem hd_M_said : (({ cls := "BusTelegramsModel", name := "said", desc := "(I)I" } : Jvm.MethodName)).cls = "BusTelegramsModel" ∧ (({ cls := "BusTelegramsModel", name := "said", desc := "(I)I" } : Jvm.MethodName)).cls ≠ "java/lang/invoke/MethodHandle" ∧ (({ cls := "BusTelegramsModel", name := "said", desc := "(I)I" } : Jvm.MethodName)).cls ≠ "java/lang/invoke/VarHandle" ∧ (parseMethodDescriptor (({ cls := "BusTelegramsModel", name := "said", desc := "(I)I" } : Jvm.MethodName)).desc).map (fun d => d.parameters.length) = some 1 := ⟨rfl, by decide, by decide, by decide +kernel⟩
theorem d_M_hear_0 : decode prog_6_method_23_code 0 = .ok (.aload_n 0, 1) := by decide +kernel
theorem d_M_hear_1 : decode prog_6_method_23_code 1 = .ok (.getfield 137, 3) := by decide +kernel
theorem d_M_hear_4 : decode prog_6_method_23_code 4 = .ok (.ifCond .ne 14, 3) := by decide +kernel
theorem d_M_hear_7 : decode prog_6_method_23_code 7 = .ok (.iload_n 1, 1) := by decide +kernel
theorem d_M_hear_8 : decode prog_6_method_23_code 8 = .ok (.ifCond .ne 84, 3) := by decide +kernel
theorem d_M_hear_11 : decode prog_6_method_23_code 11 = .ok (.aload_n 0, 1) := by decide +kernel
theorem d_M_hear_12 : decode prog_6_method_23_code 12 = .ok (.invokevirtual 152, 3) := by decide +kernel
theorem d_M_hear_15 : decode prog_6_method_23_code 15 = .ok (.goto 77, 3) := by decide +kernel
theorem d_M_hear_18 : decode prog_6_method_23_code 18 = .ok (.aload_n 0, 1) := by decide +kernel
theorem d_M_hear_19 : decode prog_6_method_23_code 19 = .ok (.getfield 137, 3) := by decide +kernel
theorem d_M_hear_22 : decode prog_6_method_23_code 22 = .ok (.iconst 1, 1) := by decide +kernel
theorem d_M_hear_23 : decode prog_6_method_23_code 23 = .ok (.if_icmp .ne 11, 3) := by decide +kernel
theorem d_M_hear_26 : decode prog_6_method_23_code 26 = .ok (.aload_n 0, 1) := by decide +kernel
theorem d_M_hear_27 : decode prog_6_method_23_code 27 = .ok (.iload_n 1, 1) := by decide +kernel
theorem d_M_hear_28 : decode prog_6_method_23_code 28 = .ok (.invokevirtual 155, 3) := by decide +kernel
theorem d_M_hear_31 : decode prog_6_method_23_code 31 = .ok (.goto 61, 3) := by decide +kernel
theorem d_M_hear_34 : decode prog_6_method_23_code 34 = .ok (.iload_n 1, 1) := by decide +kernel
theorem d_M_hear_35 : decode prog_6_method_23_code 35 = .ok (.iconst 1, 1) := by decide +kernel
theorem d_M_hear_36 : decode prog_6_method_23_code 36 = .ok (.if_icmp .ne 33, 3) := by decide +kernel
theorem d_M_hear_39 : decode prog_6_method_23_code 39 = .ok (.aload_n 0, 1) := by decide +kernel
theorem d_M_hear_40 : decode prog_6_method_23_code 40 = .ok (.dup, 1) := by decide +kernel
theorem d_M_hear_41 : decode prog_6_method_23_code 41 = .ok (.getfield 140, 3) := by decide +kernel
theorem d_M_hear_44 : decode prog_6_method_23_code 44 = .ok (.iconst 1, 1) := by decide +kernel
theorem d_M_hear_45 : decode prog_6_method_23_code 45 = .ok (.iadd, 1) := by decide +kernel
theorem d_M_hear_46 : decode prog_6_method_23_code 46 = .ok (.putfield 140, 3) := by decide +kernel
theorem d_M_hear_49 : decode prog_6_method_23_code 49 = .ok (.aload_n 0, 1) := by decide +kernel
theorem d_M_hear_50 : decode prog_6_method_23_code 50 = .ok (.getfield 140, 3) := by decide +kernel
theorem d_M_hear_53 : decode prog_6_method_23_code 53 = .ok (.iconst 3, 1) := by decide +kernel
theorem d_M_hear_54 : decode prog_6_method_23_code 54 = .ok (.if_icmp .ne 38, 3) := by decide +kernel
theorem d_M_hear_57 : decode prog_6_method_23_code 57 = .ok (.aload_n 0, 1) := by decide +kernel
theorem d_M_hear_58 : decode prog_6_method_23_code 58 = .ok (.iconst 0, 1) := by decide +kernel
theorem d_M_hear_59 : decode prog_6_method_23_code 59 = .ok (.putfield 137, 3) := by decide +kernel
theorem d_M_hear_62 : decode prog_6_method_23_code 62 = .ok (.aload_n 0, 1) := by decide +kernel
theorem d_M_hear_63 : decode prog_6_method_23_code 63 = .ok (.invokevirtual 159, 3) := by decide +kernel
theorem d_M_hear_66 : decode prog_6_method_23_code 66 = .ok (.goto 26, 3) := by decide +kernel
theorem d_M_hear_69 : decode prog_6_method_23_code 69 = .ok (.aload_n 0, 1) := by decide +kernel
theorem d_M_hear_70 : decode prog_6_method_23_code 70 = .ok (.getfield 140, 3) := by decide +kernel
theorem d_M_hear_73 : decode prog_6_method_23_code 73 = .ok (.iconst 2, 1) := by decide +kernel
theorem d_M_hear_74 : decode prog_6_method_23_code 74 = .ok (.if_icmp .ne 10, 3) := by decide +kernel
theorem d_M_hear_77 : decode prog_6_method_23_code 77 = .ok (.aload_n 0, 1) := by decide +kernel
theorem d_M_hear_78 : decode prog_6_method_23_code 78 = .ok (.invokevirtual 149, 3) := by decide +kernel
theorem d_M_hear_81 : decode prog_6_method_23_code 81 = .ok (.goto 11, 3) := by decide +kernel
theorem d_M_hear_84 : decode prog_6_method_23_code 84 = .ok (.aload_n 0, 1) := by decide +kernel
theorem d_M_hear_85 : decode prog_6_method_23_code 85 = .ok (.invokevirtual 159, 3) := by decide +kernel
theorem d_M_hear_88 : decode prog_6_method_23_code 88 = .ok (.aload_n 0, 1) := by decide +kernel
theorem d_M_hear_89 : decode prog_6_method_23_code 89 = .ok (.invokevirtual 152, 3) := by decide +kernel
theorem d_M_hear_92 : decode prog_6_method_23_code 92 = .ok (.return_, 1) := by decide +kernel
def b_M_hear_92 (post : Option Value → Mm → Prop) : Kk := (i_vret post)
theorem t_M_hear_92 {Z : Zt} {X0 : Mm} {post : Option Value → Mm → Prop} (g : Good Z prog_6_method_23_code 2 "BusTelegramsModel" 2) (hq : RetZ Z true X0 0 0 post) (hr : (zM Z).sig.returnType = none) : Snd Z 2 92 (b_M_hear_92 post) := by
  unfold b_M_hear_92
  exact (s_vret0 g hq hr d_M_hear_92)
def b_M_hear_0 (post : Option Value → Mm → Prop) : Kk := (i_aload 0 (i_getI 4 18 (i_if (fun x y => x = y) (i_iload 1 (i_if (fun x y => x = y) (i_aload 0 (i_callV 0 4 w_M_first (b_M_hear_92 post))) (b_M_hear_92 post))) (i_aload 0 (i_getI 4 18 (i_push (.int 1) (i_icmp (fun x y => x = y) (i_aload 0 (i_iload 1 (i_callV 1 4 w_M_collect (b_M_hear_92 post)))) (i_iload 1 (i_push (.int 1) (i_icmp (fun x y => x = y) (i_aload 0 (i_dup (i_getI 4 19 (i_push (.int 1) (i_bin (fun x y => x + y) (i_putI 4 19 (i_aload 0 (i_getI 4 19 (i_push (.int 3) (i_icmp (fun x y => x = y) (i_aload 0 (i_push (.int 0) (i_putI 4 18 (i_aload 0 (i_callV 0 4 w_M_complete (b_M_hear_92 post)))))) (b_M_hear_92 post))))))))))) (i_aload 0 (i_getI 4 19 (i_push (.int 2) (i_icmp (fun x y => x = y) (i_aload 0 (i_callV 0 4 w_M_open (b_M_hear_92 post))) (i_aload 0 (i_callV 0 4 w_M_complete (i_aload 0 (i_callV 0 4 w_M_first (b_M_hear_92 post)))))))))))))))))))
theorem t_M_hear_0 {Z : Zt} {X0 : Mm} {post : Option Value → Mm → Prop} (g : Good Z prog_6_method_23_code 2 "BusTelegramsModel" 2) (hq : RetZ Z true X0 0 0 post) (hr : (zM Z).sig.returnType = none) : Snd Z 2 0 (b_M_hear_0 post) := by
  unfold b_M_hear_0
  exact (s_aload_n g d_M_hear_0 rfl (s_getI g (c := 4) (j := 18) cok_4 (by decide) rfl mw_572 rfl d_M_hear_1 (s_if_ne g d_M_hear_4 (by decide) (s_aload_n g d_M_hear_18 rfl (s_getI g (c := 4) (j := 18) cok_4 (by decide) rfl mw_572 rfl d_M_hear_19 (s_push_iconst g d_M_hear_22 (by decide) (s_icmp_ne g d_M_hear_23 (by decide) (s_iload_n g d_M_hear_34 rfl (s_push_iconst g d_M_hear_35 (by decide) (s_icmp_ne g d_M_hear_36 (by decide) (s_aload_n g d_M_hear_69 rfl (s_getI g (c := 4) (j := 19) cok_4 (by decide) rfl mw_573 rfl d_M_hear_70 (s_push_iconst g d_M_hear_73 (by decide) (s_icmp_ne g d_M_hear_74 (by decide) (s_aload_n g d_M_hear_84 rfl (s_callV g (C_M_complete (zl Z)) (gin_V mw_747 mw_749 ms_27 mw_5 mw_750) hd_M_complete rfl (by decide) (by decide) (by decide) d_M_hear_85 (s_aload_n g d_M_hear_88 rfl (s_callV g (C_M_first (zl Z)) (gin_V mw_735 mw_737 ms_24 mw_5 mw_738) hd_M_first rfl (by decide) (by decide) (by decide) d_M_hear_89 (t_M_hear_92 g hq hr))))) (s_aload_n g d_M_hear_77 rfl (s_callV g (C_M_open (zl Z)) (gin_V mw_739 mw_741 ms_25 mw_5 mw_742) hd_M_open rfl (by decide) (by decide) (by decide) d_M_hear_78 (s_goto g d_M_hear_81 (by decide) (t_M_hear_92 g hq hr)))))))) (s_aload_n g d_M_hear_39 rfl (s_dup g d_M_hear_40 (s_getI g (c := 4) (j := 19) cok_4 (by decide) rfl mw_573 rfl d_M_hear_41 (s_push_iconst g d_M_hear_44 (by decide) (s_iadd g d_M_hear_45 (s_putI g (c := 4) (j := 19) cok_4 (by decide) rfl rfl rfl mw_573 rfl d_M_hear_46 (s_aload_n g d_M_hear_49 rfl (s_getI g (c := 4) (j := 19) cok_4 (by decide) rfl mw_573 rfl d_M_hear_50 (s_push_iconst g d_M_hear_53 (by decide) (s_icmp_ne g d_M_hear_54 (by decide) (t_M_hear_92 g hq hr) (s_aload_n g d_M_hear_57 rfl (s_push_iconst g d_M_hear_58 (by decide) (s_putI g (c := 4) (j := 18) cok_4 (by decide) rfl rfl rfl mw_572 rfl d_M_hear_59 (s_aload_n g d_M_hear_62 rfl (s_callV g (C_M_complete (zl Z)) (gin_V mw_747 mw_749 ms_27 mw_5 mw_750) hd_M_complete rfl (by decide) (by decide) (by decide) d_M_hear_63 (s_goto g d_M_hear_66 (by decide) (t_M_hear_92 g hq hr)))))))))))))))))))) (s_aload_n g d_M_hear_26 rfl (s_iload_n g d_M_hear_27 rfl (s_callV g (C_M_collect (zl Z)) (gin_V mw_743 mw_745 ms_26 mw_5 mw_746) hd_M_collect rfl (by decide) (by decide) (by decide) d_M_hear_28 (s_goto g d_M_hear_31 (by decide) (t_M_hear_92 g hq hr))))))))) (s_iload_n g d_M_hear_7 rfl (s_if_ne g d_M_hear_8 (by decide) (t_M_hear_92 g hq hr) (s_aload_n g d_M_hear_11 rfl (s_callV g (C_M_first (zl Z)) (gin_V mw_735 mw_737 ms_24 mw_5 mw_738) hd_M_first rfl (by decide) (by decide) (by decide) d_M_hear_12 (s_goto g d_M_hear_15 (by decide) (t_M_hear_92 g hq hr)))))))))
def w_M_hear : Wp := wpOf 2 (fun _ post => b_M_hear_0 post)
theorem C_M_hear (l : Launch) : MetS l ({ cls := "BusTelegramsModel", name := "hear", desc := "(I)V" } : Jvm.MethodName) prog_6_method_23_code 2 none true 2 0 0 w_M_hear := metS_of (by decide +kernel) (fun Z X0 post hZ g hq hr _ => t_M_hear_0 g hq hr)
theorem hd_M_hear : (({ cls := "BusTelegramsModel", name := "hear", desc := "(I)V" } : Jvm.MethodName)).cls = "BusTelegramsModel" ∧ (({ cls := "BusTelegramsModel", name := "hear", desc := "(I)V" } : Jvm.MethodName)).cls ≠ "java/lang/invoke/MethodHandle" ∧ (({ cls := "BusTelegramsModel", name := "hear", desc := "(I)V" } : Jvm.MethodName)).cls ≠ "java/lang/invoke/VarHandle" ∧ (parseMethodDescriptor (({ cls := "BusTelegramsModel", name := "hear", desc := "(I)V" } : Jvm.MethodName)).desc).map (fun d => d.parameters.length) = some 1 := ⟨rfl, by decide, by decide, by decide +kernel⟩
theorem d_M_line_0 : decode prog_6_method_17_code 0 = .ok (.aload_n 0, 1) := by decide +kernel
theorem d_M_line_1 : decode prog_6_method_17_code 1 = .ok (.getfield 52, 3) := by decide +kernel
theorem d_M_line_4 : decode prog_6_method_17_code 4 = .ok (.aload_n 0, 1) := by decide +kernel
theorem d_M_line_5 : decode prog_6_method_17_code 5 = .ok (.getfield 85, 3) := by decide +kernel
theorem d_M_line_8 : decode prog_6_method_17_code 8 = .ok (.sipush 2048, 3) := by decide +kernel
theorem d_M_line_11 : decode prog_6_method_17_code 11 = .ok (.irem, 1) := by decide +kernel
theorem d_M_line_12 : decode prog_6_method_17_code 12 = .ok (.baload, 1) := by decide +kernel
theorem d_M_line_13 : decode prog_6_method_17_code 13 = .ok (.ifCond .eq 7, 3) := by decide +kernel
theorem d_M_line_16 : decode prog_6_method_17_code 16 = .ok (.iconst 0, 1) := by decide +kernel
theorem d_M_line_17 : decode prog_6_method_17_code 17 = .ok (.goto 4, 3) := by decide +kernel
theorem d_M_line_20 : decode prog_6_method_17_code 20 = .ok (.iconst 1, 1) := by decide +kernel
theorem d_M_line_21 : decode prog_6_method_17_code 21 = .ok (.istore_n 1, 1) := by decide +kernel
theorem d_M_line_22 : decode prog_6_method_17_code 22 = .ok (.aload_n 0, 1) := by decide +kernel
theorem d_M_line_23 : decode prog_6_method_17_code 23 = .ok (.dup, 1) := by decide +kernel
theorem d_M_line_24 : decode prog_6_method_17_code 24 = .ok (.getfield 82, 3) := by decide +kernel
theorem d_M_line_27 : decode prog_6_method_17_code 27 = .ok (.aload_n 0, 1) := by decide +kernel
theorem d_M_line_28 : decode prog_6_method_17_code 28 = .ok (.getfield 52, 3) := by decide +kernel
theorem d_M_line_31 : decode prog_6_method_17_code 31 = .ok (.aload_n 0, 1) := by decide +kernel
theorem d_M_line_32 : decode prog_6_method_17_code 32 = .ok (.getfield 85, 3) := by decide +kernel
theorem d_M_line_35 : decode prog_6_method_17_code 35 = .ok (.sipush 2048, 3) := by decide +kernel
theorem d_M_line_38 : decode prog_6_method_17_code 38 = .ok (.irem, 1) := by decide +kernel
theorem d_M_line_39 : decode prog_6_method_17_code 39 = .ok (.baload, 1) := by decide +kernel
theorem d_M_line_40 : decode prog_6_method_17_code 40 = .ok (.ifCond .eq 7, 3) := by decide +kernel
theorem d_M_line_43 : decode prog_6_method_17_code 43 = .ok (.iconst 1, 1) := by decide +kernel
theorem d_M_line_44 : decode prog_6_method_17_code 44 = .ok (.goto 4, 3) := by decide +kernel
theorem d_M_line_47 : decode prog_6_method_17_code 47 = .ok (.iconst 0, 1) := by decide +kernel
theorem d_M_line_48 : decode prog_6_method_17_code 48 = .ok (.isub, 1) := by decide +kernel
theorem d_M_line_49 : decode prog_6_method_17_code 49 = .ok (.putfield 82, 3) := by decide +kernel
theorem d_M_line_52 : decode prog_6_method_17_code 52 = .ok (.aload_n 0, 1) := by decide +kernel
theorem d_M_line_53 : decode prog_6_method_17_code 53 = .ok (.getfield 52, 3) := by decide +kernel
theorem d_M_line_56 : decode prog_6_method_17_code 56 = .ok (.aload_n 0, 1) := by decide +kernel
theorem d_M_line_57 : decode prog_6_method_17_code 57 = .ok (.getfield 85, 3) := by decide +kernel
theorem d_M_line_60 : decode prog_6_method_17_code 60 = .ok (.sipush 2048, 3) := by decide +kernel
theorem d_M_line_63 : decode prog_6_method_17_code 63 = .ok (.irem, 1) := by decide +kernel
theorem d_M_line_64 : decode prog_6_method_17_code 64 = .ok (.iconst 0, 1) := by decide +kernel
theorem d_M_line_65 : decode prog_6_method_17_code 65 = .ok (.bastore, 1) := by decide +kernel
theorem d_M_line_66 : decode prog_6_method_17_code 66 = .ok (.iconst 0, 1) := by decide +kernel
theorem d_M_line_67 : decode prog_6_method_17_code 67 = .ok (.istore_n 2, 1) := by decide +kernel
theorem d_M_line_68 : decode prog_6_method_17_code 68 = .ok (.iload_n 2, 1) := by decide +kernel
theorem d_M_line_69 : decode prog_6_method_17_code 69 = .ok (.bipush 8, 2) := by decide +kernel
theorem d_M_line_71 : decode prog_6_method_17_code 71 = .ok (.if_icmp .ge 59, 3) := by decide +kernel
theorem d_M_line_74 : decode prog_6_method_17_code 74 = .ok (.aload_n 0, 1) := by decide +kernel
theorem d_M_line_75 : decode prog_6_method_17_code 75 = .ok (.getfield 31, 3) := by decide +kernel
theorem d_M_line_78 : decode prog_6_method_17_code 78 = .ok (.iload_n 2, 1) := by decide +kernel
theorem d_M_line_79 : decode prog_6_method_17_code 79 = .ok (.iaload, 1) := by decide +kernel
theorem d_M_line_80 : decode prog_6_method_17_code 80 = .ok (.ifCond .lt 11, 3) := by decide +kernel
theorem d_M_line_83 : decode prog_6_method_17_code 83 = .ok (.aload_n 0, 1) := by decide +kernel
theorem d_M_line_84 : decode prog_6_method_17_code 84 = .ok (.iload_n 2, 1) := by decide +kernel
theorem d_M_line_85 : decode prog_6_method_17_code 85 = .ok (.invokevirtual 119, 3) := by decide +kernel
theorem d_M_line_88 : decode prog_6_method_17_code 88 = .ok (.ifCond .eq 30, 3) := by decide +kernel
theorem d_M_line_91 : decode prog_6_method_17_code 91 = .ok (.aload_n 0, 1) := by decide +kernel
theorem d_M_line_92 : decode prog_6_method_17_code 92 = .ok (.getfield 34, 3) := by decide +kernel
theorem d_M_line_95 : decode prog_6_method_17_code 95 = .ok (.iload_n 2, 1) := by decide +kernel
theorem d_M_line_96 : decode prog_6_method_17_code 96 = .ok (.iaload, 1) := by decide +kernel
theorem d_M_line_97 : decode prog_6_method_17_code 97 = .ok (.ifCond .lt 25, 3) := by decide +kernel
theorem d_M_line_100 : decode prog_6_method_17_code 100 = .ok (.aload_n 0, 1) := by decide +kernel
theorem d_M_line_101 : decode prog_6_method_17_code 101 = .ok (.getfield 37, 3) := by decide +kernel
theorem d_M_line_104 : decode prog_6_method_17_code 104 = .ok (.iload_n 2, 1) := by decide +kernel
theorem d_M_line_105 : decode prog_6_method_17_code 105 = .ok (.iaload, 1) := by decide +kernel
theorem d_M_line_106 : decode prog_6_method_17_code 106 = .ok (.aload_n 0, 1) := by decide +kernel
theorem d_M_line_107 : decode prog_6_method_17_code 107 = .ok (.getfield 34, 3) := by decide +kernel
theorem d_M_line_110 : decode prog_6_method_17_code 110 = .ok (.iload_n 2, 1) := by decide +kernel
theorem d_M_line_111 : decode prog_6_method_17_code 111 = .ok (.iaload, 1) := by decide +kernel
theorem d_M_line_112 : decode prog_6_method_17_code 112 = .ok (.invokestatic 99, 3) := by decide +kernel
theorem d_M_line_115 : decode prog_6_method_17_code 115 = .ok (.ifCond .ne 7, 3) := by decide +kernel
theorem d_M_line_118 : decode prog_6_method_17_code 118 = .ok (.iconst 0, 1) := by decide +kernel
theorem d_M_line_119 : decode prog_6_method_17_code 119 = .ok (.goto 4, 3) := by decide +kernel
theorem d_M_line_122 : decode prog_6_method_17_code 122 = .ok (.iload_n 1, 1) := by decide +kernel
theorem d_M_line_123 : decode prog_6_method_17_code 123 = .ok (.istore_n 1, 1) := by decide +kernel
theorem d_M_line_124 : decode prog_6_method_17_code 124 = .ok (.iinc 2 1, 3) := by decide +kernel
theorem d_M_line_127 : decode prog_6_method_17_code 127 = .ok (.goto (-59), 3) := by decide +kernel
theorem d_M_line_130 : decode prog_6_method_17_code 130 = .ok (.iload_n 1, 1) := by decide +kernel
theorem d_M_line_131 : decode prog_6_method_17_code 131 = .ok (.ireturn, 1) := by decide +kernel
def b_M_line_123 (post : Option Value → Mm → Prop) (k68 : Kk) : Kk := (i_istore 1 (i_iinc 2 1 k68))
theorem t_M_line_123 {Z : Zt} {X0 : Mm} {post : Option Value → Mm → Prop} {k68 : Kk} (g : Good Z prog_6_method_17_code 3 "BusTelegramsModel" 3) (hq : RetZ Z true X0 0 0 post) (hr : (zM Z).sig.returnType = (some .int)) (hk68 : Snd Z 3 68 k68) : Snd Z 3 123 (b_M_line_123 post k68) := by
  unfold b_M_line_123
  exact (s_istore_n g (by decide) d_M_line_123 rfl (s_iinc g (by decide) d_M_line_124 (by decide) (s_goto g d_M_line_127 (by decide) hk68)))
def b_M_line_122 (post : Option Value → Mm → Prop) (k68 : Kk) : Kk := (i_iload 1 (b_M_line_123 post k68))
theorem t_M_line_122 {Z : Zt} {X0 : Mm} {post : Option Value → Mm → Prop} {k68 : Kk} (g : Good Z prog_6_method_17_code 3 "BusTelegramsModel" 3) (hq : RetZ Z true X0 0 0 post) (hr : (zM Z).sig.returnType = (some .int)) (hk68 : Snd Z 3 68 k68) : Snd Z 3 122 (b_M_line_122 post k68) := by
  unfold b_M_line_122
  exact (s_iload_n g d_M_line_122 rfl (t_M_line_123 g hq hr hk68))
def b_M_line_118 (post : Option Value → Mm → Prop) (k68 : Kk) : Kk := (i_push (.int 0) (b_M_line_123 post k68))
theorem t_M_line_118 {Z : Zt} {X0 : Mm} {post : Option Value → Mm → Prop} {k68 : Kk} (g : Good Z prog_6_method_17_code 3 "BusTelegramsModel" 3) (hq : RetZ Z true X0 0 0 post) (hr : (zM Z).sig.returnType = (some .int)) (hk68 : Snd Z 3 68 k68) : Snd Z 3 118 (b_M_line_118 post k68) := by
  unfold b_M_line_118
  exact (s_push_iconst g d_M_line_118 (by decide) (s_goto g d_M_line_119 (by decide) (t_M_line_123 g hq hr hk68)))
def b_M_line_91 (post : Option Value → Mm → Prop) (k68 : Kk) : Kk := (i_aload 0 (i_getR 4 9 (i_iload 2 (i_ald 10 (i_if (fun x y => x < y) (b_M_line_122 post k68) (i_aload 0 (i_getR 4 10 (i_iload 2 (i_ald 10 (i_aload 0 (i_getR 4 9 (i_iload 2 (i_ald 10 (i_callS 2 w_M_bitOf (i_if (fun x y => x = y) (b_M_line_118 post k68) (b_M_line_122 post k68))))))))))))))))
theorem t_M_line_91 {Z : Zt} {X0 : Mm} {post : Option Value → Mm → Prop} {k68 : Kk} (g : Good Z prog_6_method_17_code 3 "BusTelegramsModel" 3) (hq : RetZ Z true X0 0 0 post) (hr : (zM Z).sig.returnType = (some .int)) (hk68 : Snd Z 3 68 k68) : Snd Z 3 91 (b_M_line_91 post k68) := by
  unfold b_M_line_91
  exact (s_aload_n g d_M_line_91 rfl (s_getR g (c := 4) (j := 9) cok_4 (by decide) rfl mw_563 rfl d_M_line_92 (s_iload_n g d_M_line_95 rfl (s_iald g d_M_line_96 (s_if_lt g d_M_line_97 (by decide) (t_M_line_122 g hq hr hk68) (s_aload_n g d_M_line_100 rfl (s_getR g (c := 4) (j := 10) cok_4 (by decide) rfl mw_564 rfl d_M_line_101 (s_iload_n g d_M_line_104 rfl (s_iald g d_M_line_105 (s_aload_n g d_M_line_106 rfl (s_getR g (c := 4) (j := 9) cok_4 (by decide) rfl mw_563 rfl d_M_line_107 (s_iload_n g d_M_line_110 rfl (s_iald g d_M_line_111 (s_callS g (C_M_bitOf (zl Z)) (gin_S mw_724 mw_725 mw_5 mw_726) hd_M_bitOf (by decide) (by decide) d_M_line_112 (s_if_ne g d_M_line_115 (by decide) (t_M_line_122 g hq hr hk68) (t_M_line_118 g hq hr hk68))))))))))))))))
def f_M_line_68 (post : Option Value → Mm → Prop) (k68 : Kk) : Kk := (i_iload 2 (i_push (.int 8) (i_icmp (fun x y => y ≤ x) (i_iload 1 (i_iret post)) (i_aload 0 (i_getR 4 8 (i_iload 2 (i_ald 10 (i_if (fun x y => x < y) (b_M_line_91 post k68) (i_aload 0 (i_iload 2 (i_callV 1 4 w_M_said (i_if (fun x y => x = y) (b_M_line_118 post k68) (b_M_line_91 post k68)))))))))))))
def b_M_line_68 (post : Option Value → Mm → Prop) : Kk := i_loop [0, 1, 2] (f_M_line_68 post)
theorem t_M_line_68 {Z : Zt} {X0 : Mm} {post : Option Value → Mm → Prop} (g : Good Z prog_6_method_17_code 3 "BusTelegramsModel" 3) (hq : RetZ Z true X0 0 0 post) (hr : (zM Z).sig.returnType = (some .int)) : Snd Z 3 68 (b_M_line_68 post) := by
  unfold b_M_line_68
  exact s_loop (fun k68 hk68 => by unfold f_M_line_68; exact (s_iload_n g d_M_line_68 rfl (s_push_bipush g d_M_line_69 (by decide) (s_icmp_ge g d_M_line_71 (by decide) (s_iload_n g d_M_line_130 rfl (s_iret0 g hq hr d_M_line_131)) (s_aload_n g d_M_line_74 rfl (s_getR g (c := 4) (j := 8) cok_4 (by decide) rfl mw_562 rfl d_M_line_75 (s_iload_n g d_M_line_78 rfl (s_iald g d_M_line_79 (s_if_lt g d_M_line_80 (by decide) (t_M_line_91 g hq hr hk68) (s_aload_n g d_M_line_83 rfl (s_iload_n g d_M_line_84 rfl (s_callV g (C_M_said (zl Z)) (gin_V mw_708 mw_710 ms_18 mw_5 mw_711) hd_M_said rfl (by decide) (by decide) (by decide) d_M_line_85 (s_if_eq g d_M_line_88 (by decide) (t_M_line_118 g hq hr hk68) (t_M_line_91 g hq hr hk68))))))))))))))
def b_M_line_48 (post : Option Value → Mm → Prop) : Kk := (i_bin (fun x y => x - y) (i_putI 4 16 (i_aload 0 (i_getR 4 15 (i_aload 0 (i_getI 4 1 (i_push (.int 2048) (i_binz (fun x y => x - x / y * y) (i_push (.int 0) (i_zst (i_push (.int 0) (i_istore 2 (b_M_line_68 post)))))))))))))
theorem t_M_line_48 {Z : Zt} {X0 : Mm} {post : Option Value → Mm → Prop} (g : Good Z prog_6_method_17_code 3 "BusTelegramsModel" 3) (hq : RetZ Z true X0 0 0 post) (hr : (zM Z).sig.returnType = (some .int)) : Snd Z 3 48 (b_M_line_48 post) := by
  unfold b_M_line_48
  exact (s_isub g d_M_line_48 (s_putI g (c := 4) (j := 16) cok_4 (by decide) rfl rfl rfl mw_570 rfl d_M_line_49 (s_aload_n g d_M_line_52 rfl (s_getR g (c := 4) (j := 15) cok_4 (by decide) rfl mw_569 rfl d_M_line_53 (s_aload_n g d_M_line_56 rfl (s_getI g (c := 4) (j := 1) cok_4 (by decide) rfl mw_555 rfl d_M_line_57 (s_push_sipush g d_M_line_60 (by decide) (s_irem g d_M_line_63 (s_push_iconst g d_M_line_64 (by decide) (s_zast g d_M_line_65 (s_push_iconst g d_M_line_66 (by decide) (s_istore_n g (by decide) d_M_line_67 rfl (t_M_line_68 g hq hr)))))))))))))
def b_M_line_21 (post : Option Value → Mm → Prop) : Kk := (i_istore 1 (i_aload 0 (i_dup (i_getI 4 16 (i_aload 0 (i_getR 4 15 (i_aload 0 (i_getI 4 1 (i_push (.int 2048) (i_binz (fun x y => x - x / y * y) (i_ald 11 (i_if (fun x y => x = y) (i_push (.int 0) (b_M_line_48 post)) (i_push (.int 1) (b_M_line_48 post))))))))))))))
theorem t_M_line_21 {Z : Zt} {X0 : Mm} {post : Option Value → Mm → Prop} (g : Good Z prog_6_method_17_code 3 "BusTelegramsModel" 3) (hq : RetZ Z true X0 0 0 post) (hr : (zM Z).sig.returnType = (some .int)) : Snd Z 3 21 (b_M_line_21 post) := by
  unfold b_M_line_21
  exact (s_istore_n g (by decide) d_M_line_21 rfl (s_aload_n g d_M_line_22 rfl (s_dup g d_M_line_23 (s_getI g (c := 4) (j := 16) cok_4 (by decide) rfl mw_570 rfl d_M_line_24 (s_aload_n g d_M_line_27 rfl (s_getR g (c := 4) (j := 15) cok_4 (by decide) rfl mw_569 rfl d_M_line_28 (s_aload_n g d_M_line_31 rfl (s_getI g (c := 4) (j := 1) cok_4 (by decide) rfl mw_555 rfl d_M_line_32 (s_push_sipush g d_M_line_35 (by decide) (s_irem g d_M_line_38 (s_zald g d_M_line_39 (s_if_eq g d_M_line_40 (by decide) (s_push_iconst g d_M_line_47 (by decide) (t_M_line_48 g hq hr)) (s_push_iconst g d_M_line_43 (by decide) (s_goto g d_M_line_44 (by decide) (t_M_line_48 g hq hr)))))))))))))))
def b_M_line_0 (post : Option Value → Mm → Prop) : Kk := (i_aload 0 (i_getR 4 15 (i_aload 0 (i_getI 4 1 (i_push (.int 2048) (i_binz (fun x y => x - x / y * y) (i_ald 11 (i_if (fun x y => x = y) (i_push (.int 1) (b_M_line_21 post)) (i_push (.int 0) (b_M_line_21 post))))))))))
theorem t_M_line_0 {Z : Zt} {X0 : Mm} {post : Option Value → Mm → Prop} (g : Good Z prog_6_method_17_code 3 "BusTelegramsModel" 3) (hq : RetZ Z true X0 0 0 post) (hr : (zM Z).sig.returnType = (some .int)) : Snd Z 3 0 (b_M_line_0 post) := by
  unfold b_M_line_0
  exact (s_aload_n g d_M_line_0 rfl (s_getR g (c := 4) (j := 15) cok_4 (by decide) rfl mw_569 rfl d_M_line_1 (s_aload_n g d_M_line_4 rfl (s_getI g (c := 4) (j := 1) cok_4 (by decide) rfl mw_555 rfl d_M_line_5 (s_push_sipush g d_M_line_8 (by decide) (s_irem g d_M_line_11 (s_zald g d_M_line_12 (s_if_eq g d_M_line_13 (by decide) (s_push_iconst g d_M_line_20 (by decide) (t_M_line_21 g hq hr)) (s_push_iconst g d_M_line_16 (by decide) (s_goto g d_M_line_17 (by decide) (t_M_line_21 g hq hr)))))))))))
def w_M_line : Wp := wpOf 3 (fun _ post => b_M_line_0 post)
theorem C_M_line (l : Launch) : MetS l ({ cls := "BusTelegramsModel", name := "line", desc := "()I" } : Jvm.MethodName) prog_6_method_17_code 3 (some .int) true 3 0 0 w_M_line := metS_of (by decide +kernel) (fun Z X0 post hZ g hq hr _ => t_M_line_0 g hq hr)
theorem hd_M_line : (({ cls := "BusTelegramsModel", name := "line", desc := "()I" } : Jvm.MethodName)).cls = "BusTelegramsModel" ∧ (({ cls := "BusTelegramsModel", name := "line", desc := "()I" } : Jvm.MethodName)).cls ≠ "java/lang/invoke/MethodHandle" ∧ (({ cls := "BusTelegramsModel", name := "line", desc := "()I" } : Jvm.MethodName)).cls ≠ "java/lang/invoke/VarHandle" ∧ (parseMethodDescriptor (({ cls := "BusTelegramsModel", name := "line", desc := "()I" } : Jvm.MethodName)).desc).map (fun d => d.parameters.length) = some 0 := ⟨rfl, by decide, by decide, by decide +kernel⟩
theorem d_M_goOn_0 : decode prog_6_method_18_code 0 = .ok (.iconst 0, 1) := by decide +kernel
theorem d_M_goOn_1 : decode prog_6_method_18_code 1 = .ok (.istore_n 2, 1) := by decide +kernel
theorem d_M_goOn_2 : decode prog_6_method_18_code 2 = .ok (.iload_n 2, 1) := by decide +kernel
theorem d_M_goOn_3 : decode prog_6_method_18_code 3 = .ok (.bipush 8, 2) := by decide +kernel
theorem d_M_goOn_5 : decode prog_6_method_18_code 5 = .ok (.if_icmp .ge 156, 3) := by decide +kernel
theorem d_M_goOn_8 : decode prog_6_method_18_code 8 = .ok (.aload_n 0, 1) := by decide +kernel
theorem d_M_goOn_9 : decode prog_6_method_18_code 9 = .ok (.getfield 34, 3) := by decide +kernel
theorem d_M_goOn_12 : decode prog_6_method_18_code 12 = .ok (.iload_n 2, 1) := by decide +kernel
theorem d_M_goOn_13 : decode prog_6_method_18_code 13 = .ok (.iaload, 1) := by decide +kernel
theorem d_M_goOn_14 : decode prog_6_method_18_code 14 = .ok (.ifCond .lt 32, 3) := by decide +kernel
theorem d_M_goOn_17 : decode prog_6_method_18_code 17 = .ok (.aload_n 0, 1) := by decide +kernel
theorem d_M_goOn_18 : decode prog_6_method_18_code 18 = .ok (.getfield 34, 3) := by decide +kernel
theorem d_M_goOn_21 : decode prog_6_method_18_code 21 = .ok (.iload_n 2, 1) := by decide +kernel
theorem d_M_goOn_22 : decode prog_6_method_18_code 22 = .ok (.aload_n 0, 1) := by decide +kernel
theorem d_M_goOn_23 : decode prog_6_method_18_code 23 = .ok (.getfield 34, 3) := by decide +kernel
theorem d_M_goOn_26 : decode prog_6_method_18_code 26 = .ok (.iload_n 2, 1) := by decide +kernel
theorem d_M_goOn_27 : decode prog_6_method_18_code 27 = .ok (.iaload, 1) := by decide +kernel
theorem d_M_goOn_28 : decode prog_6_method_18_code 28 = .ok (.bipush 10, 2) := by decide +kernel
theorem d_M_goOn_30 : decode prog_6_method_18_code 30 = .ok (.if_icmp .ne 7, 3) := by decide +kernel
theorem d_M_goOn_33 : decode prog_6_method_18_code 33 = .ok (.iconst (-1), 1) := by decide +kernel
theorem d_M_goOn_34 : decode prog_6_method_18_code 34 = .ok (.goto 11, 3) := by decide +kernel
theorem d_M_goOn_37 : decode prog_6_method_18_code 37 = .ok (.aload_n 0, 1) := by decide +kernel
theorem d_M_goOn_38 : decode prog_6_method_18_code 38 = .ok (.getfield 34, 3) := by decide +kernel
theorem d_M_goOn_41 : decode prog_6_method_18_code 41 = .ok (.iload_n 2, 1) := by decide +kernel
theorem d_M_goOn_42 : decode prog_6_method_18_code 42 = .ok (.iaload, 1) := by decide +kernel
theorem d_M_goOn_43 : decode prog_6_method_18_code 43 = .ok (.iconst 1, 1) := by decide +kernel
theorem d_M_goOn_44 : decode prog_6_method_18_code 44 = .ok (.iadd, 1) := by decide +kernel
theorem d_M_goOn_45 : decode prog_6_method_18_code 45 = .ok (.iastore, 1) := by decide +kernel
theorem d_M_goOn_46 : decode prog_6_method_18_code 46 = .ok (.aload_n 0, 1) := by decide +kernel
theorem d_M_goOn_47 : decode prog_6_method_18_code 47 = .ok (.getfield 31, 3) := by decide +kernel
theorem d_M_goOn_50 : decode prog_6_method_18_code 50 = .ok (.iload_n 2, 1) := by decide +kernel
theorem d_M_goOn_51 : decode prog_6_method_18_code 51 = .ok (.iaload, 1) := by decide +kernel
theorem d_M_goOn_52 : decode prog_6_method_18_code 52 = .ok (.ifCond .ge 6, 3) := by decide +kernel
theorem d_M_goOn_55 : decode prog_6_method_18_code 55 = .ok (.goto 100, 3) := by decide +kernel
theorem d_M_goOn_58 : decode prog_6_method_18_code 58 = .ok (.iload_n 1, 1) := by decide +kernel
theorem d_M_goOn_59 : decode prog_6_method_18_code 59 = .ok (.ifCond .ne 32, 3) := by decide +kernel
theorem d_M_goOn_62 : decode prog_6_method_18_code 62 = .ok (.aload_n 0, 1) := by decide +kernel
theorem d_M_goOn_63 : decode prog_6_method_18_code 63 = .ok (.iload_n 2, 1) := by decide +kernel
theorem d_M_goOn_64 : decode prog_6_method_18_code 64 = .ok (.invokevirtual 119, 3) := by decide +kernel
theorem d_M_goOn_67 : decode prog_6_method_18_code 67 = .ok (.iconst 1, 1) := by decide +kernel
theorem d_M_goOn_68 : decode prog_6_method_18_code 68 = .ok (.if_icmp .ne 23, 3) := by decide +kernel
theorem d_M_goOn_71 : decode prog_6_method_18_code 71 = .ok (.aload_n 0, 1) := by decide +kernel
theorem d_M_goOn_72 : decode prog_6_method_18_code 72 = .ok (.getfield 31, 3) := by decide +kernel
theorem d_M_goOn_75 : decode prog_6_method_18_code 75 = .ok (.iload_n 2, 1) := by decide +kernel
theorem d_M_goOn_76 : decode prog_6_method_18_code 76 = .ok (.iconst (-1), 1) := by decide +kernel
theorem d_M_goOn_77 : decode prog_6_method_18_code 77 = .ok (.iastore, 1) := by decide +kernel
theorem d_M_goOn_78 : decode prog_6_method_18_code 78 = .ok (.aload_n 0, 1) := by decide +kernel
theorem d_M_goOn_79 : decode prog_6_method_18_code 79 = .ok (.getfield 49, 3) := by decide +kernel
theorem d_M_goOn_82 : decode prog_6_method_18_code 82 = .ok (.iload_n 2, 1) := by decide +kernel
theorem d_M_goOn_83 : decode prog_6_method_18_code 83 = .ok (.dup2, 1) := by decide +kernel
theorem d_M_goOn_84 : decode prog_6_method_18_code 84 = .ok (.iaload, 1) := by decide +kernel
theorem d_M_goOn_85 : decode prog_6_method_18_code 85 = .ok (.iconst 1, 1) := by decide +kernel
theorem d_M_goOn_86 : decode prog_6_method_18_code 86 = .ok (.iadd, 1) := by decide +kernel
theorem d_M_goOn_87 : decode prog_6_method_18_code 87 = .ok (.iastore, 1) := by decide +kernel
theorem d_M_goOn_88 : decode prog_6_method_18_code 88 = .ok (.goto 67, 3) := by decide +kernel
theorem d_M_goOn_91 : decode prog_6_method_18_code 91 = .ok (.aload_n 0, 1) := by decide +kernel
theorem d_M_goOn_92 : decode prog_6_method_18_code 92 = .ok (.getfield 31, 3) := by decide +kernel
theorem d_M_goOn_95 : decode prog_6_method_18_code 95 = .ok (.iload_n 2, 1) := by decide +kernel
theorem d_M_goOn_96 : decode prog_6_method_18_code 96 = .ok (.iaload, 1) := by decide +kernel
theorem d_M_goOn_97 : decode prog_6_method_18_code 97 = .ok (.bipush 13, 2) := by decide +kernel
theorem d_M_goOn_99 : decode prog_6_method_18_code 99 = .ok (.aload_n 0, 1) := by decide +kernel
theorem d_M_goOn_100 : decode prog_6_method_18_code 100 = .ok (.iload_n 2, 1) := by decide +kernel
theorem d_M_goOn_101 : decode prog_6_method_18_code 101 = .ok (.invokevirtual 88, 3) := by decide +kernel
theorem d_M_goOn_104 : decode prog_6_method_18_code 104 = .ok (.imul, 1) := by decide +kernel
theorem d_M_goOn_105 : decode prog_6_method_18_code 105 = .ok (.iconst 3, 1) := by decide +kernel
theorem d_M_goOn_106 : decode prog_6_method_18_code 106 = .ok (.isub, 1) := by decide +kernel
theorem d_M_goOn_107 : decode prog_6_method_18_code 107 = .ok (.if_icmp .ne 38, 3) := by decide +kernel
theorem d_M_goOn_110 : decode prog_6_method_18_code 110 = .ok (.aload_n 0, 1) := by decide +kernel
theorem d_M_goOn_111 : decode prog_6_method_18_code 111 = .ok (.getfield 31, 3) := by decide +kernel
theorem d_M_goOn_114 : decode prog_6_method_18_code 114 = .ok (.iload_n 2, 1) := by decide +kernel
theorem d_M_goOn_115 : decode prog_6_method_18_code 115 = .ok (.iconst (-1), 1) := by decide +kernel
theorem d_M_goOn_116 : decode prog_6_method_18_code 116 = .ok (.iastore, 1) := by decide +kernel
theorem d_M_goOn_117 : decode prog_6_method_18_code 117 = .ok (.aload_n 0, 1) := by decide +kernel
theorem d_M_goOn_118 : decode prog_6_method_18_code 118 = .ok (.getfield 40, 3) := by decide +kernel
theorem d_M_goOn_121 : decode prog_6_method_18_code 121 = .ok (.iload_n 2, 1) := by decide +kernel
theorem d_M_goOn_122 : decode prog_6_method_18_code 122 = .ok (.aload_n 0, 1) := by decide +kernel
theorem d_M_goOn_123 : decode prog_6_method_18_code 123 = .ok (.getfield 85, 3) := by decide +kernel
theorem d_M_goOn_126 : decode prog_6_method_18_code 126 = .ok (.iastore, 1) := by decide +kernel
theorem d_M_goOn_127 : decode prog_6_method_18_code 127 = .ok (.aload_n 0, 1) := by decide +kernel
theorem d_M_goOn_128 : decode prog_6_method_18_code 128 = .ok (.getfield 28, 3) := by decide +kernel
theorem d_M_goOn_131 : decode prog_6_method_18_code 131 = .ok (.bipush 36, 2) := by decide +kernel
theorem d_M_goOn_133 : decode prog_6_method_18_code 133 = .ok (.iload_n 2, 1) := by decide +kernel
theorem d_M_goOn_134 : decode prog_6_method_18_code 134 = .ok (.imul, 1) := by decide +kernel
theorem d_M_goOn_135 : decode prog_6_method_18_code 135 = .ok (.iconst 5, 1) := by decide +kernel
theorem d_M_goOn_136 : decode prog_6_method_18_code 136 = .ok (.iadd, 1) := by decide +kernel
theorem d_M_goOn_137 : decode prog_6_method_18_code 137 = .ok (.dup2, 1) := by decide +kernel
theorem d_M_goOn_138 : decode prog_6_method_18_code 138 = .ok (.iaload, 1) := by decide +kernel
theorem d_M_goOn_139 : decode prog_6_method_18_code 139 = .ok (.iconst 1, 1) := by decide +kernel
theorem d_M_goOn_140 : decode prog_6_method_18_code 140 = .ok (.iadd, 1) := by decide +kernel
theorem d_M_goOn_141 : decode prog_6_method_18_code 141 = .ok (.iastore, 1) := by decide +kernel
theorem d_M_goOn_142 : decode prog_6_method_18_code 142 = .ok (.goto 13, 3) := by decide +kernel
theorem d_M_goOn_145 : decode prog_6_method_18_code 145 = .ok (.aload_n 0, 1) := by decide +kernel
theorem d_M_goOn_146 : decode prog_6_method_18_code 146 = .ok (.getfield 31, 3) := by decide +kernel
theorem d_M_goOn_149 : decode prog_6_method_18_code 149 = .ok (.iload_n 2, 1) := by decide +kernel
theorem d_M_goOn_150 : decode prog_6_method_18_code 150 = .ok (.dup2, 1) := by decide +kernel
theorem d_M_goOn_151 : decode prog_6_method_18_code 151 = .ok (.iaload, 1) := by decide +kernel
theorem d_M_goOn_152 : decode prog_6_method_18_code 152 = .ok (.iconst 1, 1) := by decide +kernel
theorem d_M_goOn_153 : decode prog_6_method_18_code 153 = .ok (.iadd, 1) := by decide +kernel
theorem d_M_goOn_154 : decode prog_6_method_18_code 154 = .ok (.iastore, 1) := by decide +kernel
theorem d_M_goOn_155 : decode prog_6_method_18_code 155 = .ok (.iinc 2 1, 3) := by decide +kernel
theorem d_M_goOn_158 : decode prog_6_method_18_code 158 = .ok (.goto (-156), 3) := by decide +kernel
theorem d_M_goOn_161 : decode prog_6_method_18_code 161 = .ok (.return_, 1) := by decide +kernel
def b_M_goOn_155 (post : Option Value → Mm → Prop) (k2 : Kk) : Kk := (i_iinc 2 1 k2)
theorem t_M_goOn_155 {Z : Zt} {X0 : Mm} {post : Option Value → Mm → Prop} {k2 : Kk} (g : Good Z prog_6_method_18_code 3 "BusTelegramsModel" 3) (hq : RetZ Z true X0 0 0 post) (hr : (zM Z).sig.returnType = none) (hk2 : Snd Z 3 2 k2) : Snd Z 3 155 (b_M_goOn_155 post k2) := by
  unfold b_M_goOn_155
  exact (s_iinc g (by decide) d_M_goOn_155 (by decide) (s_goto g d_M_goOn_158 (by decide) hk2))
def b_M_goOn_91 (post : Option Value → Mm → Prop) (k2 : Kk) : Kk := (i_aload 0 (i_getR 4 8 (i_iload 2 (i_ald 10 (i_push (.int 13) (i_aload 0 (i_iload 2 (i_callV 1 4 w_M_size (i_bin (fun x y => x * y) (i_push (.int 3) (i_bin (fun x y => x - y) (i_icmp (fun x y => x = y) (i_aload 0 (i_getR 4 8 (i_iload 2 (i_push (.int (-1)) (i_ast (i_aload 0 (i_getR 4 11 (i_iload 2 (i_aload 0 (i_getI 4 1 (i_ast (i_aload 0 (i_getR 4 7 (i_push (.int 36) (i_iload 2 (i_bin (fun x y => x * y) (i_push (.int 5) (i_bin (fun x y => x + y) (i_dup2 (i_ald 10 (i_push (.int 1) (i_bin (fun x y => x + y) (i_ast (b_M_goOn_155 post k2)))))))))))))))))))))))) (i_aload 0 (i_getR 4 8 (i_iload 2 (i_dup2 (i_ald 10 (i_push (.int 1) (i_bin (fun x y => x + y) (i_ast (b_M_goOn_155 post k2)))))))))))))))))))))
theorem t_M_goOn_91 {Z : Zt} {X0 : Mm} {post : Option Value → Mm → Prop} {k2 : Kk} (g : Good Z prog_6_method_18_code 3 "BusTelegramsModel" 3) (hq : RetZ Z true X0 0 0 post) (hr : (zM Z).sig.returnType = none) (hk2 : Snd Z 3 2 k2) : Snd Z 3 91 (b_M_goOn_91 post k2) := by
  unfold b_M_goOn_91
  exact (s_aload_n g d_M_goOn_91 rfl (s_getR g (c := 4) (j := 8) cok_4 (by decide) rfl mw_562 rfl d_M_goOn_92 (s_iload_n g d_M_goOn_95 rfl (s_iald g d_M_goOn_96 (s_push_bipush g d_M_goOn_97 (by decide) (s_aload_n g d_M_goOn_99 rfl (s_iload_n g d_M_goOn_100 rfl (s_callV g (C_M_size (zl Z)) (gin_V mw_716 mw_718 ms_20 mw_5 mw_719) hd_M_size rfl (by decide) (by decide) (by decide) d_M_goOn_101 (s_imul g d_M_goOn_104 (s_push_iconst g d_M_goOn_105 (by decide) (s_isub g d_M_goOn_106 (s_icmp_ne g d_M_goOn_107 (by decide) (s_aload_n g d_M_goOn_145 rfl (s_getR g (c := 4) (j := 8) cok_4 (by decide) rfl mw_562 rfl d_M_goOn_146 (s_iload_n g d_M_goOn_149 rfl (s_dup2 g d_M_goOn_150 (s_iald g d_M_goOn_151 (s_push_iconst g d_M_goOn_152 (by decide) (s_iadd g d_M_goOn_153 (s_iast g d_M_goOn_154 (t_M_goOn_155 g hq hr hk2))))))))) (s_aload_n g d_M_goOn_110 rfl (s_getR g (c := 4) (j := 8) cok_4 (by decide) rfl mw_562 rfl d_M_goOn_111 (s_iload_n g d_M_goOn_114 rfl (s_push_iconst g d_M_goOn_115 (by decide) (s_iast g d_M_goOn_116 (s_aload_n g d_M_goOn_117 rfl (s_getR g (c := 4) (j := 11) cok_4 (by decide) rfl mw_565 rfl d_M_goOn_118 (s_iload_n g d_M_goOn_121 rfl (s_aload_n g d_M_goOn_122 rfl (s_getI g (c := 4) (j := 1) cok_4 (by decide) rfl mw_555 rfl d_M_goOn_123 (s_iast g d_M_goOn_126 (s_aload_n g d_M_goOn_127 rfl (s_getR g (c := 4) (j := 7) cok_4 (by decide) rfl mw_561 rfl d_M_goOn_128 (s_push_bipush g d_M_goOn_131 (by decide) (s_iload_n g d_M_goOn_133 rfl (s_imul g d_M_goOn_134 (s_push_iconst g d_M_goOn_135 (by decide) (s_iadd g d_M_goOn_136 (s_dup2 g d_M_goOn_137 (s_iald g d_M_goOn_138 (s_push_iconst g d_M_goOn_139 (by decide) (s_iadd g d_M_goOn_140 (s_iast g d_M_goOn_141 (s_goto g d_M_goOn_142 (by decide) (t_M_goOn_155 g hq hr hk2)))))))))))))))))))))))))))))))))))))
def b_M_goOn_46 (post : Option Value → Mm → Prop) (k2 : Kk) : Kk := (i_aload 0 (i_getR 4 8 (i_iload 2 (i_ald 10 (i_if (fun x y => y ≤ x) (i_iload 1 (i_if (fun x y => x = y) (i_aload 0 (i_iload 2 (i_callV 1 4 w_M_said (i_push (.int 1) (i_icmp (fun x y => x = y) (i_aload 0 (i_getR 4 8 (i_iload 2 (i_push (.int (-1)) (i_ast (i_aload 0 (i_getR 4 14 (i_iload 2 (i_dup2 (i_ald 10 (i_push (.int 1) (i_bin (fun x y => x + y) (i_ast (b_M_goOn_155 post k2)))))))))))))) (b_M_goOn_91 post k2)))))) (b_M_goOn_91 post k2))) (b_M_goOn_155 post k2))))))
theorem t_M_goOn_46 {Z : Zt} {X0 : Mm} {post : Option Value → Mm → Prop} {k2 : Kk} (g : Good Z prog_6_method_18_code 3 "BusTelegramsModel" 3) (hq : RetZ Z true X0 0 0 post) (hr : (zM Z).sig.returnType = none) (hk2 : Snd Z 3 2 k2) : Snd Z 3 46 (b_M_goOn_46 post k2) := by
  unfold b_M_goOn_46
  exact (s_aload_n g d_M_goOn_46 rfl (s_getR g (c := 4) (j := 8) cok_4 (by decide) rfl mw_562 rfl d_M_goOn_47 (s_iload_n g d_M_goOn_50 rfl (s_iald g d_M_goOn_51 (s_if_ge g d_M_goOn_52 (by decide) (s_iload_n g d_M_goOn_58 rfl (s_if_ne g d_M_goOn_59 (by decide) (t_M_goOn_91 g hq hr hk2) (s_aload_n g d_M_goOn_62 rfl (s_iload_n g d_M_goOn_63 rfl (s_callV g (C_M_said (zl Z)) (gin_V mw_708 mw_710 ms_18 mw_5 mw_711) hd_M_said rfl (by decide) (by decide) (by decide) d_M_goOn_64 (s_push_iconst g d_M_goOn_67 (by decide) (s_icmp_ne g d_M_goOn_68 (by decide) (t_M_goOn_91 g hq hr hk2) (s_aload_n g d_M_goOn_71 rfl (s_getR g (c := 4) (j := 8) cok_4 (by decide) rfl mw_562 rfl d_M_goOn_72 (s_iload_n g d_M_goOn_75 rfl (s_push_iconst g d_M_goOn_76 (by decide) (s_iast g d_M_goOn_77 (s_aload_n g d_M_goOn_78 rfl (s_getR g (c := 4) (j := 14) cok_4 (by decide) rfl mw_568 rfl d_M_goOn_79 (s_iload_n g d_M_goOn_82 rfl (s_dup2 g d_M_goOn_83 (s_iald g d_M_goOn_84 (s_push_iconst g d_M_goOn_85 (by decide) (s_iadd g d_M_goOn_86 (s_iast g d_M_goOn_87 (s_goto g d_M_goOn_88 (by decide) (t_M_goOn_155 g hq hr hk2)))))))))))))))))))))) (s_goto g d_M_goOn_55 (by decide) (t_M_goOn_155 g hq hr hk2)))))))
def b_M_goOn_45 (post : Option Value → Mm → Prop) (k2 : Kk) : Kk := (i_ast (b_M_goOn_46 post k2))
theorem t_M_goOn_45 {Z : Zt} {X0 : Mm} {post : Option Value → Mm → Prop} {k2 : Kk} (g : Good Z prog_6_method_18_code 3 "BusTelegramsModel" 3) (hq : RetZ Z true X0 0 0 post) (hr : (zM Z).sig.returnType = none) (hk2 : Snd Z 3 2 k2) : Snd Z 3 45 (b_M_goOn_45 post k2) := by
  unfold b_M_goOn_45
  exact (s_iast g d_M_goOn_45 (t_M_goOn_46 g hq hr hk2))
def f_M_goOn_2 (post : Option Value → Mm → Prop) (k2 : Kk) : Kk := (i_iload 2 (i_push (.int 8) (i_icmp (fun x y => y ≤ x) (i_vret post) (i_aload 0 (i_getR 4 9 (i_iload 2 (i_ald 10 (i_if (fun x y => x < y) (b_M_goOn_46 post k2) (i_aload 0 (i_getR 4 9 (i_iload 2 (i_aload 0 (i_getR 4 9 (i_iload 2 (i_ald 10 (i_push (.int 10) (i_icmp (fun x y => x = y) (i_push (.int (-1)) (b_M_goOn_45 post k2)) (i_aload 0 (i_getR 4 9 (i_iload 2 (i_ald 10 (i_push (.int 1) (i_bin (fun x y => x + y) (b_M_goOn_45 post k2))))))))))))))))))))))))
def b_M_goOn_2 (post : Option Value → Mm → Prop) : Kk := i_loop [0, 1, 2] (f_M_goOn_2 post)
theorem t_M_goOn_2 {Z : Zt} {X0 : Mm} {post : Option Value → Mm → Prop} (g : Good Z prog_6_method_18_code 3 "BusTelegramsModel" 3) (hq : RetZ Z true X0 0 0 post) (hr : (zM Z).sig.returnType = none) : Snd Z 3 2 (b_M_goOn_2 post) := by
  unfold b_M_goOn_2
  exact s_loop (fun k2 hk2 => by unfold f_M_goOn_2; exact (s_iload_n g d_M_goOn_2 rfl (s_push_bipush g d_M_goOn_3 (by decide) (s_icmp_ge g d_M_goOn_5 (by decide) (s_vret0 g hq hr d_M_goOn_161) (s_aload_n g d_M_goOn_8 rfl (s_getR g (c := 4) (j := 9) cok_4 (by decide) rfl mw_563 rfl d_M_goOn_9 (s_iload_n g d_M_goOn_12 rfl (s_iald g d_M_goOn_13 (s_if_lt g d_M_goOn_14 (by decide) (t_M_goOn_46 g hq hr hk2) (s_aload_n g d_M_goOn_17 rfl (s_getR g (c := 4) (j := 9) cok_4 (by decide) rfl mw_563 rfl d_M_goOn_18 (s_iload_n g d_M_goOn_21 rfl (s_aload_n g d_M_goOn_22 rfl (s_getR g (c := 4) (j := 9) cok_4 (by decide) rfl mw_563 rfl d_M_goOn_23 (s_iload_n g d_M_goOn_26 rfl (s_iald g d_M_goOn_27 (s_push_bipush g d_M_goOn_28 (by decide) (s_icmp_ne g d_M_goOn_30 (by decide) (s_aload_n g d_M_goOn_37 rfl (s_getR g (c := 4) (j := 9) cok_4 (by decide) rfl mw_563 rfl d_M_goOn_38 (s_iload_n g d_M_goOn_41 rfl (s_iald g d_M_goOn_42 (s_push_iconst g d_M_goOn_43 (by decide) (s_iadd g d_M_goOn_44 (t_M_goOn_45 g hq hr hk2))))))) (s_push_iconst g d_M_goOn_33 (by decide) (s_goto g d_M_goOn_34 (by decide) (t_M_goOn_45 g hq hr hk2)))))))))))))))))))))
def b_M_goOn_0 (post : Option Value → Mm → Prop) : Kk := (i_push (.int 0) (i_istore 2 (b_M_goOn_2 post)))
theorem t_M_goOn_0 {Z : Zt} {X0 : Mm} {post : Option Value → Mm → Prop} (g : Good Z prog_6_method_18_code 3 "BusTelegramsModel" 3) (hq : RetZ Z true X0 0 0 post) (hr : (zM Z).sig.returnType = none) : Snd Z 3 0 (b_M_goOn_0 post) := by
  unfold b_M_goOn_0
  exact (s_push_iconst g d_M_goOn_0 (by decide) (s_istore_n g (by decide) d_M_goOn_1 rfl (t_M_goOn_2 g hq hr)))
def w_M_goOn : Wp := wpOf 3 (fun _ post => b_M_goOn_0 post)
theorem C_M_goOn (l : Launch) : MetS l ({ cls := "BusTelegramsModel", name := "goOn", desc := "(I)V" } : Jvm.MethodName) prog_6_method_18_code 3 none true 3 0 0 w_M_goOn := metS_of (by decide +kernel) (fun Z X0 post hZ g hq hr _ => t_M_goOn_0 g hq hr)
theorem hd_M_goOn : (({ cls := "BusTelegramsModel", name := "goOn", desc := "(I)V" } : Jvm.MethodName)).cls = "BusTelegramsModel" ∧ (({ cls := "BusTelegramsModel", name := "goOn", desc := "(I)V" } : Jvm.MethodName)).cls ≠ "java/lang/invoke/MethodHandle" ∧ (({ cls := "BusTelegramsModel", name := "goOn", desc := "(I)V" } : Jvm.MethodName)).cls ≠ "java/lang/invoke/VarHandle" ∧ (parseMethodDescriptor (({ cls := "BusTelegramsModel", name := "goOn", desc := "(I)V" } : Jvm.MethodName)).desc).map (fun d => d.parameters.length) = some 1 := ⟨rfl, by decide, by decide, by decide +kernel⟩
theorem d_M_run_0 : decode prog_6_method_26_code 0 = .ok (.aload_n 0, 1) := by decide +kernel
theorem d_M_run_1 : decode prog_6_method_26_code 1 = .ok (.iload_n 1, 1) := by decide +kernel
theorem d_M_run_2 : decode prog_6_method_26_code 2 = .ok (.iconst 1, 1) := by decide +kernel
theorem d_M_run_3 : decode prog_6_method_26_code 3 = .ok (.sipush 2000, 3) := by decide +kernel
theorem d_M_run_6 : decode prog_6_method_26_code 6 = .ok (.invokestatic 73, 3) := by decide +kernel
theorem d_M_run_9 : decode prog_6_method_26_code 9 = .ok (.ifCond .ne 7, 3) := by decide +kernel
theorem d_M_run_12 : decode prog_6_method_26_code 12 = .ok (.iconst 1, 1) := by decide +kernel
theorem d_M_run_13 : decode prog_6_method_26_code 13 = .ok (.goto 19, 3) := by decide +kernel
theorem d_M_run_16 : decode prog_6_method_26_code 16 = .ok (.aload_n 0, 1) := by decide +kernel
theorem d_M_run_17 : decode prog_6_method_26_code 17 = .ok (.getfield 85, 3) := by decide +kernel
theorem d_M_run_20 : decode prog_6_method_26_code 20 = .ok (.iload_n 1, 1) := by decide +kernel
theorem d_M_run_21 : decode prog_6_method_26_code 21 = .ok (.iadd, 1) := by decide +kernel
theorem d_M_run_22 : decode prog_6_method_26_code 22 = .ok (.ldc 165, 2) := by decide +kernel
theorem d_M_run_24 : decode prog_6_method_26_code 24 = .ok (.if_icmp .le 7, 3) := by decide +kernel
theorem d_M_run_27 : decode prog_6_method_26_code 27 = .ok (.iconst 2, 1) := by decide +kernel
theorem d_M_run_28 : decode prog_6_method_26_code 28 = .ok (.goto 4, 3) := by decide +kernel
theorem d_M_run_31 : decode prog_6_method_26_code 31 = .ok (.iconst 0, 1) := by decide +kernel
theorem d_M_run_32 : decode prog_6_method_26_code 32 = .ok (.putfield 70, 3) := by decide +kernel
theorem d_M_run_35 : decode prog_6_method_26_code 35 = .ok (.iconst 0, 1) := by decide +kernel
theorem d_M_run_36 : decode prog_6_method_26_code 36 = .ok (.istore_n 2, 1) := by decide +kernel
theorem d_M_run_37 : decode prog_6_method_26_code 37 = .ok (.iload_n 2, 1) := by decide +kernel
theorem d_M_run_38 : decode prog_6_method_26_code 38 = .ok (.iload_n 1, 1) := by decide +kernel
theorem d_M_run_39 : decode prog_6_method_26_code 39 = .ok (.if_icmp .ge 81, 3) := by decide +kernel
theorem d_M_run_42 : decode prog_6_method_26_code 42 = .ok (.aload_n 0, 1) := by decide +kernel
theorem d_M_run_43 : decode prog_6_method_26_code 43 = .ok (.getfield 70, 3) := by decide +kernel
theorem d_M_run_46 : decode prog_6_method_26_code 46 = .ok (.ifCond .ne 74, 3) := by decide +kernel
theorem d_M_run_49 : decode prog_6_method_26_code 49 = .ok (.aload_n 0, 1) := by decide +kernel
theorem d_M_run_50 : decode prog_6_method_26_code 50 = .ok (.dup, 1) := by decide +kernel
theorem d_M_run_51 : decode prog_6_method_26_code 51 = .ok (.getfield 85, 3) := by decide +kernel
theorem d_M_run_54 : decode prog_6_method_26_code 54 = .ok (.iconst 1, 1) := by decide +kernel
theorem d_M_run_55 : decode prog_6_method_26_code 55 = .ok (.iadd, 1) := by decide +kernel
theorem d_M_run_56 : decode prog_6_method_26_code 56 = .ok (.putfield 85, 3) := by decide +kernel
theorem d_M_run_59 : decode prog_6_method_26_code 59 = .ok (.aload_n 0, 1) := by decide +kernel
theorem d_M_run_60 : decode prog_6_method_26_code 60 = .ok (.invokevirtual 166, 3) := by decide +kernel
theorem d_M_run_63 : decode prog_6_method_26_code 63 = .ok (.aload_n 0, 1) := by decide +kernel
theorem d_M_run_64 : decode prog_6_method_26_code 64 = .ok (.invokevirtual 169, 3) := by decide +kernel
theorem d_M_run_67 : decode prog_6_method_26_code 67 = .ok (.istore_n 3, 1) := by decide +kernel
theorem d_M_run_68 : decode prog_6_method_26_code 68 = .ok (.aload_n 0, 1) := by decide +kernel
theorem d_M_run_69 : decode prog_6_method_26_code 69 = .ok (.iload_n 3, 1) := by decide +kernel
theorem d_M_run_70 : decode prog_6_method_26_code 70 = .ok (.invokevirtual 173, 3) := by decide +kernel
theorem d_M_run_73 : decode prog_6_method_26_code 73 = .ok (.aload_n 0, 1) := by decide +kernel
theorem d_M_run_74 : decode prog_6_method_26_code 74 = .ok (.iload_n 3, 1) := by decide +kernel
theorem d_M_run_75 : decode prog_6_method_26_code 75 = .ok (.invokevirtual 176, 3) := by decide +kernel
theorem d_M_run_78 : decode prog_6_method_26_code 78 = .ok (.aload_n 0, 1) := by decide +kernel
theorem d_M_run_79 : decode prog_6_method_26_code 79 = .ok (.invokevirtual 179, 3) := by decide +kernel
theorem d_M_run_82 : decode prog_6_method_26_code 82 = .ok (.aload_n 0, 1) := by decide +kernel
theorem d_M_run_83 : decode prog_6_method_26_code 83 = .ok (.getfield 55, 3) := by decide +kernel
theorem d_M_run_86 : decode prog_6_method_26_code 86 = .ok (.aload_n 0, 1) := by decide +kernel
theorem d_M_run_87 : decode prog_6_method_26_code 87 = .ok (.getfield 85, 3) := by decide +kernel
theorem d_M_run_90 : decode prog_6_method_26_code 90 = .ok (.bipush 64, 2) := by decide +kernel
theorem d_M_run_92 : decode prog_6_method_26_code 92 = .ok (.irem, 1) := by decide +kernel
theorem d_M_run_93 : decode prog_6_method_26_code 93 = .ok (.iload_n 3, 1) := by decide +kernel
theorem d_M_run_94 : decode prog_6_method_26_code 94 = .ok (.iastore, 1) := by decide +kernel
theorem d_M_run_95 : decode prog_6_method_26_code 95 = .ok (.aload_n 0, 1) := by decide +kernel
theorem d_M_run_96 : decode prog_6_method_26_code 96 = .ok (.iload_n 3, 1) := by decide +kernel
theorem d_M_run_97 : decode prog_6_method_26_code 97 = .ok (.iconst 1, 1) := by decide +kernel
theorem d_M_run_98 : decode prog_6_method_26_code 98 = .ok (.if_icmp .ne 12, 3) := by decide +kernel
theorem d_M_run_101 : decode prog_6_method_26_code 101 = .ok (.aload_n 0, 1) := by decide +kernel
theorem d_M_run_102 : decode prog_6_method_26_code 102 = .ok (.getfield 8, 3) := by decide +kernel
theorem d_M_run_105 : decode prog_6_method_26_code 105 = .ok (.iconst 1, 1) := by decide +kernel
theorem d_M_run_106 : decode prog_6_method_26_code 106 = .ok (.iadd, 1) := by decide +kernel
theorem d_M_run_107 : decode prog_6_method_26_code 107 = .ok (.goto 4, 3) := by decide +kernel
theorem d_M_run_110 : decode prog_6_method_26_code 110 = .ok (.iconst 0, 1) := by decide +kernel
theorem d_M_run_111 : decode prog_6_method_26_code 111 = .ok (.putfield 8, 3) := by decide +kernel
theorem d_M_run_114 : decode prog_6_method_26_code 114 = .ok (.iinc 2 1, 3) := by decide +kernel
theorem d_M_run_117 : decode prog_6_method_26_code 117 = .ok (.goto (-80), 3) := by decide +kernel
theorem d_M_run_120 : decode prog_6_method_26_code 120 = .ok (.aload_n 0, 1) := by decide +kernel
theorem d_M_run_121 : decode prog_6_method_26_code 121 = .ok (.getfield 70, 3) := by decide +kernel
theorem d_M_run_124 : decode prog_6_method_26_code 124 = .ok (.ifCond .le 7, 3) := by decide +kernel
theorem d_M_run_127 : decode prog_6_method_26_code 127 = .ok (.iconst 0, 1) := by decide +kernel
theorem d_M_run_128 : decode prog_6_method_26_code 128 = .ok (.goto 7, 3) := by decide +kernel
theorem d_M_run_131 : decode prog_6_method_26_code 131 = .ok (.aload_n 0, 1) := by decide +kernel
theorem d_M_run_132 : decode prog_6_method_26_code 132 = .ok (.getfield 85, 3) := by decide +kernel
theorem d_M_run_135 : decode prog_6_method_26_code 135 = .ok (.ireturn, 1) := by decide +kernel
def b_M_run_135 (post : Option Value → Mm → Prop) : Kk := (i_iret post)
theorem t_M_run_135 {Z : Zt} {X0 : Mm} {post : Option Value → Mm → Prop} (g : Good Z prog_6_method_26_code 4 "BusTelegramsModel" 4) (hq : RetZ Z true X0 0 0 post) (hr : (zM Z).sig.returnType = (some .int)) : Snd Z 4 135 (b_M_run_135 post) := by
  unfold b_M_run_135
  exact (s_iret0 g hq hr d_M_run_135)
def b_M_run_120 (post : Option Value → Mm → Prop) : Kk := (i_aload 0 (i_getI 4 0 (i_if (fun x y => x ≤ y) (i_aload 0 (i_getI 4 1 (b_M_run_135 post))) (i_push (.int 0) (b_M_run_135 post)))))
theorem t_M_run_120 {Z : Zt} {X0 : Mm} {post : Option Value → Mm → Prop} (g : Good Z prog_6_method_26_code 4 "BusTelegramsModel" 4) (hq : RetZ Z true X0 0 0 post) (hr : (zM Z).sig.returnType = (some .int)) : Snd Z 4 120 (b_M_run_120 post) := by
  unfold b_M_run_120
  exact (s_aload_n g d_M_run_120 rfl (s_getI g (c := 4) (j := 0) cok_4 (by decide) rfl mw_554 rfl d_M_run_121 (s_if_le g d_M_run_124 (by decide) (s_aload_n g d_M_run_131 rfl (s_getI g (c := 4) (j := 1) cok_4 (by decide) rfl mw_555 rfl d_M_run_132 (t_M_run_135 g hq hr))) (s_push_iconst g d_M_run_127 (by decide) (s_goto g d_M_run_128 (by decide) (t_M_run_135 g hq hr))))))
def b_M_run_111 (post : Option Value → Mm → Prop) (k37 : Kk) : Kk := (i_putI 4 2 (i_iinc 2 1 k37))
theorem t_M_run_111 {Z : Zt} {X0 : Mm} {post : Option Value → Mm → Prop} {k37 : Kk} (g : Good Z prog_6_method_26_code 4 "BusTelegramsModel" 4) (hq : RetZ Z true X0 0 0 post) (hr : (zM Z).sig.returnType = (some .int)) (hk37 : Snd Z 4 37 k37) : Snd Z 4 111 (b_M_run_111 post k37) := by
  unfold b_M_run_111
  exact (s_putI g (c := 4) (j := 2) cok_4 (by decide) rfl rfl rfl mw_556 rfl d_M_run_111 (s_iinc g (by decide) d_M_run_114 (by decide) (s_goto g d_M_run_117 (by decide) hk37)))
def f_M_run_37 (post : Option Value → Mm → Prop) (k37 : Kk) : Kk := (i_iload 2 (i_iload 1 (i_icmp (fun x y => y ≤ x) (b_M_run_120 post) (i_aload 0 (i_getI 4 0 (i_if (fun x y => x = y) (i_aload 0 (i_dup (i_getI 4 1 (i_push (.int 1) (i_bin (fun x y => x + y) (i_putI 4 1 (i_aload 0 (i_callV 0 4 w_M_begin (i_aload 0 (i_callV 0 4 w_M_line (i_istore 3 (i_aload 0 (i_iload 3 (i_callV 1 4 w_M_goOn (i_aload 0 (i_iload 3 (i_callV 1 4 w_M_hear (i_aload 0 (i_callV 0 4 w_M_look (i_aload 0 (i_getR 4 17 (i_aload 0 (i_getI 4 1 (i_push (.int 64) (i_binz (fun x y => x - x / y * y) (i_iload 3 (i_ast (i_aload 0 (i_iload 3 (i_push (.int 1) (i_icmp (fun x y => x = y) (i_aload 0 (i_getI 4 2 (i_push (.int 1) (i_bin (fun x y => x + y) (b_M_run_111 post k37))))) (i_push (.int 0) (b_M_run_111 post k37))))))))))))))))))))))))))))))))) (b_M_run_120 post)))))))
def b_M_run_37 (post : Option Value → Mm → Prop) : Kk := i_loop [0, 1, 2] (f_M_run_37 post)
theorem t_M_run_37 {Z : Zt} {X0 : Mm} {post : Option Value → Mm → Prop} (g : Good Z prog_6_method_26_code 4 "BusTelegramsModel" 4) (hq : RetZ Z true X0 0 0 post) (hr : (zM Z).sig.returnType = (some .int)) : Snd Z 4 37 (b_M_run_37 post) := by
  unfold b_M_run_37
  exact s_loop (fun k37 hk37 => by unfold f_M_run_37; exact (s_iload_n g d_M_run_37 rfl (s_iload_n g d_M_run_38 rfl (s_icmp_ge g d_M_run_39 (by decide) (t_M_run_120 g hq hr) (s_aload_n g d_M_run_42 rfl (s_getI g (c := 4) (j := 0) cok_4 (by decide) rfl mw_554 rfl d_M_run_43 (s_if_ne g d_M_run_46 (by decide) (t_M_run_120 g hq hr) (s_aload_n g d_M_run_49 rfl (s_dup g d_M_run_50 (s_getI g (c := 4) (j := 1) cok_4 (by decide) rfl mw_555 rfl d_M_run_51 (s_push_iconst g d_M_run_54 (by decide) (s_iadd g d_M_run_55 (s_putI g (c := 4) (j := 1) cok_4 (by decide) rfl rfl rfl mw_555 rfl d_M_run_56 (s_aload_n g d_M_run_59 rfl (s_callV g (C_M_begin (zl Z)) (gin_V mw_696 mw_698 ms_15 mw_5 mw_699) hd_M_begin rfl (by decide) (by decide) (by decide) d_M_run_60 (s_aload_n g d_M_run_63 rfl (s_callV g (C_M_line (zl Z)) (gin_V mw_704 mw_706 ms_17 mw_5 mw_707) hd_M_line rfl (by decide) (by decide) (by decide) d_M_run_64 (s_istore_n g (by decide) d_M_run_67 rfl (s_aload_n g d_M_run_68 rfl (s_iload_n g d_M_run_69 rfl (s_callV g (C_M_goOn (zl Z)) (gin_V mw_727 mw_729 ms_22 mw_5 mw_730) hd_M_goOn rfl (by decide) (by decide) (by decide) d_M_run_70 (s_aload_n g d_M_run_73 rfl (s_iload_n g d_M_run_74 rfl (s_callV g (C_M_hear (zl Z)) (gin_V mw_731 mw_733 ms_23 mw_5 mw_734) hd_M_hear rfl (by decide) (by decide) (by decide) d_M_run_75 (s_aload_n g d_M_run_78 rfl (s_callV g (C_M_look (zl Z)) (gin_V mw_751 mw_753 ms_28 mw_5 mw_754) hd_M_look rfl (by decide) (by decide) (by decide) d_M_run_79 (s_aload_n g d_M_run_82 rfl (s_getR g (c := 4) (j := 17) cok_4 (by decide) rfl mw_571 rfl d_M_run_83 (s_aload_n g d_M_run_86 rfl (s_getI g (c := 4) (j := 1) cok_4 (by decide) rfl mw_555 rfl d_M_run_87 (s_push_bipush g d_M_run_90 (by decide) (s_irem g d_M_run_92 (s_iload_n g d_M_run_93 rfl (s_iast g d_M_run_94 (s_aload_n g d_M_run_95 rfl (s_iload_n g d_M_run_96 rfl (s_push_iconst g d_M_run_97 (by decide) (s_icmp_ne g d_M_run_98 (by decide) (s_push_iconst g d_M_run_110 (by decide) (t_M_run_111 g hq hr hk37)) (s_aload_n g d_M_run_101 rfl (s_getI g (c := 4) (j := 2) cok_4 (by decide) rfl mw_556 rfl d_M_run_102 (s_push_iconst g d_M_run_105 (by decide) (s_iadd g d_M_run_106 (s_goto g d_M_run_107 (by decide) (t_M_run_111 g hq hr hk37))))))))))))))))))))))))))))))))))))))))))))
def b_M_run_32 (post : Option Value → Mm → Prop) : Kk := (i_putI 4 0 (i_push (.int 0) (i_istore 2 (b_M_run_37 post))))
theorem t_M_run_32 {Z : Zt} {X0 : Mm} {post : Option Value → Mm → Prop} (g : Good Z prog_6_method_26_code 4 "BusTelegramsModel" 4) (hq : RetZ Z true X0 0 0 post) (hr : (zM Z).sig.returnType = (some .int)) : Snd Z 4 32 (b_M_run_32 post) := by
  unfold b_M_run_32
  exact (s_putI g (c := 4) (j := 0) cok_4 (by decide) rfl rfl rfl mw_554 rfl d_M_run_32 (s_push_iconst g d_M_run_35 (by decide) (s_istore_n g (by decide) d_M_run_36 rfl (t_M_run_37 g hq hr))))
def b_M_run_0 (post : Option Value → Mm → Prop) : Kk := (i_aload 0 (i_iload 1 (i_push (.int 1) (i_push (.int 2000) (i_callS 3 w_M_isIn (i_if (fun x y => x = y) (i_push (.int 1) (b_M_run_32 post)) (i_aload 0 (i_getI 4 1 (i_iload 1 (i_bin (fun x y => x + y) (i_push (.int 100000) (i_icmp (fun x y => x ≤ y) (i_push (.int 0) (b_M_run_32 post)) (i_push (.int 2) (b_M_run_32 post))))))))))))))
theorem t_M_run_0 {Z : Zt} {X0 : Mm} {post : Option Value → Mm → Prop} (g : Good Z prog_6_method_26_code 4 "BusTelegramsModel" 4) (hq : RetZ Z true X0 0 0 post) (hr : (zM Z).sig.returnType = (some .int)) : Snd Z 4 0 (b_M_run_0 post) := by
  unfold b_M_run_0
  exact (s_aload_n g d_M_run_0 rfl (s_iload_n g d_M_run_1 rfl (s_push_iconst g d_M_run_2 (by decide) (s_push_sipush g d_M_run_3 (by decide) (s_callS g (C_M_isIn (zl Z)) (gin_S mw_668 mw_669 mw_5 mw_670) hd_M_isIn (by decide) (by decide) d_M_run_6 (s_if_ne g d_M_run_9 (by decide) (s_aload_n g d_M_run_16 rfl (s_getI g (c := 4) (j := 1) cok_4 (by decide) rfl mw_555 rfl d_M_run_17 (s_iload_n g d_M_run_20 rfl (s_iadd g d_M_run_21 (s_push_ldc g mw_695 d_M_run_22 (s_icmp_le g d_M_run_24 (by decide) (s_push_iconst g d_M_run_31 (by decide) (t_M_run_32 g hq hr)) (s_push_iconst g d_M_run_27 (by decide) (s_goto g d_M_run_28 (by decide) (t_M_run_32 g hq hr))))))))) (s_push_iconst g d_M_run_12 (by decide) (s_goto g d_M_run_13 (by decide) (t_M_run_32 g hq hr)))))))))
def w_M_run : Wp := wpOf 4 (fun _ post => b_M_run_0 post)
theorem C_M_run (l : Launch) : MetS l ({ cls := "BusTelegramsModel", name := "run", desc := "(I)I" } : Jvm.MethodName) prog_6_method_26_code 4 (some .int) true 4 0 0 w_M_run := metS_of (by decide +kernel) (fun Z X0 post hZ g hq hr _ => t_M_run_0 g hq hr)
theorem hd_M_run : (({ cls := "BusTelegramsModel", name := "run", desc := "(I)I" } : Jvm.MethodName)).cls = "BusTelegramsModel" ∧ (({ cls := "BusTelegramsModel", name := "run", desc := "(I)I" } : Jvm.MethodName)).cls ≠ "java/lang/invoke/MethodHandle" ∧ (({ cls := "BusTelegramsModel", name := "run", desc := "(I)I" } : Jvm.MethodName)).cls ≠ "java/lang/invoke/VarHandle" ∧ (parseMethodDescriptor (({ cls := "BusTelegramsModel", name := "run", desc := "(I)I" } : Jvm.MethodName)).desc).map (fun d => d.parameters.length) = some 1 := ⟨rfl, by decide, by decide, by decide +kernel⟩
