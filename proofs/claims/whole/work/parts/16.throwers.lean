/-! methods that throw (by program) -/
theorem thG1_1 : ∀ w ∈ (vx_atS "BusTelegrams" 52 (exn 1) supn).filter goodWord, w ∈ GL := by decide +kernel
theorem thG2_1 : ∀ w ∈ (vx_atS "BusTelegrams" 52 (exn 1) supn).filter (fun w => !goodWord w), w ∈ BL := by decide +kernel
theorem thG3_1 : ∀ w ∈ Cond.classLink "BusTelegrams" 48 (exn 1) :: Cond.initialized (exn 1) :: vx_atS "BusTelegrams" 52 (exn 1) supn, vx_ot w = true := by decide +kernel
theorem thG1_2 : ∀ w ∈ (vx_atS "BusTelegrams" 82 (exn 2) supn).filter goodWord, w ∈ GL := by decide +kernel
theorem thG2_2 : ∀ w ∈ (vx_atS "BusTelegrams" 82 (exn 2) supn).filter (fun w => !goodWord w), w ∈ BL := by decide +kernel
theorem thG3_2 : ∀ w ∈ Cond.classLink "BusTelegrams" 78 (exn 2) :: Cond.initialized (exn 2) :: vx_atS "BusTelegrams" 82 (exn 2) supn, vx_ot w = true := by decide +kernel
theorem d_B_address_0 : decode prog_1_method_2_code 0 = .ok (.iload_n 1, 1) := by decide +kernel
theorem d_B_address_1 : decode prog_1_method_2_code 1 = .ok (.bipush 8, 2) := by decide +kernel
theorem d_B_address_3 : decode prog_1_method_2_code 3 = .ok (.invokestatic 43, 3) := by decide +kernel
theorem d_B_address_6 : decode prog_1_method_2_code 6 = .ok (.ifCond .ne 12, 3) := by decide +kernel
theorem d_B_address_9 : decode prog_1_method_2_code 9 = .ok (.iload_n 2, 1) := by decide +kernel
theorem d_B_address_10 : decode prog_1_method_2_code 10 = .ok (.ldc 47, 2) := by decide +kernel
theorem d_B_address_12 : decode prog_1_method_2_code 12 = .ok (.invokestatic 43, 3) := by decide +kernel
theorem d_B_address_15 : decode prog_1_method_2_code 15 = .ok (.ifCond .eq 13, 3) := by decide +kernel
theorem d_B_address_18 : decode prog_1_method_2_code 18 = .ok (.new 48, 3) := by decide +kernel
theorem d_B_address_21 : decode prog_1_method_2_code 21 = .ok (.dup, 1) := by decide +kernel
theorem d_B_address_22 : decode prog_1_method_2_code 22 = .ok (.ldc 50, 2) := by decide +kernel
theorem d_B_address_24 : decode prog_1_method_2_code 24 = .ok (.invokespecial 52, 3) := by decide +kernel
theorem d_B_address_27 : decode prog_1_method_2_code 27 = .ok (.athrow, 1) := by decide +kernel
theorem d_B_address_28 : decode prog_1_method_2_code 28 = .ok (.aload_n 0, 1) := by decide +kernel
theorem d_B_address_29 : decode prog_1_method_2_code 29 = .ok (.getfield 11, 3) := by decide +kernel
theorem d_B_address_32 : decode prog_1_method_2_code 32 = .ok (.iload_n 1, 1) := by decide +kernel
theorem d_B_address_33 : decode prog_1_method_2_code 33 = .ok (.aaload, 1) := by decide +kernel
theorem d_B_address_34 : decode prog_1_method_2_code 34 = .ok (.astore_n 3, 1) := by decide +kernel
theorem d_B_address_35 : decode prog_1_method_2_code 35 = .ok (.aload_n 3, 1) := by decide +kernel
theorem d_B_address_36 : decode prog_1_method_2_code 36 = .ok (.getfield 55, 3) := by decide +kernel
theorem d_B_address_39 : decode prog_1_method_2_code 39 = .ok (.istore 4, 2) := by decide +kernel
theorem d_B_address_41 : decode prog_1_method_2_code 41 = .ok (.aload_n 3, 1) := by decide +kernel
theorem d_B_address_42 : decode prog_1_method_2_code 42 = .ok (.iload_n 2, 1) := by decide +kernel
theorem d_B_address_43 : decode prog_1_method_2_code 43 = .ok (.putfield 55, 3) := by decide +kernel
theorem d_B_address_46 : decode prog_1_method_2_code 46 = .ok (.iload 4, 2) := by decide +kernel
theorem d_B_address_48 : decode prog_1_method_2_code 48 = .ok (.ireturn, 1) := by decide +kernel
def b_B_address_18 (X0 : Mm) (post : Option Value → Mm → Prop) (postX : Nat → Mm → Prop) : Kk := (i_throw 1 X0 1 6 postX)
theorem t_B_address_18 {Z : Zt} {X0 : Mm} {post : Option Value → Mm → Prop} (g : Good Z prog_1_method_2_code 5 "BusTelegrams" 6) {postX : Nat → Mm → Prop} (hq : RetT Z X0 1 6 post postX) (hr : (zM Z).sig.returnType = (some .int)) : Snd Z 5 18 (b_B_address_18 X0 post postX) := by
  unfold b_B_address_18
  exact (s_throw g hq (kd := 1) (by decide) (by decide : (50, "no such station or address") ∈ SL) mw_212 mw_9 (by decide +kernel) thG1_1 thG2_1 thG3_1 d_B_address_18 d_B_address_21 d_B_address_22 d_B_address_24 d_B_address_27)
def b_B_address_0 (X0 : Mm) (post : Option Value → Mm → Prop) (postX : Nat → Mm → Prop) : Kk := (i_iload 1 (i_push (.int 8) (i_callS 2 w_B_isOutside (i_if (fun x y => x = y) (i_iload 2 (i_push (.int 65536) (i_callS 2 w_B_isOutside (i_if (fun x y => x = y) (i_aload 0 (i_getR 3 0 (i_iload 1 (i_aald 12 (i_astore 3 (i_aload 3 (i_getI 1 2 (i_istore 4 (i_aload 3 (i_iload 2 (i_putI 1 2 (i_iload 4 (i_iret (bp post (xc X0 + 1) (xs X0 + 6))))))))))))))) (b_B_address_18 X0 post postX))))) (b_B_address_18 X0 post postX)))))
theorem t_B_address_0 {Z : Zt} {X0 : Mm} {post : Option Value → Mm → Prop} (g : Good Z prog_1_method_2_code 5 "BusTelegrams" 6) {postX : Nat → Mm → Prop} (hq : RetT Z X0 1 6 post postX) (hr : (zM Z).sig.returnType = (some .int)) : Snd Z 5 0 (b_B_address_0 X0 post postX) := by
  unfold b_B_address_0
  exact (s_iload_n g d_B_address_0 rfl (s_push_bipush g d_B_address_1 (by decide) (s_callS g (C_B_isOutside (zl Z)) (gin_S mw_208 mw_209 mw_1 mw_210) hd_B_isOutside (by decide) (by decide) d_B_address_3 (s_if_ne g d_B_address_6 (by decide) (t_B_address_18 g hq hr) (s_iload_n g d_B_address_9 rfl (s_push_ldc g mw_211 d_B_address_10 (s_callS g (C_B_isOutside (zl Z)) (gin_S mw_208 mw_209 mw_1 mw_210) hd_B_isOutside (by decide) (by decide) d_B_address_12 (s_if_eq g d_B_address_15 (by decide) (s_aload_n g d_B_address_28 rfl (s_getR g (c := 3) (j := 0) cok_3 (by decide) rfl mw_159 rfl d_B_address_29 (s_iload_n g d_B_address_32 rfl (s_aald12 g d_B_address_33 (s_astore_n g (by decide) d_B_address_34 rfl (s_aload_n g d_B_address_35 rfl (s_getIN g (c := 1) (j := 2) cok_1 (by decide) rfl mn_113 rfl d_B_address_36 (s_istore g (by decide) d_B_address_39 (s_aload_n g d_B_address_41 rfl (s_iload_n g d_B_address_42 rfl (s_putIN g (c := 1) (j := 2) cok_1 (by decide) rfl rfl rfl mn_113 rfl d_B_address_43 (s_iload g d_B_address_46 (s_iret g hq.Z hr d_B_address_48))))))))))))) (t_B_address_18 g hq hr)))))))))
def w_B_address : WpT := wpT 5 (fun X0 post postX => b_B_address_0 X0 post postX)
theorem C_B_address (l : Launch) (hst : l.stackTraces = false) : MetT l ({ cls := "BusTelegrams", name := "address", desc := "(II)I" } : Jvm.MethodName) prog_1_method_2_code 5 (some .int) 6 1 6 w_B_address := metT_of hst (by decide +kernel) (fun Z X0 post postX hZ g hq hr => t_B_address_0 g hq hr)
theorem hd_B_address : (({ cls := "BusTelegrams", name := "address", desc := "(II)I" } : Jvm.MethodName)).cls = "BusTelegrams" ∧ (({ cls := "BusTelegrams", name := "address", desc := "(II)I" } : Jvm.MethodName)).cls ≠ "java/lang/invoke/MethodHandle" ∧ (({ cls := "BusTelegrams", name := "address", desc := "(II)I" } : Jvm.MethodName)).cls ≠ "java/lang/invoke/VarHandle" ∧ (parseMethodDescriptor (({ cls := "BusTelegrams", name := "address", desc := "(II)I" } : Jvm.MethodName)).desc).map (fun d => d.parameters.length) = some 2 := ⟨rfl, by decide, by decide, by decide +kernel⟩
theorem d_B_listen_0 : decode prog_1_method_3_code 0 = .ok (.iload_n 1, 1) := by decide +kernel
theorem d_B_listen_1 : decode prog_1_method_3_code 1 = .ok (.bipush 8, 2) := by decide +kernel
theorem d_B_listen_3 : decode prog_1_method_3_code 3 = .ok (.invokestatic 43, 3) := by decide +kernel
theorem d_B_listen_6 : decode prog_1_method_3_code 6 = .ok (.ifCond .ne 13, 3) := by decide +kernel
theorem d_B_listen_9 : decode prog_1_method_3_code 9 = .ok (.iload_n 2, 1) := by decide +kernel
theorem d_B_listen_10 : decode prog_1_method_3_code 10 = .ok (.sipush 256, 3) := by decide +kernel
theorem d_B_listen_13 : decode prog_1_method_3_code 13 = .ok (.invokestatic 43, 3) := by decide +kernel
theorem d_B_listen_16 : decode prog_1_method_3_code 16 = .ok (.ifCond .eq 13, 3) := by decide +kernel
theorem d_B_listen_19 : decode prog_1_method_3_code 19 = .ok (.new 48, 3) := by decide +kernel
theorem d_B_listen_22 : decode prog_1_method_3_code 22 = .ok (.dup, 1) := by decide +kernel
theorem d_B_listen_23 : decode prog_1_method_3_code 23 = .ok (.ldc 58, 2) := by decide +kernel
theorem d_B_listen_25 : decode prog_1_method_3_code 25 = .ok (.invokespecial 52, 3) := by decide +kernel
theorem d_B_listen_28 : decode prog_1_method_3_code 28 = .ok (.athrow, 1) := by decide +kernel
theorem d_B_listen_29 : decode prog_1_method_3_code 29 = .ok (.aload_n 0, 1) := by decide +kernel
theorem d_B_listen_30 : decode prog_1_method_3_code 30 = .ok (.getfield 11, 3) := by decide +kernel
theorem d_B_listen_33 : decode prog_1_method_3_code 33 = .ok (.iload_n 1, 1) := by decide +kernel
theorem d_B_listen_34 : decode prog_1_method_3_code 34 = .ok (.aaload, 1) := by decide +kernel
theorem d_B_listen_35 : decode prog_1_method_3_code 35 = .ok (.astore 4, 2) := by decide +kernel
theorem d_B_listen_37 : decode prog_1_method_3_code 37 = .ok (.aload 4, 2) := by decide +kernel
theorem d_B_listen_39 : decode prog_1_method_3_code 39 = .ok (.getfield 60, 3) := by decide +kernel
theorem d_B_listen_42 : decode prog_1_method_3_code 42 = .ok (.iload_n 2, 1) := by decide +kernel
theorem d_B_listen_43 : decode prog_1_method_3_code 43 = .ok (.baload, 1) := by decide +kernel
theorem d_B_listen_44 : decode prog_1_method_3_code 44 = .ok (.istore 5, 2) := by decide +kernel
theorem d_B_listen_46 : decode prog_1_method_3_code 46 = .ok (.aload 4, 2) := by decide +kernel
theorem d_B_listen_48 : decode prog_1_method_3_code 48 = .ok (.getfield 60, 3) := by decide +kernel
theorem d_B_listen_51 : decode prog_1_method_3_code 51 = .ok (.iload_n 2, 1) := by decide +kernel
theorem d_B_listen_52 : decode prog_1_method_3_code 52 = .ok (.iload_n 3, 1) := by decide +kernel
theorem d_B_listen_53 : decode prog_1_method_3_code 53 = .ok (.bastore, 1) := by decide +kernel
theorem d_B_listen_54 : decode prog_1_method_3_code 54 = .ok (.iload 5, 2) := by decide +kernel
theorem d_B_listen_56 : decode prog_1_method_3_code 56 = .ok (.ireturn, 1) := by decide +kernel
def b_B_listen_19 (X0 : Mm) (post : Option Value → Mm → Prop) (postX : Nat → Mm → Prop) : Kk := (i_throw 1 X0 1 6 postX)
theorem t_B_listen_19 {Z : Zt} {X0 : Mm} {post : Option Value → Mm → Prop} (g : Good Z prog_1_method_3_code 6 "BusTelegrams" 6) {postX : Nat → Mm → Prop} (hq : RetT Z X0 1 6 post postX) (hr : (zM Z).sig.returnType = (some .boolean)) : Snd Z 6 19 (b_B_listen_19 X0 post postX) := by
  unfold b_B_listen_19
  exact (s_throw g hq (kd := 1) (by decide) (by decide : (58, "no such station or group") ∈ SL) mw_212 mw_9 (by decide +kernel) thG1_1 thG2_1 thG3_1 d_B_listen_19 d_B_listen_22 d_B_listen_23 d_B_listen_25 d_B_listen_28)
def b_B_listen_0 (X0 : Mm) (post : Option Value → Mm → Prop) (postX : Nat → Mm → Prop) : Kk := (i_iload 1 (i_push (.int 8) (i_callS 2 w_B_isOutside (i_if (fun x y => x = y) (i_iload 2 (i_push (.int 256) (i_callS 2 w_B_isOutside (i_if (fun x y => x = y) (i_aload 0 (i_getR 3 0 (i_iload 1 (i_aald 12 (i_astore 4 (i_aload 4 (i_getR 1 0 (i_iload 2 (i_ald 11 (i_istore 5 (i_aload 4 (i_getR 1 0 (i_iload 2 (i_iload 3 (i_zst (i_iload 5 (i_zret (bp post (xc X0 + 1) (xs X0 + 6))))))))))))))))))) (b_B_listen_19 X0 post postX))))) (b_B_listen_19 X0 post postX)))))
theorem t_B_listen_0 {Z : Zt} {X0 : Mm} {post : Option Value → Mm → Prop} (g : Good Z prog_1_method_3_code 6 "BusTelegrams" 6) {postX : Nat → Mm → Prop} (hq : RetT Z X0 1 6 post postX) (hr : (zM Z).sig.returnType = (some .boolean)) : Snd Z 6 0 (b_B_listen_0 X0 post postX) := by
  unfold b_B_listen_0
  exact (s_iload_n g d_B_listen_0 rfl (s_push_bipush g d_B_listen_1 (by decide) (s_callS g (C_B_isOutside (zl Z)) (gin_S mw_208 mw_209 mw_1 mw_210) hd_B_isOutside (by decide) (by decide) d_B_listen_3 (s_if_ne g d_B_listen_6 (by decide) (t_B_listen_19 g hq hr) (s_iload_n g d_B_listen_9 rfl (s_push_sipush g d_B_listen_10 (by decide) (s_callS g (C_B_isOutside (zl Z)) (gin_S mw_208 mw_209 mw_1 mw_210) hd_B_isOutside (by decide) (by decide) d_B_listen_13 (s_if_eq g d_B_listen_16 (by decide) (s_aload_n g d_B_listen_29 rfl (s_getR g (c := 3) (j := 0) cok_3 (by decide) rfl mw_159 rfl d_B_listen_30 (s_iload_n g d_B_listen_33 rfl (s_aald12 g d_B_listen_34 (s_astore g (by decide) d_B_listen_35 (s_aload g d_B_listen_37 (s_getRN g (c := 1) (j := 0) cok_1 (by decide) rfl mn_110 rfl d_B_listen_39 (s_iload_n g d_B_listen_42 rfl (s_zald g d_B_listen_43 (s_istore g (by decide) d_B_listen_44 (s_aload g d_B_listen_46 (s_getRN g (c := 1) (j := 0) cok_1 (by decide) rfl mn_110 rfl d_B_listen_48 (s_iload_n g d_B_listen_51 rfl (s_iload_n g d_B_listen_52 rfl (s_zast g d_B_listen_53 (s_iload g d_B_listen_54 (s_zret g hq.Z hr d_B_listen_56))))))))))))))))) (t_B_listen_19 g hq hr)))))))))
def w_B_listen : WpT := wpT 6 (fun X0 post postX => b_B_listen_0 X0 post postX)
theorem C_B_listen (l : Launch) (hst : l.stackTraces = false) : MetT l ({ cls := "BusTelegrams", name := "listen", desc := "(IIZ)Z" } : Jvm.MethodName) prog_1_method_3_code 6 (some .boolean) 6 1 6 w_B_listen := metT_of hst (by decide +kernel) (fun Z X0 post postX hZ g hq hr => t_B_listen_0 g hq hr)
theorem hd_B_listen : (({ cls := "BusTelegrams", name := "listen", desc := "(IIZ)Z" } : Jvm.MethodName)).cls = "BusTelegrams" ∧ (({ cls := "BusTelegrams", name := "listen", desc := "(IIZ)Z" } : Jvm.MethodName)).cls ≠ "java/lang/invoke/MethodHandle" ∧ (({ cls := "BusTelegrams", name := "listen", desc := "(IIZ)Z" } : Jvm.MethodName)).cls ≠ "java/lang/invoke/VarHandle" ∧ (parseMethodDescriptor (({ cls := "BusTelegrams", name := "listen", desc := "(IIZ)Z" } : Jvm.MethodName)).desc).map (fun d => d.parameters.length) = some 3 := ⟨rfl, by decide, by decide, by decide +kernel⟩
theorem d_B_busy_0 : decode prog_1_method_4_code 0 = .ok (.iload_n 1, 1) := by decide +kernel
theorem d_B_busy_1 : decode prog_1_method_4_code 1 = .ok (.bipush 8, 2) := by decide +kernel
theorem d_B_busy_3 : decode prog_1_method_4_code 3 = .ok (.invokestatic 43, 3) := by decide +kernel
theorem d_B_busy_6 : decode prog_1_method_4_code 6 = .ok (.ifCond .eq 13, 3) := by decide +kernel
theorem d_B_busy_9 : decode prog_1_method_4_code 9 = .ok (.new 48, 3) := by decide +kernel
theorem d_B_busy_12 : decode prog_1_method_4_code 12 = .ok (.dup, 1) := by decide +kernel
theorem d_B_busy_13 : decode prog_1_method_4_code 13 = .ok (.ldc 63, 2) := by decide +kernel
theorem d_B_busy_15 : decode prog_1_method_4_code 15 = .ok (.invokespecial 52, 3) := by decide +kernel
theorem d_B_busy_18 : decode prog_1_method_4_code 18 = .ok (.athrow, 1) := by decide +kernel
theorem d_B_busy_19 : decode prog_1_method_4_code 19 = .ok (.aload_n 0, 1) := by decide +kernel
theorem d_B_busy_20 : decode prog_1_method_4_code 20 = .ok (.getfield 11, 3) := by decide +kernel
theorem d_B_busy_23 : decode prog_1_method_4_code 23 = .ok (.iload_n 1, 1) := by decide +kernel
theorem d_B_busy_24 : decode prog_1_method_4_code 24 = .ok (.aaload, 1) := by decide +kernel
theorem d_B_busy_25 : decode prog_1_method_4_code 25 = .ok (.astore_n 3, 1) := by decide +kernel
theorem d_B_busy_26 : decode prog_1_method_4_code 26 = .ok (.aload_n 3, 1) := by decide +kernel
theorem d_B_busy_27 : decode prog_1_method_4_code 27 = .ok (.getfield 65, 3) := by decide +kernel
theorem d_B_busy_30 : decode prog_1_method_4_code 30 = .ok (.istore 4, 2) := by decide +kernel
theorem d_B_busy_32 : decode prog_1_method_4_code 32 = .ok (.aload_n 3, 1) := by decide +kernel
theorem d_B_busy_33 : decode prog_1_method_4_code 33 = .ok (.iload_n 2, 1) := by decide +kernel
theorem d_B_busy_34 : decode prog_1_method_4_code 34 = .ok (.putfield 65, 3) := by decide +kernel
theorem d_B_busy_37 : decode prog_1_method_4_code 37 = .ok (.iload 4, 2) := by decide +kernel
theorem d_B_busy_39 : decode prog_1_method_4_code 39 = .ok (.ireturn, 1) := by decide +kernel
def b_B_busy_0 (X0 : Mm) (post : Option Value → Mm → Prop) (postX : Nat → Mm → Prop) : Kk := (i_iload 1 (i_push (.int 8) (i_callS 2 w_B_isOutside (i_if (fun x y => x = y) (i_aload 0 (i_getR 3 0 (i_iload 1 (i_aald 12 (i_astore 3 (i_aload 3 (i_getI 1 3 (i_istore 4 (i_aload 3 (i_iload 2 (i_putZ 1 3 (i_iload 4 (i_zret (bp post (xc X0 + 1) (xs X0 + 6))))))))))))))) (i_throw 1 X0 1 6 postX)))))
theorem t_B_busy_0 {Z : Zt} {X0 : Mm} {post : Option Value → Mm → Prop} (g : Good Z prog_1_method_4_code 5 "BusTelegrams" 6) {postX : Nat → Mm → Prop} (hq : RetT Z X0 1 6 post postX) (hr : (zM Z).sig.returnType = (some .boolean)) : Snd Z 5 0 (b_B_busy_0 X0 post postX) := by
  unfold b_B_busy_0
  exact (s_iload_n g d_B_busy_0 rfl (s_push_bipush g d_B_busy_1 (by decide) (s_callS g (C_B_isOutside (zl Z)) (gin_S mw_208 mw_209 mw_1 mw_210) hd_B_isOutside (by decide) (by decide) d_B_busy_3 (s_if_eq g d_B_busy_6 (by decide) (s_aload_n g d_B_busy_19 rfl (s_getR g (c := 3) (j := 0) cok_3 (by decide) rfl mw_159 rfl d_B_busy_20 (s_iload_n g d_B_busy_23 rfl (s_aald12 g d_B_busy_24 (s_astore_n g (by decide) d_B_busy_25 rfl (s_aload_n g d_B_busy_26 rfl (s_getIN g (c := 1) (j := 3) cok_1 (by decide) rfl mn_115 rfl d_B_busy_27 (s_istore g (by decide) d_B_busy_30 (s_aload_n g d_B_busy_32 rfl (s_iload_n g d_B_busy_33 rfl (s_putZN g (c := 1) (j := 3) cok_1 (by decide) rfl rfl rfl mn_115 rfl d_B_busy_34 (s_iload g d_B_busy_37 (s_zret g hq.Z hr d_B_busy_39))))))))))))) (s_throw g hq (kd := 1) (by decide) (by decide : (63, "no such station") ∈ SL) mw_212 mw_9 (by decide +kernel) thG1_1 thG2_1 thG3_1 d_B_busy_9 d_B_busy_12 d_B_busy_13 d_B_busy_15 d_B_busy_18)))))
def w_B_busy : WpT := wpT 5 (fun X0 post postX => b_B_busy_0 X0 post postX)
theorem C_B_busy (l : Launch) (hst : l.stackTraces = false) : MetT l ({ cls := "BusTelegrams", name := "busy", desc := "(IZ)Z" } : Jvm.MethodName) prog_1_method_4_code 5 (some .boolean) 6 1 6 w_B_busy := metT_of hst (by decide +kernel) (fun Z X0 post postX hZ g hq hr => t_B_busy_0 g hq hr)
theorem hd_B_busy : (({ cls := "BusTelegrams", name := "busy", desc := "(IZ)Z" } : Jvm.MethodName)).cls = "BusTelegrams" ∧ (({ cls := "BusTelegrams", name := "busy", desc := "(IZ)Z" } : Jvm.MethodName)).cls ≠ "java/lang/invoke/MethodHandle" ∧ (({ cls := "BusTelegrams", name := "busy", desc := "(IZ)Z" } : Jvm.MethodName)).cls ≠ "java/lang/invoke/VarHandle" ∧ (parseMethodDescriptor (({ cls := "BusTelegrams", name := "busy", desc := "(IZ)Z" } : Jvm.MethodName)).desc).map (fun d => d.parameters.length) = some 2 := ⟨rfl, by decide, by decide, by decide +kernel⟩
theorem d_B_send_0 : decode prog_1_method_5_code 0 = .ok (.iload_n 1, 1) := by decide +kernel
theorem d_B_send_1 : decode prog_1_method_5_code 1 = .ok (.bipush 8, 2) := by decide +kernel
theorem d_B_send_3 : decode prog_1_method_5_code 3 = .ok (.invokestatic 43, 3) := by decide +kernel
theorem d_B_send_6 : decode prog_1_method_5_code 6 = .ok (.ifCond .ne 11, 3) := by decide +kernel
theorem d_B_send_9 : decode prog_1_method_5_code 9 = .ok (.iload_n 2, 1) := by decide +kernel
theorem d_B_send_10 : decode prog_1_method_5_code 10 = .ok (.iconst 4, 1) := by decide +kernel
theorem d_B_send_11 : decode prog_1_method_5_code 11 = .ok (.invokestatic 43, 3) := by decide +kernel
theorem d_B_send_14 : decode prog_1_method_5_code 14 = .ok (.ifCond .eq 13, 3) := by decide +kernel
theorem d_B_send_17 : decode prog_1_method_5_code 17 = .ok (.new 48, 3) := by decide +kernel
theorem d_B_send_20 : decode prog_1_method_5_code 20 = .ok (.dup, 1) := by decide +kernel
theorem d_B_send_21 : decode prog_1_method_5_code 21 = .ok (.ldc 69, 2) := by decide +kernel
theorem d_B_send_23 : decode prog_1_method_5_code 23 = .ok (.invokespecial 52, 3) := by decide +kernel
theorem d_B_send_26 : decode prog_1_method_5_code 26 = .ok (.athrow, 1) := by decide +kernel
theorem d_B_send_27 : decode prog_1_method_5_code 27 = .ok (.iload_n 3, 1) := by decide +kernel
theorem d_B_send_28 : decode prog_1_method_5_code 28 = .ok (.iload 4, 2) := by decide +kernel
theorem d_B_send_30 : decode prog_1_method_5_code 30 = .ok (.ifCond .eq 9, 3) := by decide +kernel
theorem d_B_send_33 : decode prog_1_method_5_code 33 = .ok (.sipush 256, 3) := by decide +kernel
theorem d_B_send_36 : decode prog_1_method_5_code 36 = .ok (.goto 5, 3) := by decide +kernel
theorem d_B_send_39 : decode prog_1_method_5_code 39 = .ok (.ldc 47, 2) := by decide +kernel
theorem d_B_send_41 : decode prog_1_method_5_code 41 = .ok (.invokestatic 43, 3) := by decide +kernel
theorem d_B_send_44 : decode prog_1_method_5_code 44 = .ok (.ifCond .eq 13, 3) := by decide +kernel
theorem d_B_send_47 : decode prog_1_method_5_code 47 = .ok (.new 48, 3) := by decide +kernel
theorem d_B_send_50 : decode prog_1_method_5_code 50 = .ok (.dup, 1) := by decide +kernel
theorem d_B_send_51 : decode prog_1_method_5_code 51 = .ok (.ldc 71, 2) := by decide +kernel
theorem d_B_send_53 : decode prog_1_method_5_code 53 = .ok (.invokespecial 52, 3) := by decide +kernel
theorem d_B_send_56 : decode prog_1_method_5_code 56 = .ok (.athrow, 1) := by decide +kernel
theorem d_B_send_57 : decode prog_1_method_5_code 57 = .ok (.iload 5, 2) := by decide +kernel
theorem d_B_send_59 : decode prog_1_method_5_code 59 = .ok (.iconst 1, 1) := by decide +kernel
theorem d_B_send_60 : decode prog_1_method_5_code 60 = .ok (.if_icmp .lt 21, 3) := by decide +kernel
theorem d_B_send_63 : decode prog_1_method_5_code 63 = .ok (.iload 5, 2) := by decide +kernel
theorem d_B_send_65 : decode prog_1_method_5_code 65 = .ok (.bipush 14, 2) := by decide +kernel
theorem d_B_send_67 : decode prog_1_method_5_code 67 = .ok (.if_icmp .gt 14, 3) := by decide +kernel
theorem d_B_send_70 : decode prog_1_method_5_code 70 = .ok (.iload 6, 2) := by decide +kernel
theorem d_B_send_72 : decode prog_1_method_5_code 72 = .ok (.sipush 256, 3) := by decide +kernel
theorem d_B_send_75 : decode prog_1_method_5_code 75 = .ok (.invokestatic 43, 3) := by decide +kernel
theorem d_B_send_78 : decode prog_1_method_5_code 78 = .ok (.ifCond .eq 13, 3) := by decide +kernel
theorem d_B_send_81 : decode prog_1_method_5_code 81 = .ok (.new 48, 3) := by decide +kernel
theorem d_B_send_84 : decode prog_1_method_5_code 84 = .ok (.dup, 1) := by decide +kernel
theorem d_B_send_85 : decode prog_1_method_5_code 85 = .ok (.ldc 73, 2) := by decide +kernel
theorem d_B_send_87 : decode prog_1_method_5_code 87 = .ok (.invokespecial 52, 3) := by decide +kernel
theorem d_B_send_90 : decode prog_1_method_5_code 90 = .ok (.athrow, 1) := by decide +kernel
theorem d_B_send_91 : decode prog_1_method_5_code 91 = .ok (.aload_n 0, 1) := by decide +kernel
theorem d_B_send_92 : decode prog_1_method_5_code 92 = .ok (.getfield 11, 3) := by decide +kernel
theorem d_B_send_95 : decode prog_1_method_5_code 95 = .ok (.iload_n 1, 1) := by decide +kernel
theorem d_B_send_96 : decode prog_1_method_5_code 96 = .ok (.aaload, 1) := by decide +kernel
theorem d_B_send_97 : decode prog_1_method_5_code 97 = .ok (.astore 7, 2) := by decide +kernel
theorem d_B_send_99 : decode prog_1_method_5_code 99 = .ok (.aload 7, 2) := by decide +kernel
theorem d_B_send_101 : decode prog_1_method_5_code 101 = .ok (.getfield 75, 3) := by decide +kernel
theorem d_B_send_104 : decode prog_1_method_5_code 104 = .ok (.bipush 6, 2) := by decide +kernel
theorem d_B_send_106 : decode prog_1_method_5_code 106 = .ok (.if_icmp .lt 13, 3) := by decide +kernel
theorem d_B_send_109 : decode prog_1_method_5_code 109 = .ok (.new 78, 3) := by decide +kernel
theorem d_B_send_112 : decode prog_1_method_5_code 112 = .ok (.dup, 1) := by decide +kernel
theorem d_B_send_113 : decode prog_1_method_5_code 113 = .ok (.ldc 80, 2) := by decide +kernel
theorem d_B_send_115 : decode prog_1_method_5_code 115 = .ok (.invokespecial 82, 3) := by decide +kernel
theorem d_B_send_118 : decode prog_1_method_5_code 118 = .ok (.athrow, 1) := by decide +kernel
theorem d_B_send_119 : decode prog_1_method_5_code 119 = .ok (.aload 7, 2) := by decide +kernel
theorem d_B_send_121 : decode prog_1_method_5_code 121 = .ok (.invokevirtual 83, 3) := by decide +kernel
theorem d_B_send_124 : decode prog_1_method_5_code 124 = .ok (.astore 8, 2) := by decide +kernel
theorem d_B_send_126 : decode prog_1_method_5_code 126 = .ok (.aload 8, 2) := by decide +kernel
theorem d_B_send_128 : decode prog_1_method_5_code 128 = .ok (.iload_n 2, 1) := by decide +kernel
theorem d_B_send_129 : decode prog_1_method_5_code 129 = .ok (.aload 7, 2) := by decide +kernel
theorem d_B_send_131 : decode prog_1_method_5_code 131 = .ok (.getfield 55, 3) := by decide +kernel
theorem d_B_send_134 : decode prog_1_method_5_code 134 = .ok (.iload_n 3, 1) := by decide +kernel
theorem d_B_send_135 : decode prog_1_method_5_code 135 = .ok (.invokevirtual 87, 3) := by decide +kernel
theorem d_B_send_138 : decode prog_1_method_5_code 138 = .ok (.aload 8, 2) := by decide +kernel
theorem d_B_send_140 : decode prog_1_method_5_code 140 = .ok (.iload 4, 2) := by decide +kernel
theorem d_B_send_142 : decode prog_1_method_5_code 142 = .ok (.iload 5, 2) := by decide +kernel
theorem d_B_send_144 : decode prog_1_method_5_code 144 = .ok (.iload 6, 2) := by decide +kernel
theorem d_B_send_146 : decode prog_1_method_5_code 146 = .ok (.invokevirtual 93, 3) := by decide +kernel
theorem d_B_send_149 : decode prog_1_method_5_code 149 = .ok (.aload 8, 2) := by decide +kernel
theorem d_B_send_151 : decode prog_1_method_5_code 151 = .ok (.invokevirtual 97, 3) := by decide +kernel
theorem d_B_send_154 : decode prog_1_method_5_code 154 = .ok (.aload 7, 2) := by decide +kernel
theorem d_B_send_156 : decode prog_1_method_5_code 156 = .ok (.getfield 75, 3) := by decide +kernel
theorem d_B_send_159 : decode prog_1_method_5_code 159 = .ok (.ireturn, 1) := by decide +kernel
def b_B_send_17 (X0 : Mm) (post : Option Value → Mm → Prop) (postX : Nat → Mm → Prop) : Kk := (i_throw 1 X0 1 6 postX)
theorem t_B_send_17 {Z : Zt} {X0 : Mm} {post : Option Value → Mm → Prop} (g : Good Z prog_1_method_5_code 9 "BusTelegrams" 6) {postX : Nat → Mm → Prop} (hq : RetT Z X0 1 6 post postX) (hr : (zM Z).sig.returnType = (some .int)) : Snd Z 9 17 (b_B_send_17 X0 post postX) := by
  unfold b_B_send_17
  exact (s_throw g hq (kd := 1) (by decide) (by decide : (69, "no such station or priority") ∈ SL) mw_212 mw_9 (by decide +kernel) thG1_1 thG2_1 thG3_1 d_B_send_17 d_B_send_20 d_B_send_21 d_B_send_23 d_B_send_26)
def b_B_send_81 (X0 : Mm) (post : Option Value → Mm → Prop) (postX : Nat → Mm → Prop) : Kk := (i_throw 1 X0 1 6 postX)
theorem t_B_send_81 {Z : Zt} {X0 : Mm} {post : Option Value → Mm → Prop} (g : Good Z prog_1_method_5_code 9 "BusTelegrams" 6) {postX : Nat → Mm → Prop} (hq : RetT Z X0 1 6 post postX) (hr : (zM Z).sig.returnType = (some .int)) : Snd Z 9 81 (b_B_send_81 X0 post postX) := by
  unfold b_B_send_81
  exact (s_throw g hq (kd := 1) (by decide) (by decide : (73, "no such data") ∈ SL) mw_212 mw_9 (by decide +kernel) thG1_1 thG2_1 thG3_1 d_B_send_81 d_B_send_84 d_B_send_85 d_B_send_87 d_B_send_90)
def b_B_send_41 (X0 : Mm) (post : Option Value → Mm → Prop) (postX : Nat → Mm → Prop) : Kk := (i_callS 2 w_B_isOutside (i_if (fun x y => x = y) (i_iload 5 (i_push (.int 1) (i_icmp (fun x y => x < y) (b_B_send_81 X0 post postX) (i_iload 5 (i_push (.int 14) (i_icmp (fun x y => y < x) (b_B_send_81 X0 post postX) (i_iload 6 (i_push (.int 256) (i_callS 2 w_B_isOutside (i_if (fun x y => x = y) (i_aload 0 (i_getR 3 0 (i_iload 1 (i_aald 12 (i_astore 7 (i_aload 7 (i_getI 1 5 (i_push (.int 6) (i_icmp (fun x y => x < y) (i_aload 7 (i_callV 0 1 w_S_addToQueue (i_astore 8 (i_aload 8 (i_iload 2 (i_aload 7 (i_getI 1 2 (i_iload 3 (i_callV 3 2 w_T_setHead (i_aload 8 (i_iload 4 (i_iload 5 (i_iload 6 (i_callV 3 2 w_T_setData (i_aload 8 (i_callV 0 2 w_T_seal (i_aload 7 (i_getI 1 5 (i_iret (bp post (xc X0 + 1) (xs X0 + 6))))))))))))))))))))) (i_throw 2 X0 1 6 postX)))))))))) (b_B_send_81 X0 post postX))))))))))) (i_throw 1 X0 1 6 postX)))
theorem t_B_send_41 {Z : Zt} {X0 : Mm} {post : Option Value → Mm → Prop} (g : Good Z prog_1_method_5_code 9 "BusTelegrams" 6) {postX : Nat → Mm → Prop} (hq : RetT Z X0 1 6 post postX) (hr : (zM Z).sig.returnType = (some .int)) : Snd Z 9 41 (b_B_send_41 X0 post postX) := by
  unfold b_B_send_41
  exact (s_callS g (C_B_isOutside (zl Z)) (gin_S mw_208 mw_209 mw_1 mw_210) hd_B_isOutside (by decide) (by decide) d_B_send_41 (s_if_eq g d_B_send_44 (by decide) (s_iload g d_B_send_57 (s_push_iconst g d_B_send_59 (by decide) (s_icmp_lt g d_B_send_60 (by decide) (t_B_send_81 g hq hr) (s_iload g d_B_send_63 (s_push_bipush g d_B_send_65 (by decide) (s_icmp_gt g d_B_send_67 (by decide) (t_B_send_81 g hq hr) (s_iload g d_B_send_70 (s_push_sipush g d_B_send_72 (by decide) (s_callS g (C_B_isOutside (zl Z)) (gin_S mw_208 mw_209 mw_1 mw_210) hd_B_isOutside (by decide) (by decide) d_B_send_75 (s_if_eq g d_B_send_78 (by decide) (s_aload_n g d_B_send_91 rfl (s_getR g (c := 3) (j := 0) cok_3 (by decide) rfl mw_159 rfl d_B_send_92 (s_iload_n g d_B_send_95 rfl (s_aald12 g d_B_send_96 (s_astore g (by decide) d_B_send_97 (s_aload g d_B_send_99 (s_getIN g (c := 1) (j := 5) cok_1 (by decide) rfl mn_118 rfl d_B_send_101 (s_push_bipush g d_B_send_104 (by decide) (s_icmp_lt g d_B_send_106 (by decide) (s_aload g d_B_send_119 (s_callV g (C_S_addToQueue (zl Z)) (gin_V mw_322 mw_323 mw_324 mw_3 mw_325) hd_S_addToQueue rfl (by decide) (by decide) (by decide) d_B_send_121 (s_astore g (by decide) d_B_send_124 (s_aload g d_B_send_126 (s_iload_n g d_B_send_128 rfl (s_aload g d_B_send_129 (s_getIN g (c := 1) (j := 2) cok_1 (by decide) rfl mn_113 rfl d_B_send_131 (s_iload_n g d_B_send_134 rfl (s_callV g (C_T_setHead (zl Z)) (gin_V mw_333 mw_334 mw_335 mw_4 mw_336) hd_T_setHead rfl (by decide) (by decide) (by decide) d_B_send_135 (s_aload g d_B_send_138 (s_iload g d_B_send_140 (s_iload g d_B_send_142 (s_iload g d_B_send_144 (s_callV g (C_T_setData (zl Z)) (gin_V mw_337 mw_338 mw_339 mw_4 mw_340) hd_T_setData rfl (by decide) (by decide) (by decide) d_B_send_146 (s_aload g d_B_send_149 (s_callV g (C_T_seal (zl Z)) (gin_V mw_347 mw_348 mw_349 mw_4 mw_350) hd_T_seal rfl (by decide) (by decide) (by decide) d_B_send_151 (s_aload g d_B_send_154 (s_getIN g (c := 1) (j := 5) cok_1 (by decide) rfl mn_118 rfl d_B_send_156 (s_iret g hq.Z hr d_B_send_159))))))))))))))))))) (s_throw g hq (kd := 2) (by decide) (by decide : (80, "the queue is full") ∈ SL) mw_306 mw_10 (by decide +kernel) thG1_2 thG2_2 thG3_2 d_B_send_109 d_B_send_112 d_B_send_113 d_B_send_115 d_B_send_118)))))))))) (t_B_send_81 g hq hr))))))))))) (s_throw g hq (kd := 1) (by decide) (by decide : (71, "the aim is no address or no group") ∈ SL) mw_212 mw_9 (by decide +kernel) thG1_1 thG2_1 thG3_1 d_B_send_47 d_B_send_50 d_B_send_51 d_B_send_53 d_B_send_56)))
def b_B_send_0 (X0 : Mm) (post : Option Value → Mm → Prop) (postX : Nat → Mm → Prop) : Kk := (i_iload 1 (i_push (.int 8) (i_callS 2 w_B_isOutside (i_if (fun x y => x = y) (i_iload 2 (i_push (.int 4) (i_callS 2 w_B_isOutside (i_if (fun x y => x = y) (i_iload 3 (i_iload 4 (i_if (fun x y => x = y) (i_push (.int 65536) (b_B_send_41 X0 post postX)) (i_push (.int 256) (b_B_send_41 X0 post postX))))) (b_B_send_17 X0 post postX))))) (b_B_send_17 X0 post postX)))))
theorem t_B_send_0 {Z : Zt} {X0 : Mm} {post : Option Value → Mm → Prop} (g : Good Z prog_1_method_5_code 9 "BusTelegrams" 6) {postX : Nat → Mm → Prop} (hq : RetT Z X0 1 6 post postX) (hr : (zM Z).sig.returnType = (some .int)) : Snd Z 9 0 (b_B_send_0 X0 post postX) := by
  unfold b_B_send_0
  exact (s_iload_n g d_B_send_0 rfl (s_push_bipush g d_B_send_1 (by decide) (s_callS g (C_B_isOutside (zl Z)) (gin_S mw_208 mw_209 mw_1 mw_210) hd_B_isOutside (by decide) (by decide) d_B_send_3 (s_if_ne g d_B_send_6 (by decide) (t_B_send_17 g hq hr) (s_iload_n g d_B_send_9 rfl (s_push_iconst g d_B_send_10 (by decide) (s_callS g (C_B_isOutside (zl Z)) (gin_S mw_208 mw_209 mw_1 mw_210) hd_B_isOutside (by decide) (by decide) d_B_send_11 (s_if_eq g d_B_send_14 (by decide) (s_iload_n g d_B_send_27 rfl (s_iload g d_B_send_28 (s_if_eq g d_B_send_30 (by decide) (s_push_ldc g mw_211 d_B_send_39 (t_B_send_41 g hq hr)) (s_push_sipush g d_B_send_33 (by decide) (s_goto g d_B_send_36 (by decide) (t_B_send_41 g hq hr)))))) (t_B_send_17 g hq hr)))))))))
def w_B_send : WpT := wpT 9 (fun X0 post postX => b_B_send_0 X0 post postX)
theorem C_B_send (l : Launch) (hst : l.stackTraces = false) : MetT l ({ cls := "BusTelegrams", name := "send", desc := "(IIIZII)I" } : Jvm.MethodName) prog_1_method_5_code 9 (some .int) 6 1 6 w_B_send := metT_of hst (by decide +kernel) (fun Z X0 post postX hZ g hq hr => t_B_send_0 g hq hr)
theorem hd_B_send : (({ cls := "BusTelegrams", name := "send", desc := "(IIIZII)I" } : Jvm.MethodName)).cls = "BusTelegrams" ∧ (({ cls := "BusTelegrams", name := "send", desc := "(IIIZII)I" } : Jvm.MethodName)).cls ≠ "java/lang/invoke/MethodHandle" ∧ (({ cls := "BusTelegrams", name := "send", desc := "(IIIZII)I" } : Jvm.MethodName)).cls ≠ "java/lang/invoke/VarHandle" ∧ (parseMethodDescriptor (({ cls := "BusTelegrams", name := "send", desc := "(IIIZII)I" } : Jvm.MethodName)).desc).map (fun d => d.parameters.length) = some 6 := ⟨rfl, by decide, by decide, by decide +kernel⟩
theorem d_B_disturb_0 : decode prog_1_method_6_code 0 = .ok (.iload_n 1, 1) := by decide +kernel
theorem d_B_disturb_1 : decode prog_1_method_6_code 1 = .ok (.iconst 1, 1) := by decide +kernel
theorem d_B_disturb_2 : decode prog_1_method_6_code 2 = .ok (.if_icmp .lt 10, 3) := by decide +kernel
theorem d_B_disturb_5 : decode prog_1_method_6_code 5 = .ok (.iload_n 1, 1) := by decide +kernel
theorem d_B_disturb_6 : decode prog_1_method_6_code 6 = .ok (.sipush 2000, 3) := by decide +kernel
theorem d_B_disturb_9 : decode prog_1_method_6_code 9 = .ok (.if_icmp .le 13, 3) := by decide +kernel
theorem d_B_disturb_12 : decode prog_1_method_6_code 12 = .ok (.new 48, 3) := by decide +kernel
theorem d_B_disturb_15 : decode prog_1_method_6_code 15 = .ok (.dup, 1) := by decide +kernel
theorem d_B_disturb_16 : decode prog_1_method_6_code 16 = .ok (.ldc 100, 2) := by decide +kernel
theorem d_B_disturb_18 : decode prog_1_method_6_code 18 = .ok (.invokespecial 52, 3) := by decide +kernel
theorem d_B_disturb_21 : decode prog_1_method_6_code 21 = .ok (.athrow, 1) := by decide +kernel
theorem d_B_disturb_22 : decode prog_1_method_6_code 22 = .ok (.aload_n 0, 1) := by decide +kernel
theorem d_B_disturb_23 : decode prog_1_method_6_code 23 = .ok (.getfield 26, 3) := by decide +kernel
theorem d_B_disturb_26 : decode prog_1_method_6_code 26 = .ok (.bipush 50, 2) := by decide +kernel
theorem d_B_disturb_28 : decode prog_1_method_6_code 28 = .ok (.if_icmp .lt 13, 3) := by decide +kernel
theorem d_B_disturb_31 : decode prog_1_method_6_code 31 = .ok (.new 78, 3) := by decide +kernel
theorem d_B_disturb_34 : decode prog_1_method_6_code 34 = .ok (.dup, 1) := by decide +kernel
theorem d_B_disturb_35 : decode prog_1_method_6_code 35 = .ok (.ldc 102, 2) := by decide +kernel
theorem d_B_disturb_37 : decode prog_1_method_6_code 37 = .ok (.invokespecial 82, 3) := by decide +kernel
theorem d_B_disturb_40 : decode prog_1_method_6_code 40 = .ok (.athrow, 1) := by decide +kernel
theorem d_B_disturb_41 : decode prog_1_method_6_code 41 = .ok (.aload_n 0, 1) := by decide +kernel
theorem d_B_disturb_42 : decode prog_1_method_6_code 42 = .ok (.getfield 34, 3) := by decide +kernel
theorem d_B_disturb_45 : decode prog_1_method_6_code 45 = .ok (.iload_n 1, 1) := by decide +kernel
theorem d_B_disturb_46 : decode prog_1_method_6_code 46 = .ok (.iadd, 1) := by decide +kernel
theorem d_B_disturb_47 : decode prog_1_method_6_code 47 = .ok (.invokestatic 104, 3) := by decide +kernel
theorem d_B_disturb_50 : decode prog_1_method_6_code 50 = .ok (.istore_n 2, 1) := by decide +kernel
theorem d_B_disturb_51 : decode prog_1_method_6_code 51 = .ok (.aload_n 0, 1) := by decide +kernel
theorem d_B_disturb_52 : decode prog_1_method_6_code 52 = .ok (.getfield 22, 3) := by decide +kernel
theorem d_B_disturb_55 : decode prog_1_method_6_code 55 = .ok (.iload_n 2, 1) := by decide +kernel
theorem d_B_disturb_56 : decode prog_1_method_6_code 56 = .ok (.baload, 1) := by decide +kernel
theorem d_B_disturb_57 : decode prog_1_method_6_code 57 = .ok (.ifCond .eq 5, 3) := by decide +kernel
theorem d_B_disturb_60 : decode prog_1_method_6_code 60 = .ok (.iconst 0, 1) := by decide +kernel
theorem d_B_disturb_61 : decode prog_1_method_6_code 61 = .ok (.ireturn, 1) := by decide +kernel
theorem d_B_disturb_62 : decode prog_1_method_6_code 62 = .ok (.aload_n 0, 1) := by decide +kernel
theorem d_B_disturb_63 : decode prog_1_method_6_code 63 = .ok (.getfield 22, 3) := by decide +kernel
theorem d_B_disturb_66 : decode prog_1_method_6_code 66 = .ok (.iload_n 2, 1) := by decide +kernel
theorem d_B_disturb_67 : decode prog_1_method_6_code 67 = .ok (.iconst 1, 1) := by decide +kernel
theorem d_B_disturb_68 : decode prog_1_method_6_code 68 = .ok (.bastore, 1) := by decide +kernel
theorem d_B_disturb_69 : decode prog_1_method_6_code 69 = .ok (.aload_n 0, 1) := by decide +kernel
theorem d_B_disturb_70 : decode prog_1_method_6_code 70 = .ok (.dup, 1) := by decide +kernel
theorem d_B_disturb_71 : decode prog_1_method_6_code 71 = .ok (.getfield 26, 3) := by decide +kernel
theorem d_B_disturb_74 : decode prog_1_method_6_code 74 = .ok (.iconst 1, 1) := by decide +kernel
theorem d_B_disturb_75 : decode prog_1_method_6_code 75 = .ok (.iadd, 1) := by decide +kernel
theorem d_B_disturb_76 : decode prog_1_method_6_code 76 = .ok (.putfield 26, 3) := by decide +kernel
theorem d_B_disturb_79 : decode prog_1_method_6_code 79 = .ok (.iconst 1, 1) := by decide +kernel
theorem d_B_disturb_80 : decode prog_1_method_6_code 80 = .ok (.ireturn, 1) := by decide +kernel
def b_B_disturb_12 (X0 : Mm) (post : Option Value → Mm → Prop) (postX : Nat → Mm → Prop) : Kk := (i_throw 1 X0 1 6 postX)
theorem t_B_disturb_12 {Z : Zt} {X0 : Mm} {post : Option Value → Mm → Prop} (g : Good Z prog_1_method_6_code 3 "BusTelegrams" 6) {postX : Nat → Mm → Prop} (hq : RetT Z X0 1 6 post postX) (hr : (zM Z).sig.returnType = (some .boolean)) : Snd Z 3 12 (b_B_disturb_12 X0 post postX) := by
  unfold b_B_disturb_12
  exact (s_throw g hq (kd := 1) (by decide) (by decide : (100, "not so many bit times behind this one") ∈ SL) mw_212 mw_9 (by decide +kernel) thG1_1 thG2_1 thG3_1 d_B_disturb_12 d_B_disturb_15 d_B_disturb_16 d_B_disturb_18 d_B_disturb_21)
def b_B_disturb_0 (X0 : Mm) (post : Option Value → Mm → Prop) (postX : Nat → Mm → Prop) : Kk := (i_iload 1 (i_push (.int 1) (i_icmp (fun x y => x < y) (b_B_disturb_12 X0 post postX) (i_iload 1 (i_push (.int 2000) (i_icmp (fun x y => x ≤ y) (i_aload 0 (i_getI 3 3 (i_push (.int 50) (i_icmp (fun x y => x < y) (i_aload 0 (i_getI 3 5 (i_iload 1 (i_bin (fun x y => x + y) (i_callS 1 w_B_disturbancePlace (i_istore 2 (i_aload 0 (i_getR 3 2 (i_iload 2 (i_ald 11 (i_if (fun x y => x = y) (i_aload 0 (i_getR 3 2 (i_iload 2 (i_push (.int 1) (i_zst (i_aload 0 (i_dup (i_getI 3 3 (i_push (.int 1) (i_bin (fun x y => x + y) (i_putI 3 3 (i_push (.int 1) (i_zret (bp post (xc X0 + 1) (xs X0 + 6))))))))))))))) (i_push (.int 0) (i_zret (bp post (xc X0 + 1) (xs X0 + 6))))))))))))))) (i_throw 2 X0 1 6 postX))))) (b_B_disturb_12 X0 post postX)))))))
theorem t_B_disturb_0 {Z : Zt} {X0 : Mm} {post : Option Value → Mm → Prop} (g : Good Z prog_1_method_6_code 3 "BusTelegrams" 6) {postX : Nat → Mm → Prop} (hq : RetT Z X0 1 6 post postX) (hr : (zM Z).sig.returnType = (some .boolean)) : Snd Z 3 0 (b_B_disturb_0 X0 post postX) := by
  unfold b_B_disturb_0
  exact (s_iload_n g d_B_disturb_0 rfl (s_push_iconst g d_B_disturb_1 (by decide) (s_icmp_lt g d_B_disturb_2 (by decide) (t_B_disturb_12 g hq hr) (s_iload_n g d_B_disturb_5 rfl (s_push_sipush g d_B_disturb_6 (by decide) (s_icmp_le g d_B_disturb_9 (by decide) (s_aload_n g d_B_disturb_22 rfl (s_getI g (c := 3) (j := 3) cok_3 (by decide) rfl mw_162 rfl d_B_disturb_23 (s_push_bipush g d_B_disturb_26 (by decide) (s_icmp_lt g d_B_disturb_28 (by decide) (s_aload_n g d_B_disturb_41 rfl (s_getI g (c := 3) (j := 5) cok_3 (by decide) rfl mw_164 rfl d_B_disturb_42 (s_iload_n g d_B_disturb_45 rfl (s_iadd g d_B_disturb_46 (s_callS g (C_B_disturbancePlace (zl Z)) (gin_S mw_360 mw_361 mw_1 mw_362) hd_B_disturbancePlace (by decide) (by decide) d_B_disturb_47 (s_istore_n g (by decide) d_B_disturb_50 rfl (s_aload_n g d_B_disturb_51 rfl (s_getR g (c := 3) (j := 2) cok_3 (by decide) rfl mw_161 rfl d_B_disturb_52 (s_iload_n g d_B_disturb_55 rfl (s_zald g d_B_disturb_56 (s_if_eq g d_B_disturb_57 (by decide) (s_aload_n g d_B_disturb_62 rfl (s_getR g (c := 3) (j := 2) cok_3 (by decide) rfl mw_161 rfl d_B_disturb_63 (s_iload_n g d_B_disturb_66 rfl (s_push_iconst g d_B_disturb_67 (by decide) (s_zast g d_B_disturb_68 (s_aload_n g d_B_disturb_69 rfl (s_dup g d_B_disturb_70 (s_getI g (c := 3) (j := 3) cok_3 (by decide) rfl mw_162 rfl d_B_disturb_71 (s_push_iconst g d_B_disturb_74 (by decide) (s_iadd g d_B_disturb_75 (s_putI g (c := 3) (j := 3) cok_3 (by decide) rfl rfl rfl mw_162 rfl d_B_disturb_76 (s_push_iconst g d_B_disturb_79 (by decide) (s_zret g hq.Z hr d_B_disturb_80))))))))))))) (s_push_iconst g d_B_disturb_60 (by decide) (s_zret g hq.Z hr d_B_disturb_61))))))))))))) (s_throw g hq (kd := 2) (by decide) (by decide : (102, "too many disturbances are to come") ∈ SL) mw_306 mw_10 (by decide +kernel) thG1_2 thG2_2 thG3_2 d_B_disturb_31 d_B_disturb_34 d_B_disturb_35 d_B_disturb_37 d_B_disturb_40))))) (t_B_disturb_12 g hq hr)))))))
def w_B_disturb : WpT := wpT 3 (fun X0 post postX => b_B_disturb_0 X0 post postX)
theorem C_B_disturb (l : Launch) (hst : l.stackTraces = false) : MetT l ({ cls := "BusTelegrams", name := "disturb", desc := "(I)Z" } : Jvm.MethodName) prog_1_method_6_code 3 (some .boolean) 6 1 6 w_B_disturb := metT_of hst (by decide +kernel) (fun Z X0 post postX hZ g hq hr => t_B_disturb_0 g hq hr)
theorem hd_B_disturb : (({ cls := "BusTelegrams", name := "disturb", desc := "(I)Z" } : Jvm.MethodName)).cls = "BusTelegrams" ∧ (({ cls := "BusTelegrams", name := "disturb", desc := "(I)Z" } : Jvm.MethodName)).cls ≠ "java/lang/invoke/MethodHandle" ∧ (({ cls := "BusTelegrams", name := "disturb", desc := "(I)Z" } : Jvm.MethodName)).cls ≠ "java/lang/invoke/VarHandle" ∧ (parseMethodDescriptor (({ cls := "BusTelegrams", name := "disturb", desc := "(I)Z" } : Jvm.MethodName)).desc).map (fun d => d.parameters.length) = some 1 := ⟨rfl, by decide, by decide, by decide +kernel⟩
theorem d_B_run_0 : decode prog_1_method_7_code 0 = .ok (.iload_n 1, 1) := by decide +kernel
theorem d_B_run_1 : decode prog_1_method_7_code 1 = .ok (.iconst 1, 1) := by decide +kernel
theorem d_B_run_2 : decode prog_1_method_7_code 2 = .ok (.if_icmp .lt 10, 3) := by decide +kernel
theorem d_B_run_5 : decode prog_1_method_7_code 5 = .ok (.iload_n 1, 1) := by decide +kernel
theorem d_B_run_6 : decode prog_1_method_7_code 6 = .ok (.sipush 2000, 3) := by decide +kernel
theorem d_B_run_9 : decode prog_1_method_7_code 9 = .ok (.if_icmp .le 13, 3) := by decide +kernel
theorem d_B_run_12 : decode prog_1_method_7_code 12 = .ok (.new 48, 3) := by decide +kernel
theorem d_B_run_15 : decode prog_1_method_7_code 15 = .ok (.dup, 1) := by decide +kernel
theorem d_B_run_16 : decode prog_1_method_7_code 16 = .ok (.ldc 108, 2) := by decide +kernel
theorem d_B_run_18 : decode prog_1_method_7_code 18 = .ok (.invokespecial 52, 3) := by decide +kernel
theorem d_B_run_21 : decode prog_1_method_7_code 21 = .ok (.athrow, 1) := by decide +kernel
theorem d_B_run_22 : decode prog_1_method_7_code 22 = .ok (.aload_n 0, 1) := by decide +kernel
theorem d_B_run_23 : decode prog_1_method_7_code 23 = .ok (.getfield 34, 3) := by decide +kernel
theorem d_B_run_26 : decode prog_1_method_7_code 26 = .ok (.iload_n 1, 1) := by decide +kernel
theorem d_B_run_27 : decode prog_1_method_7_code 27 = .ok (.iadd, 1) := by decide +kernel
theorem d_B_run_28 : decode prog_1_method_7_code 28 = .ok (.ldc 110, 2) := by decide +kernel
theorem d_B_run_30 : decode prog_1_method_7_code 30 = .ok (.if_icmp .le 13, 3) := by decide +kernel
theorem d_B_run_33 : decode prog_1_method_7_code 33 = .ok (.new 78, 3) := by decide +kernel
theorem d_B_run_36 : decode prog_1_method_7_code 36 = .ok (.dup, 1) := by decide +kernel
theorem d_B_run_37 : decode prog_1_method_7_code 37 = .ok (.ldc 111, 2) := by decide +kernel
theorem d_B_run_39 : decode prog_1_method_7_code 39 = .ok (.invokespecial 82, 3) := by decide +kernel
theorem d_B_run_42 : decode prog_1_method_7_code 42 = .ok (.athrow, 1) := by decide +kernel
theorem d_B_run_43 : decode prog_1_method_7_code 43 = .ok (.iconst 0, 1) := by decide +kernel
theorem d_B_run_44 : decode prog_1_method_7_code 44 = .ok (.istore_n 2, 1) := by decide +kernel
theorem d_B_run_45 : decode prog_1_method_7_code 45 = .ok (.iload_n 2, 1) := by decide +kernel
theorem d_B_run_46 : decode prog_1_method_7_code 46 = .ok (.iload_n 1, 1) := by decide +kernel
theorem d_B_run_47 : decode prog_1_method_7_code 47 = .ok (.if_icmp .ge 13, 3) := by decide +kernel
theorem d_B_run_50 : decode prog_1_method_7_code 50 = .ok (.aload_n 0, 1) := by decide +kernel
theorem d_B_run_51 : decode prog_1_method_7_code 51 = .ok (.invokevirtual 113, 3) := by decide +kernel
theorem d_B_run_54 : decode prog_1_method_7_code 54 = .ok (.iinc 2 1, 3) := by decide +kernel
theorem d_B_run_57 : decode prog_1_method_7_code 57 = .ok (.goto (-12), 3) := by decide +kernel
theorem d_B_run_60 : decode prog_1_method_7_code 60 = .ok (.aload_n 0, 1) := by decide +kernel
theorem d_B_run_61 : decode prog_1_method_7_code 61 = .ok (.getfield 34, 3) := by decide +kernel
theorem d_B_run_64 : decode prog_1_method_7_code 64 = .ok (.ireturn, 1) := by decide +kernel
def b_B_run_12 (X0 : Mm) (post : Option Value → Mm → Prop) (postX : Nat → Mm → Prop) : Kk := (i_throw 1 X0 1 6 postX)
theorem t_B_run_12 {Z : Zt} {X0 : Mm} {post : Option Value → Mm → Prop} (g : Good Z prog_1_method_7_code 3 "BusTelegrams" 6) {postX : Nat → Mm → Prop} (hq : RetT Z X0 1 6 post postX) (hr : (zM Z).sig.returnType = (some .int)) : Snd Z 3 12 (b_B_run_12 X0 post postX) := by
  unfold b_B_run_12
  exact (s_throw g hq (kd := 1) (by decide) (by decide : (108, "not so many bit times at once") ∈ SL) mw_212 mw_9 (by decide +kernel) thG1_1 thG2_1 thG3_1 d_B_run_12 d_B_run_15 d_B_run_16 d_B_run_18 d_B_run_21)
def f_B_run_45 (X0 : Mm) (post : Option Value → Mm → Prop) (postX : Nat → Mm → Prop) (k45 : Kk) : Kk := (i_iload 2 (i_iload 1 (i_icmp (fun x y => y ≤ x) (i_aload 0 (i_getI 3 5 (i_iret (bp post (xc X0 + 1) (xs X0 + 6))))) (i_aload 0 (i_callV 0 3 w_B_passBitTime (i_iinc 2 1 k45))))))
def b_B_run_45 (X0 : Mm) (post : Option Value → Mm → Prop) (postX : Nat → Mm → Prop) : Kk := i_loop [0, 1, 2] (f_B_run_45 X0 post postX)
theorem t_B_run_45 {Z : Zt} {X0 : Mm} {post : Option Value → Mm → Prop} (g : Good Z prog_1_method_7_code 3 "BusTelegrams" 6) {postX : Nat → Mm → Prop} (hq : RetT Z X0 1 6 post postX) (hr : (zM Z).sig.returnType = (some .int)) : Snd Z 3 45 (b_B_run_45 X0 post postX) := by
  unfold b_B_run_45
  exact s_loop (fun k45 hk45 => by unfold f_B_run_45; exact (s_iload_n g d_B_run_45 rfl (s_iload_n g d_B_run_46 rfl (s_icmp_ge g d_B_run_47 (by decide) (s_aload_n g d_B_run_60 rfl (s_getI g (c := 3) (j := 5) cok_3 (by decide) rfl mw_164 rfl d_B_run_61 (s_iret g hq.Z hr d_B_run_64))) (s_aload_n g d_B_run_50 rfl (s_callV g (C_B_passBitTime (zl Z)) (gin_V mw_373 mw_375 ms_2 mw_1 mw_376) hd_B_passBitTime rfl (by decide) (by decide) (by decide) d_B_run_51 (s_iinc g (by decide) d_B_run_54 (by decide) (s_goto g d_B_run_57 (by decide) hk45))))))))
def b_B_run_0 (X0 : Mm) (post : Option Value → Mm → Prop) (postX : Nat → Mm → Prop) : Kk := (i_iload 1 (i_push (.int 1) (i_icmp (fun x y => x < y) (b_B_run_12 X0 post postX) (i_iload 1 (i_push (.int 2000) (i_icmp (fun x y => x ≤ y) (i_aload 0 (i_getI 3 5 (i_iload 1 (i_bin (fun x y => x + y) (i_push (.int 100000) (i_icmp (fun x y => x ≤ y) (i_push (.int 0) (i_istore 2 (b_B_run_45 X0 post postX))) (i_throw 2 X0 1 6 postX))))))) (b_B_run_12 X0 post postX)))))))
theorem t_B_run_0 {Z : Zt} {X0 : Mm} {post : Option Value → Mm → Prop} (g : Good Z prog_1_method_7_code 3 "BusTelegrams" 6) {postX : Nat → Mm → Prop} (hq : RetT Z X0 1 6 post postX) (hr : (zM Z).sig.returnType = (some .int)) : Snd Z 3 0 (b_B_run_0 X0 post postX) := by
  unfold b_B_run_0
  exact (s_iload_n g d_B_run_0 rfl (s_push_iconst g d_B_run_1 (by decide) (s_icmp_lt g d_B_run_2 (by decide) (t_B_run_12 g hq hr) (s_iload_n g d_B_run_5 rfl (s_push_sipush g d_B_run_6 (by decide) (s_icmp_le g d_B_run_9 (by decide) (s_aload_n g d_B_run_22 rfl (s_getI g (c := 3) (j := 5) cok_3 (by decide) rfl mw_164 rfl d_B_run_23 (s_iload_n g d_B_run_26 rfl (s_iadd g d_B_run_27 (s_push_ldc g mw_371 d_B_run_28 (s_icmp_le g d_B_run_30 (by decide) (s_push_iconst g d_B_run_43 (by decide) (s_istore_n g (by decide) d_B_run_44 rfl (t_B_run_45 g hq hr))) (s_throw g hq (kd := 2) (by decide) (by decide : (111, "too many bit times in all") ∈ SL) mw_306 mw_10 (by decide +kernel) thG1_2 thG2_2 thG3_2 d_B_run_33 d_B_run_36 d_B_run_37 d_B_run_39 d_B_run_42))))))) (t_B_run_12 g hq hr)))))))
def w_B_run : WpT := wpT 3 (fun X0 post postX => b_B_run_0 X0 post postX)
theorem C_B_run (l : Launch) (hst : l.stackTraces = false) : MetT l ({ cls := "BusTelegrams", name := "run", desc := "(I)I" } : Jvm.MethodName) prog_1_method_7_code 3 (some .int) 6 1 6 w_B_run := metT_of hst (by decide +kernel) (fun Z X0 post postX hZ g hq hr => t_B_run_0 g hq hr)
theorem hd_B_run : (({ cls := "BusTelegrams", name := "run", desc := "(I)I" } : Jvm.MethodName)).cls = "BusTelegrams" ∧ (({ cls := "BusTelegrams", name := "run", desc := "(I)I" } : Jvm.MethodName)).cls ≠ "java/lang/invoke/MethodHandle" ∧ (({ cls := "BusTelegrams", name := "run", desc := "(I)I" } : Jvm.MethodName)).cls ≠ "java/lang/invoke/VarHandle" ∧ (parseMethodDescriptor (({ cls := "BusTelegrams", name := "run", desc := "(I)I" } : Jvm.MethodName)).desc).map (fun d => d.parameters.length) = some 1 := ⟨rfl, by decide, by decide, by decide +kernel⟩
theorem d_B_bit_0 : decode prog_1_method_8_code 0 = .ok (.iload_n 1, 1) := by decide +kernel
theorem d_B_bit_1 : decode prog_1_method_8_code 1 = .ok (.bipush 64, 2) := by decide +kernel
theorem d_B_bit_3 : decode prog_1_method_8_code 3 = .ok (.invokestatic 43, 3) := by decide +kernel
theorem d_B_bit_6 : decode prog_1_method_8_code 6 = .ok (.ifCond .ne 11, 3) := by decide +kernel
theorem d_B_bit_9 : decode prog_1_method_8_code 9 = .ok (.iload_n 1, 1) := by decide +kernel
theorem d_B_bit_10 : decode prog_1_method_8_code 10 = .ok (.aload_n 0, 1) := by decide +kernel
theorem d_B_bit_11 : decode prog_1_method_8_code 11 = .ok (.getfield 34, 3) := by decide +kernel
theorem d_B_bit_14 : decode prog_1_method_8_code 14 = .ok (.if_icmp .lt 13, 3) := by decide +kernel
theorem d_B_bit_17 : decode prog_1_method_8_code 17 = .ok (.new 48, 3) := by decide +kernel
theorem d_B_bit_20 : decode prog_1_method_8_code 20 = .ok (.dup, 1) := by decide +kernel
theorem d_B_bit_21 : decode prog_1_method_8_code 21 = .ok (.ldc 116, 2) := by decide +kernel
theorem d_B_bit_23 : decode prog_1_method_8_code 23 = .ok (.invokespecial 52, 3) := by decide +kernel
theorem d_B_bit_26 : decode prog_1_method_8_code 26 = .ok (.athrow, 1) := by decide +kernel
theorem d_B_bit_27 : decode prog_1_method_8_code 27 = .ok (.aload_n 0, 1) := by decide +kernel
theorem d_B_bit_28 : decode prog_1_method_8_code 28 = .ok (.getfield 30, 3) := by decide +kernel
theorem d_B_bit_31 : decode prog_1_method_8_code 31 = .ok (.aload_n 0, 1) := by decide +kernel
theorem d_B_bit_32 : decode prog_1_method_8_code 32 = .ok (.getfield 34, 3) := by decide +kernel
theorem d_B_bit_35 : decode prog_1_method_8_code 35 = .ok (.iload_n 1, 1) := by decide +kernel
theorem d_B_bit_36 : decode prog_1_method_8_code 36 = .ok (.isub, 1) := by decide +kernel
theorem d_B_bit_37 : decode prog_1_method_8_code 37 = .ok (.invokestatic 118, 3) := by decide +kernel
theorem d_B_bit_40 : decode prog_1_method_8_code 40 = .ok (.iaload, 1) := by decide +kernel
theorem d_B_bit_41 : decode prog_1_method_8_code 41 = .ok (.ireturn, 1) := by decide +kernel
def b_B_bit_17 (X0 : Mm) (post : Option Value → Mm → Prop) (postX : Nat → Mm → Prop) : Kk := (i_throw 1 X0 1 6 postX)
theorem t_B_bit_17 {Z : Zt} {X0 : Mm} {post : Option Value → Mm → Prop} (g : Good Z prog_1_method_8_code 2 "BusTelegrams" 6) {postX : Nat → Mm → Prop} (hq : RetT Z X0 1 6 post postX) (hr : (zM Z).sig.returnType = (some .int)) : Snd Z 2 17 (b_B_bit_17 X0 post postX) := by
  unfold b_B_bit_17
  exact (s_throw g hq (kd := 1) (by decide) (by decide : (116, "no such bit time is kept") ∈ SL) mw_212 mw_9 (by decide +kernel) thG1_1 thG2_1 thG3_1 d_B_bit_17 d_B_bit_20 d_B_bit_21 d_B_bit_23 d_B_bit_26)
def b_B_bit_0 (X0 : Mm) (post : Option Value → Mm → Prop) (postX : Nat → Mm → Prop) : Kk := (i_iload 1 (i_push (.int 64) (i_callS 2 w_B_isOutside (i_if (fun x y => x = y) (i_iload 1 (i_aload 0 (i_getI 3 5 (i_icmp (fun x y => x < y) (i_aload 0 (i_getR 3 4 (i_aload 0 (i_getI 3 5 (i_iload 1 (i_bin (fun x y => x - y) (i_callS 1 w_B_bitPlace (i_ald 10 (i_iret (bp post (xc X0 + 1) (xs X0 + 6))))))))))) (b_B_bit_17 X0 post postX))))) (b_B_bit_17 X0 post postX)))))
theorem t_B_bit_0 {Z : Zt} {X0 : Mm} {post : Option Value → Mm → Prop} (g : Good Z prog_1_method_8_code 2 "BusTelegrams" 6) {postX : Nat → Mm → Prop} (hq : RetT Z X0 1 6 post postX) (hr : (zM Z).sig.returnType = (some .int)) : Snd Z 2 0 (b_B_bit_0 X0 post postX) := by
  unfold b_B_bit_0
  exact (s_iload_n g d_B_bit_0 rfl (s_push_bipush g d_B_bit_1 (by decide) (s_callS g (C_B_isOutside (zl Z)) (gin_S mw_208 mw_209 mw_1 mw_210) hd_B_isOutside (by decide) (by decide) d_B_bit_3 (s_if_ne g d_B_bit_6 (by decide) (t_B_bit_17 g hq hr) (s_iload_n g d_B_bit_9 rfl (s_aload_n g d_B_bit_10 rfl (s_getI g (c := 3) (j := 5) cok_3 (by decide) rfl mw_164 rfl d_B_bit_11 (s_icmp_lt g d_B_bit_14 (by decide) (s_aload_n g d_B_bit_27 rfl (s_getR g (c := 3) (j := 4) cok_3 (by decide) rfl mw_163 rfl d_B_bit_28 (s_aload_n g d_B_bit_31 rfl (s_getI g (c := 3) (j := 5) cok_3 (by decide) rfl mw_164 rfl d_B_bit_32 (s_iload_n g d_B_bit_35 rfl (s_isub g d_B_bit_36 (s_callS g (C_B_bitPlace (zl Z)) (gin_S mw_492 mw_493 mw_1 mw_494) hd_B_bitPlace (by decide) (by decide) d_B_bit_37 (s_iald g d_B_bit_40 (s_iret g hq.Z hr d_B_bit_41))))))))) (t_B_bit_17 g hq hr)))))))))
def w_B_bit : WpT := wpT 2 (fun X0 post postX => b_B_bit_0 X0 post postX)
theorem C_B_bit (l : Launch) (hst : l.stackTraces = false) : MetT l ({ cls := "BusTelegrams", name := "bit", desc := "(I)I" } : Jvm.MethodName) prog_1_method_8_code 2 (some .int) 6 1 6 w_B_bit := metT_of hst (by decide +kernel) (fun Z X0 post postX hZ g hq hr => t_B_bit_0 g hq hr)
theorem hd_B_bit : (({ cls := "BusTelegrams", name := "bit", desc := "(I)I" } : Jvm.MethodName)).cls = "BusTelegrams" ∧ (({ cls := "BusTelegrams", name := "bit", desc := "(I)I" } : Jvm.MethodName)).cls ≠ "java/lang/invoke/MethodHandle" ∧ (({ cls := "BusTelegrams", name := "bit", desc := "(I)I" } : Jvm.MethodName)).cls ≠ "java/lang/invoke/VarHandle" ∧ (parseMethodDescriptor (({ cls := "BusTelegrams", name := "bit", desc := "(I)I" } : Jvm.MethodName)).desc).map (fun d => d.parameters.length) = some 1 := ⟨rfl, by decide, by decide, by decide +kernel⟩
theorem d_B_station_0 : decode prog_1_method_9_code 0 = .ok (.iload_n 1, 1) := by decide +kernel
theorem d_B_station_1 : decode prog_1_method_9_code 1 = .ok (.bipush 8, 2) := by decide +kernel
theorem d_B_station_3 : decode prog_1_method_9_code 3 = .ok (.invokestatic 43, 3) := by decide +kernel
theorem d_B_station_6 : decode prog_1_method_9_code 6 = .ok (.ifCond .ne 12, 3) := by decide +kernel
theorem d_B_station_9 : decode prog_1_method_9_code 9 = .ok (.iload_n 2, 1) := by decide +kernel
theorem d_B_station_10 : decode prog_1_method_9_code 10 = .ok (.bipush 6, 2) := by decide +kernel
theorem d_B_station_12 : decode prog_1_method_9_code 12 = .ok (.invokestatic 43, 3) := by decide +kernel
theorem d_B_station_15 : decode prog_1_method_9_code 15 = .ok (.ifCond .eq 13, 3) := by decide +kernel
theorem d_B_station_18 : decode prog_1_method_9_code 18 = .ok (.new 48, 3) := by decide +kernel
theorem d_B_station_21 : decode prog_1_method_9_code 21 = .ok (.dup, 1) := by decide +kernel
theorem d_B_station_22 : decode prog_1_method_9_code 22 = .ok (.ldc 121, 2) := by decide +kernel
theorem d_B_station_24 : decode prog_1_method_9_code 24 = .ok (.invokespecial 52, 3) := by decide +kernel
theorem d_B_station_27 : decode prog_1_method_9_code 27 = .ok (.athrow, 1) := by decide +kernel
theorem d_B_station_28 : decode prog_1_method_9_code 28 = .ok (.aload_n 0, 1) := by decide +kernel
theorem d_B_station_29 : decode prog_1_method_9_code 29 = .ok (.getfield 11, 3) := by decide +kernel
theorem d_B_station_32 : decode prog_1_method_9_code 32 = .ok (.iload_n 1, 1) := by decide +kernel
theorem d_B_station_33 : decode prog_1_method_9_code 33 = .ok (.aaload, 1) := by decide +kernel
theorem d_B_station_34 : decode prog_1_method_9_code 34 = .ok (.iload_n 2, 1) := by decide +kernel
theorem d_B_station_35 : decode prog_1_method_9_code 35 = .ok (.invokevirtual 123, 3) := by decide +kernel
theorem d_B_station_38 : decode prog_1_method_9_code 38 = .ok (.ireturn, 1) := by decide +kernel
def b_B_station_18 (X0 : Mm) (post : Option Value → Mm → Prop) (postX : Nat → Mm → Prop) : Kk := (i_throw 1 X0 1 6 postX)
theorem t_B_station_18 {Z : Zt} {X0 : Mm} {post : Option Value → Mm → Prop} (g : Good Z prog_1_method_9_code 3 "BusTelegrams" 6) {postX : Nat → Mm → Prop} (hq : RetT Z X0 1 6 post postX) (hr : (zM Z).sig.returnType = (some .int)) : Snd Z 3 18 (b_B_station_18 X0 post postX) := by
  unfold b_B_station_18
  exact (s_throw g hq (kd := 1) (by decide) (by decide : (121, "no such station or no such fact of it") ∈ SL) mw_212 mw_9 (by decide +kernel) thG1_1 thG2_1 thG3_1 d_B_station_18 d_B_station_21 d_B_station_22 d_B_station_24 d_B_station_27)
def b_B_station_0 (X0 : Mm) (post : Option Value → Mm → Prop) (postX : Nat → Mm → Prop) : Kk := (i_iload 1 (i_push (.int 8) (i_callS 2 w_B_isOutside (i_if (fun x y => x = y) (i_iload 2 (i_push (.int 6) (i_callS 2 w_B_isOutside (i_if (fun x y => x = y) (i_aload 0 (i_getR 3 0 (i_iload 1 (i_aald 12 (i_iload 2 (i_callV 1 1 w_S_factOf (i_iret (bp post (xc X0 + 1) (xs X0 + 6))))))))) (b_B_station_18 X0 post postX))))) (b_B_station_18 X0 post postX)))))
theorem t_B_station_0 {Z : Zt} {X0 : Mm} {post : Option Value → Mm → Prop} (g : Good Z prog_1_method_9_code 3 "BusTelegrams" 6) {postX : Nat → Mm → Prop} (hq : RetT Z X0 1 6 post postX) (hr : (zM Z).sig.returnType = (some .int)) : Snd Z 3 0 (b_B_station_0 X0 post postX) := by
  unfold b_B_station_0
  exact (s_iload_n g d_B_station_0 rfl (s_push_bipush g d_B_station_1 (by decide) (s_callS g (C_B_isOutside (zl Z)) (gin_S mw_208 mw_209 mw_1 mw_210) hd_B_isOutside (by decide) (by decide) d_B_station_3 (s_if_ne g d_B_station_6 (by decide) (t_B_station_18 g hq hr) (s_iload_n g d_B_station_9 rfl (s_push_bipush g d_B_station_10 (by decide) (s_callS g (C_B_isOutside (zl Z)) (gin_S mw_208 mw_209 mw_1 mw_210) hd_B_isOutside (by decide) (by decide) d_B_station_12 (s_if_eq g d_B_station_15 (by decide) (s_aload_n g d_B_station_28 rfl (s_getR g (c := 3) (j := 0) cok_3 (by decide) rfl mw_159 rfl d_B_station_29 (s_iload_n g d_B_station_32 rfl (s_aald12 g d_B_station_33 (s_iload_n g d_B_station_34 rfl (s_callV g (C_S_factOf (zl Z)) (gin_V mw_511 mw_512 mw_513 mw_3 mw_514) hd_S_factOf rfl (by decide) (by decide) (by decide) d_B_station_35 (s_iret g hq.Z hr d_B_station_38))))))) (t_B_station_18 g hq hr)))))))))
def w_B_station : WpT := wpT 3 (fun X0 post postX => b_B_station_0 X0 post postX)
theorem C_B_station (l : Launch) (hst : l.stackTraces = false) : MetT l ({ cls := "BusTelegrams", name := "station", desc := "(II)I" } : Jvm.MethodName) prog_1_method_9_code 3 (some .int) 6 1 6 w_B_station := metT_of hst (by decide +kernel) (fun Z X0 post postX hZ g hq hr => t_B_station_0 g hq hr)
theorem hd_B_station : (({ cls := "BusTelegrams", name := "station", desc := "(II)I" } : Jvm.MethodName)).cls = "BusTelegrams" ∧ (({ cls := "BusTelegrams", name := "station", desc := "(II)I" } : Jvm.MethodName)).cls ≠ "java/lang/invoke/MethodHandle" ∧ (({ cls := "BusTelegrams", name := "station", desc := "(II)I" } : Jvm.MethodName)).cls ≠ "java/lang/invoke/VarHandle" ∧ (parseMethodDescriptor (({ cls := "BusTelegrams", name := "station", desc := "(II)I" } : Jvm.MethodName)).desc).map (fun d => d.parameters.length) = some 2 := ⟨rfl, by decide, by decide, by decide +kernel⟩
theorem d_B_heard_0 : decode prog_1_method_10_code 0 = .ok (.iload_n 1, 1) := by decide +kernel
theorem d_B_heard_1 : decode prog_1_method_10_code 1 = .ok (.iconst 5, 1) := by decide +kernel
theorem d_B_heard_2 : decode prog_1_method_10_code 2 = .ok (.invokestatic 43, 3) := by decide +kernel
theorem d_B_heard_5 : decode prog_1_method_10_code 5 = .ok (.ifCond .eq 13, 3) := by decide +kernel
theorem d_B_heard_8 : decode prog_1_method_10_code 8 = .ok (.new 48, 3) := by decide +kernel
theorem d_B_heard_11 : decode prog_1_method_10_code 11 = .ok (.dup, 1) := by decide +kernel
theorem d_B_heard_12 : decode prog_1_method_10_code 12 = .ok (.ldc 126, 2) := by decide +kernel
theorem d_B_heard_14 : decode prog_1_method_10_code 14 = .ok (.invokespecial 52, 3) := by decide +kernel
theorem d_B_heard_17 : decode prog_1_method_10_code 17 = .ok (.athrow, 1) := by decide +kernel
theorem d_B_heard_18 : decode prog_1_method_10_code 18 = .ok (.aload_n 0, 1) := by decide +kernel
theorem d_B_heard_19 : decode prog_1_method_10_code 19 = .ok (.getfield 18, 3) := by decide +kernel
theorem d_B_heard_22 : decode prog_1_method_10_code 22 = .ok (.iload_n 1, 1) := by decide +kernel
theorem d_B_heard_23 : decode prog_1_method_10_code 23 = .ok (.invokevirtual 128, 3) := by decide +kernel
theorem d_B_heard_26 : decode prog_1_method_10_code 26 = .ok (.ireturn, 1) := by decide +kernel
def b_B_heard_0 (X0 : Mm) (post : Option Value → Mm → Prop) (postX : Nat → Mm → Prop) : Kk := (i_iload 1 (i_push (.int 5) (i_callS 2 w_B_isOutside (i_if (fun x y => x = y) (i_aload 0 (i_getR 3 1 (i_iload 1 (i_callV 1 0 w_E_countOf (i_iret (bp post (xc X0 + 1) (xs X0 + 6))))))) (i_throw 1 X0 1 6 postX)))))
theorem t_B_heard_0 {Z : Zt} {X0 : Mm} {post : Option Value → Mm → Prop} (g : Good Z prog_1_method_10_code 2 "BusTelegrams" 6) {postX : Nat → Mm → Prop} (hq : RetT Z X0 1 6 post postX) (hr : (zM Z).sig.returnType = (some .int)) : Snd Z 2 0 (b_B_heard_0 X0 post postX) := by
  unfold b_B_heard_0
  exact (s_iload_n g d_B_heard_0 rfl (s_push_iconst g d_B_heard_1 (by decide) (s_callS g (C_B_isOutside (zl Z)) (gin_S mw_208 mw_209 mw_1 mw_210) hd_B_isOutside (by decide) (by decide) d_B_heard_2 (s_if_eq g d_B_heard_5 (by decide) (s_aload_n g d_B_heard_18 rfl (s_getR g (c := 3) (j := 1) cok_3 (by decide) rfl mw_160 rfl d_B_heard_19 (s_iload_n g d_B_heard_22 rfl (s_callV g (C_E_countOf (zl Z)) (gin_V mw_523 mw_524 mw_525 mw_2 mw_526) hd_E_countOf rfl (by decide) (by decide) (by decide) d_B_heard_23 (s_iret g hq.Z hr d_B_heard_26))))) (s_throw g hq (kd := 1) (by decide) (by decide : (126, "no such count") ∈ SL) mw_212 mw_9 (by decide +kernel) thG1_1 thG2_1 thG3_1 d_B_heard_8 d_B_heard_11 d_B_heard_12 d_B_heard_14 d_B_heard_17)))))
def w_B_heard : WpT := wpT 2 (fun X0 post postX => b_B_heard_0 X0 post postX)
theorem C_B_heard (l : Launch) (hst : l.stackTraces = false) : MetT l ({ cls := "BusTelegrams", name := "heard", desc := "(I)I" } : Jvm.MethodName) prog_1_method_10_code 2 (some .int) 6 1 6 w_B_heard := metT_of hst (by decide +kernel) (fun Z X0 post postX hZ g hq hr => t_B_heard_0 g hq hr)
theorem hd_B_heard : (({ cls := "BusTelegrams", name := "heard", desc := "(I)I" } : Jvm.MethodName)).cls = "BusTelegrams" ∧ (({ cls := "BusTelegrams", name := "heard", desc := "(I)I" } : Jvm.MethodName)).cls ≠ "java/lang/invoke/MethodHandle" ∧ (({ cls := "BusTelegrams", name := "heard", desc := "(I)I" } : Jvm.MethodName)).cls ≠ "java/lang/invoke/VarHandle" ∧ (parseMethodDescriptor (({ cls := "BusTelegrams", name := "heard", desc := "(I)I" } : Jvm.MethodName)).desc).map (fun d => d.parameters.length) = some 1 := ⟨rfl, by decide, by decide, by decide +kernel⟩
theorem d_B_byteAt_0 : decode prog_1_method_11_code 0 = .ok (.iload_n 1, 1) := by decide +kernel
theorem d_B_byteAt_1 : decode prog_1_method_11_code 1 = .ok (.aload_n 0, 1) := by decide +kernel
theorem d_B_byteAt_2 : decode prog_1_method_11_code 2 = .ok (.getfield 18, 3) := by decide +kernel
theorem d_B_byteAt_5 : decode prog_1_method_11_code 5 = .ok (.getfield 131, 3) := by decide +kernel
theorem d_B_byteAt_8 : decode prog_1_method_11_code 8 = .ok (.invokestatic 43, 3) := by decide +kernel
theorem d_B_byteAt_11 : decode prog_1_method_11_code 11 = .ok (.ifCond .eq 13, 3) := by decide +kernel
theorem d_B_byteAt_14 : decode prog_1_method_11_code 14 = .ok (.new 48, 3) := by decide +kernel
theorem d_B_byteAt_17 : decode prog_1_method_11_code 17 = .ok (.dup, 1) := by decide +kernel
theorem d_B_byteAt_18 : decode prog_1_method_11_code 18 = .ok (.ldc 134, 2) := by decide +kernel
theorem d_B_byteAt_20 : decode prog_1_method_11_code 20 = .ok (.invokespecial 52, 3) := by decide +kernel
theorem d_B_byteAt_23 : decode prog_1_method_11_code 23 = .ok (.athrow, 1) := by decide +kernel
theorem d_B_byteAt_24 : decode prog_1_method_11_code 24 = .ok (.aload_n 0, 1) := by decide +kernel
theorem d_B_byteAt_25 : decode prog_1_method_11_code 25 = .ok (.getfield 18, 3) := by decide +kernel
theorem d_B_byteAt_28 : decode prog_1_method_11_code 28 = .ok (.iload_n 1, 1) := by decide +kernel
theorem d_B_byteAt_29 : decode prog_1_method_11_code 29 = .ok (.invokevirtual 136, 3) := by decide +kernel
theorem d_B_byteAt_32 : decode prog_1_method_11_code 32 = .ok (.ireturn, 1) := by decide +kernel
def b_B_byteAt_0 (X0 : Mm) (post : Option Value → Mm → Prop) (postX : Nat → Mm → Prop) : Kk := (i_iload 1 (i_aload 0 (i_getR 3 1 (i_getI 0 11 (i_callS 2 w_B_isOutside (i_if (fun x y => x = y) (i_aload 0 (i_getR 3 1 (i_iload 1 (i_callV 1 0 w_E_latestByte (i_iret (bp post (xc X0 + 1) (xs X0 + 6))))))) (i_throw 1 X0 1 6 postX)))))))
theorem t_B_byteAt_0 {Z : Zt} {X0 : Mm} {post : Option Value → Mm → Prop} (g : Good Z prog_1_method_11_code 2 "BusTelegrams" 6) {postX : Nat → Mm → Prop} (hq : RetT Z X0 1 6 post postX) (hr : (zM Z).sig.returnType = (some .int)) : Snd Z 2 0 (b_B_byteAt_0 X0 post postX) := by
  unfold b_B_byteAt_0
  exact (s_iload_n g d_B_byteAt_0 rfl (s_aload_n g d_B_byteAt_1 rfl (s_getR g (c := 3) (j := 1) cok_3 (by decide) rfl mw_160 rfl d_B_byteAt_2 (s_getIN g (c := 0) (j := 11) cok_0 (by decide) rfl mn_41 rfl d_B_byteAt_5 (s_callS g (C_B_isOutside (zl Z)) (gin_S mw_208 mw_209 mw_1 mw_210) hd_B_isOutside (by decide) (by decide) d_B_byteAt_8 (s_if_eq g d_B_byteAt_11 (by decide) (s_aload_n g d_B_byteAt_24 rfl (s_getR g (c := 3) (j := 1) cok_3 (by decide) rfl mw_160 rfl d_B_byteAt_25 (s_iload_n g d_B_byteAt_28 rfl (s_callV g (C_E_latestByte (zl Z)) (gin_V mw_535 mw_536 mw_537 mw_2 mw_538) hd_E_latestByte rfl (by decide) (by decide) (by decide) d_B_byteAt_29 (s_iret g hq.Z hr d_B_byteAt_32))))) (s_throw g hq (kd := 1) (by decide) (by decide : (134, "the latest telegram has no such byte") ∈ SL) mw_212 mw_9 (by decide +kernel) thG1_1 thG2_1 thG3_1 d_B_byteAt_14 d_B_byteAt_17 d_B_byteAt_18 d_B_byteAt_20 d_B_byteAt_23)))))))
def w_B_byteAt : WpT := wpT 2 (fun X0 post postX => b_B_byteAt_0 X0 post postX)
theorem C_B_byteAt (l : Launch) (hst : l.stackTraces = false) : MetT l ({ cls := "BusTelegrams", name := "byteAt", desc := "(I)I" } : Jvm.MethodName) prog_1_method_11_code 2 (some .int) 6 1 6 w_B_byteAt := metT_of hst (by decide +kernel) (fun Z X0 post postX hZ g hq hr => t_B_byteAt_0 g hq hr)
theorem hd_B_byteAt : (({ cls := "BusTelegrams", name := "byteAt", desc := "(I)I" } : Jvm.MethodName)).cls = "BusTelegrams" ∧ (({ cls := "BusTelegrams", name := "byteAt", desc := "(I)I" } : Jvm.MethodName)).cls ≠ "java/lang/invoke/MethodHandle" ∧ (({ cls := "BusTelegrams", name := "byteAt", desc := "(I)I" } : Jvm.MethodName)).cls ≠ "java/lang/invoke/VarHandle" ∧ (parseMethodDescriptor (({ cls := "BusTelegrams", name := "byteAt", desc := "(I)I" } : Jvm.MethodName)).desc).map (fun d => d.parameters.length) = some 1 := ⟨rfl, by decide, by decide, by decide +kernel⟩
theorem d_B_unpack_0 : decode prog_1_method_14_code 0 = .ok (.iload_n 1, 1) := by decide +kernel
theorem d_B_unpack_1 : decode prog_1_method_14_code 1 = .ok (.ldc 47, 2) := by decide +kernel
theorem d_B_unpack_3 : decode prog_1_method_14_code 3 = .ok (.invokestatic 43, 3) := by decide +kernel
theorem d_B_unpack_6 : decode prog_1_method_14_code 6 = .ok (.ifCond .eq 13, 3) := by decide +kernel
theorem d_B_unpack_9 : decode prog_1_method_14_code 9 = .ok (.new 48, 3) := by decide +kernel
theorem d_B_unpack_12 : decode prog_1_method_14_code 12 = .ok (.dup, 1) := by decide +kernel
theorem d_B_unpack_13 : decode prog_1_method_14_code 13 = .ok (.ldc 158, 2) := by decide +kernel
theorem d_B_unpack_15 : decode prog_1_method_14_code 15 = .ok (.invokespecial 52, 3) := by decide +kernel
theorem d_B_unpack_18 : decode prog_1_method_14_code 18 = .ok (.athrow, 1) := by decide +kernel
theorem d_B_unpack_19 : decode prog_1_method_14_code 19 = .ok (.iload_n 1, 1) := by decide +kernel
theorem d_B_unpack_20 : decode prog_1_method_14_code 20 = .ok (.sipush 2048, 3) := by decide +kernel
theorem d_B_unpack_23 : decode prog_1_method_14_code 23 = .ok (.idiv, 1) := by decide +kernel
theorem d_B_unpack_24 : decode prog_1_method_14_code 24 = .ok (.bipush 16, 2) := by decide +kernel
theorem d_B_unpack_26 : decode prog_1_method_14_code 26 = .ok (.irem, 1) := by decide +kernel
theorem d_B_unpack_27 : decode prog_1_method_14_code 27 = .ok (.istore_n 2, 1) := by decide +kernel
theorem d_B_unpack_28 : decode prog_1_method_14_code 28 = .ok (.iload_n 1, 1) := by decide +kernel
theorem d_B_unpack_29 : decode prog_1_method_14_code 29 = .ok (.sipush 2048, 3) := by decide +kernel
theorem d_B_unpack_32 : decode prog_1_method_14_code 32 = .ok (.irem, 1) := by decide +kernel
theorem d_B_unpack_33 : decode prog_1_method_14_code 33 = .ok (.istore_n 3, 1) := by decide +kernel
theorem d_B_unpack_34 : decode prog_1_method_14_code 34 = .ok (.iload_n 1, 1) := by decide +kernel
theorem d_B_unpack_35 : decode prog_1_method_14_code 35 = .ok (.ldc 160, 2) := by decide +kernel
theorem d_B_unpack_37 : decode prog_1_method_14_code 37 = .ok (.if_icmp .lt 9, 3) := by decide +kernel
theorem d_B_unpack_40 : decode prog_1_method_14_code 40 = .ok (.iinc 3 (-2048), 6) := by decide +kernel
theorem d_B_unpack_46 : decode prog_1_method_14_code 46 = .ok (.iload_n 3, 1) := by decide +kernel
theorem d_B_unpack_47 : decode prog_1_method_14_code 47 = .ok (.iconst 1, 1) := by decide +kernel
theorem d_B_unpack_48 : decode prog_1_method_14_code 48 = .ok (.iload_n 2, 1) := by decide +kernel
theorem d_B_unpack_49 : decode prog_1_method_14_code 49 = .ok (.ishl, 1) := by decide +kernel
theorem d_B_unpack_50 : decode prog_1_method_14_code 50 = .ok (.imul, 1) := by decide +kernel
theorem d_B_unpack_51 : decode prog_1_method_14_code 51 = .ok (.i2d, 1) := by decide +kernel
theorem d_B_unpack_52 : decode prog_1_method_14_code 52 = .ok (.ldc2_w 142, 3) := by decide +kernel
theorem d_B_unpack_55 : decode prog_1_method_14_code 55 = .ok (.ddiv, 1) := by decide +kernel
theorem d_B_unpack_56 : decode prog_1_method_14_code 56 = .ok (.dreturn, 1) := by decide +kernel
def b_B_unpack_46 (X0 : Mm) (post : Option Value → Mm → Prop) (postX : Nat → Mm → Prop) : Kk := (i_iload 3 (i_push (.int 1) (i_iload 2 (i_bin (fun x y => x <<< (y &&& 31)) (i_bin (fun x y => x * y) (i_i2d (i_push (.double 4636737291354636288) (i_dbin FP.ddiv (i_dret (bp post (xc X0 + 1) (xs X0 + 6)))))))))))
theorem t_B_unpack_46 {Z : Zt} {X0 : Mm} {post : Option Value → Mm → Prop} (g : Good Z prog_1_method_14_code 4 "BusTelegrams" 6) {postX : Nat → Mm → Prop} (hq : RetT Z X0 1 6 post postX) (hr : (zM Z).sig.returnType = (some .double)) : Snd Z 4 46 (b_B_unpack_46 X0 post postX) := by
  unfold b_B_unpack_46
  exact (s_iload_n g d_B_unpack_46 rfl (s_push_iconst g d_B_unpack_47 (by decide) (s_iload_n g d_B_unpack_48 rfl (s_ishl g d_B_unpack_49 (s_imul g d_B_unpack_50 (s_i2d g d_B_unpack_51 (s_push_ldc2 g mw_189 d_B_unpack_52 (s_ddiv g d_B_unpack_55 (s_dret g hq.Z hr d_B_unpack_56)))))))))
def b_B_unpack_0 (X0 : Mm) (post : Option Value → Mm → Prop) (postX : Nat → Mm → Prop) : Kk := (i_iload 1 (i_push (.int 65536) (i_callS 2 w_B_isOutside (i_if (fun x y => x = y) (i_iload 1 (i_push (.int 2048) (i_binz (fun x y => x / y) (i_push (.int 16) (i_binz (fun x y => x - x / y * y) (i_istore 2 (i_iload 1 (i_push (.int 2048) (i_binz (fun x y => x - x / y * y) (i_istore 3 (i_iload 1 (i_push (.int 32768) (i_icmp (fun x y => x < y) (b_B_unpack_46 X0 post postX) (i_iinc 3 (-2048) (b_B_unpack_46 X0 post postX))))))))))))))) (i_throw 1 X0 1 6 postX)))))
theorem t_B_unpack_0 {Z : Zt} {X0 : Mm} {post : Option Value → Mm → Prop} (g : Good Z prog_1_method_14_code 4 "BusTelegrams" 6) {postX : Nat → Mm → Prop} (hq : RetT Z X0 1 6 post postX) (hr : (zM Z).sig.returnType = (some .double)) : Snd Z 4 0 (b_B_unpack_0 X0 post postX) := by
  unfold b_B_unpack_0
  exact (s_iload_n g d_B_unpack_0 rfl (s_push_ldc g mw_211 d_B_unpack_1 (s_callS g (C_B_isOutside (zl Z)) (gin_S mw_208 mw_209 mw_1 mw_210) hd_B_isOutside (by decide) (by decide) d_B_unpack_3 (s_if_eq g d_B_unpack_6 (by decide) (s_iload_n g d_B_unpack_19 rfl (s_push_sipush g d_B_unpack_20 (by decide) (s_idiv g d_B_unpack_23 (s_push_bipush g d_B_unpack_24 (by decide) (s_irem g d_B_unpack_26 (s_istore_n g (by decide) d_B_unpack_27 rfl (s_iload_n g d_B_unpack_28 rfl (s_push_sipush g d_B_unpack_29 (by decide) (s_irem g d_B_unpack_32 (s_istore_n g (by decide) d_B_unpack_33 rfl (s_iload_n g d_B_unpack_34 rfl (s_push_ldc g mw_199 d_B_unpack_35 (s_icmp_lt g d_B_unpack_37 (by decide) (t_B_unpack_46 g hq hr) (s_iincW g (by decide) d_B_unpack_40 (by decide) (t_B_unpack_46 g hq hr))))))))))))))) (s_throw g hq (kd := 1) (by decide) (by decide : (158, "not two bytes") ∈ SL) mw_212 mw_9 (by decide +kernel) thG1_1 thG2_1 thG3_1 d_B_unpack_9 d_B_unpack_12 d_B_unpack_13 d_B_unpack_15 d_B_unpack_18)))))
def w_B_unpack : WpT := wpT 4 (fun X0 post postX => b_B_unpack_0 X0 post postX)
theorem C_B_unpack (l : Launch) (hst : l.stackTraces = false) : MetT l ({ cls := "BusTelegrams", name := "unpack", desc := "(I)D" } : Jvm.MethodName) prog_1_method_14_code 4 (some .double) 6 1 6 w_B_unpack := metT_of hst (by decide +kernel) (fun Z X0 post postX hZ g hq hr => t_B_unpack_0 g hq hr)
theorem hd_B_unpack : (({ cls := "BusTelegrams", name := "unpack", desc := "(I)D" } : Jvm.MethodName)).cls = "BusTelegrams" ∧ (({ cls := "BusTelegrams", name := "unpack", desc := "(I)D" } : Jvm.MethodName)).cls ≠ "java/lang/invoke/MethodHandle" ∧ (({ cls := "BusTelegrams", name := "unpack", desc := "(I)D" } : Jvm.MethodName)).cls ≠ "java/lang/invoke/VarHandle" ∧ (parseMethodDescriptor (({ cls := "BusTelegrams", name := "unpack", desc := "(I)D" } : Jvm.MethodName)).desc).map (fun d => d.parameters.length) = some 1 := ⟨rfl, by decide, by decide, by decide +kernel⟩
