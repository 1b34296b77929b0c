/-! the law's helpers (by program) -/
def ksel1 (k1 : Kk) : Nat → Kk
  | 1 => k1
  | _ => fun _ _ _ => False
def ksel2 (k1 k2 : Kk) : Nat → Kk
  | 1 => k1
  | 2 => k2
  | _ => fun _ _ _ => False
theorem hsel1 {Z : Zt} {nL pc : Nat} {k1 : Kk} (h1 : Hnd Z nL pc 1 k1) : ∀ kd, Hnd Z nL pc kd (ksel1 k1 kd) := fun kd => match kd with
  | 1 => h1
  | 0 => hnd_F
  | _ + 2 => hnd_F
theorem hsel2 {Z : Zt} {nL pc : Nat} {k1 k2 : Kk} (h1 : Hnd Z nL pc 1 k1) (h2 : Hnd Z nL pc 2 k2) : ∀ kd, Hnd Z nL pc kd (ksel2 k1 k2 kd) := fun kd => match kd with
  | 1 => h1
  | 2 => h2
  | 0 => hnd_F
  | _ + 3 => hnd_F
theorem d_L_address_0 : decode method_3_code 0 = .ok (.aload_n 3, 1) := by decide +kernel
theorem d_L_address_1 : decode method_3_code 1 = .ok (.iconst 0, 1) := by decide +kernel
theorem d_L_address_2 : decode method_3_code 2 = .ok (.aload_n 0, 1) := by decide +kernel
theorem d_L_address_3 : decode method_3_code 3 = .ok (.iload_n 1, 1) := by decide +kernel
theorem d_L_address_4 : decode method_3_code 4 = .ok (.iload_n 2, 1) := by decide +kernel
theorem d_L_address_5 : decode method_3_code 5 = .ok (.invokevirtual 7, 3) := by decide +kernel
theorem d_L_address_8 : decode method_3_code 8 = .ok (.i2l, 1) := by decide +kernel
theorem d_L_address_9 : decode method_3_code 9 = .ok (.lastore, 1) := by decide +kernel
theorem d_L_address_10 : decode method_3_code 10 = .ok (.goto 7, 3) := by decide +kernel
theorem d_L_address_13 : decode method_3_code 13 = .ok (.astore 4, 2) := by decide +kernel
theorem d_L_address_15 : decode method_3_code 15 = .ok (.iconst 1, 1) := by decide +kernel
theorem d_L_address_16 : decode method_3_code 16 = .ok (.ireturn, 1) := by decide +kernel
theorem d_L_address_17 : decode method_3_code 17 = .ok (.iconst 0, 1) := by decide +kernel
theorem d_L_address_18 : decode method_3_code 18 = .ok (.ireturn, 1) := by decide +kernel
def b_L_address_0 (X0 : Mm) (post : Option Value → Mm → Prop) : Kk := (i_aload 3 (i_push (.int 0) (i_aload 0 (i_iload 1 (i_iload 2 (i_callT 2 3 X0 1 6 w_B_address (i_i2l (i_last (i_push (.int 0) (i_iret (bp post (xc X0 + 1) (xs X0 + 6)))))) (ksel1 (i_drop 4 (i_push (.int 1) (i_iret (bp post (xc X0 + 1) (xs X0 + 6))))))))))))
theorem t_L_address_0 {Z : Zt} {X0 : Mm} {post : Option Value → Mm → Prop} (g : Good Z method_3_code 5 "BusTelegramsLaw" 7) (hq : RetZ Z true X0 1 6 post) (hXO : XOk (zA Z) (zs Z) (zs Z).heap) (htab : (zc Z).exceptionTable.toList = tableOf [(0, 10, 13, 13)]) (hst : (zl Z).stackTraces = false) (hr : (zM Z).sig.returnType = (some .int)) : Snd Z 5 0 (b_L_address_0 X0 post) := by
  unfold b_L_address_0
  exact (s_aload_n g d_L_address_0 rfl (s_push_iconst g d_L_address_1 (by decide) (s_aload_n g d_L_address_2 rfl (s_iload_n g d_L_address_3 rfl (s_iload_n g d_L_address_4 rfl (s_callT g hq hXO (C_B_address (zl Z) hst) (gin_V mw_204 mw_205 mw_206 mw_1 mw_207) hd_B_address rfl (by decide) (by decide) (by decide) d_L_address_5 (s_i2l g d_L_address_8 (s_last g d_L_address_9 (s_goto g d_L_address_10 (by decide) (s_push_iconst g d_L_address_17 (by decide) (s_iret g hq hr d_L_address_18))))) (hsel1 (hnd_1 g hXO.1 htab (by decide) (by decide) mw_203 (by decide) (Or.inl ⟨d_L_address_13, (s_push_iconst g d_L_address_15 (by decide) (s_iret g hq hr d_L_address_16))⟩)))))))))
def w_L_address : Wp := wpOf 5 (fun X0 post => b_L_address_0 X0 post)
theorem C_L_address (l : Launch) (hst : l.stackTraces = false) : MetH l ({ cls := "BusTelegramsLaw", name := "address", desc := "(LBusTelegrams;II[J)I" } : Jvm.MethodName) method_3_code 5 (some .int) [(0, 10, 13, 13)] 7 1 6 w_L_address := metH_of (by decide +kernel) (fun Z X0 post hZ g hq hXO htab hr => t_L_address_0 g hq hXO htab (by rw [hZ]; exact hst) hr)
theorem hd_L_address : (({ cls := "BusTelegramsLaw", name := "address", desc := "(LBusTelegrams;II[J)I" } : Jvm.MethodName)).cls ≠ "java/lang/invoke/MethodHandle" ∧ (({ cls := "BusTelegramsLaw", name := "address", desc := "(LBusTelegrams;II[J)I" } : Jvm.MethodName)).cls ≠ "java/lang/invoke/VarHandle" ∧ (parseMethodDescriptor (({ cls := "BusTelegramsLaw", name := "address", desc := "(LBusTelegrams;II[J)I" } : Jvm.MethodName)).desc).map (fun d => d.parameters.length) = some 4 := ⟨by decide, by decide, by decide +kernel⟩
theorem d_L_listen_0 : decode method_4_code 0 = .ok (.aload 4, 2) := by decide +kernel
theorem d_L_listen_2 : decode method_4_code 2 = .ok (.iconst 0, 1) := by decide +kernel
theorem d_L_listen_3 : decode method_4_code 3 = .ok (.aload_n 0, 1) := by decide +kernel
theorem d_L_listen_4 : decode method_4_code 4 = .ok (.iload_n 1, 1) := by decide +kernel
theorem d_L_listen_5 : decode method_4_code 5 = .ok (.iload_n 2, 1) := by decide +kernel
theorem d_L_listen_6 : decode method_4_code 6 = .ok (.iload_n 3, 1) := by decide +kernel
theorem d_L_listen_7 : decode method_4_code 7 = .ok (.invokevirtual 15, 3) := by decide +kernel
theorem d_L_listen_10 : decode method_4_code 10 = .ok (.ifCond .eq 7, 3) := by decide +kernel
theorem d_L_listen_13 : decode method_4_code 13 = .ok (.lconst 1, 1) := by decide +kernel
theorem d_L_listen_14 : decode method_4_code 14 = .ok (.goto 4, 3) := by decide +kernel
theorem d_L_listen_17 : decode method_4_code 17 = .ok (.lconst 0, 1) := by decide +kernel
theorem d_L_listen_18 : decode method_4_code 18 = .ok (.lastore, 1) := by decide +kernel
theorem d_L_listen_19 : decode method_4_code 19 = .ok (.goto 7, 3) := by decide +kernel
theorem d_L_listen_22 : decode method_4_code 22 = .ok (.astore 5, 2) := by decide +kernel
theorem d_L_listen_24 : decode method_4_code 24 = .ok (.iconst 1, 1) := by decide +kernel
theorem d_L_listen_25 : decode method_4_code 25 = .ok (.ireturn, 1) := by decide +kernel
theorem d_L_listen_26 : decode method_4_code 26 = .ok (.iconst 0, 1) := by decide +kernel
theorem d_L_listen_27 : decode method_4_code 27 = .ok (.ireturn, 1) := by decide +kernel
def b_L_listen_18 (X0 : Mm) (post : Option Value → Mm → Prop) : Kk := (i_last (i_push (.int 0) (i_iret (bp post (xc X0 + 1) (xs X0 + 6)))))
theorem t_L_listen_18 {Z : Zt} {X0 : Mm} {post : Option Value → Mm → Prop} (g : Good Z method_4_code 6 "BusTelegramsLaw" 7) (hq : RetZ Z true X0 1 6 post) (hXO : XOk (zA Z) (zs Z) (zs Z).heap) (htab : (zc Z).exceptionTable.toList = tableOf [(0, 19, 22, 13)]) (hst : (zl Z).stackTraces = false) (hr : (zM Z).sig.returnType = (some .int)) : Snd Z 6 18 (b_L_listen_18 X0 post) := by
  unfold b_L_listen_18
  exact (s_last g d_L_listen_18 (s_goto g d_L_listen_19 (by decide) (s_push_iconst g d_L_listen_26 (by decide) (s_iret g hq hr d_L_listen_27))))
def b_L_listen_0 (X0 : Mm) (post : Option Value → Mm → Prop) : Kk := (i_aload 4 (i_push (.int 0) (i_aload 0 (i_iload 1 (i_iload 2 (i_iload 3 (i_callT 3 3 X0 1 6 w_B_listen (i_if (fun x y => x = y) (i_push (.long 0) (b_L_listen_18 X0 post)) (i_push (.long 1) (b_L_listen_18 X0 post))) (ksel1 (i_drop 5 (i_push (.int 1) (i_iret (bp post (xc X0 + 1) (xs X0 + 6)))))))))))))
theorem t_L_listen_0 {Z : Zt} {X0 : Mm} {post : Option Value → Mm → Prop} (g : Good Z method_4_code 6 "BusTelegramsLaw" 7) (hq : RetZ Z true X0 1 6 post) (hXO : XOk (zA Z) (zs Z) (zs Z).heap) (htab : (zc Z).exceptionTable.toList = tableOf [(0, 19, 22, 13)]) (hst : (zl Z).stackTraces = false) (hr : (zM Z).sig.returnType = (some .int)) : Snd Z 6 0 (b_L_listen_0 X0 post) := by
  unfold b_L_listen_0
  exact (s_aload g d_L_listen_0 (s_push_iconst g d_L_listen_2 (by decide) (s_aload_n g d_L_listen_3 rfl (s_iload_n g d_L_listen_4 rfl (s_iload_n g d_L_listen_5 rfl (s_iload_n g d_L_listen_6 rfl (s_callT g hq hXO (C_B_listen (zl Z) hst) (gin_V mw_282 mw_283 mw_284 mw_1 mw_285) hd_B_listen rfl (by decide) (by decide) (by decide) d_L_listen_7 (s_if_eq g d_L_listen_10 (by decide) (s_push_lconst g d_L_listen_17 (by decide) (t_L_listen_18 g hq hXO htab hst hr)) (s_push_lconst g d_L_listen_13 (by decide) (s_goto g d_L_listen_14 (by decide) (t_L_listen_18 g hq hXO htab hst hr)))) (hsel1 (hnd_1 g hXO.1 htab (by decide) (by decide) mw_203 (by decide) (Or.inl ⟨d_L_listen_22, (s_push_iconst g d_L_listen_24 (by decide) (s_iret g hq hr d_L_listen_25))⟩))))))))))
def w_L_listen : Wp := wpOf 6 (fun X0 post => b_L_listen_0 X0 post)
theorem C_L_listen (l : Launch) (hst : l.stackTraces = false) : MetH l ({ cls := "BusTelegramsLaw", name := "listen", desc := "(LBusTelegrams;IIZ[J)I" } : Jvm.MethodName) method_4_code 6 (some .int) [(0, 19, 22, 13)] 7 1 6 w_L_listen := metH_of (by decide +kernel) (fun Z X0 post hZ g hq hXO htab hr => t_L_listen_0 g hq hXO htab (by rw [hZ]; exact hst) hr)
theorem hd_L_listen : (({ cls := "BusTelegramsLaw", name := "listen", desc := "(LBusTelegrams;IIZ[J)I" } : Jvm.MethodName)).cls ≠ "java/lang/invoke/MethodHandle" ∧ (({ cls := "BusTelegramsLaw", name := "listen", desc := "(LBusTelegrams;IIZ[J)I" } : Jvm.MethodName)).cls ≠ "java/lang/invoke/VarHandle" ∧ (parseMethodDescriptor (({ cls := "BusTelegramsLaw", name := "listen", desc := "(LBusTelegrams;IIZ[J)I" } : Jvm.MethodName)).desc).map (fun d => d.parameters.length) = some 5 := ⟨by decide, by decide, by decide +kernel⟩
theorem d_L_busy_0 : decode method_5_code 0 = .ok (.aload_n 3, 1) := by decide +kernel
theorem d_L_busy_1 : decode method_5_code 1 = .ok (.iconst 0, 1) := by decide +kernel
theorem d_L_busy_2 : decode method_5_code 2 = .ok (.aload_n 0, 1) := by decide +kernel
theorem d_L_busy_3 : decode method_5_code 3 = .ok (.iload_n 1, 1) := by decide +kernel
theorem d_L_busy_4 : decode method_5_code 4 = .ok (.iload_n 2, 1) := by decide +kernel
theorem d_L_busy_5 : decode method_5_code 5 = .ok (.invokevirtual 19, 3) := by decide +kernel
theorem d_L_busy_8 : decode method_5_code 8 = .ok (.ifCond .eq 7, 3) := by decide +kernel
theorem d_L_busy_11 : decode method_5_code 11 = .ok (.lconst 1, 1) := by decide +kernel
theorem d_L_busy_12 : decode method_5_code 12 = .ok (.goto 4, 3) := by decide +kernel
theorem d_L_busy_15 : decode method_5_code 15 = .ok (.lconst 0, 1) := by decide +kernel
theorem d_L_busy_16 : decode method_5_code 16 = .ok (.lastore, 1) := by decide +kernel
theorem d_L_busy_17 : decode method_5_code 17 = .ok (.goto 7, 3) := by decide +kernel
theorem d_L_busy_20 : decode method_5_code 20 = .ok (.astore 4, 2) := by decide +kernel
theorem d_L_busy_22 : decode method_5_code 22 = .ok (.iconst 1, 1) := by decide +kernel
theorem d_L_busy_23 : decode method_5_code 23 = .ok (.ireturn, 1) := by decide +kernel
theorem d_L_busy_24 : decode method_5_code 24 = .ok (.iconst 0, 1) := by decide +kernel
theorem d_L_busy_25 : decode method_5_code 25 = .ok (.ireturn, 1) := by decide +kernel
def b_L_busy_16 (X0 : Mm) (post : Option Value → Mm → Prop) : Kk := (i_last (i_push (.int 0) (i_iret (bp post (xc X0 + 1) (xs X0 + 6)))))
theorem t_L_busy_16 {Z : Zt} {X0 : Mm} {post : Option Value → Mm → Prop} (g : Good Z method_5_code 5 "BusTelegramsLaw" 7) (hq : RetZ Z true X0 1 6 post) (hXO : XOk (zA Z) (zs Z) (zs Z).heap) (htab : (zc Z).exceptionTable.toList = tableOf [(0, 17, 20, 13)]) (hst : (zl Z).stackTraces = false) (hr : (zM Z).sig.returnType = (some .int)) : Snd Z 5 16 (b_L_busy_16 X0 post) := by
  unfold b_L_busy_16
  exact (s_last g d_L_busy_16 (s_goto g d_L_busy_17 (by decide) (s_push_iconst g d_L_busy_24 (by decide) (s_iret g hq hr d_L_busy_25))))
def b_L_busy_0 (X0 : Mm) (post : Option Value → Mm → Prop) : Kk := (i_aload 3 (i_push (.int 0) (i_aload 0 (i_iload 1 (i_iload 2 (i_callT 2 3 X0 1 6 w_B_busy (i_if (fun x y => x = y) (i_push (.long 0) (b_L_busy_16 X0 post)) (i_push (.long 1) (b_L_busy_16 X0 post))) (ksel1 (i_drop 4 (i_push (.int 1) (i_iret (bp post (xc X0 + 1) (xs X0 + 6))))))))))))
theorem t_L_busy_0 {Z : Zt} {X0 : Mm} {post : Option Value → Mm → Prop} (g : Good Z method_5_code 5 "BusTelegramsLaw" 7) (hq : RetZ Z true X0 1 6 post) (hXO : XOk (zA Z) (zs Z) (zs Z).heap) (htab : (zc Z).exceptionTable.toList = tableOf [(0, 17, 20, 13)]) (hst : (zl Z).stackTraces = false) (hr : (zM Z).sig.returnType = (some .int)) : Snd Z 5 0 (b_L_busy_0 X0 post) := by
  unfold b_L_busy_0
  exact (s_aload_n g d_L_busy_0 rfl (s_push_iconst g d_L_busy_1 (by decide) (s_aload_n g d_L_busy_2 rfl (s_iload_n g d_L_busy_3 rfl (s_iload_n g d_L_busy_4 rfl (s_callT g hq hXO (C_B_busy (zl Z) hst) (gin_V mw_290 mw_291 mw_292 mw_1 mw_293) hd_B_busy rfl (by decide) (by decide) (by decide) d_L_busy_5 (s_if_eq g d_L_busy_8 (by decide) (s_push_lconst g d_L_busy_15 (by decide) (t_L_busy_16 g hq hXO htab hst hr)) (s_push_lconst g d_L_busy_11 (by decide) (s_goto g d_L_busy_12 (by decide) (t_L_busy_16 g hq hXO htab hst hr)))) (hsel1 (hnd_1 g hXO.1 htab (by decide) (by decide) mw_203 (by decide) (Or.inl ⟨d_L_busy_20, (s_push_iconst g d_L_busy_22 (by decide) (s_iret g hq hr d_L_busy_23))⟩)))))))))
def w_L_busy : Wp := wpOf 5 (fun X0 post => b_L_busy_0 X0 post)
theorem C_L_busy (l : Launch) (hst : l.stackTraces = false) : MetH l ({ cls := "BusTelegramsLaw", name := "busy", desc := "(LBusTelegrams;IZ[J)I" } : Jvm.MethodName) method_5_code 5 (some .int) [(0, 17, 20, 13)] 7 1 6 w_L_busy := metH_of (by decide +kernel) (fun Z X0 post hZ g hq hXO htab hr => t_L_busy_0 g hq hXO htab (by rw [hZ]; exact hst) hr)
theorem hd_L_busy : (({ cls := "BusTelegramsLaw", name := "busy", desc := "(LBusTelegrams;IZ[J)I" } : Jvm.MethodName)).cls ≠ "java/lang/invoke/MethodHandle" ∧ (({ cls := "BusTelegramsLaw", name := "busy", desc := "(LBusTelegrams;IZ[J)I" } : Jvm.MethodName)).cls ≠ "java/lang/invoke/VarHandle" ∧ (parseMethodDescriptor (({ cls := "BusTelegramsLaw", name := "busy", desc := "(LBusTelegrams;IZ[J)I" } : Jvm.MethodName)).desc).map (fun d => d.parameters.length) = some 4 := ⟨by decide, by decide, by decide +kernel⟩
theorem d_L_send_0 : decode method_6_code 0 = .ok (.aload 7, 2) := by decide +kernel
theorem d_L_send_2 : decode method_6_code 2 = .ok (.iconst 0, 1) := by decide +kernel
theorem d_L_send_3 : decode method_6_code 3 = .ok (.aload_n 0, 1) := by decide +kernel
theorem d_L_send_4 : decode method_6_code 4 = .ok (.iload_n 1, 1) := by decide +kernel
theorem d_L_send_5 : decode method_6_code 5 = .ok (.iload_n 2, 1) := by decide +kernel
theorem d_L_send_6 : decode method_6_code 6 = .ok (.iload_n 3, 1) := by decide +kernel
theorem d_L_send_7 : decode method_6_code 7 = .ok (.iload 4, 2) := by decide +kernel
theorem d_L_send_9 : decode method_6_code 9 = .ok (.iload 5, 2) := by decide +kernel
theorem d_L_send_11 : decode method_6_code 11 = .ok (.iload 6, 2) := by decide +kernel
theorem d_L_send_13 : decode method_6_code 13 = .ok (.invokevirtual 23, 3) := by decide +kernel
theorem d_L_send_16 : decode method_6_code 16 = .ok (.i2l, 1) := by decide +kernel
theorem d_L_send_17 : decode method_6_code 17 = .ok (.lastore, 1) := by decide +kernel
theorem d_L_send_18 : decode method_6_code 18 = .ok (.goto 11, 3) := by decide +kernel
theorem d_L_send_21 : decode method_6_code 21 = .ok (.astore 8, 2) := by decide +kernel
theorem d_L_send_23 : decode method_6_code 23 = .ok (.iconst 1, 1) := by decide +kernel
theorem d_L_send_24 : decode method_6_code 24 = .ok (.ireturn, 1) := by decide +kernel
theorem d_L_send_25 : decode method_6_code 25 = .ok (.astore 8, 2) := by decide +kernel
theorem d_L_send_27 : decode method_6_code 27 = .ok (.iconst 2, 1) := by decide +kernel
theorem d_L_send_28 : decode method_6_code 28 = .ok (.ireturn, 1) := by decide +kernel
theorem d_L_send_29 : decode method_6_code 29 = .ok (.iconst 0, 1) := by decide +kernel
theorem d_L_send_30 : decode method_6_code 30 = .ok (.ireturn, 1) := by decide +kernel
def b_L_send_0 (X0 : Mm) (post : Option Value → Mm → Prop) : Kk := (i_aload 7 (i_push (.int 0) (i_aload 0 (i_iload 1 (i_iload 2 (i_iload 3 (i_iload 4 (i_iload 5 (i_iload 6 (i_callT 6 3 X0 1 6 w_B_send (i_i2l (i_last (i_push (.int 0) (i_iret (bp post (xc X0 + 1) (xs X0 + 6)))))) (ksel2 (i_drop 8 (i_push (.int 1) (i_iret (bp post (xc X0 + 1) (xs X0 + 6))))) (i_drop 8 (i_push (.int 2) (i_iret (bp post (xc X0 + 1) (xs X0 + 6))))))))))))))))
theorem t_L_send_0 {Z : Zt} {X0 : Mm} {post : Option Value → Mm → Prop} (g : Good Z method_6_code 9 "BusTelegramsLaw" 7) (hq : RetZ Z true X0 1 6 post) (hXO : XOk (zA Z) (zs Z) (zs Z).heap) (htab : (zc Z).exceptionTable.toList = tableOf [(0, 18, 21, 13), (0, 18, 25, 27)]) (hst : (zl Z).stackTraces = false) (hr : (zM Z).sig.returnType = (some .int)) : Snd Z 9 0 (b_L_send_0 X0 post) := by
  unfold b_L_send_0
  exact (s_aload g d_L_send_0 (s_push_iconst g d_L_send_2 (by decide) (s_aload_n g d_L_send_3 rfl (s_iload_n g d_L_send_4 rfl (s_iload_n g d_L_send_5 rfl (s_iload_n g d_L_send_6 rfl (s_iload g d_L_send_7 (s_iload g d_L_send_9 (s_iload g d_L_send_11 (s_callT g hq hXO (C_B_send (zl Z) hst) (gin_V mw_299 mw_300 mw_301 mw_1 mw_302) hd_B_send rfl (by decide) (by decide) (by decide) d_L_send_13 (s_i2l g d_L_send_16 (s_last g d_L_send_17 (s_goto g d_L_send_18 (by decide) (s_push_iconst g d_L_send_29 (by decide) (s_iret g hq hr d_L_send_30))))) (hsel2 (hnd_1 g hXO.1 htab (by decide) (by decide) mw_203 (by decide) (Or.inl ⟨d_L_send_21, (s_push_iconst g d_L_send_23 (by decide) (s_iret g hq hr d_L_send_24))⟩)) (hnd_2 g hXO.1 hXO.2.2.2.2 htab (by decide) mw_203 (by decide) (by decide) mw_298 (by decide) (Or.inl ⟨d_L_send_25, (s_push_iconst g d_L_send_27 (by decide) (s_iret g hq hr d_L_send_28))⟩)))))))))))))
def w_L_send : Wp := wpOf 9 (fun X0 post => b_L_send_0 X0 post)
theorem C_L_send (l : Launch) (hst : l.stackTraces = false) : MetH l ({ cls := "BusTelegramsLaw", name := "send", desc := "(LBusTelegrams;IIIZII[J)I" } : Jvm.MethodName) method_6_code 9 (some .int) [(0, 18, 21, 13), (0, 18, 25, 27)] 7 1 6 w_L_send := metH_of (by decide +kernel) (fun Z X0 post hZ g hq hXO htab hr => t_L_send_0 g hq hXO htab (by rw [hZ]; exact hst) hr)
theorem hd_L_send : (({ cls := "BusTelegramsLaw", name := "send", desc := "(LBusTelegrams;IIIZII[J)I" } : Jvm.MethodName)).cls ≠ "java/lang/invoke/MethodHandle" ∧ (({ cls := "BusTelegramsLaw", name := "send", desc := "(LBusTelegrams;IIIZII[J)I" } : Jvm.MethodName)).cls ≠ "java/lang/invoke/VarHandle" ∧ (parseMethodDescriptor (({ cls := "BusTelegramsLaw", name := "send", desc := "(LBusTelegrams;IIIZII[J)I" } : Jvm.MethodName)).desc).map (fun d => d.parameters.length) = some 8 := ⟨by decide, by decide, by decide +kernel⟩
theorem d_L_disturb_0 : decode method_7_code 0 = .ok (.aload_n 2, 1) := by decide +kernel
theorem d_L_disturb_1 : decode method_7_code 1 = .ok (.iconst 0, 1) := by decide +kernel
theorem d_L_disturb_2 : decode method_7_code 2 = .ok (.aload_n 0, 1) := by decide +kernel
theorem d_L_disturb_3 : decode method_7_code 3 = .ok (.iload_n 1, 1) := by decide +kernel
theorem d_L_disturb_4 : decode method_7_code 4 = .ok (.invokevirtual 29, 3) := by decide +kernel
theorem d_L_disturb_7 : decode method_7_code 7 = .ok (.ifCond .eq 7, 3) := by decide +kernel
theorem d_L_disturb_10 : decode method_7_code 10 = .ok (.lconst 1, 1) := by decide +kernel
theorem d_L_disturb_11 : decode method_7_code 11 = .ok (.goto 4, 3) := by decide +kernel
theorem d_L_disturb_14 : decode method_7_code 14 = .ok (.lconst 0, 1) := by decide +kernel
theorem d_L_disturb_15 : decode method_7_code 15 = .ok (.lastore, 1) := by decide +kernel
theorem d_L_disturb_16 : decode method_7_code 16 = .ok (.goto 9, 3) := by decide +kernel
theorem d_L_disturb_19 : decode method_7_code 19 = .ok (.astore_n 3, 1) := by decide +kernel
theorem d_L_disturb_20 : decode method_7_code 20 = .ok (.iconst 1, 1) := by decide +kernel
theorem d_L_disturb_21 : decode method_7_code 21 = .ok (.ireturn, 1) := by decide +kernel
theorem d_L_disturb_22 : decode method_7_code 22 = .ok (.astore_n 3, 1) := by decide +kernel
theorem d_L_disturb_23 : decode method_7_code 23 = .ok (.iconst 2, 1) := by decide +kernel
theorem d_L_disturb_24 : decode method_7_code 24 = .ok (.ireturn, 1) := by decide +kernel
theorem d_L_disturb_25 : decode method_7_code 25 = .ok (.iconst 0, 1) := by decide +kernel
theorem d_L_disturb_26 : decode method_7_code 26 = .ok (.ireturn, 1) := by decide +kernel
def b_L_disturb_15 (X0 : Mm) (post : Option Value → Mm → Prop) : Kk := (i_last (i_push (.int 0) (i_iret (bp post (xc X0 + 1) (xs X0 + 6)))))
theorem t_L_disturb_15 {Z : Zt} {X0 : Mm} {post : Option Value → Mm → Prop} (g : Good Z method_7_code 4 "BusTelegramsLaw" 7) (hq : RetZ Z true X0 1 6 post) (hXO : XOk (zA Z) (zs Z) (zs Z).heap) (htab : (zc Z).exceptionTable.toList = tableOf [(0, 16, 19, 13), (0, 16, 22, 27)]) (hst : (zl Z).stackTraces = false) (hr : (zM Z).sig.returnType = (some .int)) : Snd Z 4 15 (b_L_disturb_15 X0 post) := by
  unfold b_L_disturb_15
  exact (s_last g d_L_disturb_15 (s_goto g d_L_disturb_16 (by decide) (s_push_iconst g d_L_disturb_25 (by decide) (s_iret g hq hr d_L_disturb_26))))
def b_L_disturb_0 (X0 : Mm) (post : Option Value → Mm → Prop) : Kk := (i_aload 2 (i_push (.int 0) (i_aload 0 (i_iload 1 (i_callT 1 3 X0 1 6 w_B_disturb (i_if (fun x y => x = y) (i_push (.long 0) (b_L_disturb_15 X0 post)) (i_push (.long 1) (b_L_disturb_15 X0 post))) (ksel2 (i_drop 3 (i_push (.int 1) (i_iret (bp post (xc X0 + 1) (xs X0 + 6))))) (i_drop 3 (i_push (.int 2) (i_iret (bp post (xc X0 + 1) (xs X0 + 6)))))))))))
theorem t_L_disturb_0 {Z : Zt} {X0 : Mm} {post : Option Value → Mm → Prop} (g : Good Z method_7_code 4 "BusTelegramsLaw" 7) (hq : RetZ Z true X0 1 6 post) (hXO : XOk (zA Z) (zs Z) (zs Z).heap) (htab : (zc Z).exceptionTable.toList = tableOf [(0, 16, 19, 13), (0, 16, 22, 27)]) (hst : (zl Z).stackTraces = false) (hr : (zM Z).sig.returnType = (some .int)) : Snd Z 4 0 (b_L_disturb_0 X0 post) := by
  unfold b_L_disturb_0
  exact (s_aload_n g d_L_disturb_0 rfl (s_push_iconst g d_L_disturb_1 (by decide) (s_aload_n g d_L_disturb_2 rfl (s_iload_n g d_L_disturb_3 rfl (s_callT g hq hXO (C_B_disturb (zl Z) hst) (gin_V mw_354 mw_355 mw_356 mw_1 mw_357) hd_B_disturb rfl (by decide) (by decide) (by decide) d_L_disturb_4 (s_if_eq g d_L_disturb_7 (by decide) (s_push_lconst g d_L_disturb_14 (by decide) (t_L_disturb_15 g hq hXO htab hst hr)) (s_push_lconst g d_L_disturb_10 (by decide) (s_goto g d_L_disturb_11 (by decide) (t_L_disturb_15 g hq hXO htab hst hr)))) (hsel2 (hnd_1 g hXO.1 htab (by decide) (by decide) mw_203 (by decide) (Or.inr ⟨3, d_L_disturb_19, rfl, (s_push_iconst g d_L_disturb_20 (by decide) (s_iret g hq hr d_L_disturb_21))⟩)) (hnd_2 g hXO.1 hXO.2.2.2.2 htab (by decide) mw_203 (by decide) (by decide) mw_298 (by decide) (Or.inr ⟨3, d_L_disturb_22, rfl, (s_push_iconst g d_L_disturb_23 (by decide) (s_iret g hq hr d_L_disturb_24))⟩))))))))
def w_L_disturb : Wp := wpOf 4 (fun X0 post => b_L_disturb_0 X0 post)
theorem C_L_disturb (l : Launch) (hst : l.stackTraces = false) : MetH l ({ cls := "BusTelegramsLaw", name := "disturb", desc := "(LBusTelegrams;I[J)I" } : Jvm.MethodName) method_7_code 4 (some .int) [(0, 16, 19, 13), (0, 16, 22, 27)] 7 1 6 w_L_disturb := metH_of (by decide +kernel) (fun Z X0 post hZ g hq hXO htab hr => t_L_disturb_0 g hq hXO htab (by rw [hZ]; exact hst) hr)
theorem hd_L_disturb : (({ cls := "BusTelegramsLaw", name := "disturb", desc := "(LBusTelegrams;I[J)I" } : Jvm.MethodName)).cls ≠ "java/lang/invoke/MethodHandle" ∧ (({ cls := "BusTelegramsLaw", name := "disturb", desc := "(LBusTelegrams;I[J)I" } : Jvm.MethodName)).cls ≠ "java/lang/invoke/VarHandle" ∧ (parseMethodDescriptor (({ cls := "BusTelegramsLaw", name := "disturb", desc := "(LBusTelegrams;I[J)I" } : Jvm.MethodName)).desc).map (fun d => d.parameters.length) = some 3 := ⟨by decide, by decide, by decide +kernel⟩
theorem d_L_run_0 : decode method_8_code 0 = .ok (.aload_n 2, 1) := by decide +kernel
theorem d_L_run_1 : decode method_8_code 1 = .ok (.iconst 0, 1) := by decide +kernel
theorem d_L_run_2 : decode method_8_code 2 = .ok (.aload_n 0, 1) := by decide +kernel
theorem d_L_run_3 : decode method_8_code 3 = .ok (.iload_n 1, 1) := by decide +kernel
theorem d_L_run_4 : decode method_8_code 4 = .ok (.invokevirtual 33, 3) := by decide +kernel
theorem d_L_run_7 : decode method_8_code 7 = .ok (.i2l, 1) := by decide +kernel
theorem d_L_run_8 : decode method_8_code 8 = .ok (.lastore, 1) := by decide +kernel
theorem d_L_run_9 : decode method_8_code 9 = .ok (.goto 9, 3) := by decide +kernel
theorem d_L_run_12 : decode method_8_code 12 = .ok (.astore_n 3, 1) := by decide +kernel
theorem d_L_run_13 : decode method_8_code 13 = .ok (.iconst 1, 1) := by decide +kernel
theorem d_L_run_14 : decode method_8_code 14 = .ok (.ireturn, 1) := by decide +kernel
theorem d_L_run_15 : decode method_8_code 15 = .ok (.astore_n 3, 1) := by decide +kernel
theorem d_L_run_16 : decode method_8_code 16 = .ok (.iconst 2, 1) := by decide +kernel
theorem d_L_run_17 : decode method_8_code 17 = .ok (.ireturn, 1) := by decide +kernel
theorem d_L_run_18 : decode method_8_code 18 = .ok (.iconst 0, 1) := by decide +kernel
theorem d_L_run_19 : decode method_8_code 19 = .ok (.ireturn, 1) := by decide +kernel
def b_L_run_0 (X0 : Mm) (post : Option Value → Mm → Prop) : Kk := (i_aload 2 (i_push (.int 0) (i_aload 0 (i_iload 1 (i_callT 1 3 X0 1 6 w_B_run (i_i2l (i_last (i_push (.int 0) (i_iret (bp post (xc X0 + 1) (xs X0 + 6)))))) (ksel2 (i_drop 3 (i_push (.int 1) (i_iret (bp post (xc X0 + 1) (xs X0 + 6))))) (i_drop 3 (i_push (.int 2) (i_iret (bp post (xc X0 + 1) (xs X0 + 6)))))))))))
theorem t_L_run_0 {Z : Zt} {X0 : Mm} {post : Option Value → Mm → Prop} (g : Good Z method_8_code 4 "BusTelegramsLaw" 7) (hq : RetZ Z true X0 1 6 post) (hXO : XOk (zA Z) (zs Z) (zs Z).heap) (htab : (zc Z).exceptionTable.toList = tableOf [(0, 9, 12, 13), (0, 9, 15, 27)]) (hst : (zl Z).stackTraces = false) (hr : (zM Z).sig.returnType = (some .int)) : Snd Z 4 0 (b_L_run_0 X0 post) := by
  unfold b_L_run_0
  exact (s_aload_n g d_L_run_0 rfl (s_push_iconst g d_L_run_1 (by decide) (s_aload_n g d_L_run_2 rfl (s_iload_n g d_L_run_3 rfl (s_callT g hq hXO (C_B_run (zl Z) hst) (gin_V mw_366 mw_367 mw_368 mw_1 mw_369) hd_B_run rfl (by decide) (by decide) (by decide) d_L_run_4 (s_i2l g d_L_run_7 (s_last g d_L_run_8 (s_goto g d_L_run_9 (by decide) (s_push_iconst g d_L_run_18 (by decide) (s_iret g hq hr d_L_run_19))))) (hsel2 (hnd_1 g hXO.1 htab (by decide) (by decide) mw_203 (by decide) (Or.inr ⟨3, d_L_run_12, rfl, (s_push_iconst g d_L_run_13 (by decide) (s_iret g hq hr d_L_run_14))⟩)) (hnd_2 g hXO.1 hXO.2.2.2.2 htab (by decide) mw_203 (by decide) (by decide) mw_298 (by decide) (Or.inr ⟨3, d_L_run_15, rfl, (s_push_iconst g d_L_run_16 (by decide) (s_iret g hq hr d_L_run_17))⟩))))))))
def w_L_run : Wp := wpOf 4 (fun X0 post => b_L_run_0 X0 post)
theorem C_L_run (l : Launch) (hst : l.stackTraces = false) : MetH l ({ cls := "BusTelegramsLaw", name := "run", desc := "(LBusTelegrams;I[J)I" } : Jvm.MethodName) method_8_code 4 (some .int) [(0, 9, 12, 13), (0, 9, 15, 27)] 7 1 6 w_L_run := metH_of (by decide +kernel) (fun Z X0 post hZ g hq hXO htab hr => t_L_run_0 g hq hXO htab (by rw [hZ]; exact hst) hr)
theorem hd_L_run : (({ cls := "BusTelegramsLaw", name := "run", desc := "(LBusTelegrams;I[J)I" } : Jvm.MethodName)).cls ≠ "java/lang/invoke/MethodHandle" ∧ (({ cls := "BusTelegramsLaw", name := "run", desc := "(LBusTelegrams;I[J)I" } : Jvm.MethodName)).cls ≠ "java/lang/invoke/VarHandle" ∧ (parseMethodDescriptor (({ cls := "BusTelegramsLaw", name := "run", desc := "(LBusTelegrams;I[J)I" } : Jvm.MethodName)).desc).map (fun d => d.parameters.length) = some 3 := ⟨by decide, by decide, by decide +kernel⟩
theorem d_L_bit_0 : decode method_9_code 0 = .ok (.aload_n 2, 1) := by decide +kernel
theorem d_L_bit_1 : decode method_9_code 1 = .ok (.iconst 0, 1) := by decide +kernel
theorem d_L_bit_2 : decode method_9_code 2 = .ok (.aload_n 0, 1) := by decide +kernel
theorem d_L_bit_3 : decode method_9_code 3 = .ok (.iload_n 1, 1) := by decide +kernel
theorem d_L_bit_4 : decode method_9_code 4 = .ok (.invokevirtual 37, 3) := by decide +kernel
theorem d_L_bit_7 : decode method_9_code 7 = .ok (.i2l, 1) := by decide +kernel
theorem d_L_bit_8 : decode method_9_code 8 = .ok (.lastore, 1) := by decide +kernel
theorem d_L_bit_9 : decode method_9_code 9 = .ok (.goto 6, 3) := by decide +kernel
theorem d_L_bit_12 : decode method_9_code 12 = .ok (.astore_n 3, 1) := by decide +kernel
theorem d_L_bit_13 : decode method_9_code 13 = .ok (.iconst 1, 1) := by decide +kernel
theorem d_L_bit_14 : decode method_9_code 14 = .ok (.ireturn, 1) := by decide +kernel
theorem d_L_bit_15 : decode method_9_code 15 = .ok (.iconst 0, 1) := by decide +kernel
theorem d_L_bit_16 : decode method_9_code 16 = .ok (.ireturn, 1) := by decide +kernel
def b_L_bit_0 (X0 : Mm) (post : Option Value → Mm → Prop) : Kk := (i_aload 2 (i_push (.int 0) (i_aload 0 (i_iload 1 (i_callT 1 3 X0 1 6 w_B_bit (i_i2l (i_last (i_push (.int 0) (i_iret (bp post (xc X0 + 1) (xs X0 + 6)))))) (ksel1 (i_drop 3 (i_push (.int 1) (i_iret (bp post (xc X0 + 1) (xs X0 + 6)))))))))))
theorem t_L_bit_0 {Z : Zt} {X0 : Mm} {post : Option Value → Mm → Prop} (g : Good Z method_9_code 4 "BusTelegramsLaw" 7) (hq : RetZ Z true X0 1 6 post) (hXO : XOk (zA Z) (zs Z) (zs Z).heap) (htab : (zc Z).exceptionTable.toList = tableOf [(0, 9, 12, 13)]) (hst : (zl Z).stackTraces = false) (hr : (zM Z).sig.returnType = (some .int)) : Snd Z 4 0 (b_L_bit_0 X0 post) := by
  unfold b_L_bit_0
  exact (s_aload_n g d_L_bit_0 rfl (s_push_iconst g d_L_bit_1 (by decide) (s_aload_n g d_L_bit_2 rfl (s_iload_n g d_L_bit_3 rfl (s_callT g hq hXO (C_B_bit (zl Z) hst) (gin_V mw_498 mw_499 mw_500 mw_1 mw_501) hd_B_bit rfl (by decide) (by decide) (by decide) d_L_bit_4 (s_i2l g d_L_bit_7 (s_last g d_L_bit_8 (s_goto g d_L_bit_9 (by decide) (s_push_iconst g d_L_bit_15 (by decide) (s_iret g hq hr d_L_bit_16))))) (hsel1 (hnd_1 g hXO.1 htab (by decide) (by decide) mw_203 (by decide) (Or.inr ⟨3, d_L_bit_12, rfl, (s_push_iconst g d_L_bit_13 (by decide) (s_iret g hq hr d_L_bit_14))⟩))))))))
def w_L_bit : Wp := wpOf 4 (fun X0 post => b_L_bit_0 X0 post)
theorem C_L_bit (l : Launch) (hst : l.stackTraces = false) : MetH l ({ cls := "BusTelegramsLaw", name := "bit", desc := "(LBusTelegrams;I[J)I" } : Jvm.MethodName) method_9_code 4 (some .int) [(0, 9, 12, 13)] 7 1 6 w_L_bit := metH_of (by decide +kernel) (fun Z X0 post hZ g hq hXO htab hr => t_L_bit_0 g hq hXO htab (by rw [hZ]; exact hst) hr)
theorem hd_L_bit : (({ cls := "BusTelegramsLaw", name := "bit", desc := "(LBusTelegrams;I[J)I" } : Jvm.MethodName)).cls ≠ "java/lang/invoke/MethodHandle" ∧ (({ cls := "BusTelegramsLaw", name := "bit", desc := "(LBusTelegrams;I[J)I" } : Jvm.MethodName)).cls ≠ "java/lang/invoke/VarHandle" ∧ (parseMethodDescriptor (({ cls := "BusTelegramsLaw", name := "bit", desc := "(LBusTelegrams;I[J)I" } : Jvm.MethodName)).desc).map (fun d => d.parameters.length) = some 3 := ⟨by decide, by decide, by decide +kernel⟩
theorem d_L_station_0 : decode method_10_code 0 = .ok (.aload_n 3, 1) := by decide +kernel
theorem d_L_station_1 : decode method_10_code 1 = .ok (.iconst 0, 1) := by decide +kernel
theorem d_L_station_2 : decode method_10_code 2 = .ok (.aload_n 0, 1) := by decide +kernel
theorem d_L_station_3 : decode method_10_code 3 = .ok (.iload_n 1, 1) := by decide +kernel
theorem d_L_station_4 : decode method_10_code 4 = .ok (.iload_n 2, 1) := by decide +kernel
theorem d_L_station_5 : decode method_10_code 5 = .ok (.invokevirtual 40, 3) := by decide +kernel
theorem d_L_station_8 : decode method_10_code 8 = .ok (.i2l, 1) := by decide +kernel
theorem d_L_station_9 : decode method_10_code 9 = .ok (.lastore, 1) := by decide +kernel
theorem d_L_station_10 : decode method_10_code 10 = .ok (.goto 7, 3) := by decide +kernel
theorem d_L_station_13 : decode method_10_code 13 = .ok (.astore 4, 2) := by decide +kernel
theorem d_L_station_15 : decode method_10_code 15 = .ok (.iconst 1, 1) := by decide +kernel
theorem d_L_station_16 : decode method_10_code 16 = .ok (.ireturn, 1) := by decide +kernel
theorem d_L_station_17 : decode method_10_code 17 = .ok (.iconst 0, 1) := by decide +kernel
theorem d_L_station_18 : decode method_10_code 18 = .ok (.ireturn, 1) := by decide +kernel
def b_L_station_0 (X0 : Mm) (post : Option Value → Mm → Prop) : Kk := (i_aload 3 (i_push (.int 0) (i_aload 0 (i_iload 1 (i_iload 2 (i_callT 2 3 X0 1 6 w_B_station (i_i2l (i_last (i_push (.int 0) (i_iret (bp post (xc X0 + 1) (xs X0 + 6)))))) (ksel1 (i_drop 4 (i_push (.int 1) (i_iret (bp post (xc X0 + 1) (xs X0 + 6))))))))))))
theorem t_L_station_0 {Z : Zt} {X0 : Mm} {post : Option Value → Mm → Prop} (g : Good Z method_10_code 5 "BusTelegramsLaw" 7) (hq : RetZ Z true X0 1 6 post) (hXO : XOk (zA Z) (zs Z) (zs Z).heap) (htab : (zc Z).exceptionTable.toList = tableOf [(0, 10, 13, 13)]) (hst : (zl Z).stackTraces = false) (hr : (zM Z).sig.returnType = (some .int)) : Snd Z 5 0 (b_L_station_0 X0 post) := by
  unfold b_L_station_0
  exact (s_aload_n g d_L_station_0 rfl (s_push_iconst g d_L_station_1 (by decide) (s_aload_n g d_L_station_2 rfl (s_iload_n g d_L_station_3 rfl (s_iload_n g d_L_station_4 rfl (s_callT g hq hXO (C_B_station (zl Z) hst) (gin_V mw_506 mw_507 mw_508 mw_1 mw_509) hd_B_station rfl (by decide) (by decide) (by decide) d_L_station_5 (s_i2l g d_L_station_8 (s_last g d_L_station_9 (s_goto g d_L_station_10 (by decide) (s_push_iconst g d_L_station_17 (by decide) (s_iret g hq hr d_L_station_18))))) (hsel1 (hnd_1 g hXO.1 htab (by decide) (by decide) mw_203 (by decide) (Or.inl ⟨d_L_station_13, (s_push_iconst g d_L_station_15 (by decide) (s_iret g hq hr d_L_station_16))⟩)))))))))
def w_L_station : Wp := wpOf 5 (fun X0 post => b_L_station_0 X0 post)
theorem C_L_station (l : Launch) (hst : l.stackTraces = false) : MetH l ({ cls := "BusTelegramsLaw", name := "station", desc := "(LBusTelegrams;II[J)I" } : Jvm.MethodName) method_10_code 5 (some .int) [(0, 10, 13, 13)] 7 1 6 w_L_station := metH_of (by decide +kernel) (fun Z X0 post hZ g hq hXO htab hr => t_L_station_0 g hq hXO htab (by rw [hZ]; exact hst) hr)
theorem hd_L_station : (({ cls := "BusTelegramsLaw", name := "station", desc := "(LBusTelegrams;II[J)I" } : Jvm.MethodName)).cls ≠ "java/lang/invoke/MethodHandle" ∧ (({ cls := "BusTelegramsLaw", name := "station", desc := "(LBusTelegrams;II[J)I" } : Jvm.MethodName)).cls ≠ "java/lang/invoke/VarHandle" ∧ (parseMethodDescriptor (({ cls := "BusTelegramsLaw", name := "station", desc := "(LBusTelegrams;II[J)I" } : Jvm.MethodName)).desc).map (fun d => d.parameters.length) = some 4 := ⟨by decide, by decide, by decide +kernel⟩
theorem d_L_heard_0 : decode method_11_code 0 = .ok (.aload_n 2, 1) := by decide +kernel
theorem d_L_heard_1 : decode method_11_code 1 = .ok (.iconst 0, 1) := by decide +kernel
theorem d_L_heard_2 : decode method_11_code 2 = .ok (.aload_n 0, 1) := by decide +kernel
theorem d_L_heard_3 : decode method_11_code 3 = .ok (.iload_n 1, 1) := by decide +kernel
theorem d_L_heard_4 : decode method_11_code 4 = .ok (.invokevirtual 43, 3) := by decide +kernel
theorem d_L_heard_7 : decode method_11_code 7 = .ok (.i2l, 1) := by decide +kernel
theorem d_L_heard_8 : decode method_11_code 8 = .ok (.lastore, 1) := by decide +kernel
theorem d_L_heard_9 : decode method_11_code 9 = .ok (.goto 6, 3) := by decide +kernel
theorem d_L_heard_12 : decode method_11_code 12 = .ok (.astore_n 3, 1) := by decide +kernel
theorem d_L_heard_13 : decode method_11_code 13 = .ok (.iconst 1, 1) := by decide +kernel
theorem d_L_heard_14 : decode method_11_code 14 = .ok (.ireturn, 1) := by decide +kernel
theorem d_L_heard_15 : decode method_11_code 15 = .ok (.iconst 0, 1) := by decide +kernel
theorem d_L_heard_16 : decode method_11_code 16 = .ok (.ireturn, 1) := by decide +kernel
def b_L_heard_0 (X0 : Mm) (post : Option Value → Mm → Prop) : Kk := (i_aload 2 (i_push (.int 0) (i_aload 0 (i_iload 1 (i_callT 1 3 X0 1 6 w_B_heard (i_i2l (i_last (i_push (.int 0) (i_iret (bp post (xc X0 + 1) (xs X0 + 6)))))) (ksel1 (i_drop 3 (i_push (.int 1) (i_iret (bp post (xc X0 + 1) (xs X0 + 6)))))))))))
theorem t_L_heard_0 {Z : Zt} {X0 : Mm} {post : Option Value → Mm → Prop} (g : Good Z method_11_code 4 "BusTelegramsLaw" 7) (hq : RetZ Z true X0 1 6 post) (hXO : XOk (zA Z) (zs Z) (zs Z).heap) (htab : (zc Z).exceptionTable.toList = tableOf [(0, 9, 12, 13)]) (hst : (zl Z).stackTraces = false) (hr : (zM Z).sig.returnType = (some .int)) : Snd Z 4 0 (b_L_heard_0 X0 post) := by
  unfold b_L_heard_0
  exact (s_aload_n g d_L_heard_0 rfl (s_push_iconst g d_L_heard_1 (by decide) (s_aload_n g d_L_heard_2 rfl (s_iload_n g d_L_heard_3 rfl (s_callT g hq hXO (C_B_heard (zl Z) hst) (gin_V mw_518 mw_519 mw_520 mw_1 mw_521) hd_B_heard rfl (by decide) (by decide) (by decide) d_L_heard_4 (s_i2l g d_L_heard_7 (s_last g d_L_heard_8 (s_goto g d_L_heard_9 (by decide) (s_push_iconst g d_L_heard_15 (by decide) (s_iret g hq hr d_L_heard_16))))) (hsel1 (hnd_1 g hXO.1 htab (by decide) (by decide) mw_203 (by decide) (Or.inr ⟨3, d_L_heard_12, rfl, (s_push_iconst g d_L_heard_13 (by decide) (s_iret g hq hr d_L_heard_14))⟩))))))))
def w_L_heard : Wp := wpOf 4 (fun X0 post => b_L_heard_0 X0 post)
theorem C_L_heard (l : Launch) (hst : l.stackTraces = false) : MetH l ({ cls := "BusTelegramsLaw", name := "heard", desc := "(LBusTelegrams;I[J)I" } : Jvm.MethodName) method_11_code 4 (some .int) [(0, 9, 12, 13)] 7 1 6 w_L_heard := metH_of (by decide +kernel) (fun Z X0 post hZ g hq hXO htab hr => t_L_heard_0 g hq hXO htab (by rw [hZ]; exact hst) hr)
theorem hd_L_heard : (({ cls := "BusTelegramsLaw", name := "heard", desc := "(LBusTelegrams;I[J)I" } : Jvm.MethodName)).cls ≠ "java/lang/invoke/MethodHandle" ∧ (({ cls := "BusTelegramsLaw", name := "heard", desc := "(LBusTelegrams;I[J)I" } : Jvm.MethodName)).cls ≠ "java/lang/invoke/VarHandle" ∧ (parseMethodDescriptor (({ cls := "BusTelegramsLaw", name := "heard", desc := "(LBusTelegrams;I[J)I" } : Jvm.MethodName)).desc).map (fun d => d.parameters.length) = some 3 := ⟨by decide, by decide, by decide +kernel⟩
theorem d_L_byteAt_0 : decode method_12_code 0 = .ok (.aload_n 2, 1) := by decide +kernel
theorem d_L_byteAt_1 : decode method_12_code 1 = .ok (.iconst 0, 1) := by decide +kernel
theorem d_L_byteAt_2 : decode method_12_code 2 = .ok (.aload_n 0, 1) := by decide +kernel
theorem d_L_byteAt_3 : decode method_12_code 3 = .ok (.iload_n 1, 1) := by decide +kernel
theorem d_L_byteAt_4 : decode method_12_code 4 = .ok (.invokevirtual 46, 3) := by decide +kernel
theorem d_L_byteAt_7 : decode method_12_code 7 = .ok (.i2l, 1) := by decide +kernel
theorem d_L_byteAt_8 : decode method_12_code 8 = .ok (.lastore, 1) := by decide +kernel
theorem d_L_byteAt_9 : decode method_12_code 9 = .ok (.goto 6, 3) := by decide +kernel
theorem d_L_byteAt_12 : decode method_12_code 12 = .ok (.astore_n 3, 1) := by decide +kernel
theorem d_L_byteAt_13 : decode method_12_code 13 = .ok (.iconst 1, 1) := by decide +kernel
theorem d_L_byteAt_14 : decode method_12_code 14 = .ok (.ireturn, 1) := by decide +kernel
theorem d_L_byteAt_15 : decode method_12_code 15 = .ok (.iconst 0, 1) := by decide +kernel
theorem d_L_byteAt_16 : decode method_12_code 16 = .ok (.ireturn, 1) := by decide +kernel
def b_L_byteAt_0 (X0 : Mm) (post : Option Value → Mm → Prop) : Kk := (i_aload 2 (i_push (.int 0) (i_aload 0 (i_iload 1 (i_callT 1 3 X0 1 6 w_B_byteAt (i_i2l (i_last (i_push (.int 0) (i_iret (bp post (xc X0 + 1) (xs X0 + 6)))))) (ksel1 (i_drop 3 (i_push (.int 1) (i_iret (bp post (xc X0 + 1) (xs X0 + 6)))))))))))
theorem t_L_byteAt_0 {Z : Zt} {X0 : Mm} {post : Option Value → Mm → Prop} (g : Good Z method_12_code 4 "BusTelegramsLaw" 7) (hq : RetZ Z true X0 1 6 post) (hXO : XOk (zA Z) (zs Z) (zs Z).heap) (htab : (zc Z).exceptionTable.toList = tableOf [(0, 9, 12, 13)]) (hst : (zl Z).stackTraces = false) (hr : (zM Z).sig.returnType = (some .int)) : Snd Z 4 0 (b_L_byteAt_0 X0 post) := by
  unfold b_L_byteAt_0
  exact (s_aload_n g d_L_byteAt_0 rfl (s_push_iconst g d_L_byteAt_1 (by decide) (s_aload_n g d_L_byteAt_2 rfl (s_iload_n g d_L_byteAt_3 rfl (s_callT g hq hXO (C_B_byteAt (zl Z) hst) (gin_V mw_530 mw_531 mw_532 mw_1 mw_533) hd_B_byteAt rfl (by decide) (by decide) (by decide) d_L_byteAt_4 (s_i2l g d_L_byteAt_7 (s_last g d_L_byteAt_8 (s_goto g d_L_byteAt_9 (by decide) (s_push_iconst g d_L_byteAt_15 (by decide) (s_iret g hq hr d_L_byteAt_16))))) (hsel1 (hnd_1 g hXO.1 htab (by decide) (by decide) mw_203 (by decide) (Or.inr ⟨3, d_L_byteAt_12, rfl, (s_push_iconst g d_L_byteAt_13 (by decide) (s_iret g hq hr d_L_byteAt_14))⟩))))))))
def w_L_byteAt : Wp := wpOf 4 (fun X0 post => b_L_byteAt_0 X0 post)
theorem C_L_byteAt (l : Launch) (hst : l.stackTraces = false) : MetH l ({ cls := "BusTelegramsLaw", name := "byteAt", desc := "(LBusTelegrams;I[J)I" } : Jvm.MethodName) method_12_code 4 (some .int) [(0, 9, 12, 13)] 7 1 6 w_L_byteAt := metH_of (by decide +kernel) (fun Z X0 post hZ g hq hXO htab hr => t_L_byteAt_0 g hq hXO htab (by rw [hZ]; exact hst) hr)
theorem hd_L_byteAt : (({ cls := "BusTelegramsLaw", name := "byteAt", desc := "(LBusTelegrams;I[J)I" } : Jvm.MethodName)).cls ≠ "java/lang/invoke/MethodHandle" ∧ (({ cls := "BusTelegramsLaw", name := "byteAt", desc := "(LBusTelegrams;I[J)I" } : Jvm.MethodName)).cls ≠ "java/lang/invoke/VarHandle" ∧ (parseMethodDescriptor (({ cls := "BusTelegramsLaw", name := "byteAt", desc := "(LBusTelegrams;I[J)I" } : Jvm.MethodName)).desc).map (fun d => d.parameters.length) = some 3 := ⟨by decide, by decide, by decide +kernel⟩
theorem d_L_unpack_0 : decode method_13_code 0 = .ok (.aload_n 2, 1) := by decide +kernel
theorem d_L_unpack_1 : decode method_13_code 1 = .ok (.iconst 0, 1) := by decide +kernel
theorem d_L_unpack_2 : decode method_13_code 2 = .ok (.aload_n 0, 1) := by decide +kernel
theorem d_L_unpack_3 : decode method_13_code 3 = .ok (.iload_n 1, 1) := by decide +kernel
theorem d_L_unpack_4 : decode method_13_code 4 = .ok (.invokevirtual 49, 3) := by decide +kernel
theorem d_L_unpack_7 : decode method_13_code 7 = .ok (.dastore, 1) := by decide +kernel
theorem d_L_unpack_8 : decode method_13_code 8 = .ok (.goto 6, 3) := by decide +kernel
theorem d_L_unpack_11 : decode method_13_code 11 = .ok (.astore_n 3, 1) := by decide +kernel
theorem d_L_unpack_12 : decode method_13_code 12 = .ok (.iconst 1, 1) := by decide +kernel
theorem d_L_unpack_13 : decode method_13_code 13 = .ok (.ireturn, 1) := by decide +kernel
theorem d_L_unpack_14 : decode method_13_code 14 = .ok (.iconst 0, 1) := by decide +kernel
theorem d_L_unpack_15 : decode method_13_code 15 = .ok (.ireturn, 1) := by decide +kernel
def b_L_unpack_0 (X0 : Mm) (post : Option Value → Mm → Prop) : Kk := (i_aload 2 (i_push (.int 0) (i_aload 0 (i_iload 1 (i_callT 1 3 X0 1 6 w_B_unpack (i_dast (i_push (.int 0) (i_iret (bp post (xc X0 + 1) (xs X0 + 6))))) (ksel1 (i_drop 3 (i_push (.int 1) (i_iret (bp post (xc X0 + 1) (xs X0 + 6)))))))))))
theorem t_L_unpack_0 {Z : Zt} {X0 : Mm} {post : Option Value → Mm → Prop} (g : Good Z method_13_code 4 "BusTelegramsLaw" 7) (hq : RetZ Z true X0 1 6 post) (hXO : XOk (zA Z) (zs Z) (zs Z).heap) (htab : (zc Z).exceptionTable.toList = tableOf [(0, 8, 11, 13)]) (hst : (zl Z).stackTraces = false) (hr : (zM Z).sig.returnType = (some .int)) : Snd Z 4 0 (b_L_unpack_0 X0 post) := by
  unfold b_L_unpack_0
  exact (s_aload_n g d_L_unpack_0 rfl (s_push_iconst g d_L_unpack_1 (by decide) (s_aload_n g d_L_unpack_2 rfl (s_iload_n g d_L_unpack_3 rfl (s_callT g hq hXO (C_B_unpack (zl Z) hst) (gin_V mw_542 mw_543 mw_544 mw_1 mw_545) hd_B_unpack rfl (by decide) (by decide) (by decide) d_L_unpack_4 (s_dast g d_L_unpack_7 (s_goto g d_L_unpack_8 (by decide) (s_push_iconst g d_L_unpack_14 (by decide) (s_iret g hq hr d_L_unpack_15)))) (hsel1 (hnd_1 g hXO.1 htab (by decide) (by decide) mw_203 (by decide) (Or.inr ⟨3, d_L_unpack_11, rfl, (s_push_iconst g d_L_unpack_12 (by decide) (s_iret g hq hr d_L_unpack_13))⟩))))))))
def w_L_unpack : Wp := wpOf 4 (fun X0 post => b_L_unpack_0 X0 post)
theorem C_L_unpack (l : Launch) (hst : l.stackTraces = false) : MetH l ({ cls := "BusTelegramsLaw", name := "unpack", desc := "(LBusTelegrams;I[D)I" } : Jvm.MethodName) method_13_code 4 (some .int) [(0, 8, 11, 13)] 7 1 6 w_L_unpack := metH_of (by decide +kernel) (fun Z X0 post hZ g hq hXO htab hr => t_L_unpack_0 g hq hXO htab (by rw [hZ]; exact hst) hr)
theorem hd_L_unpack : (({ cls := "BusTelegramsLaw", name := "unpack", desc := "(LBusTelegrams;I[D)I" } : Jvm.MethodName)).cls ≠ "java/lang/invoke/MethodHandle" ∧ (({ cls := "BusTelegramsLaw", name := "unpack", desc := "(LBusTelegrams;I[D)I" } : Jvm.MethodName)).cls ≠ "java/lang/invoke/VarHandle" ∧ (parseMethodDescriptor (({ cls := "BusTelegramsLaw", name := "unpack", desc := "(LBusTelegrams;I[D)I" } : Jvm.MethodName)).desc).map (fun d => d.parameters.length) = some 3 := ⟨by decide, by decide, by decide +kernel⟩
