/-! constructors (by program) -/
theorem df_0 : ∀ j, j < 16 → defaultValue (tyX0 j) = if isR 0 j = true then .null else .int 0 := by decide +kernel
theorem df_1 : ∀ j, j < 15 → defaultValue (tyX1 j) = if isR 1 j = true then .null else .int 0 := by decide +kernel
theorem df_2 : ∀ j, j < 4 → defaultValue (tyX2 j) = if isR 2 j = true then .null else .int 0 := by decide +kernel
theorem df_3 : ∀ j, j < 7 → defaultValue (tyX3 j) = if isR 3 j = true then .null else .int 0 := by decide +kernel
theorem df_4 : ∀ j, j < 35 → defaultValue (tyX4 j) = if isR 4 j = true then .null else .int 0 := by decide +kernel
theorem d_T_init_0 : decode prog_4_method_1_code 0 = .ok (.aload_n 0, 1) := by decide +kernel
theorem d_T_init_1 : decode prog_4_method_1_code 1 = .ok (.invokespecial 3, 3) := by decide +kernel
theorem d_T_init_4 : decode prog_4_method_1_code 4 = .ok (.aload_n 0, 1) := by decide +kernel
theorem d_T_init_5 : decode prog_4_method_1_code 5 = .ok (.bipush 21, 2) := by decide +kernel
theorem d_T_init_7 : decode prog_4_method_1_code 7 = .ok (.newarray .int, 2) := by decide +kernel
theorem d_T_init_9 : decode prog_4_method_1_code 9 = .ok (.putfield 9, 3) := by decide +kernel
theorem d_T_init_12 : decode prog_4_method_1_code 12 = .ok (.aload_n 0, 1) := by decide +kernel
theorem d_T_init_13 : decode prog_4_method_1_code 13 = .ok (.bipush 8, 2) := by decide +kernel
theorem d_T_init_15 : decode prog_4_method_1_code 15 = .ok (.putfield 15, 3) := by decide +kernel
theorem d_T_init_18 : decode prog_4_method_1_code 18 = .ok (.aload_n 0, 1) := by decide +kernel
theorem d_T_init_19 : decode prog_4_method_1_code 19 = .ok (.iconst 0, 1) := by decide +kernel
theorem d_T_init_20 : decode prog_4_method_1_code 20 = .ok (.putfield 19, 3) := by decide +kernel
theorem d_T_init_23 : decode prog_4_method_1_code 23 = .ok (.aload_n 0, 1) := by decide +kernel
theorem d_T_init_24 : decode prog_4_method_1_code 24 = .ok (.iconst 0, 1) := by decide +kernel
theorem d_T_init_25 : decode prog_4_method_1_code 25 = .ok (.putfield 22, 3) := by decide +kernel
theorem d_T_init_28 : decode prog_4_method_1_code 28 = .ok (.return_, 1) := by decide +kernel
def b_T_init_0 (X0 : Mm) (post : Option Value → Mm → Prop) : Kk := (i_aload 0 (i_obj (i_aload 0 (i_push (.int 21) (i_newa 10 X0 1 21 (i_putR 2 0 (i_aload 0 (i_push (.int 8) (i_putI 2 1 (i_aload 0 (i_push (.int 0) (i_putI 2 2 (i_aload 0 (i_push (.int 0) (i_putI 2 3 (i_vret (bp post (xc X0 + 1) (xs X0 + 21))))))))))))))))))
theorem t_T_init_0 {Z : Zt} {X0 : Mm} {post : Option Value → Mm → Prop} (g : Good Z prog_4_method_1_code 1 "BusTelegrams$Telegram" 1) (hq : RetZ Z false X0 1 21 post) (hr : (zM Z).sig.returnType = none) (hnm : (zM Z).name = "<init>") (hao : AO2 (zs Z)) : Snd Z 1 0 (b_T_init_0 X0 post) := by
  unfold b_T_init_0
  exact (s_aload_n g d_T_init_0 rfl (s_obj g (by decide) mw_93 mw_19 mw_20 d_T_init_1 (s_aload_n g d_T_init_4 rfl (s_push_bipush g d_T_init_5 (by decide) (s_newa10 g hq.N mw_81 d_T_init_7 (s_putR g hnm (c := 2) (j := 0) cok_2 (by decide) rfl rfl rfl mw_94 rfl rfl (fun _ => ⟨rfl, rfl⟩) d_T_init_9 (s_aload_n g d_T_init_12 rfl (s_push_bipush g d_T_init_13 (by decide) (s_putI g (c := 2) (j := 1) cok_2 (by decide) rfl rfl rfl mw_95 rfl d_T_init_15 (s_aload_n g d_T_init_18 rfl (s_push_iconst g d_T_init_19 (by decide) (s_putI g (c := 2) (j := 2) cok_2 (by decide) rfl rfl rfl mw_96 rfl d_T_init_20 (s_aload_n g d_T_init_23 rfl (s_push_iconst g d_T_init_24 (by decide) (s_putI g (c := 2) (j := 3) cok_2 (by decide) rfl rfl rfl mw_97 rfl d_T_init_25 (s_vret g hq hr d_T_init_28))))))))))))))))
def w_T_init : Wp := wpOf 1 (fun X0 post => b_T_init_0 X0 post)
theorem C_T_init (l : Launch) : MetN l ({ cls := "BusTelegrams$Telegram", name := "<init>", desc := "()V" } : Jvm.MethodName) prog_4_method_1_code 1 1 1 21 w_T_init := metN_of (by decide +kernel) (fun Z X0 post hZ g hq hr hnm hao => t_T_init_0 g hq hr hnm hao)
theorem hd_T_init : (({ cls := "BusTelegrams$Telegram", name := "<init>", desc := "()V" } : Jvm.MethodName)).cls ≠ "java/lang/invoke/MethodHandle" ∧ (({ cls := "BusTelegrams$Telegram", name := "<init>", desc := "()V" } : Jvm.MethodName)).cls ≠ "java/lang/invoke/VarHandle" ∧ (parseMethodDescriptor (({ cls := "BusTelegrams$Telegram", name := "<init>", desc := "()V" } : Jvm.MethodName)).desc).map (fun d => d.parameters.length) = some 0 := ⟨by decide, by decide, by decide +kernel⟩
theorem d_S_init_0 : decode prog_3_method_1_code 0 = .ok (.aload_n 0, 1) := by decide +kernel
theorem d_S_init_1 : decode prog_3_method_1_code 1 = .ok (.invokespecial 3, 3) := by decide +kernel
theorem d_S_init_4 : decode prog_3_method_1_code 4 = .ok (.aload_n 0, 1) := by decide +kernel
theorem d_S_init_5 : decode prog_3_method_1_code 5 = .ok (.sipush 256, 3) := by decide +kernel
theorem d_S_init_8 : decode prog_3_method_1_code 8 = .ok (.newarray .boolean, 2) := by decide +kernel
theorem d_S_init_10 : decode prog_3_method_1_code 10 = .ok (.putfield 9, 3) := by decide +kernel
theorem d_S_init_13 : decode prog_3_method_1_code 13 = .ok (.aload_n 0, 1) := by decide +kernel
theorem d_S_init_14 : decode prog_3_method_1_code 14 = .ok (.bipush 6, 2) := by decide +kernel
theorem d_S_init_16 : decode prog_3_method_1_code 16 = .ok (.anewarray 15, 3) := by decide +kernel
theorem d_S_init_19 : decode prog_3_method_1_code 19 = .ok (.putfield 17, 3) := by decide +kernel
theorem d_S_init_22 : decode prog_3_method_1_code 22 = .ok (.aload_n 0, 1) := by decide +kernel
theorem d_S_init_23 : decode prog_3_method_1_code 23 = .ok (.iconst 0, 1) := by decide +kernel
theorem d_S_init_24 : decode prog_3_method_1_code 24 = .ok (.putfield 21, 3) := by decide +kernel
theorem d_S_init_27 : decode prog_3_method_1_code 27 = .ok (.aload_n 0, 1) := by decide +kernel
theorem d_S_init_28 : decode prog_3_method_1_code 28 = .ok (.iconst 0, 1) := by decide +kernel
theorem d_S_init_29 : decode prog_3_method_1_code 29 = .ok (.putfield 25, 3) := by decide +kernel
theorem d_S_init_32 : decode prog_3_method_1_code 32 = .ok (.aload_n 0, 1) := by decide +kernel
theorem d_S_init_33 : decode prog_3_method_1_code 33 = .ok (.iconst 0, 1) := by decide +kernel
theorem d_S_init_34 : decode prog_3_method_1_code 34 = .ok (.putfield 29, 3) := by decide +kernel
theorem d_S_init_37 : decode prog_3_method_1_code 37 = .ok (.aload_n 0, 1) := by decide +kernel
theorem d_S_init_38 : decode prog_3_method_1_code 38 = .ok (.iconst (-1), 1) := by decide +kernel
theorem d_S_init_39 : decode prog_3_method_1_code 39 = .ok (.putfield 32, 3) := by decide +kernel
theorem d_S_init_42 : decode prog_3_method_1_code 42 = .ok (.aload_n 0, 1) := by decide +kernel
theorem d_S_init_43 : decode prog_3_method_1_code 43 = .ok (.iconst 1, 1) := by decide +kernel
theorem d_S_init_44 : decode prog_3_method_1_code 44 = .ok (.putfield 35, 3) := by decide +kernel
theorem d_S_init_47 : decode prog_3_method_1_code 47 = .ok (.aload_n 0, 1) := by decide +kernel
theorem d_S_init_48 : decode prog_3_method_1_code 48 = .ok (.iconst 0, 1) := by decide +kernel
theorem d_S_init_49 : decode prog_3_method_1_code 49 = .ok (.putfield 38, 3) := by decide +kernel
theorem d_S_init_52 : decode prog_3_method_1_code 52 = .ok (.aload_n 0, 1) := by decide +kernel
theorem d_S_init_53 : decode prog_3_method_1_code 53 = .ok (.iconst 0, 1) := by decide +kernel
theorem d_S_init_54 : decode prog_3_method_1_code 54 = .ok (.putfield 41, 3) := by decide +kernel
theorem d_S_init_57 : decode prog_3_method_1_code 57 = .ok (.aload_n 0, 1) := by decide +kernel
theorem d_S_init_58 : decode prog_3_method_1_code 58 = .ok (.iconst (-1), 1) := by decide +kernel
theorem d_S_init_59 : decode prog_3_method_1_code 59 = .ok (.putfield 44, 3) := by decide +kernel
theorem d_S_init_62 : decode prog_3_method_1_code 62 = .ok (.aload_n 0, 1) := by decide +kernel
theorem d_S_init_63 : decode prog_3_method_1_code 63 = .ok (.iconst 0, 1) := by decide +kernel
theorem d_S_init_64 : decode prog_3_method_1_code 64 = .ok (.putfield 47, 3) := by decide +kernel
theorem d_S_init_67 : decode prog_3_method_1_code 67 = .ok (.aload_n 0, 1) := by decide +kernel
theorem d_S_init_68 : decode prog_3_method_1_code 68 = .ok (.iconst 0, 1) := by decide +kernel
theorem d_S_init_69 : decode prog_3_method_1_code 69 = .ok (.putfield 50, 3) := by decide +kernel
theorem d_S_init_72 : decode prog_3_method_1_code 72 = .ok (.aload_n 0, 1) := by decide +kernel
theorem d_S_init_73 : decode prog_3_method_1_code 73 = .ok (.iconst 0, 1) := by decide +kernel
theorem d_S_init_74 : decode prog_3_method_1_code 74 = .ok (.putfield 53, 3) := by decide +kernel
theorem d_S_init_77 : decode prog_3_method_1_code 77 = .ok (.aload_n 0, 1) := by decide +kernel
theorem d_S_init_78 : decode prog_3_method_1_code 78 = .ok (.iconst 0, 1) := by decide +kernel
theorem d_S_init_79 : decode prog_3_method_1_code 79 = .ok (.putfield 56, 3) := by decide +kernel
theorem d_S_init_82 : decode prog_3_method_1_code 82 = .ok (.aload_n 0, 1) := by decide +kernel
theorem d_S_init_83 : decode prog_3_method_1_code 83 = .ok (.iload_n 1, 1) := by decide +kernel
theorem d_S_init_84 : decode prog_3_method_1_code 84 = .ok (.putfield 59, 3) := by decide +kernel
theorem d_S_init_87 : decode prog_3_method_1_code 87 = .ok (.iconst 0, 1) := by decide +kernel
theorem d_S_init_88 : decode prog_3_method_1_code 88 = .ok (.istore_n 2, 1) := by decide +kernel
theorem d_S_init_89 : decode prog_3_method_1_code 89 = .ok (.iload_n 2, 1) := by decide +kernel
theorem d_S_init_90 : decode prog_3_method_1_code 90 = .ok (.bipush 6, 2) := by decide +kernel
theorem d_S_init_92 : decode prog_3_method_1_code 92 = .ok (.if_icmp .ge 22, 3) := by decide +kernel
theorem d_S_init_95 : decode prog_3_method_1_code 95 = .ok (.aload_n 0, 1) := by decide +kernel
theorem d_S_init_96 : decode prog_3_method_1_code 96 = .ok (.getfield 17, 3) := by decide +kernel
theorem d_S_init_99 : decode prog_3_method_1_code 99 = .ok (.iload_n 2, 1) := by decide +kernel
theorem d_S_init_100 : decode prog_3_method_1_code 100 = .ok (.new 15, 3) := by decide +kernel
theorem d_S_init_103 : decode prog_3_method_1_code 103 = .ok (.dup, 1) := by decide +kernel
theorem d_S_init_104 : decode prog_3_method_1_code 104 = .ok (.invokespecial 62, 3) := by decide +kernel
theorem d_S_init_107 : decode prog_3_method_1_code 107 = .ok (.aastore, 1) := by decide +kernel
theorem d_S_init_108 : decode prog_3_method_1_code 108 = .ok (.iinc 2 1, 3) := by decide +kernel
theorem d_S_init_111 : decode prog_3_method_1_code 111 = .ok (.goto (-22), 3) := by decide +kernel
theorem d_S_init_114 : decode prog_3_method_1_code 114 = .ok (.return_, 1) := by decide +kernel
def f_S_init_89 (X0 : Mm) (post : Option Value → Mm → Prop) (k89 : Kk) : Kk := (i_iload 2 (i_push (.int 6) (i_icmp (fun x y => y ≤ x) (i_vret (bp post (xc X0 + 14) (xs X0 + 412))) (i_aload 0 (i_getR 1 1 (i_iload 2 (i_new 2 X0 14 412 (i_dup (i_callI 0 X0 14 412 1 21 w_T_init (i_aast 13 2 (i_iinc 2 1 k89)))))))))))
def b_S_init_89 (X0 : Mm) (post : Option Value → Mm → Prop) : Kk := i_loop [0, 1, 2] (f_S_init_89 X0 post)
theorem t_S_init_89 {Z : Zt} {X0 : Mm} {post : Option Value → Mm → Prop} (g : Good Z prog_3_method_1_code 3 "BusTelegrams$Station" 2) (hq : RetZ Z false X0 14 412 post) (hr : (zM Z).sig.returnType = none) (hnm : (zM Z).name = "<init>") (hao : AO2 (zs Z)) : Snd Z 3 89 (b_S_init_89 X0 post) := by
  unfold b_S_init_89
  exact s_loop (fun k89 hk89 => by unfold f_S_init_89; exact (s_iload_n g d_S_init_89 rfl (s_push_bipush g d_S_init_90 (by decide) (s_icmp_ge g d_S_init_92 (by decide) (s_vret g hq hr d_S_init_114) (s_aload_n g d_S_init_95 rfl (s_getR g (c := 1) (j := 1) cok_1 (by decide) rfl mw_111 rfl d_S_init_96 (s_iload_n g d_S_init_99 rfl (s_new g hq.N cok_2 df_2 mw_87 mw_89 mw_4 d_S_init_100 (s_dup g d_S_init_103 (s_callIN g hq.N hao (C_T_init (zl Z)) mn_90 mw_91 mw_4 mw_92 hd_T_init rfl (by decide) (by decide) d_S_init_104 (s_aast13 g d_S_init_107 (s_iinc g (by decide) d_S_init_108 (by decide) (s_goto g d_S_init_111 (by decide) hk89)))))))))))))
def b_S_init_0 (X0 : Mm) (post : Option Value → Mm → Prop) : Kk := (i_aload 0 (i_obj (i_aload 0 (i_push (.int 256) (i_newa 11 X0 14 412 (i_putR 1 0 (i_aload 0 (i_push (.int 6) (i_newq 13 X0 14 412 (i_putR 1 1 (i_aload 0 (i_push (.int 0) (i_putZ 1 3 (i_aload 0 (i_push (.int 0) (i_putI 1 4 (i_aload 0 (i_push (.int 0) (i_putI 1 5 (i_aload 0 (i_push (.int (-1)) (i_putI 1 6 (i_aload 0 (i_push (.int 1) (i_putI 1 7 (i_aload 0 (i_push (.int 0) (i_putZ 1 8 (i_aload 0 (i_push (.int 0) (i_putI 1 9 (i_aload 0 (i_push (.int (-1)) (i_putI 1 10 (i_aload 0 (i_push (.int 0) (i_putI 1 11 (i_aload 0 (i_push (.int 0) (i_putI 1 12 (i_aload 0 (i_push (.int 0) (i_putI 1 13 (i_aload 0 (i_push (.int 0) (i_putI 1 14 (i_aload 0 (i_iload 1 (i_putI 1 2 (i_push (.int 0) (i_istore 2 (b_S_init_89 X0 post))))))))))))))))))))))))))))))))))))))))))))))))))))
theorem t_S_init_0 {Z : Zt} {X0 : Mm} {post : Option Value → Mm → Prop} (g : Good Z prog_3_method_1_code 3 "BusTelegrams$Station" 2) (hq : RetZ Z false X0 14 412 post) (hr : (zM Z).sig.returnType = none) (hnm : (zM Z).name = "<init>") (hao : AO2 (zs Z)) : Snd Z 3 0 (b_S_init_0 X0 post) := by
  unfold b_S_init_0
  exact (s_aload_n g d_S_init_0 rfl (s_obj g (by decide) mw_86 mw_19 mw_20 d_S_init_1 (s_aload_n g d_S_init_4 rfl (s_push_sipush g d_S_init_5 (by decide) (s_newa11 g hq.N mw_108 d_S_init_8 (s_putR g hnm (c := 1) (j := 0) cok_1 (by decide) rfl rfl rfl mw_109 rfl rfl (fun _ => ⟨rfl, rfl⟩) d_S_init_10 (s_aload_n g d_S_init_13 rfl (s_push_bipush g d_S_init_14 (by decide) (s_newq13 g hq.N mw_87 hao.2 d_S_init_16 (s_putR g hnm (c := 1) (j := 1) cok_1 (by decide) rfl rfl rfl mw_111 rfl rfl (fun _ => ⟨rfl, rfl⟩) d_S_init_19 (s_aload_n g d_S_init_22 rfl (s_push_iconst g d_S_init_23 (by decide) (s_putZ g (c := 1) (j := 3) cok_1 (by decide) rfl rfl rfl mw_114 rfl d_S_init_24 (s_aload_n g d_S_init_27 rfl (s_push_iconst g d_S_init_28 (by decide) (s_putI g (c := 1) (j := 4) cok_1 (by decide) rfl rfl rfl mw_116 rfl d_S_init_29 (s_aload_n g d_S_init_32 rfl (s_push_iconst g d_S_init_33 (by decide) (s_putI g (c := 1) (j := 5) cok_1 (by decide) rfl rfl rfl mw_117 rfl d_S_init_34 (s_aload_n g d_S_init_37 rfl (s_push_iconst g d_S_init_38 (by decide) (s_putI g (c := 1) (j := 6) cok_1 (by decide) rfl rfl rfl mw_119 rfl d_S_init_39 (s_aload_n g d_S_init_42 rfl (s_push_iconst g d_S_init_43 (by decide) (s_putI g (c := 1) (j := 7) cok_1 (by decide) rfl rfl rfl mw_120 rfl d_S_init_44 (s_aload_n g d_S_init_47 rfl (s_push_iconst g d_S_init_48 (by decide) (s_putZ g (c := 1) (j := 8) cok_1 (by decide) rfl rfl rfl mw_121 rfl d_S_init_49 (s_aload_n g d_S_init_52 rfl (s_push_iconst g d_S_init_53 (by decide) (s_putI g (c := 1) (j := 9) cok_1 (by decide) rfl rfl rfl mw_122 rfl d_S_init_54 (s_aload_n g d_S_init_57 rfl (s_push_iconst g d_S_init_58 (by decide) (s_putI g (c := 1) (j := 10) cok_1 (by decide) rfl rfl rfl mw_123 rfl d_S_init_59 (s_aload_n g d_S_init_62 rfl (s_push_iconst g d_S_init_63 (by decide) (s_putI g (c := 1) (j := 11) cok_1 (by decide) rfl rfl rfl mw_124 rfl d_S_init_64 (s_aload_n g d_S_init_67 rfl (s_push_iconst g d_S_init_68 (by decide) (s_putI g (c := 1) (j := 12) cok_1 (by decide) rfl rfl rfl mw_125 rfl d_S_init_69 (s_aload_n g d_S_init_72 rfl (s_push_iconst g d_S_init_73 (by decide) (s_putI g (c := 1) (j := 13) cok_1 (by decide) rfl rfl rfl mw_126 rfl d_S_init_74 (s_aload_n g d_S_init_77 rfl (s_push_iconst g d_S_init_78 (by decide) (s_putI g (c := 1) (j := 14) cok_1 (by decide) rfl rfl rfl mw_127 rfl d_S_init_79 (s_aload_n g d_S_init_82 rfl (s_iload_n g d_S_init_83 rfl (s_putI g (c := 1) (j := 2) cok_1 (by decide) rfl rfl rfl mw_112 rfl d_S_init_84 (s_push_iconst g d_S_init_87 (by decide) (s_istore_n g (by decide) d_S_init_88 rfl (t_S_init_89 g hq hr hnm hao))))))))))))))))))))))))))))))))))))))))))))))))))))
def w_S_init : Wp := wpOf 3 (fun X0 post => b_S_init_0 X0 post)
theorem C_S_init (l : Launch) : MetN l ({ cls := "BusTelegrams$Station", name := "<init>", desc := "(I)V" } : Jvm.MethodName) prog_3_method_1_code 3 2 14 412 w_S_init := metN_of (by decide +kernel) (fun Z X0 post hZ g hq hr hnm hao => t_S_init_0 g hq hr hnm hao)
theorem hd_S_init : (({ cls := "BusTelegrams$Station", name := "<init>", desc := "(I)V" } : Jvm.MethodName)).cls ≠ "java/lang/invoke/MethodHandle" ∧ (({ cls := "BusTelegrams$Station", name := "<init>", desc := "(I)V" } : Jvm.MethodName)).cls ≠ "java/lang/invoke/VarHandle" ∧ (parseMethodDescriptor (({ cls := "BusTelegrams$Station", name := "<init>", desc := "(I)V" } : Jvm.MethodName)).desc).map (fun d => d.parameters.length) = some 1 := ⟨by decide, by decide, by decide +kernel⟩
theorem d_E_init_0 : decode prog_2_method_1_code 0 = .ok (.aload_n 0, 1) := by decide +kernel
theorem d_E_init_1 : decode prog_2_method_1_code 1 = .ok (.invokespecial 3, 3) := by decide +kernel
theorem d_E_init_4 : decode prog_2_method_1_code 4 = .ok (.aload_n 0, 1) := by decide +kernel
theorem d_E_init_5 : decode prog_2_method_1_code 5 = .ok (.sipush 600, 3) := by decide +kernel
theorem d_E_init_8 : decode prog_2_method_1_code 8 = .ok (.newarray .int, 2) := by decide +kernel
theorem d_E_init_10 : decode prog_2_method_1_code 10 = .ok (.putfield 11, 3) := by decide +kernel
theorem d_E_init_13 : decode prog_2_method_1_code 13 = .ok (.aload_n 0, 1) := by decide +kernel
theorem d_E_init_14 : decode prog_2_method_1_code 14 = .ok (.sipush 600, 3) := by decide +kernel
theorem d_E_init_17 : decode prog_2_method_1_code 17 = .ok (.newarray .int, 2) := by decide +kernel
theorem d_E_init_19 : decode prog_2_method_1_code 19 = .ok (.putfield 15, 3) := by decide +kernel
theorem d_E_init_22 : decode prog_2_method_1_code 22 = .ok (.aload_n 0, 1) := by decide +kernel
theorem d_E_init_23 : decode prog_2_method_1_code 23 = .ok (.iconst 5, 1) := by decide +kernel
theorem d_E_init_24 : decode prog_2_method_1_code 24 = .ok (.newarray .int, 2) := by decide +kernel
theorem d_E_init_26 : decode prog_2_method_1_code 26 = .ok (.putfield 18, 3) := by decide +kernel
theorem d_E_init_29 : decode prog_2_method_1_code 29 = .ok (.aload_n 0, 1) := by decide +kernel
theorem d_E_init_30 : decode prog_2_method_1_code 30 = .ok (.iconst 0, 1) := by decide +kernel
theorem d_E_init_31 : decode prog_2_method_1_code 31 = .ok (.putfield 21, 3) := by decide +kernel
theorem d_E_init_34 : decode prog_2_method_1_code 34 = .ok (.aload_n 0, 1) := by decide +kernel
theorem d_E_init_35 : decode prog_2_method_1_code 35 = .ok (.iconst 0, 1) := by decide +kernel
theorem d_E_init_36 : decode prog_2_method_1_code 36 = .ok (.putfield 25, 3) := by decide +kernel
theorem d_E_init_39 : decode prog_2_method_1_code 39 = .ok (.aload_n 0, 1) := by decide +kernel
theorem d_E_init_40 : decode prog_2_method_1_code 40 = .ok (.iconst 0, 1) := by decide +kernel
theorem d_E_init_41 : decode prog_2_method_1_code 41 = .ok (.putfield 28, 3) := by decide +kernel
theorem d_E_init_44 : decode prog_2_method_1_code 44 = .ok (.aload_n 0, 1) := by decide +kernel
theorem d_E_init_45 : decode prog_2_method_1_code 45 = .ok (.iconst 0, 1) := by decide +kernel
theorem d_E_init_46 : decode prog_2_method_1_code 46 = .ok (.putfield 31, 3) := by decide +kernel
theorem d_E_init_49 : decode prog_2_method_1_code 49 = .ok (.aload_n 0, 1) := by decide +kernel
theorem d_E_init_50 : decode prog_2_method_1_code 50 = .ok (.iconst 0, 1) := by decide +kernel
theorem d_E_init_51 : decode prog_2_method_1_code 51 = .ok (.putfield 34, 3) := by decide +kernel
theorem d_E_init_54 : decode prog_2_method_1_code 54 = .ok (.aload_n 0, 1) := by decide +kernel
theorem d_E_init_55 : decode prog_2_method_1_code 55 = .ok (.iconst 0, 1) := by decide +kernel
theorem d_E_init_56 : decode prog_2_method_1_code 56 = .ok (.putfield 37, 3) := by decide +kernel
theorem d_E_init_59 : decode prog_2_method_1_code 59 = .ok (.aload_n 0, 1) := by decide +kernel
theorem d_E_init_60 : decode prog_2_method_1_code 60 = .ok (.iconst 0, 1) := by decide +kernel
theorem d_E_init_61 : decode prog_2_method_1_code 61 = .ok (.putfield 41, 3) := by decide +kernel
theorem d_E_init_64 : decode prog_2_method_1_code 64 = .ok (.aload_n 0, 1) := by decide +kernel
theorem d_E_init_65 : decode prog_2_method_1_code 65 = .ok (.iconst 0, 1) := by decide +kernel
theorem d_E_init_66 : decode prog_2_method_1_code 66 = .ok (.putfield 44, 3) := by decide +kernel
theorem d_E_init_69 : decode prog_2_method_1_code 69 = .ok (.aload_n 0, 1) := by decide +kernel
theorem d_E_init_70 : decode prog_2_method_1_code 70 = .ok (.iconst 0, 1) := by decide +kernel
theorem d_E_init_71 : decode prog_2_method_1_code 71 = .ok (.putfield 47, 3) := by decide +kernel
theorem d_E_init_74 : decode prog_2_method_1_code 74 = .ok (.aload_n 0, 1) := by decide +kernel
theorem d_E_init_75 : decode prog_2_method_1_code 75 = .ok (.sipush (-1000), 3) := by decide +kernel
theorem d_E_init_78 : decode prog_2_method_1_code 78 = .ok (.putfield 50, 3) := by decide +kernel
theorem d_E_init_81 : decode prog_2_method_1_code 81 = .ok (.aload_n 0, 1) := by decide +kernel
theorem d_E_init_82 : decode prog_2_method_1_code 82 = .ok (.iconst 0, 1) := by decide +kernel
theorem d_E_init_83 : decode prog_2_method_1_code 83 = .ok (.putfield 53, 3) := by decide +kernel
theorem d_E_init_86 : decode prog_2_method_1_code 86 = .ok (.aload_n 0, 1) := by decide +kernel
theorem d_E_init_87 : decode prog_2_method_1_code 87 = .ok (.iconst (-1), 1) := by decide +kernel
theorem d_E_init_88 : decode prog_2_method_1_code 88 = .ok (.putfield 56, 3) := by decide +kernel
theorem d_E_init_91 : decode prog_2_method_1_code 91 = .ok (.aload_n 0, 1) := by decide +kernel
theorem d_E_init_92 : decode prog_2_method_1_code 92 = .ok (.iconst 0, 1) := by decide +kernel
theorem d_E_init_93 : decode prog_2_method_1_code 93 = .ok (.putfield 59, 3) := by decide +kernel
theorem d_E_init_96 : decode prog_2_method_1_code 96 = .ok (.return_, 1) := by decide +kernel
def b_E_init_0 (X0 : Mm) (post : Option Value → Mm → Prop) : Kk := (i_aload 0 (i_obj (i_aload 0 (i_push (.int 600) (i_newa 10 X0 3 1205 (i_putR 0 0 (i_aload 0 (i_push (.int 600) (i_newa 10 X0 3 1205 (i_putR 0 1 (i_aload 0 (i_push (.int 5) (i_newa 10 X0 3 1205 (i_putR 0 2 (i_aload 0 (i_push (.int 0) (i_putI 0 3 (i_aload 0 (i_push (.int 0) (i_putI 0 4 (i_aload 0 (i_push (.int 0) (i_putI 0 5 (i_aload 0 (i_push (.int 0) (i_putI 0 6 (i_aload 0 (i_push (.int 0) (i_putI 0 7 (i_aload 0 (i_push (.int 0) (i_putZ 0 8 (i_aload 0 (i_push (.int 0) (i_putI 0 9 (i_aload 0 (i_push (.int 0) (i_putI 0 10 (i_aload 0 (i_push (.int 0) (i_putI 0 11 (i_aload 0 (i_push (.int (-1000)) (i_putI 0 12 (i_aload 0 (i_push (.int 0) (i_putZ 0 13 (i_aload 0 (i_push (.int (-1)) (i_putI 0 14 (i_aload 0 (i_push (.int 0) (i_putZ 0 15 (i_vret (bp post (xc X0 + 3) (xs X0 + 1205))))))))))))))))))))))))))))))))))))))))))))))))))))))))
theorem t_E_init_0 {Z : Zt} {X0 : Mm} {post : Option Value → Mm → Prop} (g : Good Z prog_2_method_1_code 1 "BusTelegrams$Ear" 1) (hq : RetZ Z false X0 3 1205 post) (hr : (zM Z).sig.returnType = none) (hnm : (zM Z).name = "<init>") (hao : AO2 (zs Z)) : Snd Z 1 0 (b_E_init_0 X0 post) := by
  unfold b_E_init_0
  exact (s_aload_n g d_E_init_0 rfl (s_obj g (by decide) mw_28 mw_19 mw_20 d_E_init_1 (s_aload_n g d_E_init_4 rfl (s_push_sipush g d_E_init_5 (by decide) (s_newa10 g hq.N mw_81 d_E_init_8 (s_putR g hnm (c := 0) (j := 0) cok_0 (by decide) rfl rfl rfl mw_29 rfl rfl (fun _ => ⟨rfl, rfl⟩) d_E_init_10 (s_aload_n g d_E_init_13 rfl (s_push_sipush g d_E_init_14 (by decide) (s_newa10 g hq.N mw_81 d_E_init_17 (s_putR g hnm (c := 0) (j := 1) cok_0 (by decide) rfl rfl rfl mw_30 rfl rfl (fun _ => ⟨rfl, rfl⟩) d_E_init_19 (s_aload_n g d_E_init_22 rfl (s_push_iconst g d_E_init_23 (by decide) (s_newa10 g hq.N mw_81 d_E_init_24 (s_putR g hnm (c := 0) (j := 2) cok_0 (by decide) rfl rfl rfl mw_31 rfl rfl (fun _ => ⟨rfl, rfl⟩) d_E_init_26 (s_aload_n g d_E_init_29 rfl (s_push_iconst g d_E_init_30 (by decide) (s_putI g (c := 0) (j := 3) cok_0 (by decide) rfl rfl rfl mw_32 rfl d_E_init_31 (s_aload_n g d_E_init_34 rfl (s_push_iconst g d_E_init_35 (by decide) (s_putI g (c := 0) (j := 4) cok_0 (by decide) rfl rfl rfl mw_33 rfl d_E_init_36 (s_aload_n g d_E_init_39 rfl (s_push_iconst g d_E_init_40 (by decide) (s_putI g (c := 0) (j := 5) cok_0 (by decide) rfl rfl rfl mw_34 rfl d_E_init_41 (s_aload_n g d_E_init_44 rfl (s_push_iconst g d_E_init_45 (by decide) (s_putI g (c := 0) (j := 6) cok_0 (by decide) rfl rfl rfl mw_35 rfl d_E_init_46 (s_aload_n g d_E_init_49 rfl (s_push_iconst g d_E_init_50 (by decide) (s_putI g (c := 0) (j := 7) cok_0 (by decide) rfl rfl rfl mw_36 rfl d_E_init_51 (s_aload_n g d_E_init_54 rfl (s_push_iconst g d_E_init_55 (by decide) (s_putZ g (c := 0) (j := 8) cok_0 (by decide) rfl rfl rfl mw_37 rfl d_E_init_56 (s_aload_n g d_E_init_59 rfl (s_push_iconst g d_E_init_60 (by decide) (s_putI g (c := 0) (j := 9) cok_0 (by decide) rfl rfl rfl mw_38 rfl d_E_init_61 (s_aload_n g d_E_init_64 rfl (s_push_iconst g d_E_init_65 (by decide) (s_putI g (c := 0) (j := 10) cok_0 (by decide) rfl rfl rfl mw_39 rfl d_E_init_66 (s_aload_n g d_E_init_69 rfl (s_push_iconst g d_E_init_70 (by decide) (s_putI g (c := 0) (j := 11) cok_0 (by decide) rfl rfl rfl mw_40 rfl d_E_init_71 (s_aload_n g d_E_init_74 rfl (s_push_sipush g d_E_init_75 (by decide) (s_putI g (c := 0) (j := 12) cok_0 (by decide) rfl rfl rfl mw_42 rfl d_E_init_78 (s_aload_n g d_E_init_81 rfl (s_push_iconst g d_E_init_82 (by decide) (s_putZ g (c := 0) (j := 13) cok_0 (by decide) rfl rfl rfl mw_43 rfl d_E_init_83 (s_aload_n g d_E_init_86 rfl (s_push_iconst g d_E_init_87 (by decide) (s_putI g (c := 0) (j := 14) cok_0 (by decide) rfl rfl rfl mw_45 rfl d_E_init_88 (s_aload_n g d_E_init_91 rfl (s_push_iconst g d_E_init_92 (by decide) (s_putZ g (c := 0) (j := 15) cok_0 (by decide) rfl rfl rfl mw_47 rfl d_E_init_93 (s_vret g hq hr d_E_init_96))))))))))))))))))))))))))))))))))))))))))))))))))))))
def w_E_init : Wp := wpOf 1 (fun X0 post => b_E_init_0 X0 post)
theorem C_E_init (l : Launch) : MetN l ({ cls := "BusTelegrams$Ear", name := "<init>", desc := "()V" } : Jvm.MethodName) prog_2_method_1_code 1 1 3 1205 w_E_init := metN_of (by decide +kernel) (fun Z X0 post hZ g hq hr hnm hao => t_E_init_0 g hq hr hnm hao)
theorem hd_E_init : (({ cls := "BusTelegrams$Ear", name := "<init>", desc := "()V" } : Jvm.MethodName)).cls ≠ "java/lang/invoke/MethodHandle" ∧ (({ cls := "BusTelegrams$Ear", name := "<init>", desc := "()V" } : Jvm.MethodName)).cls ≠ "java/lang/invoke/VarHandle" ∧ (parseMethodDescriptor (({ cls := "BusTelegrams$Ear", name := "<init>", desc := "()V" } : Jvm.MethodName)).desc).map (fun d => d.parameters.length) = some 0 := ⟨by decide, by decide, by decide +kernel⟩
theorem d_B_init_0 : decode prog_1_method_1_code 0 = .ok (.aload_n 0, 1) := by decide +kernel
theorem d_B_init_1 : decode prog_1_method_1_code 1 = .ok (.invokespecial 3, 3) := by decide +kernel
theorem d_B_init_4 : decode prog_1_method_1_code 4 = .ok (.aload_n 0, 1) := by decide +kernel
theorem d_B_init_5 : decode prog_1_method_1_code 5 = .ok (.bipush 8, 2) := by decide +kernel
theorem d_B_init_7 : decode prog_1_method_1_code 7 = .ok (.anewarray 9, 3) := by decide +kernel
theorem d_B_init_10 : decode prog_1_method_1_code 10 = .ok (.putfield 11, 3) := by decide +kernel
theorem d_B_init_13 : decode prog_1_method_1_code 13 = .ok (.aload_n 0, 1) := by decide +kernel
theorem d_B_init_14 : decode prog_1_method_1_code 14 = .ok (.new 15, 3) := by decide +kernel
theorem d_B_init_17 : decode prog_1_method_1_code 17 = .ok (.dup, 1) := by decide +kernel
theorem d_B_init_18 : decode prog_1_method_1_code 18 = .ok (.invokespecial 17, 3) := by decide +kernel
theorem d_B_init_21 : decode prog_1_method_1_code 21 = .ok (.putfield 18, 3) := by decide +kernel
theorem d_B_init_24 : decode prog_1_method_1_code 24 = .ok (.aload_n 0, 1) := by decide +kernel
theorem d_B_init_25 : decode prog_1_method_1_code 25 = .ok (.sipush 2048, 3) := by decide +kernel
theorem d_B_init_28 : decode prog_1_method_1_code 28 = .ok (.newarray .boolean, 2) := by decide +kernel
theorem d_B_init_30 : decode prog_1_method_1_code 30 = .ok (.putfield 22, 3) := by decide +kernel
theorem d_B_init_33 : decode prog_1_method_1_code 33 = .ok (.aload_n 0, 1) := by decide +kernel
theorem d_B_init_34 : decode prog_1_method_1_code 34 = .ok (.iconst 0, 1) := by decide +kernel
theorem d_B_init_35 : decode prog_1_method_1_code 35 = .ok (.putfield 26, 3) := by decide +kernel
theorem d_B_init_38 : decode prog_1_method_1_code 38 = .ok (.aload_n 0, 1) := by decide +kernel
theorem d_B_init_39 : decode prog_1_method_1_code 39 = .ok (.bipush 64, 2) := by decide +kernel
theorem d_B_init_41 : decode prog_1_method_1_code 41 = .ok (.newarray .int, 2) := by decide +kernel
theorem d_B_init_43 : decode prog_1_method_1_code 43 = .ok (.putfield 30, 3) := by decide +kernel
theorem d_B_init_46 : decode prog_1_method_1_code 46 = .ok (.aload_n 0, 1) := by decide +kernel
theorem d_B_init_47 : decode prog_1_method_1_code 47 = .ok (.iconst 0, 1) := by decide +kernel
theorem d_B_init_48 : decode prog_1_method_1_code 48 = .ok (.putfield 34, 3) := by decide +kernel
theorem d_B_init_51 : decode prog_1_method_1_code 51 = .ok (.aload_n 0, 1) := by decide +kernel
theorem d_B_init_52 : decode prog_1_method_1_code 52 = .ok (.bipush 53, 2) := by decide +kernel
theorem d_B_init_54 : decode prog_1_method_1_code 54 = .ok (.putfield 37, 3) := by decide +kernel
theorem d_B_init_57 : decode prog_1_method_1_code 57 = .ok (.iconst 0, 1) := by decide +kernel
theorem d_B_init_58 : decode prog_1_method_1_code 58 = .ok (.istore_n 1, 1) := by decide +kernel
theorem d_B_init_59 : decode prog_1_method_1_code 59 = .ok (.iload_n 1, 1) := by decide +kernel
theorem d_B_init_60 : decode prog_1_method_1_code 60 = .ok (.bipush 8, 2) := by decide +kernel
theorem d_B_init_62 : decode prog_1_method_1_code 62 = .ok (.if_icmp .ge 23, 3) := by decide +kernel
theorem d_B_init_65 : decode prog_1_method_1_code 65 = .ok (.aload_n 0, 1) := by decide +kernel
theorem d_B_init_66 : decode prog_1_method_1_code 66 = .ok (.getfield 11, 3) := by decide +kernel
theorem d_B_init_69 : decode prog_1_method_1_code 69 = .ok (.iload_n 1, 1) := by decide +kernel
theorem d_B_init_70 : decode prog_1_method_1_code 70 = .ok (.new 9, 3) := by decide +kernel
theorem d_B_init_73 : decode prog_1_method_1_code 73 = .ok (.dup, 1) := by decide +kernel
theorem d_B_init_74 : decode prog_1_method_1_code 74 = .ok (.iload_n 1, 1) := by decide +kernel
theorem d_B_init_75 : decode prog_1_method_1_code 75 = .ok (.invokespecial 40, 3) := by decide +kernel
theorem d_B_init_78 : decode prog_1_method_1_code 78 = .ok (.aastore, 1) := by decide +kernel
theorem d_B_init_79 : decode prog_1_method_1_code 79 = .ok (.iinc 1 1, 3) := by decide +kernel
theorem d_B_init_82 : decode prog_1_method_1_code 82 = .ok (.goto (-23), 3) := by decide +kernel
theorem d_B_init_85 : decode prog_1_method_1_code 85 = .ok (.return_, 1) := by decide +kernel
def f_B_init_59 (X0 : Mm) (post : Option Value → Mm → Prop) (k59 : Kk) : Kk := (i_iload 1 (i_push (.int 8) (i_icmp (fun x y => y ≤ x) (i_vret (bp post (xc X0 + 127) (xs X0 + 6757))) (i_aload 0 (i_getR 3 0 (i_iload 1 (i_new 1 X0 127 6757 (i_dup (i_iload 1 (i_callI 1 X0 127 6757 14 412 w_S_init (i_aast 12 1 (i_iinc 1 1 k59))))))))))))
def b_B_init_59 (X0 : Mm) (post : Option Value → Mm → Prop) : Kk := i_loop [0, 1] (f_B_init_59 X0 post)
theorem t_B_init_59 {Z : Zt} {X0 : Mm} {post : Option Value → Mm → Prop} (g : Good Z prog_1_method_1_code 2 "BusTelegrams" 3) (hq : RetZ Z false X0 127 6757 post) (hr : (zM Z).sig.returnType = none) (hnm : (zM Z).name = "<init>") (hao : AO2 (zs Z)) : Snd Z 2 59 (b_B_init_59 X0 post) := by
  unfold b_B_init_59
  exact s_loop (fun k59 hk59 => by unfold f_B_init_59; exact (s_iload_n g d_B_init_59 rfl (s_push_bipush g d_B_init_60 (by decide) (s_icmp_ge g d_B_init_62 (by decide) (s_vret g hq hr d_B_init_85) (s_aload_n g d_B_init_65 rfl (s_getR g (c := 3) (j := 0) cok_3 (by decide) rfl mw_159 rfl d_B_init_66 (s_iload_n g d_B_init_69 rfl (s_new g hq.N cok_1 df_1 mw_21 mw_82 mw_3 d_B_init_70 (s_dup g d_B_init_73 (s_iload_n g d_B_init_74 rfl (s_callI g hq.N hao (C_S_init (zl Z)) mw_83 mw_84 mw_3 mw_85 hd_S_init rfl (by decide) (by decide) d_B_init_75 (s_aast12 g d_B_init_78 (s_iinc g (by decide) d_B_init_79 (by decide) (s_goto g d_B_init_82 (by decide) hk59))))))))))))))
def b_B_init_0 (X0 : Mm) (post : Option Value → Mm → Prop) : Kk := (i_aload 0 (i_obj (i_aload 0 (i_push (.int 8) (i_newq 12 X0 127 6757 (i_putR 3 0 (i_aload 0 (i_new 0 X0 127 6757 (i_dup (i_callI 0 X0 127 6757 3 1205 w_E_init (i_putR 3 1 (i_aload 0 (i_push (.int 2048) (i_newa 11 X0 127 6757 (i_putR 3 2 (i_aload 0 (i_push (.int 0) (i_putI 3 3 (i_aload 0 (i_push (.int 64) (i_newa 10 X0 127 6757 (i_putR 3 4 (i_aload 0 (i_push (.int 0) (i_putI 3 5 (i_aload 0 (i_push (.int 53) (i_putI 3 6 (i_push (.int 0) (i_istore 1 (b_B_init_59 X0 post)))))))))))))))))))))))))))))))
theorem t_B_init_0 {Z : Zt} {X0 : Mm} {post : Option Value → Mm → Prop} (g : Good Z prog_1_method_1_code 2 "BusTelegrams" 3) (hq : RetZ Z false X0 127 6757 post) (hr : (zM Z).sig.returnType = none) (hnm : (zM Z).name = "<init>") (hao : AO2 (zs Z)) : Snd Z 2 0 (b_B_init_0 X0 post) := by
  unfold b_B_init_0
  exact (s_aload_n g d_B_init_0 rfl (s_obj g (by decide) mw_18 mw_19 mw_20 d_B_init_1 (s_aload_n g d_B_init_4 rfl (s_push_bipush g d_B_init_5 (by decide) (s_newq12 g hq.N mw_21 hao.1 d_B_init_7 (s_putR g hnm (c := 3) (j := 0) cok_3 (by decide) rfl rfl rfl mw_159 rfl rfl (fun _ => ⟨rfl, rfl⟩) d_B_init_10 (s_aload_n g d_B_init_13 rfl (s_new g hq.N cok_0 df_0 mw_23 mw_24 mw_2 d_B_init_14 (s_dup g d_B_init_17 (s_callIN g hq.N hao (C_E_init (zl Z)) mn_25 mw_26 mw_2 mw_27 hd_E_init rfl (by decide) (by decide) d_B_init_18 (s_putR g hnm (c := 3) (j := 1) cok_3 (by decide) rfl rfl rfl mw_160 rfl rfl (fun _ => ⟨rfl, rfl⟩) d_B_init_21 (s_aload_n g d_B_init_24 rfl (s_push_sipush g d_B_init_25 (by decide) (s_newa11 g hq.N mw_108 d_B_init_28 (s_putR g hnm (c := 3) (j := 2) cok_3 (by decide) rfl rfl rfl mw_161 rfl rfl (fun _ => ⟨rfl, rfl⟩) d_B_init_30 (s_aload_n g d_B_init_33 rfl (s_push_iconst g d_B_init_34 (by decide) (s_putI g (c := 3) (j := 3) cok_3 (by decide) rfl rfl rfl mw_162 rfl d_B_init_35 (s_aload_n g d_B_init_38 rfl (s_push_bipush g d_B_init_39 (by decide) (s_newa10 g hq.N mw_81 d_B_init_41 (s_putR g hnm (c := 3) (j := 4) cok_3 (by decide) rfl rfl rfl mw_163 rfl rfl (fun _ => ⟨rfl, rfl⟩) d_B_init_43 (s_aload_n g d_B_init_46 rfl (s_push_iconst g d_B_init_47 (by decide) (s_putI g (c := 3) (j := 5) cok_3 (by decide) rfl rfl rfl mw_164 rfl d_B_init_48 (s_aload_n g d_B_init_51 rfl (s_push_bipush g d_B_init_52 (by decide) (s_putI g (c := 3) (j := 6) cok_3 (by decide) rfl rfl rfl mw_165 rfl d_B_init_54 (s_push_iconst g d_B_init_57 (by decide) (s_istore_n g (by decide) d_B_init_58 rfl (t_B_init_59 g hq hr hnm hao)))))))))))))))))))))))))))))))
def w_B_init : Wp := wpOf 2 (fun X0 post => b_B_init_0 X0 post)
theorem C_B_init (l : Launch) : MetN l ({ cls := "BusTelegrams", name := "<init>", desc := "()V" } : Jvm.MethodName) prog_1_method_1_code 2 3 127 6757 w_B_init := metN_of (by decide +kernel) (fun Z X0 post hZ g hq hr hnm hao => t_B_init_0 g hq hr hnm hao)
theorem hd_B_init : (({ cls := "BusTelegrams", name := "<init>", desc := "()V" } : Jvm.MethodName)).cls ≠ "java/lang/invoke/MethodHandle" ∧ (({ cls := "BusTelegrams", name := "<init>", desc := "()V" } : Jvm.MethodName)).cls ≠ "java/lang/invoke/VarHandle" ∧ (parseMethodDescriptor (({ cls := "BusTelegrams", name := "<init>", desc := "()V" } : Jvm.MethodName)).desc).map (fun d => d.parameters.length) = some 0 := ⟨by decide, by decide, by decide +kernel⟩
theorem d_M_init_0 : decode prog_6_method_1_code 0 = .ok (.aload_n 0, 1) := by decide +kernel
theorem d_M_init_1 : decode prog_6_method_1_code 1 = .ok (.invokespecial 1, 3) := by decide +kernel
theorem d_M_init_4 : decode prog_6_method_1_code 4 = .ok (.aload_n 0, 1) := by decide +kernel
theorem d_M_init_5 : decode prog_6_method_1_code 5 = .ok (.ldc 7, 2) := by decide +kernel
theorem d_M_init_7 : decode prog_6_method_1_code 7 = .ok (.putfield 8, 3) := by decide +kernel
theorem d_M_init_10 : decode prog_6_method_1_code 10 = .ok (.aload_n 0, 1) := by decide +kernel
theorem d_M_init_11 : decode prog_6_method_1_code 11 = .ok (.bipush 8, 2) := by decide +kernel
theorem d_M_init_13 : decode prog_6_method_1_code 13 = .ok (.newarray .int, 2) := by decide +kernel
theorem d_M_init_15 : decode prog_6_method_1_code 15 = .ok (.dup, 1) := by decide +kernel
theorem d_M_init_16 : decode prog_6_method_1_code 16 = .ok (.iconst 0, 1) := by decide +kernel
theorem d_M_init_17 : decode prog_6_method_1_code 17 = .ok (.iconst 0, 1) := by decide +kernel
theorem d_M_init_18 : decode prog_6_method_1_code 18 = .ok (.iastore, 1) := by decide +kernel
theorem d_M_init_19 : decode prog_6_method_1_code 19 = .ok (.dup, 1) := by decide +kernel
theorem d_M_init_20 : decode prog_6_method_1_code 20 = .ok (.iconst 1, 1) := by decide +kernel
theorem d_M_init_21 : decode prog_6_method_1_code 21 = .ok (.iconst 1, 1) := by decide +kernel
theorem d_M_init_22 : decode prog_6_method_1_code 22 = .ok (.iastore, 1) := by decide +kernel
theorem d_M_init_23 : decode prog_6_method_1_code 23 = .ok (.dup, 1) := by decide +kernel
theorem d_M_init_24 : decode prog_6_method_1_code 24 = .ok (.iconst 2, 1) := by decide +kernel
theorem d_M_init_25 : decode prog_6_method_1_code 25 = .ok (.iconst 2, 1) := by decide +kernel
theorem d_M_init_26 : decode prog_6_method_1_code 26 = .ok (.iastore, 1) := by decide +kernel
theorem d_M_init_27 : decode prog_6_method_1_code 27 = .ok (.dup, 1) := by decide +kernel
theorem d_M_init_28 : decode prog_6_method_1_code 28 = .ok (.iconst 3, 1) := by decide +kernel
theorem d_M_init_29 : decode prog_6_method_1_code 29 = .ok (.iconst 3, 1) := by decide +kernel
theorem d_M_init_30 : decode prog_6_method_1_code 30 = .ok (.iastore, 1) := by decide +kernel
theorem d_M_init_31 : decode prog_6_method_1_code 31 = .ok (.dup, 1) := by decide +kernel
theorem d_M_init_32 : decode prog_6_method_1_code 32 = .ok (.iconst 4, 1) := by decide +kernel
theorem d_M_init_33 : decode prog_6_method_1_code 33 = .ok (.iconst 4, 1) := by decide +kernel
theorem d_M_init_34 : decode prog_6_method_1_code 34 = .ok (.iastore, 1) := by decide +kernel
theorem d_M_init_35 : decode prog_6_method_1_code 35 = .ok (.dup, 1) := by decide +kernel
theorem d_M_init_36 : decode prog_6_method_1_code 36 = .ok (.iconst 5, 1) := by decide +kernel
theorem d_M_init_37 : decode prog_6_method_1_code 37 = .ok (.iconst 5, 1) := by decide +kernel
theorem d_M_init_38 : decode prog_6_method_1_code 38 = .ok (.iastore, 1) := by decide +kernel
theorem d_M_init_39 : decode prog_6_method_1_code 39 = .ok (.dup, 1) := by decide +kernel
theorem d_M_init_40 : decode prog_6_method_1_code 40 = .ok (.bipush 6, 2) := by decide +kernel
theorem d_M_init_42 : decode prog_6_method_1_code 42 = .ok (.bipush 6, 2) := by decide +kernel
theorem d_M_init_44 : decode prog_6_method_1_code 44 = .ok (.iastore, 1) := by decide +kernel
theorem d_M_init_45 : decode prog_6_method_1_code 45 = .ok (.dup, 1) := by decide +kernel
theorem d_M_init_46 : decode prog_6_method_1_code 46 = .ok (.bipush 7, 2) := by decide +kernel
theorem d_M_init_48 : decode prog_6_method_1_code 48 = .ok (.bipush 7, 2) := by decide +kernel
theorem d_M_init_50 : decode prog_6_method_1_code 50 = .ok (.iastore, 1) := by decide +kernel
theorem d_M_init_51 : decode prog_6_method_1_code 51 = .ok (.putfield 14, 3) := by decide +kernel
theorem d_M_init_54 : decode prog_6_method_1_code 54 = .ok (.aload_n 0, 1) := by decide +kernel
theorem d_M_init_55 : decode prog_6_method_1_code 55 = .ok (.sipush 2048, 3) := by decide +kernel
theorem d_M_init_58 : decode prog_6_method_1_code 58 = .ok (.newarray .boolean, 2) := by decide +kernel
theorem d_M_init_60 : decode prog_6_method_1_code 60 = .ok (.putfield 18, 3) := by decide +kernel
theorem d_M_init_63 : decode prog_6_method_1_code 63 = .ok (.aload_n 0, 1) := by decide +kernel
theorem d_M_init_64 : decode prog_6_method_1_code 64 = .ok (.bipush 8, 2) := by decide +kernel
theorem d_M_init_66 : decode prog_6_method_1_code 66 = .ok (.newarray .boolean, 2) := by decide +kernel
theorem d_M_init_68 : decode prog_6_method_1_code 68 = .ok (.putfield 22, 3) := by decide +kernel
theorem d_M_init_71 : decode prog_6_method_1_code 71 = .ok (.aload_n 0, 1) := by decide +kernel
theorem d_M_init_72 : decode prog_6_method_1_code 72 = .ok (.bipush 8, 2) := by decide +kernel
theorem d_M_init_74 : decode prog_6_method_1_code 74 = .ok (.newarray .int, 2) := by decide +kernel
theorem d_M_init_76 : decode prog_6_method_1_code 76 = .ok (.putfield 25, 3) := by decide +kernel
theorem d_M_init_79 : decode prog_6_method_1_code 79 = .ok (.aload_n 0, 1) := by decide +kernel
theorem d_M_init_80 : decode prog_6_method_1_code 80 = .ok (.sipush 288, 3) := by decide +kernel
theorem d_M_init_83 : decode prog_6_method_1_code 83 = .ok (.newarray .int, 2) := by decide +kernel
theorem d_M_init_85 : decode prog_6_method_1_code 85 = .ok (.putfield 28, 3) := by decide +kernel
theorem d_M_init_88 : decode prog_6_method_1_code 88 = .ok (.aload_n 0, 1) := by decide +kernel
theorem d_M_init_89 : decode prog_6_method_1_code 89 = .ok (.bipush 8, 2) := by decide +kernel
theorem d_M_init_91 : decode prog_6_method_1_code 91 = .ok (.newarray .int, 2) := by decide +kernel
theorem d_M_init_93 : decode prog_6_method_1_code 93 = .ok (.dup, 1) := by decide +kernel
theorem d_M_init_94 : decode prog_6_method_1_code 94 = .ok (.iconst 0, 1) := by decide +kernel
theorem d_M_init_95 : decode prog_6_method_1_code 95 = .ok (.iconst (-1), 1) := by decide +kernel
theorem d_M_init_96 : decode prog_6_method_1_code 96 = .ok (.iastore, 1) := by decide +kernel
theorem d_M_init_97 : decode prog_6_method_1_code 97 = .ok (.dup, 1) := by decide +kernel
theorem d_M_init_98 : decode prog_6_method_1_code 98 = .ok (.iconst 1, 1) := by decide +kernel
theorem d_M_init_99 : decode prog_6_method_1_code 99 = .ok (.iconst (-1), 1) := by decide +kernel
theorem d_M_init_100 : decode prog_6_method_1_code 100 = .ok (.iastore, 1) := by decide +kernel
theorem d_M_init_101 : decode prog_6_method_1_code 101 = .ok (.dup, 1) := by decide +kernel
theorem d_M_init_102 : decode prog_6_method_1_code 102 = .ok (.iconst 2, 1) := by decide +kernel
theorem d_M_init_103 : decode prog_6_method_1_code 103 = .ok (.iconst (-1), 1) := by decide +kernel
theorem d_M_init_104 : decode prog_6_method_1_code 104 = .ok (.iastore, 1) := by decide +kernel
theorem d_M_init_105 : decode prog_6_method_1_code 105 = .ok (.dup, 1) := by decide +kernel
theorem d_M_init_106 : decode prog_6_method_1_code 106 = .ok (.iconst 3, 1) := by decide +kernel
theorem d_M_init_107 : decode prog_6_method_1_code 107 = .ok (.iconst (-1), 1) := by decide +kernel
theorem d_M_init_108 : decode prog_6_method_1_code 108 = .ok (.iastore, 1) := by decide +kernel
theorem d_M_init_109 : decode prog_6_method_1_code 109 = .ok (.dup, 1) := by decide +kernel
theorem d_M_init_110 : decode prog_6_method_1_code 110 = .ok (.iconst 4, 1) := by decide +kernel
theorem d_M_init_111 : decode prog_6_method_1_code 111 = .ok (.iconst (-1), 1) := by decide +kernel
theorem d_M_init_112 : decode prog_6_method_1_code 112 = .ok (.iastore, 1) := by decide +kernel
theorem d_M_init_113 : decode prog_6_method_1_code 113 = .ok (.dup, 1) := by decide +kernel
theorem d_M_init_114 : decode prog_6_method_1_code 114 = .ok (.iconst 5, 1) := by decide +kernel
theorem d_M_init_115 : decode prog_6_method_1_code 115 = .ok (.iconst (-1), 1) := by decide +kernel
theorem d_M_init_116 : decode prog_6_method_1_code 116 = .ok (.iastore, 1) := by decide +kernel
theorem d_M_init_117 : decode prog_6_method_1_code 117 = .ok (.dup, 1) := by decide +kernel
theorem d_M_init_118 : decode prog_6_method_1_code 118 = .ok (.bipush 6, 2) := by decide +kernel
theorem d_M_init_120 : decode prog_6_method_1_code 120 = .ok (.iconst (-1), 1) := by decide +kernel
theorem d_M_init_121 : decode prog_6_method_1_code 121 = .ok (.iastore, 1) := by decide +kernel
theorem d_M_init_122 : decode prog_6_method_1_code 122 = .ok (.dup, 1) := by decide +kernel
theorem d_M_init_123 : decode prog_6_method_1_code 123 = .ok (.bipush 7, 2) := by decide +kernel
theorem d_M_init_125 : decode prog_6_method_1_code 125 = .ok (.iconst (-1), 1) := by decide +kernel
theorem d_M_init_126 : decode prog_6_method_1_code 126 = .ok (.iastore, 1) := by decide +kernel
theorem d_M_init_127 : decode prog_6_method_1_code 127 = .ok (.putfield 31, 3) := by decide +kernel
theorem d_M_init_130 : decode prog_6_method_1_code 130 = .ok (.aload_n 0, 1) := by decide +kernel
theorem d_M_init_131 : decode prog_6_method_1_code 131 = .ok (.bipush 8, 2) := by decide +kernel
theorem d_M_init_133 : decode prog_6_method_1_code 133 = .ok (.newarray .int, 2) := by decide +kernel
theorem d_M_init_135 : decode prog_6_method_1_code 135 = .ok (.dup, 1) := by decide +kernel
theorem d_M_init_136 : decode prog_6_method_1_code 136 = .ok (.iconst 0, 1) := by decide +kernel
theorem d_M_init_137 : decode prog_6_method_1_code 137 = .ok (.iconst (-1), 1) := by decide +kernel
theorem d_M_init_138 : decode prog_6_method_1_code 138 = .ok (.iastore, 1) := by decide +kernel
theorem d_M_init_139 : decode prog_6_method_1_code 139 = .ok (.dup, 1) := by decide +kernel
theorem d_M_init_140 : decode prog_6_method_1_code 140 = .ok (.iconst 1, 1) := by decide +kernel
theorem d_M_init_141 : decode prog_6_method_1_code 141 = .ok (.iconst (-1), 1) := by decide +kernel
theorem d_M_init_142 : decode prog_6_method_1_code 142 = .ok (.iastore, 1) := by decide +kernel
theorem d_M_init_143 : decode prog_6_method_1_code 143 = .ok (.dup, 1) := by decide +kernel
theorem d_M_init_144 : decode prog_6_method_1_code 144 = .ok (.iconst 2, 1) := by decide +kernel
theorem d_M_init_145 : decode prog_6_method_1_code 145 = .ok (.iconst (-1), 1) := by decide +kernel
theorem d_M_init_146 : decode prog_6_method_1_code 146 = .ok (.iastore, 1) := by decide +kernel
theorem d_M_init_147 : decode prog_6_method_1_code 147 = .ok (.dup, 1) := by decide +kernel
theorem d_M_init_148 : decode prog_6_method_1_code 148 = .ok (.iconst 3, 1) := by decide +kernel
theorem d_M_init_149 : decode prog_6_method_1_code 149 = .ok (.iconst (-1), 1) := by decide +kernel
theorem d_M_init_150 : decode prog_6_method_1_code 150 = .ok (.iastore, 1) := by decide +kernel
theorem d_M_init_151 : decode prog_6_method_1_code 151 = .ok (.dup, 1) := by decide +kernel
theorem d_M_init_152 : decode prog_6_method_1_code 152 = .ok (.iconst 4, 1) := by decide +kernel
theorem d_M_init_153 : decode prog_6_method_1_code 153 = .ok (.iconst (-1), 1) := by decide +kernel
theorem d_M_init_154 : decode prog_6_method_1_code 154 = .ok (.iastore, 1) := by decide +kernel
theorem d_M_init_155 : decode prog_6_method_1_code 155 = .ok (.dup, 1) := by decide +kernel
theorem d_M_init_156 : decode prog_6_method_1_code 156 = .ok (.iconst 5, 1) := by decide +kernel
theorem d_M_init_157 : decode prog_6_method_1_code 157 = .ok (.iconst (-1), 1) := by decide +kernel
theorem d_M_init_158 : decode prog_6_method_1_code 158 = .ok (.iastore, 1) := by decide +kernel
theorem d_M_init_159 : decode prog_6_method_1_code 159 = .ok (.dup, 1) := by decide +kernel
theorem d_M_init_160 : decode prog_6_method_1_code 160 = .ok (.bipush 6, 2) := by decide +kernel
theorem d_M_init_162 : decode prog_6_method_1_code 162 = .ok (.iconst (-1), 1) := by decide +kernel
theorem d_M_init_163 : decode prog_6_method_1_code 163 = .ok (.iastore, 1) := by decide +kernel
theorem d_M_init_164 : decode prog_6_method_1_code 164 = .ok (.dup, 1) := by decide +kernel
theorem d_M_init_165 : decode prog_6_method_1_code 165 = .ok (.bipush 7, 2) := by decide +kernel
theorem d_M_init_167 : decode prog_6_method_1_code 167 = .ok (.iconst (-1), 1) := by decide +kernel
theorem d_M_init_168 : decode prog_6_method_1_code 168 = .ok (.iastore, 1) := by decide +kernel
theorem d_M_init_169 : decode prog_6_method_1_code 169 = .ok (.putfield 34, 3) := by decide +kernel
theorem d_M_init_172 : decode prog_6_method_1_code 172 = .ok (.aload_n 0, 1) := by decide +kernel
theorem d_M_init_173 : decode prog_6_method_1_code 173 = .ok (.bipush 8, 2) := by decide +kernel
theorem d_M_init_175 : decode prog_6_method_1_code 175 = .ok (.newarray .int, 2) := by decide +kernel
theorem d_M_init_177 : decode prog_6_method_1_code 177 = .ok (.putfield 37, 3) := by decide +kernel
theorem d_M_init_180 : decode prog_6_method_1_code 180 = .ok (.aload_n 0, 1) := by decide +kernel
theorem d_M_init_181 : decode prog_6_method_1_code 181 = .ok (.bipush 8, 2) := by decide +kernel
theorem d_M_init_183 : decode prog_6_method_1_code 183 = .ok (.newarray .int, 2) := by decide +kernel
theorem d_M_init_185 : decode prog_6_method_1_code 185 = .ok (.dup, 1) := by decide +kernel
theorem d_M_init_186 : decode prog_6_method_1_code 186 = .ok (.iconst 0, 1) := by decide +kernel
theorem d_M_init_187 : decode prog_6_method_1_code 187 = .ok (.iconst (-1), 1) := by decide +kernel
theorem d_M_init_188 : decode prog_6_method_1_code 188 = .ok (.iastore, 1) := by decide +kernel
theorem d_M_init_189 : decode prog_6_method_1_code 189 = .ok (.dup, 1) := by decide +kernel
theorem d_M_init_190 : decode prog_6_method_1_code 190 = .ok (.iconst 1, 1) := by decide +kernel
theorem d_M_init_191 : decode prog_6_method_1_code 191 = .ok (.iconst (-1), 1) := by decide +kernel
theorem d_M_init_192 : decode prog_6_method_1_code 192 = .ok (.iastore, 1) := by decide +kernel
theorem d_M_init_193 : decode prog_6_method_1_code 193 = .ok (.dup, 1) := by decide +kernel
theorem d_M_init_194 : decode prog_6_method_1_code 194 = .ok (.iconst 2, 1) := by decide +kernel
theorem d_M_init_195 : decode prog_6_method_1_code 195 = .ok (.iconst (-1), 1) := by decide +kernel
theorem d_M_init_196 : decode prog_6_method_1_code 196 = .ok (.iastore, 1) := by decide +kernel
theorem d_M_init_197 : decode prog_6_method_1_code 197 = .ok (.dup, 1) := by decide +kernel
theorem d_M_init_198 : decode prog_6_method_1_code 198 = .ok (.iconst 3, 1) := by decide +kernel
theorem d_M_init_199 : decode prog_6_method_1_code 199 = .ok (.iconst (-1), 1) := by decide +kernel
theorem d_M_init_200 : decode prog_6_method_1_code 200 = .ok (.iastore, 1) := by decide +kernel
theorem d_M_init_201 : decode prog_6_method_1_code 201 = .ok (.dup, 1) := by decide +kernel
theorem d_M_init_202 : decode prog_6_method_1_code 202 = .ok (.iconst 4, 1) := by decide +kernel
theorem d_M_init_203 : decode prog_6_method_1_code 203 = .ok (.iconst (-1), 1) := by decide +kernel
theorem d_M_init_204 : decode prog_6_method_1_code 204 = .ok (.iastore, 1) := by decide +kernel
theorem d_M_init_205 : decode prog_6_method_1_code 205 = .ok (.dup, 1) := by decide +kernel
theorem d_M_init_206 : decode prog_6_method_1_code 206 = .ok (.iconst 5, 1) := by decide +kernel
theorem d_M_init_207 : decode prog_6_method_1_code 207 = .ok (.iconst (-1), 1) := by decide +kernel
theorem d_M_init_208 : decode prog_6_method_1_code 208 = .ok (.iastore, 1) := by decide +kernel
theorem d_M_init_209 : decode prog_6_method_1_code 209 = .ok (.dup, 1) := by decide +kernel
theorem d_M_init_210 : decode prog_6_method_1_code 210 = .ok (.bipush 6, 2) := by decide +kernel
theorem d_M_init_212 : decode prog_6_method_1_code 212 = .ok (.iconst (-1), 1) := by decide +kernel
theorem d_M_init_213 : decode prog_6_method_1_code 213 = .ok (.iastore, 1) := by decide +kernel
theorem d_M_init_214 : decode prog_6_method_1_code 214 = .ok (.dup, 1) := by decide +kernel
theorem d_M_init_215 : decode prog_6_method_1_code 215 = .ok (.bipush 7, 2) := by decide +kernel
theorem d_M_init_217 : decode prog_6_method_1_code 217 = .ok (.iconst (-1), 1) := by decide +kernel
theorem d_M_init_218 : decode prog_6_method_1_code 218 = .ok (.iastore, 1) := by decide +kernel
theorem d_M_init_219 : decode prog_6_method_1_code 219 = .ok (.putfield 40, 3) := by decide +kernel
theorem d_M_init_222 : decode prog_6_method_1_code 222 = .ok (.aload_n 0, 1) := by decide +kernel
theorem d_M_init_223 : decode prog_6_method_1_code 223 = .ok (.bipush 8, 2) := by decide +kernel
theorem d_M_init_225 : decode prog_6_method_1_code 225 = .ok (.newarray .int, 2) := by decide +kernel
theorem d_M_init_227 : decode prog_6_method_1_code 227 = .ok (.putfield 43, 3) := by decide +kernel
theorem d_M_init_230 : decode prog_6_method_1_code 230 = .ok (.aload_n 0, 1) := by decide +kernel
theorem d_M_init_231 : decode prog_6_method_1_code 231 = .ok (.bipush 8, 2) := by decide +kernel
theorem d_M_init_233 : decode prog_6_method_1_code 233 = .ok (.newarray .int, 2) := by decide +kernel
theorem d_M_init_235 : decode prog_6_method_1_code 235 = .ok (.putfield 46, 3) := by decide +kernel
theorem d_M_init_238 : decode prog_6_method_1_code 238 = .ok (.aload_n 0, 1) := by decide +kernel
theorem d_M_init_239 : decode prog_6_method_1_code 239 = .ok (.bipush 8, 2) := by decide +kernel
theorem d_M_init_241 : decode prog_6_method_1_code 241 = .ok (.newarray .int, 2) := by decide +kernel
theorem d_M_init_243 : decode prog_6_method_1_code 243 = .ok (.putfield 49, 3) := by decide +kernel
theorem d_M_init_246 : decode prog_6_method_1_code 246 = .ok (.aload_n 0, 1) := by decide +kernel
theorem d_M_init_247 : decode prog_6_method_1_code 247 = .ok (.sipush 2048, 3) := by decide +kernel
theorem d_M_init_250 : decode prog_6_method_1_code 250 = .ok (.newarray .boolean, 2) := by decide +kernel
theorem d_M_init_252 : decode prog_6_method_1_code 252 = .ok (.putfield 52, 3) := by decide +kernel
theorem d_M_init_255 : decode prog_6_method_1_code 255 = .ok (.aload_n 0, 1) := by decide +kernel
theorem d_M_init_256 : decode prog_6_method_1_code 256 = .ok (.bipush 64, 2) := by decide +kernel
theorem d_M_init_258 : decode prog_6_method_1_code 258 = .ok (.newarray .int, 2) := by decide +kernel
theorem d_M_init_260 : decode prog_6_method_1_code 260 = .ok (.putfield 55, 3) := by decide +kernel
theorem d_M_init_263 : decode prog_6_method_1_code 263 = .ok (.aload_n 0, 1) := by decide +kernel
theorem d_M_init_264 : decode prog_6_method_1_code 264 = .ok (.sipush 8000, 3) := by decide +kernel
theorem d_M_init_267 : decode prog_6_method_1_code 267 = .ok (.newarray .int, 2) := by decide +kernel
theorem d_M_init_269 : decode prog_6_method_1_code 269 = .ok (.putfield 58, 3) := by decide +kernel
theorem d_M_init_272 : decode prog_6_method_1_code 272 = .ok (.aload_n 0, 1) := by decide +kernel
theorem d_M_init_273 : decode prog_6_method_1_code 273 = .ok (.iconst 5, 1) := by decide +kernel
theorem d_M_init_274 : decode prog_6_method_1_code 274 = .ok (.newarray .int, 2) := by decide +kernel
theorem d_M_init_276 : decode prog_6_method_1_code 276 = .ok (.putfield 61, 3) := by decide +kernel
theorem d_M_init_279 : decode prog_6_method_1_code 279 = .ok (.aload_n 0, 1) := by decide +kernel
theorem d_M_init_280 : decode prog_6_method_1_code 280 = .ok (.iconst (-1), 1) := by decide +kernel
theorem d_M_init_281 : decode prog_6_method_1_code 281 = .ok (.putfield 64, 3) := by decide +kernel
theorem d_M_init_284 : decode prog_6_method_1_code 284 = .ok (.aload_n 0, 1) := by decide +kernel
theorem d_M_init_285 : decode prog_6_method_1_code 285 = .ok (.sipush 8000, 3) := by decide +kernel
theorem d_M_init_288 : decode prog_6_method_1_code 288 = .ok (.newarray .int, 2) := by decide +kernel
theorem d_M_init_290 : decode prog_6_method_1_code 290 = .ok (.putfield 67, 3) := by decide +kernel
theorem d_M_init_293 : decode prog_6_method_1_code 293 = .ok (.return_, 1) := by decide +kernel
def b_M_init_0 (X0 : Mm) (post : Option Value → Mm → Prop) : Kk := (i_aload 0 (i_obj (i_aload 0 (i_push (.int 1000000) (i_putI 4 2 (i_aload 0 (i_push (.int 8) (i_newa 10 X0 17 20533 (i_dup (i_push (.int 0) (i_push (.int 0) (i_ast (i_dup (i_push (.int 1) (i_push (.int 1) (i_ast (i_dup (i_push (.int 2) (i_push (.int 2) (i_ast (i_dup (i_push (.int 3) (i_push (.int 3) (i_ast (i_dup (i_push (.int 4) (i_push (.int 4) (i_ast (i_dup (i_push (.int 5) (i_push (.int 5) (i_ast (i_dup (i_push (.int 6) (i_push (.int 6) (i_ast (i_dup (i_push (.int 7) (i_push (.int 7) (i_ast (i_putR 4 3 (i_aload 0 (i_push (.int 2048) (i_newa 11 X0 17 20533 (i_putR 4 4 (i_aload 0 (i_push (.int 8) (i_newa 11 X0 17 20533 (i_putR 4 5 (i_aload 0 (i_push (.int 8) (i_newa 10 X0 17 20533 (i_putR 4 6 (i_aload 0 (i_push (.int 288) (i_newa 10 X0 17 20533 (i_putR 4 7 (i_aload 0 (i_push (.int 8) (i_newa 10 X0 17 20533 (i_dup (i_push (.int 0) (i_push (.int (-1)) (i_ast (i_dup (i_push (.int 1) (i_push (.int (-1)) (i_ast (i_dup (i_push (.int 2) (i_push (.int (-1)) (i_ast (i_dup (i_push (.int 3) (i_push (.int (-1)) (i_ast (i_dup (i_push (.int 4) (i_push (.int (-1)) (i_ast (i_dup (i_push (.int 5) (i_push (.int (-1)) (i_ast (i_dup (i_push (.int 6) (i_push (.int (-1)) (i_ast (i_dup (i_push (.int 7) (i_push (.int (-1)) (i_ast (i_putR 4 8 (i_aload 0 (i_push (.int 8) (i_newa 10 X0 17 20533 (i_dup (i_push (.int 0) (i_push (.int (-1)) (i_ast (i_dup (i_push (.int 1) (i_push (.int (-1)) (i_ast (i_dup (i_push (.int 2) (i_push (.int (-1)) (i_ast (i_dup (i_push (.int 3) (i_push (.int (-1)) (i_ast (i_dup (i_push (.int 4) (i_push (.int (-1)) (i_ast (i_dup (i_push (.int 5) (i_push (.int (-1)) (i_ast (i_dup (i_push (.int 6) (i_push (.int (-1)) (i_ast (i_dup (i_push (.int 7) (i_push (.int (-1)) (i_ast (i_putR 4 9 (i_aload 0 (i_push (.int 8) (i_newa 10 X0 17 20533 (i_putR 4 10 (i_aload 0 (i_push (.int 8) (i_newa 10 X0 17 20533 (i_dup (i_push (.int 0) (i_push (.int (-1)) (i_ast (i_dup (i_push (.int 1) (i_push (.int (-1)) (i_ast (i_dup (i_push (.int 2) (i_push (.int (-1)) (i_ast (i_dup (i_push (.int 3) (i_push (.int (-1)) (i_ast (i_dup (i_push (.int 4) (i_push (.int (-1)) (i_ast (i_dup (i_push (.int 5) (i_push (.int (-1)) (i_ast (i_dup (i_push (.int 6) (i_push (.int (-1)) (i_ast (i_dup (i_push (.int 7) (i_push (.int (-1)) (i_ast (i_putR 4 11 (i_aload 0 (i_push (.int 8) (i_newa 10 X0 17 20533 (i_putR 4 12 (i_aload 0 (i_push (.int 8) (i_newa 10 X0 17 20533 (i_putR 4 13 (i_aload 0 (i_push (.int 8) (i_newa 10 X0 17 20533 (i_putR 4 14 (i_aload 0 (i_push (.int 2048) (i_newa 11 X0 17 20533 (i_putR 4 15 (i_aload 0 (i_push (.int 64) (i_newa 10 X0 17 20533 (i_putR 4 17 (i_aload 0 (i_push (.int 8000) (i_newa 10 X0 17 20533 (i_putR 4 26 (i_aload 0 (i_push (.int 5) (i_newa 10 X0 17 20533 (i_putR 4 27 (i_aload 0 (i_push (.int (-1)) (i_putI 4 33 (i_aload 0 (i_push (.int 8000) (i_newa 10 X0 17 20533 (i_putR 4 34 (i_vret (bp post (xc X0 + 17) (xs X0 + 20533)))))))))))))))))))))))))))))))))))))))))))))))))))))))))))))))))))))))))))))))))))))))))))))))))))))))))))))))))))))))))))))))))))))))))))))))))))))))))))))))))))))))))))))))))))))))))))))))))))))))))))))))
theorem t_M_init_0 {Z : Zt} {X0 : Mm} {post : Option Value → Mm → Prop} (g : Good Z prog_6_method_1_code 1 "BusTelegramsModel" 1) (hq : RetZ Z false X0 17 20533 post) (hr : (zM Z).sig.returnType = none) (hnm : (zM Z).name = "<init>") (hao : AO2 (zs Z)) : Snd Z 1 0 (b_M_init_0 X0 post) := by
  unfold b_M_init_0
  exact (s_aload_n g d_M_init_0 rfl (s_obj g (by decide) mw_552 mw_19 mw_20 d_M_init_1 (s_aload_n g d_M_init_4 rfl (s_push_ldc g mw_553 d_M_init_5 (s_putI g (c := 4) (j := 2) cok_4 (by decide) rfl rfl rfl mw_556 rfl d_M_init_7 (s_aload_n g d_M_init_10 rfl (s_push_bipush g d_M_init_11 (by decide) (s_newa10 g hq.N mw_81 d_M_init_13 (s_dup g d_M_init_15 (s_push_iconst g d_M_init_16 (by decide) (s_push_iconst g d_M_init_17 (by decide) (s_iast g d_M_init_18 (s_dup g d_M_init_19 (s_push_iconst g d_M_init_20 (by decide) (s_push_iconst g d_M_init_21 (by decide) (s_iast g d_M_init_22 (s_dup g d_M_init_23 (s_push_iconst g d_M_init_24 (by decide) (s_push_iconst g d_M_init_25 (by decide) (s_iast g d_M_init_26 (s_dup g d_M_init_27 (s_push_iconst g d_M_init_28 (by decide) (s_push_iconst g d_M_init_29 (by decide) (s_iast g d_M_init_30 (s_dup g d_M_init_31 (s_push_iconst g d_M_init_32 (by decide) (s_push_iconst g d_M_init_33 (by decide) (s_iast g d_M_init_34 (s_dup g d_M_init_35 (s_push_iconst g d_M_init_36 (by decide) (s_push_iconst g d_M_init_37 (by decide) (s_iast g d_M_init_38 (s_dup g d_M_init_39 (s_push_bipush g d_M_init_40 (by decide) (s_push_bipush g d_M_init_42 (by decide) (s_iast g d_M_init_44 (s_dup g d_M_init_45 (s_push_bipush g d_M_init_46 (by decide) (s_push_bipush g d_M_init_48 (by decide) (s_iast g d_M_init_50 (s_putR g hnm (c := 4) (j := 3) cok_4 (by decide) rfl rfl rfl mw_557 rfl rfl (fun _ => ⟨rfl, rfl⟩) d_M_init_51 (s_aload_n g d_M_init_54 rfl (s_push_sipush g d_M_init_55 (by decide) (s_newa11 g hq.N mw_108 d_M_init_58 (s_putR g hnm (c := 4) (j := 4) cok_4 (by decide) rfl rfl rfl mw_558 rfl rfl (fun _ => ⟨rfl, rfl⟩) d_M_init_60 (s_aload_n g d_M_init_63 rfl (s_push_bipush g d_M_init_64 (by decide) (s_newa11 g hq.N mw_108 d_M_init_66 (s_putR g hnm (c := 4) (j := 5) cok_4 (by decide) rfl rfl rfl mw_559 rfl rfl (fun _ => ⟨rfl, rfl⟩) d_M_init_68 (s_aload_n g d_M_init_71 rfl (s_push_bipush g d_M_init_72 (by decide) (s_newa10 g hq.N mw_81 d_M_init_74 (s_putR g hnm (c := 4) (j := 6) cok_4 (by decide) rfl rfl rfl mw_560 rfl rfl (fun _ => ⟨rfl, rfl⟩) d_M_init_76 (s_aload_n g d_M_init_79 rfl (s_push_sipush g d_M_init_80 (by decide) (s_newa10 g hq.N mw_81 d_M_init_83 (s_putR g hnm (c := 4) (j := 7) cok_4 (by decide) rfl rfl rfl mw_561 rfl rfl (fun _ => ⟨rfl, rfl⟩) d_M_init_85 (s_aload_n g d_M_init_88 rfl (s_push_bipush g d_M_init_89 (by decide) (s_newa10 g hq.N mw_81 d_M_init_91 (s_dup g d_M_init_93 (s_push_iconst g d_M_init_94 (by decide) (s_push_iconst g d_M_init_95 (by decide) (s_iast g d_M_init_96 (s_dup g d_M_init_97 (s_push_iconst g d_M_init_98 (by decide) (s_push_iconst g d_M_init_99 (by decide) (s_iast g d_M_init_100 (s_dup g d_M_init_101 (s_push_iconst g d_M_init_102 (by decide) (s_push_iconst g d_M_init_103 (by decide) (s_iast g d_M_init_104 (s_dup g d_M_init_105 (s_push_iconst g d_M_init_106 (by decide) (s_push_iconst g d_M_init_107 (by decide) (s_iast g d_M_init_108 (s_dup g d_M_init_109 (s_push_iconst g d_M_init_110 (by decide) (s_push_iconst g d_M_init_111 (by decide) (s_iast g d_M_init_112 (s_dup g d_M_init_113 (s_push_iconst g d_M_init_114 (by decide) (s_push_iconst g d_M_init_115 (by decide) (s_iast g d_M_init_116 (s_dup g d_M_init_117 (s_push_bipush g d_M_init_118 (by decide) (s_push_iconst g d_M_init_120 (by decide) (s_iast g d_M_init_121 (s_dup g d_M_init_122 (s_push_bipush g d_M_init_123 (by decide) (s_push_iconst g d_M_init_125 (by decide) (s_iast g d_M_init_126 (s_putR g hnm (c := 4) (j := 8) cok_4 (by decide) rfl rfl rfl mw_562 rfl rfl (fun _ => ⟨rfl, rfl⟩) d_M_init_127 (s_aload_n g d_M_init_130 rfl (s_push_bipush g d_M_init_131 (by decide) (s_newa10 g hq.N mw_81 d_M_init_133 (s_dup g d_M_init_135 (s_push_iconst g d_M_init_136 (by decide) (s_push_iconst g d_M_init_137 (by decide) (s_iast g d_M_init_138 (s_dup g d_M_init_139 (s_push_iconst g d_M_init_140 (by decide) (s_push_iconst g d_M_init_141 (by decide) (s_iast g d_M_init_142 (s_dup g d_M_init_143 (s_push_iconst g d_M_init_144 (by decide) (s_push_iconst g d_M_init_145 (by decide) (s_iast g d_M_init_146 (s_dup g d_M_init_147 (s_push_iconst g d_M_init_148 (by decide) (s_push_iconst g d_M_init_149 (by decide) (s_iast g d_M_init_150 (s_dup g d_M_init_151 (s_push_iconst g d_M_init_152 (by decide) (s_push_iconst g d_M_init_153 (by decide) (s_iast g d_M_init_154 (s_dup g d_M_init_155 (s_push_iconst g d_M_init_156 (by decide) (s_push_iconst g d_M_init_157 (by decide) (s_iast g d_M_init_158 (s_dup g d_M_init_159 (s_push_bipush g d_M_init_160 (by decide) (s_push_iconst g d_M_init_162 (by decide) (s_iast g d_M_init_163 (s_dup g d_M_init_164 (s_push_bipush g d_M_init_165 (by decide) (s_push_iconst g d_M_init_167 (by decide) (s_iast g d_M_init_168 (s_putR g hnm (c := 4) (j := 9) cok_4 (by decide) rfl rfl rfl mw_563 rfl rfl (fun _ => ⟨rfl, rfl⟩) d_M_init_169 (s_aload_n g d_M_init_172 rfl (s_push_bipush g d_M_init_173 (by decide) (s_newa10 g hq.N mw_81 d_M_init_175 (s_putR g hnm (c := 4) (j := 10) cok_4 (by decide) rfl rfl rfl mw_564 rfl rfl (fun _ => ⟨rfl, rfl⟩) d_M_init_177 (s_aload_n g d_M_init_180 rfl (s_push_bipush g d_M_init_181 (by decide) (s_newa10 g hq.N mw_81 d_M_init_183 (s_dup g d_M_init_185 (s_push_iconst g d_M_init_186 (by decide) (s_push_iconst g d_M_init_187 (by decide) (s_iast g d_M_init_188 (s_dup g d_M_init_189 (s_push_iconst g d_M_init_190 (by decide) (s_push_iconst g d_M_init_191 (by decide) (s_iast g d_M_init_192 (s_dup g d_M_init_193 (s_push_iconst g d_M_init_194 (by decide) (s_push_iconst g d_M_init_195 (by decide) (s_iast g d_M_init_196 (s_dup g d_M_init_197 (s_push_iconst g d_M_init_198 (by decide) (s_push_iconst g d_M_init_199 (by decide) (s_iast g d_M_init_200 (s_dup g d_M_init_201 (s_push_iconst g d_M_init_202 (by decide) (s_push_iconst g d_M_init_203 (by decide) (s_iast g d_M_init_204 (s_dup g d_M_init_205 (s_push_iconst g d_M_init_206 (by decide) (s_push_iconst g d_M_init_207 (by decide) (s_iast g d_M_init_208 (s_dup g d_M_init_209 (s_push_bipush g d_M_init_210 (by decide) (s_push_iconst g d_M_init_212 (by decide) (s_iast g d_M_init_213 (s_dup g d_M_init_214 (s_push_bipush g d_M_init_215 (by decide) (s_push_iconst g d_M_init_217 (by decide) (s_iast g d_M_init_218 (s_putR g hnm (c := 4) (j := 11) cok_4 (by decide) rfl rfl rfl mw_565 rfl rfl (fun _ => ⟨rfl, rfl⟩) d_M_init_219 (s_aload_n g d_M_init_222 rfl (s_push_bipush g d_M_init_223 (by decide) (s_newa10 g hq.N mw_81 d_M_init_225 (s_putR g hnm (c := 4) (j := 12) cok_4 (by decide) rfl rfl rfl mw_566 rfl rfl (fun _ => ⟨rfl, rfl⟩) d_M_init_227 (s_aload_n g d_M_init_230 rfl (s_push_bipush g d_M_init_231 (by decide) (s_newa10 g hq.N mw_81 d_M_init_233 (s_putR g hnm (c := 4) (j := 13) cok_4 (by decide) rfl rfl rfl mw_567 rfl rfl (fun _ => ⟨rfl, rfl⟩) d_M_init_235 (s_aload_n g d_M_init_238 rfl (s_push_bipush g d_M_init_239 (by decide) (s_newa10 g hq.N mw_81 d_M_init_241 (s_putR g hnm (c := 4) (j := 14) cok_4 (by decide) rfl rfl rfl mw_568 rfl rfl (fun _ => ⟨rfl, rfl⟩) d_M_init_243 (s_aload_n g d_M_init_246 rfl (s_push_sipush g d_M_init_247 (by decide) (s_newa11 g hq.N mw_108 d_M_init_250 (s_putR g hnm (c := 4) (j := 15) cok_4 (by decide) rfl rfl rfl mw_569 rfl rfl (fun _ => ⟨rfl, rfl⟩) d_M_init_252 (s_aload_n g d_M_init_255 rfl (s_push_bipush g d_M_init_256 (by decide) (s_newa10 g hq.N mw_81 d_M_init_258 (s_putR g hnm (c := 4) (j := 17) cok_4 (by decide) rfl rfl rfl mw_571 rfl rfl (fun _ => ⟨rfl, rfl⟩) d_M_init_260 (s_aload_n g d_M_init_263 rfl (s_push_sipush g d_M_init_264 (by decide) (s_newa10 g hq.N mw_81 d_M_init_267 (s_putR g hnm (c := 4) (j := 26) cok_4 (by decide) rfl rfl rfl mw_580 rfl rfl (fun _ => ⟨rfl, rfl⟩) d_M_init_269 (s_aload_n g d_M_init_272 rfl (s_push_iconst g d_M_init_273 (by decide) (s_newa10 g hq.N mw_81 d_M_init_274 (s_putR g hnm (c := 4) (j := 27) cok_4 (by decide) rfl rfl rfl mw_581 rfl rfl (fun _ => ⟨rfl, rfl⟩) d_M_init_276 (s_aload_n g d_M_init_279 rfl (s_push_iconst g d_M_init_280 (by decide) (s_putI g (c := 4) (j := 33) cok_4 (by decide) rfl rfl rfl mw_587 rfl d_M_init_281 (s_aload_n g d_M_init_284 rfl (s_push_sipush g d_M_init_285 (by decide) (s_newa10 g hq.N mw_81 d_M_init_288 (s_putR g hnm (c := 4) (j := 34) cok_4 (by decide) rfl rfl rfl mw_588 rfl rfl (fun _ => ⟨rfl, rfl⟩) d_M_init_290 (s_vret g hq hr d_M_init_293)))))))))))))))))))))))))))))))))))))))))))))))))))))))))))))))))))))))))))))))))))))))))))))))))))))))))))))))))))))))))))))))))))))))))))))))))))))))))))))))))))))))))))))))))))))))))))))))))))))))))))))
def w_M_init : Wp := wpOf 1 (fun X0 post => b_M_init_0 X0 post)
theorem C_M_init (l : Launch) : MetN l ({ cls := "BusTelegramsModel", name := "<init>", desc := "()V" } : Jvm.MethodName) prog_6_method_1_code 1 1 17 20533 w_M_init := metN_of (by decide +kernel) (fun Z X0 post hZ g hq hr hnm hao => t_M_init_0 g hq hr hnm hao)
theorem hd_M_init : (({ cls := "BusTelegramsModel", name := "<init>", desc := "()V" } : Jvm.MethodName)).cls ≠ "java/lang/invoke/MethodHandle" ∧ (({ cls := "BusTelegramsModel", name := "<init>", desc := "()V" } : Jvm.MethodName)).cls ≠ "java/lang/invoke/VarHandle" ∧ (parseMethodDescriptor (({ cls := "BusTelegramsModel", name := "<init>", desc := "()V" } : Jvm.MethodName)).desc).map (fun d => d.parameters.length) = some 0 := ⟨by decide, by decide, by decide +kernel⟩
