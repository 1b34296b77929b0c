def tlD (K : Kk) : Kk := i_dstore 7 (i_aload 2 (i_callV 0 4 w_M_thrown (i_iload 6 (i_icmp (fun x y => x = y) (i_iload 6 (i_if (fun x y => x = y) (i_aload 4 (i_push (.int 0) (i_dald (i_dload 7 (i_dcmp .l (i_if (fun x y => x = y) K (i_aload 4 (i_push (.int 0) (i_dald (i_aload 4 (i_push (.int 0) (i_dald (i_dcmp .l (i_if (fun x y => x = y) (i_push (.int 0) i_lret) (i_dload 7 (i_dload 7 (i_dcmp .l (i_if (fun x y => x = y) (i_push (.int 0) i_lret) K)))))))))))))))))) K)) (i_push (.int 0) i_lret)))))
theorem tl_dbl {L : Nat} {xsv : Nat → Int32} {X0 : Mm} {k : Kk} {i : Nat} {kc : Int32} {b : UInt64} {Z : Mm} (hk : Kn k i) (hI : Inv Z (i + 1)) (hc : xm Z 128 0 = kc) (hv : kc = 0 → xD Z 147 0 = b ∧ dec b ≠ .nan) : tlD (b_L_law_988 L xsv X0 k) ((6, .int kc) :: bs i) [.double b] Z := by
  have hS := hI.1
  unfold tlD bs
  simp (disch := omega) only [i_nz2, i_nz13, i_nz64, i_nz128, i_nz256, i_nz2048, not_false_eq_true, i_10, i_01, or_true, true_or, or_false, false_or, eq_self, e_konts, e_kontn, e_push, e_iload, e_aload, e_dload, e_istore, e_astore, e_dstore, e_iinc, e_bin, e_binz, e_dbin, e_dcmp, e_i2d, e_d2i, e_i2l, e_dupr, e_dupi, e_dup2, e_if, e_icmp, e_getI, e_getR, e_putI, e_putZ, e_ald, e_ast, e_zst, e_aald, e_alen, e_iret, e_zret, e_aret, e_dret, e_vret, e_callS0, e_callV0, e_callS1, e_callV1, e_callS2, e_callV2, e_callS3, e_callV3, e_callS4, e_callV4, e_callS5, e_callV5, e_callS6, e_callV6, e_cats0, e_cats1int, e_cats2intint, e_cats3intintint, e_cats3intintref, e_cats2intref, e_cats3intrefint, e_cats3intrefref, e_cats1ref, e_cats2refint, e_cats3refintint, e_cats3refintref, e_cats2refref, e_cats3refrefint, e_cats3refrefref, e_wp, asz, lv_args, lk, rm1, rm2, List.filter, Value.category, xsm_w, xw_n, xw_k, xw_l, xw_r, xw_m, xw_w, Nat.reduceAdd, Nat.reduceEqDiff, Nat.reduceLeDiff, Nat.reduceLT, Nat.reduceBEq, Bool.not_true, Bool.not_false, Bool.and_true, Bool.and_false, Bool.true_and, Bool.false_and, if_true, if_false, reduceIte, and_true, true_and, reduceCtorEq, Nat.reduceMul, Nat.reduceSub, shM hS]
  refine m_thrown0 hS ?_
  rw [hc]
  have fin : b_L_law_988 L xsv X0 k [(7, .double b), (6, .int kc), (0, .ref 999), (1, .ref 0), (2, .ref 128), (3, .ref 146), (4, .ref 147), (5, .int (nI (7 * i)))] [] Z := fin_law hk hI rfl (fun v => rfl)
  obtain ⟨-, -, o3, o4⟩ := shO hS
  rw [e_konts, e_iload]
  show i_icmp (fun x y => x = y) _ _ _ (.int kc :: .int kc :: []) Z
  rw [e_icmp, if_pos rfl, e_iload]
  show i_if (fun x y => x = y) _ _ _ (.int kc :: []) Z
  rw [e_if]
  by_cases c : kc = 0
  · obtain ⟨h1, h2⟩ := hv c
    have e0 : Op.cmpValue (FP.dcmp b b) .l = 0 := by rw [dcmp_self h2]; rfl
    rw [if_pos c, e_aload]
    show i_push _ _ _ [.ref 147] Z
    rw [e_push, e_dald]
    refine ⟨by rw [hS.1]; decide, o3, by rw [o4]; exact (nI_in' (n := 0) (by decide)).mpr (by decide), ?_⟩
    have hz : (0 : Int32).toNatClampNeg = 0 := rfl
    rw [hz, h1, e_dload]
    show i_dcmp .l _ _ (.double b :: .double b :: []) Z
    rw [e_dcmp, e_if, e0, if_pos rfl]
    exact fin
  · rw [if_neg c]
    exact fin
theorem law_12 {L : Nat} {xsv : Nat → Int32} {X0 : Mm} {k : Kk} {i : Nat} {Y : Mm} (hL : 7 * i + 7 ≤ L) (hL2 : L ≤ 3584) (hI : Inv Y i) (hk : Kn k i) : q_law_12 L xsv X0 k (bs i) [] Y := by
  have hS := hI.1
  have r1 : xc Y + 1 ≤ xc X0 + 601024 := by have := hI.2.1; omega
  have r2 : xs Y + 6 ≤ xs X0 + 7293034 := by have := hI.2.2.1; omega
  unfold bs
  have z1 : 7 * i + 1 < L := by omega
  simp (disch := omega) only [e_q_law_12, i_nz2, i_nz13, i_nz64, i_nz128, i_nz256, i_nz2048, not_false_eq_true, i_10, i_01, or_true, true_or, or_false, false_or, eq_self, e_konts, e_kontn, e_push, e_iload, e_aload, e_dload, e_istore, e_astore, e_dstore, e_iinc, e_bin, e_binz, e_dbin, e_dcmp, e_i2d, e_d2i, e_i2l, e_dupr, e_dupi, e_dup2, e_if, e_icmp, e_getI, e_getR, e_putI, e_putZ, e_ald, e_ast, e_zst, e_aald, e_alen, e_iret, e_zret, e_aret, e_dret, e_vret, e_callS0, e_callV0, e_callS1, e_callV1, e_callS2, e_callV2, e_callS3, e_callV3, e_callS4, e_callV4, e_callS5, e_callV5, e_callS6, e_callV6, e_cats0, e_cats1int, e_cats2intint, e_cats3intintint, e_cats3intintref, e_cats2intref, e_cats3intrefint, e_cats3intrefref, e_cats1ref, e_cats2refint, e_cats3refintint, e_cats3refintref, e_cats2refref, e_cats3refrefint, e_cats3refrefref, e_wp, asz, lv_args, lk, rm1, rm2, List.filter, Value.category, xsm_w, xw_n, xw_k, xw_l, xw_r, xw_m, xw_w, Nat.reduceAdd, Nat.reduceEqDiff, Nat.reduceLeDiff, Nat.reduceLT, Nat.reduceBEq, Bool.not_true, Bool.not_false, Bool.and_true, Bool.and_false, Bool.true_and, Bool.false_and, if_true, if_false, reduceIte, and_true, true_and, reduceCtorEq, Nat.reduceMul, Nat.reduceSub, e_kontX, e_ks11, e_ks21, e_ks22, e_drop, e_wpT, e_throw, e_callT1, e_callT2, e_callT3, e_callT6, e_kontH, e_callH3, e_callH4, e_callH5, e_callH8, e_last, e_dast, e_lald, e_dald, e_lcmp, e_sld, e_slen, e_bp, xb_n, xb_k, xb_l, xb_r, xb_m, xb_c, xb_s, xw_c, xw_s, Nat.le_refl, xsL_n, xsL_k, xsL_l, xsL_r, xsL_m, xsL_c, xsL_s, xsD_n, xsD_k, xsD_l, xsD_r, xsD_m, xsD_c, xsD_s, forall_const, nI_al, nI_ml, nI_gel, nI_lel, nI_ltl, nI_gtl, nI_eql, nI_cl, nI_in', lit_cl, lit_in, nI_add, nI_dl, nI_rl, nI_rl2, nI_sl, r1, r2, z1]
  refine l_unpack hS (fun r => ?_) (fun r => ?_)
  · simp (disch := omega) only [i_nz2, i_nz13, i_nz64, i_nz128, i_nz256, i_nz2048, not_false_eq_true, i_10, i_01, or_true, true_or, or_false, false_or, eq_self, e_konts, e_kontn, e_push, e_iload, e_aload, e_dload, e_istore, e_astore, e_dstore, e_iinc, e_bin, e_binz, e_dbin, e_dcmp, e_i2d, e_d2i, e_i2l, e_dupr, e_dupi, e_dup2, e_if, e_icmp, e_getI, e_getR, e_putI, e_putZ, e_ald, e_ast, e_zst, e_aald, e_alen, e_iret, e_zret, e_aret, e_dret, e_vret, e_callS0, e_callV0, e_callS1, e_callV1, e_callS2, e_callV2, e_callS3, e_callV3, e_callS4, e_callV4, e_callS5, e_callV5, e_callS6, e_callV6, e_cats0, e_cats1int, e_cats2intint, e_cats3intintint, e_cats3intintref, e_cats2intref, e_cats3intrefint, e_cats3intrefref, e_cats1ref, e_cats2refint, e_cats3refintint, e_cats3refintref, e_cats2refref, e_cats3refrefint, e_cats3refrefref, e_wp, asz, lv_args, lk, rm1, rm2, List.filter, Value.category, xsm_w, xw_n, xw_k, xw_l, xw_r, xw_m, xw_w, Nat.reduceAdd, Nat.reduceEqDiff, Nat.reduceLeDiff, Nat.reduceLT, Nat.reduceBEq, Bool.not_true, Bool.not_false, Bool.and_true, Bool.and_false, Bool.true_and, Bool.false_and, if_true, if_false, reduceIte, and_true, true_and, reduceCtorEq, Nat.reduceMul, Nat.reduceSub, e_kontX, e_ks11, e_ks21, e_ks22, e_drop, e_wpT, e_throw, e_callT1, e_callT2, e_callT3, e_callT6, e_kontH, e_callH3, e_callH4, e_callH5, e_callH8, e_last, e_dast, e_lald, e_dald, e_lcmp, e_sld, e_slen, e_bp, xb_n, xb_k, xb_l, xb_r, xb_m, xb_c, xb_s, xw_c, xw_s, Nat.le_refl, xsL_n, xsL_k, xsL_l, xsL_r, xsL_m, xsL_c, xsL_s, xsD_n, xsD_k, xsD_l, xsD_r, xsD_m, xsD_c, xsD_s, forall_const, nI_al, nI_ml, nI_gel, nI_lel, nI_ltl, nI_gtl, nI_eql, nI_cl, nI_in', lit_cl, lit_in, nI_add, nI_dl, nI_rl, nI_rl2, nI_sl, shM hS, z1]
    refine mc_unpack ?hs (fun r2 => ?_) (fun r2 => absurd r2 r)
    case hs => exact hS
    exact tl_dbl hk (inv_code hI rfl) (by rw [xw_m]; exact m0_at _ _) (fun q => absurd q (by decide))
  · simp (disch := omega) only [i_nz2, i_nz13, i_nz64, i_nz128, i_nz256, i_nz2048, not_false_eq_true, i_10, i_01, or_true, true_or, or_false, false_or, eq_self, e_konts, e_kontn, e_push, e_iload, e_aload, e_dload, e_istore, e_astore, e_dstore, e_iinc, e_bin, e_binz, e_dbin, e_dcmp, e_i2d, e_d2i, e_i2l, e_dupr, e_dupi, e_dup2, e_if, e_icmp, e_getI, e_getR, e_putI, e_putZ, e_ald, e_ast, e_zst, e_aald, e_alen, e_iret, e_zret, e_aret, e_dret, e_vret, e_callS0, e_callV0, e_callS1, e_callV1, e_callS2, e_callV2, e_callS3, e_callV3, e_callS4, e_callV4, e_callS5, e_callV5, e_callS6, e_callV6, e_cats0, e_cats1int, e_cats2intint, e_cats3intintint, e_cats3intintref, e_cats2intref, e_cats3intrefint, e_cats3intrefref, e_cats1ref, e_cats2refint, e_cats3refintint, e_cats3refintref, e_cats2refref, e_cats3refrefint, e_cats3refrefref, e_wp, asz, lv_args, lk, rm1, rm2, List.filter, Value.category, xsm_w, xw_n, xw_k, xw_l, xw_r, xw_m, xw_w, Nat.reduceAdd, Nat.reduceEqDiff, Nat.reduceLeDiff, Nat.reduceLT, Nat.reduceBEq, Bool.not_true, Bool.not_false, Bool.and_true, Bool.and_false, Bool.true_and, Bool.false_and, if_true, if_false, reduceIte, and_true, true_and, reduceCtorEq, Nat.reduceMul, Nat.reduceSub, e_kontX, e_ks11, e_ks21, e_ks22, e_drop, e_wpT, e_throw, e_callT1, e_callT2, e_callT3, e_callT6, e_kontH, e_callH3, e_callH4, e_callH5, e_callH8, e_last, e_dast, e_lald, e_dald, e_lcmp, e_sld, e_slen, e_bp, xb_n, xb_k, xb_l, xb_r, xb_m, xb_c, xb_s, xw_c, xw_s, Nat.le_refl, xsL_n, xsL_k, xsL_l, xsL_r, xsL_m, xsL_c, xsL_s, xsD_n, xsD_k, xsD_l, xsD_r, xsD_m, xsD_c, xsD_s, forall_const, nI_al, nI_ml, nI_gel, nI_lel, nI_ltl, nI_gtl, nI_eql, nI_cl, nI_in', lit_cl, lit_in, nI_add, nI_dl, nI_rl, nI_rl2, nI_sl, shM hS, z1]
    refine mc_unpack ?hs2 (fun r2 => absurd r r2) (fun r2 => ?_)
    case hs2 => exact hS
    refine tl_dbl hk (hI.next hS rfl rfl ?_) (by rw [xw_m]; exact m0_at _ _) (fun _ => ⟨rfl, nn_of (up_n _)⟩)
    rw [xw_m, xb_m, xsD_m]
    exact hI.2.2.2.up.code 0
