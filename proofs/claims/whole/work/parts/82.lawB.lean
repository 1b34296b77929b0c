theorem RX.rq {m : Sg} {c : Nat} (h : RX m c) : ∀ i, i < 8 → ∃ f q, f < 6 ∧ q ≤ 6 ∧ m (8 + 15 * i) 4 = nI f ∧ m (8 + 15 * i) 5 = nI q ∧ m 132 i = nI q := by
  obtain ⟨_, _, _, _, hr, -⟩ := h
  intro i hi
  obtain ⟨f, q, p, a, w, hs, -⟩ := hr.r0 hi
  exact ⟨f, q, hs.1, hs.2.1, hs.2.2.1, hs.2.2.2.1, hs.2.2.2.2.1⟩
theorem law_3d {L : Nat} {xsv : Nat → Int32} {X0 : Mm} {k : Kk} {i : Nat} {Y Z : Mm} {b kc : Int32} (hL : 7 * i + 7 ≤ L) (hL2 : L ≤ 3584) (h : w_M_send [.ref 128, .int (xsv (7 * i + 1)), .int (xsv (7 * i + 2)), .int (xsv (7 * i + 3)), .int b, .int (xsv (7 * i + 5)), .int (xsv (7 * i + 6))] Z (fun r Z' => tlI (b_L_law_988 L xsv X0 k) ((6, .int kc) :: bs i) r.toList Z')) (hS : Sh Z) : b_L_law_459 L xsv X0 k ((6, .int kc) :: bs i) [.int b, .int (xsv (7 * i + 3)), .int (xsv (7 * i + 2)), .int (xsv (7 * i + 1)), .ref 128] Z := by
  have z5 : 7 * i + 5 < L := by omega
  have z6 : 7 * i + 6 < L := by omega
  unfold bs at h ⊢
  simp (disch := omega) only [e_b_L_law_459, i_nz2, i_nz13, i_nz64, i_nz128, i_nz256, i_nz2048, not_false_eq_true, i_10, i_01, or_true, true_or, or_false, false_or, eq_self, e_konts, e_kontn, e_push, e_iload, e_aload, e_dload, e_istore, e_astore, e_dstore, e_iinc, e_bin, e_binz, e_dbin, e_dcmp, e_i2d, e_d2i, e_i2l, e_dupr, e_dupi, e_dup2, e_if, e_icmp, e_getI, e_getR, e_putI, e_putZ, e_ald, e_ast, e_zst, e_aald, e_alen, e_iret, e_zret, e_aret, e_dret, e_vret, e_callS0, e_callV0, e_callS1, e_callV1, e_callS2, e_callV2, e_callS3, e_callV3, e_callS4, e_callV4, e_callS5, e_callV5, e_callS6, e_callV6, e_cats0, e_cats1int, e_cats2intint, e_cats3intintint, e_cats3intintref, e_cats2intref, e_cats3intrefint, e_cats3intrefref, e_cats1ref, e_cats2refint, e_cats3refintint, e_cats3refintref, e_cats2refref, e_cats3refrefint, e_cats3refrefref, e_wp, asz, lv_args, lk, rm1, rm2, List.filter, Value.category, xsm_w, xw_n, xw_k, xw_l, xw_r, xw_m, xw_w, Nat.reduceAdd, Nat.reduceEqDiff, Nat.reduceLeDiff, Nat.reduceLT, Nat.reduceBEq, Bool.not_true, Bool.not_false, Bool.and_true, Bool.and_false, Bool.true_and, Bool.false_and, if_true, if_false, reduceIte, and_true, true_and, reduceCtorEq, Nat.reduceMul, Nat.reduceSub, e_kontX, e_ks11, e_ks21, e_ks22, e_drop, e_wpT, e_throw, e_callT1, e_callT2, e_callT3, e_callT6, e_kontH, e_callH3, e_callH4, e_callH5, e_callH8, e_last, e_dast, e_lald, e_dald, e_lcmp, e_sld, e_slen, e_bp, xb_n, xb_k, xb_l, xb_r, xb_m, xb_c, xb_s, xw_c, xw_s, Nat.le_refl, xsL_n, xsL_k, xsL_l, xsL_r, xsL_m, xsL_c, xsL_s, xsD_n, xsD_k, xsD_l, xsD_r, xsD_m, xsD_c, xsD_s, forall_const, nI_al, nI_ml, nI_gel, nI_lel, nI_ltl, nI_gtl, nI_eql, nI_cl, nI_in', lit_cl, lit_in, nI_add, nI_dl, nI_rl, nI_rl2, nI_sl, shM hS, z5, z6]
  refine cast (congrArg _ ?_) h
  funext r Z'
  rcases r with _ | v
  · rfl
  · rfl
theorem law_3c {L : Nat} {xsv : Nat → Int32} {X0 : Mm} {k : Kk} {i : Nat} {Y : Mm} {b : Int32} (hb : b = 0 ∨ b = 1) (hbv : (if xsv (7 * i + 4) = 0 then (0 : Int32) else 1) = b) (hL : 7 * i + 7 ≤ L) (hL2 : L ≤ 3584) (hI : Inv Y i) (hk : Kn k i) : b_L_law_407 L xsv X0 k (bs i) [.int b, .int (xsv (7 * i + 3)), .int (xsv (7 * i + 2)), .int (xsv (7 * i + 1)), .ref 0] Y := by
  have hS := hI.1
  have r1 : xc Y + 1 ≤ xc X0 + 601024 := by have := hI.2.1; omega
  have r2 : xs Y + 6 ≤ xs X0 + 7293034 := by have := hI.2.2.1; omega
  unfold bs
  have z1 : 7 * i + 1 < L := by omega
  have z2 : 7 * i + 2 < L := by omega
  have z3 : 7 * i + 3 < L := by omega
  have z4 : 7 * i + 4 < L := by omega
  have z5 : 7 * i + 5 < L := by omega
  have z6 : 7 * i + 6 < L := by omega
  simp (disch := omega) only [e_b_L_law_407, i_nz2, i_nz13, i_nz64, i_nz128, i_nz256, i_nz2048, not_false_eq_true, i_10, i_01, or_true, true_or, or_false, false_or, eq_self, e_konts, e_kontn, e_push, e_iload, e_aload, e_dload, e_istore, e_astore, e_dstore, e_iinc, e_bin, e_binz, e_dbin, e_dcmp, e_i2d, e_d2i, e_i2l, e_dupr, e_dupi, e_dup2, e_if, e_icmp, e_getI, e_getR, e_putI, e_putZ, e_ald, e_ast, e_zst, e_aald, e_alen, e_iret, e_zret, e_aret, e_dret, e_vret, e_callS0, e_callV0, e_callS1, e_callV1, e_callS2, e_callV2, e_callS3, e_callV3, e_callS4, e_callV4, e_callS5, e_callV5, e_callS6, e_callV6, e_cats0, e_cats1int, e_cats2intint, e_cats3intintint, e_cats3intintref, e_cats2intref, e_cats3intrefint, e_cats3intrefref, e_cats1ref, e_cats2refint, e_cats3refintint, e_cats3refintref, e_cats2refref, e_cats3refrefint, e_cats3refrefref, e_wp, asz, lv_args, lk, rm1, rm2, List.filter, Value.category, xsm_w, xw_n, xw_k, xw_l, xw_r, xw_m, xw_w, Nat.reduceAdd, Nat.reduceEqDiff, Nat.reduceLeDiff, Nat.reduceLT, Nat.reduceBEq, Bool.not_true, Bool.not_false, Bool.and_true, Bool.and_false, Bool.true_and, Bool.false_and, if_true, if_false, reduceIte, and_true, true_and, reduceCtorEq, Nat.reduceMul, Nat.reduceSub, e_kontX, e_ks11, e_ks21, e_ks22, e_drop, e_wpT, e_throw, e_callT1, e_callT2, e_callT3, e_callT6, e_kontH, e_callH3, e_callH4, e_callH5, e_callH8, e_last, e_dast, e_lald, e_dald, e_lcmp, e_sld, e_slen, e_bp, xb_n, xb_k, xb_l, xb_r, xb_m, xb_c, xb_s, xw_c, xw_s, Nat.le_refl, xsL_n, xsL_k, xsL_l, xsL_r, xsL_m, xsL_c, xsL_s, xsD_n, xsD_k, xsD_l, xsD_r, xsD_m, xsD_c, xsD_s, forall_const, nI_al, nI_ml, nI_gel, nI_lel, nI_ltl, nI_gtl, nI_eql, nI_cl, nI_in', lit_cl, lit_in, nI_add, nI_dl, nI_rl, nI_rl2, nI_sl, r1, r2, z5, z6]
  have hrq := (hI.2.2.2).rq
  refine l_send hS hb (fun s hs => ?_) (fun r => ?_) (fun s hs e0 hok e6 => ?_) (fun s f q n hs hf hq ef eq e0 hok n1 n2 e4 => ?_)
  · obtain ⟨f, q, h1, h2, h3, h4, -⟩ := hrq s hs; exact ⟨f, q, h1, h2, h3, h4⟩
  · simp (disch := omega) only [i_nz2, i_nz13, i_nz64, i_nz128, i_nz256, i_nz2048, not_false_eq_true, i_10, i_01, or_true, true_or, or_false, false_or, eq_self, e_konts, e_kontn, e_push, e_iload, e_aload, e_dload, e_istore, e_astore, e_dstore, e_iinc, e_bin, e_binz, e_dbin, e_dcmp, e_i2d, e_d2i, e_i2l, e_dupr, e_dupi, e_dup2, e_if, e_icmp, e_getI, e_getR, e_putI, e_putZ, e_ald, e_ast, e_zst, e_aald, e_alen, e_iret, e_zret, e_aret, e_dret, e_vret, e_callS0, e_callV0, e_callS1, e_callV1, e_callS2, e_callV2, e_callS3, e_callV3, e_callS4, e_callV4, e_callS5, e_callV5, e_callS6, e_callV6, e_cats0, e_cats1int, e_cats2intint, e_cats3intintint, e_cats3intintref, e_cats2intref, e_cats3intrefint, e_cats3intrefref, e_cats1ref, e_cats2refint, e_cats3refintint, e_cats3refintref, e_cats2refref, e_cats3refrefint, e_cats3refrefref, e_wp, asz, lv_args, lk, rm1, rm2, List.filter, Value.category, xsm_w, xw_n, xw_k, xw_l, xw_r, xw_m, xw_w, Nat.reduceAdd, Nat.reduceEqDiff, Nat.reduceLeDiff, Nat.reduceLT, Nat.reduceBEq, Bool.not_true, Bool.not_false, Bool.and_true, Bool.and_false, Bool.true_and, Bool.false_and, if_true, if_false, reduceIte, and_true, true_and, reduceCtorEq, Nat.reduceMul, Nat.reduceSub, e_kontX, e_ks11, e_ks21, e_ks22, e_drop, e_wpT, e_throw, e_callT1, e_callT2, e_callT3, e_callT6, e_kontH, e_callH3, e_callH4, e_callH5, e_callH8, e_last, e_dast, e_lald, e_dald, e_lcmp, e_sld, e_slen, e_bp, xb_n, xb_k, xb_l, xb_r, xb_m, xb_c, xb_s, xw_c, xw_s, Nat.le_refl, xsL_n, xsL_k, xsL_l, xsL_r, xsL_m, xsL_c, xsL_s, xsD_n, xsD_k, xsD_l, xsD_r, xsD_m, xsD_c, xsD_s, forall_const, nI_al, nI_ml, nI_gel, nI_lel, nI_ltl, nI_gtl, nI_eql, nI_cl, nI_in', lit_cl, lit_in, nI_add, nI_dl, nI_rl, nI_rl2, nI_sl, shM hS, z1, z2, z3, z4]
    have key : b_L_law_459 L xsv X0 k ((6, .int 1) :: bs i) [.int b, .int (xsv (7 * i + 3)), .int (xsv (7 * i + 2)), .int (xsv (7 * i + 1)), .ref 128] (xbump Y (xc Y + 1) (xs Y + 6)) := by
      refine law_3d (Y := Y) hL hL2 ?_ hS
      refine mc_send ?hs hb (fun s hs => ?_) (fun r2 => ?_) (fun s hs e0 hok e6 => absurd hok r) (fun s q n hs hq eq e0 hok n1 n2 e4 => absurd hok r)
      case hs => exact hS
      · obtain ⟨f, q, h1, h2, h3, h4, h5⟩ := hrq s hs; exact ⟨q, h2, h5⟩
      · exact tl_int hk (inv_code hI rfl) (by rw [xw_m]; exact m0_at _ _) (fun q => absurd q (by decide))
    split
    · rename_i c; rw [if_pos c] at hbv; subst hbv; exact key
    · rename_i c; rw [if_neg c] at hbv; subst hbv; exact key
  · simp (disch := omega) only [i_nz2, i_nz13, i_nz64, i_nz128, i_nz256, i_nz2048, not_false_eq_true, i_10, i_01, or_true, true_or, or_false, false_or, eq_self, e_konts, e_kontn, e_push, e_iload, e_aload, e_dload, e_istore, e_astore, e_dstore, e_iinc, e_bin, e_binz, e_dbin, e_dcmp, e_i2d, e_d2i, e_i2l, e_dupr, e_dupi, e_dup2, e_if, e_icmp, e_getI, e_getR, e_putI, e_putZ, e_ald, e_ast, e_zst, e_aald, e_alen, e_iret, e_zret, e_aret, e_dret, e_vret, e_callS0, e_callV0, e_callS1, e_callV1, e_callS2, e_callV2, e_callS3, e_callV3, e_callS4, e_callV4, e_callS5, e_callV5, e_callS6, e_callV6, e_cats0, e_cats1int, e_cats2intint, e_cats3intintint, e_cats3intintref, e_cats2intref, e_cats3intrefint, e_cats3intrefref, e_cats1ref, e_cats2refint, e_cats3refintint, e_cats3refintref, e_cats2refref, e_cats3refrefint, e_cats3refrefref, e_wp, asz, lv_args, lk, rm1, rm2, List.filter, Value.category, xsm_w, xw_n, xw_k, xw_l, xw_r, xw_m, xw_w, Nat.reduceAdd, Nat.reduceEqDiff, Nat.reduceLeDiff, Nat.reduceLT, Nat.reduceBEq, Bool.not_true, Bool.not_false, Bool.and_true, Bool.and_false, Bool.true_and, Bool.false_and, if_true, if_false, reduceIte, and_true, true_and, reduceCtorEq, Nat.reduceMul, Nat.reduceSub, e_kontX, e_ks11, e_ks21, e_ks22, e_drop, e_wpT, e_throw, e_callT1, e_callT2, e_callT3, e_callT6, e_kontH, e_callH3, e_callH4, e_callH5, e_callH8, e_last, e_dast, e_lald, e_dald, e_lcmp, e_sld, e_slen, e_bp, xb_n, xb_k, xb_l, xb_r, xb_m, xb_c, xb_s, xw_c, xw_s, Nat.le_refl, xsL_n, xsL_k, xsL_l, xsL_r, xsL_m, xsL_c, xsL_s, xsD_n, xsD_k, xsD_l, xsD_r, xsD_m, xsD_c, xsD_s, forall_const, nI_al, nI_ml, nI_gel, nI_lel, nI_ltl, nI_gtl, nI_eql, nI_cl, nI_in', lit_cl, lit_in, nI_add, nI_dl, nI_rl, nI_rl2, nI_sl, shM hS, z1, z2, z3, z4]
    have key : b_L_law_459 L xsv X0 k ((6, .int 2) :: bs i) [.int b, .int (xsv (7 * i + 3)), .int (xsv (7 * i + 2)), .int (xsv (7 * i + 1)), .ref 128] (xbump Y (xc Y + 1) (xs Y + 6)) := by
      refine law_3d (Y := Y) hL hL2 ?_ hS
      refine mc_send ?hs hb (fun s hs => ?_) (fun r2 => absurd hok r2) (fun s hs e0 hok e6 => ?_) (fun s' q n hs' hq eq e0' hok n1 n2 e4 => ?_)
      case hs => exact hS
      · obtain ⟨f, q, h1, h2, h3, h4, h5⟩ := hrq s hs; exact ⟨q, h2, h5⟩
      · exact tl_int hk (inv_code hI rfl) (by rw [xw_m]; exact m0_at _ _) (fun q => absurd q (by decide))
      · exfalso
        have := IN.u (by decide) hs hs' e0 e0'
        subst this
        obtain ⟨f, q', h1, h2, h3, h4, h5⟩ := hrq s hs
        rw [xb_m] at eq
        have a1 := (nI_eq (by omega) (by omega)).mp (h5.symm.trans eq)
        have a2 := (nI_eq (by omega) (by omega)).mp (h4.symm.trans e6)
        omega
    split
    · rename_i c; rw [if_pos c] at hbv; subst hbv; exact key
    · rename_i c; rw [if_neg c] at hbv; subst hbv; exact key
  · simp (disch := omega) only [i_nz2, i_nz13, i_nz64, i_nz128, i_nz256, i_nz2048, not_false_eq_true, i_10, i_01, or_true, true_or, or_false, false_or, eq_self, e_konts, e_kontn, e_push, e_iload, e_aload, e_dload, e_istore, e_astore, e_dstore, e_iinc, e_bin, e_binz, e_dbin, e_dcmp, e_i2d, e_d2i, e_i2l, e_dupr, e_dupi, e_dup2, e_if, e_icmp, e_getI, e_getR, e_putI, e_putZ, e_ald, e_ast, e_zst, e_aald, e_alen, e_iret, e_zret, e_aret, e_dret, e_vret, e_callS0, e_callV0, e_callS1, e_callV1, e_callS2, e_callV2, e_callS3, e_callV3, e_callS4, e_callV4, e_callS5, e_callV5, e_callS6, e_callV6, e_cats0, e_cats1int, e_cats2intint, e_cats3intintint, e_cats3intintref, e_cats2intref, e_cats3intrefint, e_cats3intrefref, e_cats1ref, e_cats2refint, e_cats3refintint, e_cats3refintref, e_cats2refref, e_cats3refrefint, e_cats3refrefref, e_wp, asz, lv_args, lk, rm1, rm2, List.filter, Value.category, xsm_w, xw_n, xw_k, xw_l, xw_r, xw_m, xw_w, Nat.reduceAdd, Nat.reduceEqDiff, Nat.reduceLeDiff, Nat.reduceLT, Nat.reduceBEq, Bool.not_true, Bool.not_false, Bool.and_true, Bool.and_false, Bool.true_and, Bool.false_and, if_true, if_false, reduceIte, and_true, true_and, reduceCtorEq, Nat.reduceMul, Nat.reduceSub, e_kontX, e_ks11, e_ks21, e_ks22, e_drop, e_wpT, e_throw, e_callT1, e_callT2, e_callT3, e_callT6, e_kontH, e_callH3, e_callH4, e_callH5, e_callH8, e_last, e_dast, e_lald, e_dald, e_lcmp, e_sld, e_slen, e_bp, xb_n, xb_k, xb_l, xb_r, xb_m, xb_c, xb_s, xw_c, xw_s, Nat.le_refl, xsL_n, xsL_k, xsL_l, xsL_r, xsL_m, xsL_c, xsL_s, xsD_n, xsD_k, xsD_l, xsD_r, xsD_m, xsD_c, xsD_s, forall_const, nI_al, nI_ml, nI_gel, nI_lel, nI_ltl, nI_gtl, nI_eql, nI_cl, nI_in', lit_cl, lit_in, nI_add, nI_dl, nI_rl, nI_rl2, nI_sl, shM hS, z1, z2, z3, z4]
    have o132 : cSnd (xm Y) s f q (xsv (7 * i + 2)) (xsv (7 * i + 3)) b n (xsv (7 * i + 6)) 132 = xm Y 132 := by
      funext j; exact cSnd_o (by omega) (by omega) (by omega)
    have key : b_L_law_459 L xsv X0 k ((6, .int 0) :: bs i) [.int b, .int (xsv (7 * i + 3)), .int (xsv (7 * i + 2)), .int (xsv (7 * i + 1)), .ref 128] (xbump (xsL (xw Y (cSnd (xm Y) s f q (xsv (7 * i + 2)) (xsv (7 * i + 3)) b n (xsv (7 * i + 6)))) 146 0 (nI (q + 1)).toInt64) (xc Y + 1) (xs Y + 6)) := by
      refine law_3d (Y := Y) hL hL2 ?_ hS
      refine mc_send ?hs hb (fun s' hs' => ?_) (fun r2 => absurd hok r2) (fun s' hs' e0' hok e6 => ?_) (fun s' q' n' hs' hq' eq' e0' hok' n1' n2' e4' => ?_)
      case hs => exact hS
      · obtain ⟨f, q, h1, h2, h3, h4, h5⟩ := hrq s' hs'
        rw [xb_m, xsL_m, xw_m, o132]; exact ⟨q, h2, h5⟩
      · exfalso
        have := IN.u (by decide) hs hs' e0 e0'
        subst this
        obtain ⟨f', q', h1, h2, h3, h4, h5⟩ := hrq s hs
        rw [xb_m, xsL_m, xw_m, o132] at e6
        have a1 := (nI_eq (by omega) (by omega)).mp (h5.symm.trans e6)
        have a2 := (nI_eq (by omega) (by omega)).mp (h4.symm.trans eq)
        omega
      · have := IN.u (by decide) hs hs' e0 e0'
        subst this
        obtain ⟨f9, q9, h1, h2, h3, h4, h5⟩ := hrq s hs
        rw [xb_m, xsL_m, xw_m, o132] at eq'
        have a1 := (nI_eq (by omega) (by omega)).mp (h5.symm.trans eq')
        have a2 := (nI_eq (by omega) (by omega)).mp (h4.symm.trans eq)
        have : q' = q := by omega
        subst this
        have := (nI_eq (by omega) (by omega)).mp (e4.symm.trans e4')
        subst this
        refine tl_int hk (hI.next hS rfl rfl ?_) ?_ (fun _ => ?_)
        · rw [xw_m, xb_m, xsL_m, xw_m]
          have ha : IN (xsv (7 * i + 3)) 65536 := by
            have := hok.2.2.1
            rcases hb with rfl | rfl
            · rw [if_pos rfl] at this; exact this
            · rw [if_neg (by decide)] at this
              obtain ⟨j, hj, e⟩ := this; exact ⟨j, by omega, e⟩
          have hi9 : ∀ a j, 128 ≤ a → ¬ (a = 128 ∧ j = 0) → ¬ (a = 132 ∧ j = s) → ¬ a = 133 → mSnd (m0 (cSnd (xm Y) s f q' (xsv (7 * i + 2)) (xsv (7 * i + 3)) b n (xsv (7 * i + 6))) 0) s q' (xsv (7 * i + 2)) (xsv (7 * i + 3)) b n (xsv (7 * i + 6)) a j = xm Y a j := fun a j x y z u => by
            rw [mSnd_o z (by omega)]
            unfold m0
            rw [su_ne y]
            exact cSnd_o (by omega) (by omega) (by omega)
          refine (hI.2.2.2.up).of (fun t d d1 D r => rr_send hs r hf hq ef eq ⟨n1, n2⟩ hok.2.1 ha hok.2.2.2.2 hb rfl) (fun k => hi9 _ _ (by decide) (by omega) (by omega) (by decide)) (fun j hj => ?_) (fun j hj => hi9 _ _ (by decide) (by omega) (by omega) (by decide))
          rw [hi9 _ _ (by decide) (by omega) (by omega) (by decide)]; exact (hI.2.2.2).b131 j hj
        · rw [xw_m, mSnd_o (by omega) (by omega)]; exact m0_at _ _
        · rw [xw_L, xb_L, xsL_at]
    split
    · rename_i c; rw [if_pos c] at hbv; subst hbv; exact key
    · rename_i c; rw [if_neg c] at hbv; subst hbv; exact key
theorem law_3 {L : Nat} {xsv : Nat → Int32} {X0 : Mm} {k : Kk} {i : Nat} {Y : Mm} (hL : 7 * i + 7 ≤ L) (hL2 : L ≤ 3584) (hI : Inv Y i) (hk : Kn k i) : q_law_3 L xsv X0 k (bs i) [] Y := by
  have key := fun b hb hbv => law_3c (L := L) (xsv := xsv) (X0 := X0) (b := b) hb hbv hL hL2 hI hk
  unfold bs at key ⊢
  have z1 : 7 * i + 1 < L := by omega
  have z2 : 7 * i + 2 < L := by omega
  have z3 : 7 * i + 3 < L := by omega
  have z4 : 7 * i + 4 < L := by omega
  simp (disch := omega) only [e_q_law_3, i_nz2, i_nz13, i_nz64, i_nz128, i_nz256, i_nz2048, not_false_eq_true, i_10, i_01, or_true, true_or, or_false, false_or, eq_self, e_konts, e_kontn, e_push, e_iload, e_aload, e_dload, e_istore, e_astore, e_dstore, e_iinc, e_bin, e_binz, e_dbin, e_dcmp, e_i2d, e_d2i, e_i2l, e_dupr, e_dupi, e_dup2, e_if, e_icmp, e_getI, e_getR, e_putI, e_putZ, e_ald, e_ast, e_zst, e_aald, e_alen, e_iret, e_zret, e_aret, e_dret, e_vret, e_callS0, e_callV0, e_callS1, e_callV1, e_callS2, e_callV2, e_callS3, e_callV3, e_callS4, e_callV4, e_callS5, e_callV5, e_callS6, e_callV6, e_cats0, e_cats1int, e_cats2intint, e_cats3intintint, e_cats3intintref, e_cats2intref, e_cats3intrefint, e_cats3intrefref, e_cats1ref, e_cats2refint, e_cats3refintint, e_cats3refintref, e_cats2refref, e_cats3refrefint, e_cats3refrefref, e_wp, asz, lv_args, lk, rm1, rm2, List.filter, Value.category, xsm_w, xw_n, xw_k, xw_l, xw_r, xw_m, xw_w, Nat.reduceAdd, Nat.reduceEqDiff, Nat.reduceLeDiff, Nat.reduceLT, Nat.reduceBEq, Bool.not_true, Bool.not_false, Bool.and_true, Bool.and_false, Bool.true_and, Bool.false_and, if_true, if_false, reduceIte, and_true, true_and, reduceCtorEq, Nat.reduceMul, Nat.reduceSub, e_kontX, e_ks11, e_ks21, e_ks22, e_drop, e_wpT, e_throw, e_callT1, e_callT2, e_callT3, e_callT6, e_kontH, e_callH3, e_callH4, e_callH5, e_callH8, e_last, e_dast, e_lald, e_dald, e_lcmp, e_sld, e_slen, e_bp, xb_n, xb_k, xb_l, xb_r, xb_m, xb_c, xb_s, xw_c, xw_s, Nat.le_refl, xsL_n, xsL_k, xsL_l, xsL_r, xsL_m, xsL_c, xsL_s, xsD_n, xsD_k, xsD_l, xsD_r, xsD_m, xsD_c, xsD_s, forall_const, nI_al, nI_ml, nI_gel, nI_lel, nI_ltl, nI_gtl, nI_eql, nI_cl, nI_in', lit_cl, lit_in, nI_add, nI_dl, nI_rl, nI_rl2, nI_sl, z1, z2, z3, z4]
  split
  · rename_i c; exact key 0 (Or.inl rfl) (if_pos c)
  · rename_i c; exact key 1 (Or.inr rfl) (if_neg c)
