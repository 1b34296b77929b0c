theorem mDis_0 (m : Sg) (j : Nat) : mDis m j 128 0 = m 128 0 := by
  unfold mDis
  split
  · rw [su_nj (by decide), su_na (by decide)]
  · rfl
theorem law_4 {L : Nat} {xsv : Nat → Int32} {X0 : Mm} {k : Kk} {i : Nat} {Y : Mm} (hL : 7 * i + 7 ≤ L) (hL2 : L ≤ 3584) (hI : Inv Y i) (hk : Kn k i) : q_law_4 L xsv X0 k (bs i) [] Y := by
  have hS := hI.1
  have r1 : xc Y + 1 ≤ xc X0 + 601024 := by have := hI.2.1; omega
  have r2 : xs Y + 6 ≤ xs X0 + 7293034 := by have := hI.2.2.1; omega
  unfold bs
  have z1 : 7 * i + 1 < L := by omega
  obtain ⟨t, d, d1, D, hr, hD, hct, h131, hN⟩ := hI.2.2.2
  have ht := hr.2.2.1
  have t1 := hr.2.2.2.2.1
  have t2 := hr.2.2.2.1
  have e3 := hr.2.2.2.2.2.2.2.2.2.2.1
  have e16 := hr.2.2.2.2.2.2.2.2.2.2.2.1
  have e6 := hr.2.2.2.2.2.2.2.2.2.2.2.2.1
  -- as many as are told: 50 on both sides alike
  have k50 : xm Y 0 3 < 50 ↔ ctF (xm Y 141) 2048 < 50 := by rw [e3, e16]; exact nI_ltl (by omega) (by decide)
  have m50 : xm Y 128 16 = 50 ↔ ctF (xm Y 141) 2048 = 50 := by rw [e16]; exact nI_eql (by omega) (by decide)
  simp (disch := omega) only [e_q_law_4, i_nz2, i_nz13, i_nz64, i_nz128, i_nz256, i_nz2048, not_false_eq_true, i_10, i_01, or_true, true_or, or_false, false_or, eq_self, e_konts, e_kontn, e_push, e_iload, e_aload, e_dload, e_istore, e_astore, e_dstore, e_iinc, e_bin, e_binz, e_dbin, e_dcmp, e_i2d, e_d2i, e_i2l, e_dupr, e_dupi, e_dup2, e_if, e_icmp, e_getI, e_getR, e_putI, e_putZ, e_ald, e_ast, e_zst, e_aald, e_alen, e_iret, e_zret, e_aret, e_dret, e_vret, e_callS0, e_callV0, e_callS1, e_callV1, e_callS2, e_callV2, e_callS3, e_callV3, e_callS4, e_callV4, e_callS5, e_callV5, e_callS6, e_callV6, e_cats0, e_cats1int, e_cats2intint, e_cats3intintint, e_cats3intintref, e_cats2intref, e_cats3intrefint, e_cats3intrefref, e_cats1ref, e_cats2refint, e_cats3refintint, e_cats3refintref, e_cats2refref, e_cats3refrefint, e_cats3refrefref, e_wp, asz, lv_args, lk, rm1, rm2, List.filter, Value.category, xsm_w, xw_n, xw_k, xw_l, xw_r, xw_m, xw_w, Nat.reduceAdd, Nat.reduceEqDiff, Nat.reduceLeDiff, Nat.reduceLT, Nat.reduceBEq, Bool.not_true, Bool.not_false, Bool.and_true, Bool.and_false, Bool.true_and, Bool.false_and, if_true, if_false, reduceIte, and_true, true_and, reduceCtorEq, Nat.reduceMul, Nat.reduceSub, e_kontX, e_ks11, e_ks21, e_ks22, e_drop, e_wpT, e_throw, e_callT1, e_callT2, e_callT3, e_callT6, e_kontH, e_callH3, e_callH4, e_callH5, e_callH8, e_last, e_dast, e_lald, e_dald, e_lcmp, e_sld, e_slen, e_bp, xb_n, xb_k, xb_l, xb_r, xb_m, xb_c, xb_s, xw_c, xw_s, Nat.le_refl, xsL_n, xsL_k, xsL_l, xsL_r, xsL_m, xsL_c, xsL_s, xsD_n, xsD_k, xsD_l, xsD_r, xsD_m, xsD_c, xsD_s, forall_const, nI_al, nI_ml, nI_gel, nI_lel, nI_ltl, nI_gtl, nI_eql, nI_cl, nI_in', lit_cl, lit_in, nI_add, nI_dl, nI_rl, nI_rl2, nI_sl, r1, r2, z1]
  refine l_disturb hS (t := t) (by omega) t1 (fun r => ?_) (fun n n1 n2 e0 c => ?_) (fun n n1 n2 e0 c => ?_)
  · simp (disch := omega) only [i_nz2, i_nz13, i_nz64, i_nz128, i_nz256, i_nz2048, not_false_eq_true, i_10, i_01, or_true, true_or, or_false, false_or, eq_self, e_konts, e_kontn, e_push, e_iload, e_aload, e_dload, e_istore, e_astore, e_dstore, e_iinc, e_bin, e_binz, e_dbin, e_dcmp, e_i2d, e_d2i, e_i2l, e_dupr, e_dupi, e_dup2, e_if, e_icmp, e_getI, e_getR, e_putI, e_putZ, e_ald, e_ast, e_zst, e_aald, e_alen, e_iret, e_zret, e_aret, e_dret, e_vret, e_callS0, e_callV0, e_callS1, e_callV1, e_callS2, e_callV2, e_callS3, e_callV3, e_callS4, e_callV4, e_callS5, e_callV5, e_callS6, e_callV6, e_cats0, e_cats1int, e_cats2intint, e_cats3intintint, e_cats3intintref, e_cats2intref, e_cats3intrefint, e_cats3intrefref, e_cats1ref, e_cats2refint, e_cats3refintint, e_cats3refintref, e_cats2refref, e_cats3refrefint, e_cats3refrefref, e_wp, asz, lv_args, lk, rm1, rm2, List.filter, Value.category, xsm_w, xw_n, xw_k, xw_l, xw_r, xw_m, xw_w, Nat.reduceAdd, Nat.reduceEqDiff, Nat.reduceLeDiff, Nat.reduceLT, Nat.reduceBEq, Bool.not_true, Bool.not_false, Bool.and_true, Bool.and_false, Bool.true_and, Bool.false_and, if_true, if_false, reduceIte, and_true, true_and, reduceCtorEq, Nat.reduceMul, Nat.reduceSub, e_kontX, e_ks11, e_ks21, e_ks22, e_drop, e_wpT, e_throw, e_callT1, e_callT2, e_callT3, e_callT6, e_kontH, e_callH3, e_callH4, e_callH5, e_callH8, e_last, e_dast, e_lald, e_dald, e_lcmp, e_sld, e_slen, e_bp, xb_n, xb_k, xb_l, xb_r, xb_m, xb_c, xb_s, xw_c, xw_s, Nat.le_refl, xsL_n, xsL_k, xsL_l, xsL_r, xsL_m, xsL_c, xsL_s, xsD_n, xsD_k, xsD_l, xsD_r, xsD_m, xsD_c, xsD_s, forall_const, nI_al, nI_ml, nI_gel, nI_lel, nI_ltl, nI_gtl, nI_eql, nI_cl, nI_in', lit_cl, lit_in, nI_add, nI_dl, nI_rl, nI_rl2, nI_sl, shM hS, z1]
    refine mc_disturb (t := t) ?hs (by omega) ?ht (fun r2 => ?_) (fun n n1 n2 e0 => absurd ⟨n, n1, n2, e0⟩ r) (fun n n1 n2 e0 => absurd ⟨n, n1, n2, e0⟩ r)
    case hs => exact hS
    case ht => exact t2
    exact tl_bool hk (inv_code hI rfl) (by rw [xw_m]; exact m0_at _ _) (fun q => absurd q (by decide))
  · simp (disch := omega) only [i_nz2, i_nz13, i_nz64, i_nz128, i_nz256, i_nz2048, not_false_eq_true, i_10, i_01, or_true, true_or, or_false, false_or, eq_self, e_konts, e_kontn, e_push, e_iload, e_aload, e_dload, e_istore, e_astore, e_dstore, e_iinc, e_bin, e_binz, e_dbin, e_dcmp, e_i2d, e_d2i, e_i2l, e_dupr, e_dupi, e_dup2, e_if, e_icmp, e_getI, e_getR, e_putI, e_putZ, e_ald, e_ast, e_zst, e_aald, e_alen, e_iret, e_zret, e_aret, e_dret, e_vret, e_callS0, e_callV0, e_callS1, e_callV1, e_callS2, e_callV2, e_callS3, e_callV3, e_callS4, e_callV4, e_callS5, e_callV5, e_callS6, e_callV6, e_cats0, e_cats1int, e_cats2intint, e_cats3intintint, e_cats3intintref, e_cats2intref, e_cats3intrefint, e_cats3intrefref, e_cats1ref, e_cats2refint, e_cats3refintint, e_cats3refintref, e_cats2refref, e_cats3refrefint, e_cats3refrefref, e_wp, asz, lv_args, lk, rm1, rm2, List.filter, Value.category, xsm_w, xw_n, xw_k, xw_l, xw_r, xw_m, xw_w, Nat.reduceAdd, Nat.reduceEqDiff, Nat.reduceLeDiff, Nat.reduceLT, Nat.reduceBEq, Bool.not_true, Bool.not_false, Bool.and_true, Bool.and_false, Bool.true_and, Bool.false_and, if_true, if_false, reduceIte, and_true, true_and, reduceCtorEq, Nat.reduceMul, Nat.reduceSub, e_kontX, e_ks11, e_ks21, e_ks22, e_drop, e_wpT, e_throw, e_callT1, e_callT2, e_callT3, e_callT6, e_kontH, e_callH3, e_callH4, e_callH5, e_callH8, e_last, e_dast, e_lald, e_dald, e_lcmp, e_sld, e_slen, e_bp, xb_n, xb_k, xb_l, xb_r, xb_m, xb_c, xb_s, xw_c, xw_s, Nat.le_refl, xsL_n, xsL_k, xsL_l, xsL_r, xsL_m, xsL_c, xsL_s, xsD_n, xsD_k, xsD_l, xsD_r, xsD_m, xsD_c, xsD_s, forall_const, nI_al, nI_ml, nI_gel, nI_lel, nI_ltl, nI_gtl, nI_eql, nI_cl, nI_in', lit_cl, lit_in, nI_add, nI_dl, nI_rl, nI_rl2, nI_sl, shM hS, z1]
    refine mc_disturb (t := t) ?hs2 (by omega) ?ht2 (fun r2 => absurd ⟨n, n1, n2, e0⟩ r2) (fun n' n1' n2' e0' c' => ?_) (fun n' n1' n2' e0' c' => ?_)
    case hs2 => exact hS
    case ht2 => exact t2
    · exact tl_bool hk (inv_code hI rfl) (by rw [xw_m]; exact m0_at _ _) (fun q => absurd q (by decide))
    · exfalso
      rw [k50] at c
      rw [xb_m, m50] at c'
      omega
  · have hj : (t + n) % 2048 < 2048 := Nat.mod_lt _ (by decide)
    simp (disch := omega) only [i_nz2, i_nz13, i_nz64, i_nz128, i_nz256, i_nz2048, not_false_eq_true, i_10, i_01, or_true, true_or, or_false, false_or, eq_self, e_konts, e_kontn, e_push, e_iload, e_aload, e_dload, e_istore, e_astore, e_dstore, e_iinc, e_bin, e_binz, e_dbin, e_dcmp, e_i2d, e_d2i, e_i2l, e_dupr, e_dupi, e_dup2, e_if, e_icmp, e_getI, e_getR, e_putI, e_putZ, e_ald, e_ast, e_zst, e_aald, e_alen, e_iret, e_zret, e_aret, e_dret, e_vret, e_callS0, e_callV0, e_callS1, e_callV1, e_callS2, e_callV2, e_callS3, e_callV3, e_callS4, e_callV4, e_callS5, e_callV5, e_callS6, e_callV6, e_cats0, e_cats1int, e_cats2intint, e_cats3intintint, e_cats3intintref, e_cats2intref, e_cats3intrefint, e_cats3intrefref, e_cats1ref, e_cats2refint, e_cats3refintint, e_cats3refintref, e_cats2refref, e_cats3refrefint, e_cats3refrefref, e_wp, asz, lv_args, lk, rm1, rm2, List.filter, Value.category, xsm_w, xw_n, xw_k, xw_l, xw_r, xw_m, xw_w, Nat.reduceAdd, Nat.reduceEqDiff, Nat.reduceLeDiff, Nat.reduceLT, Nat.reduceBEq, Bool.not_true, Bool.not_false, Bool.and_true, Bool.and_false, Bool.true_and, Bool.false_and, if_true, if_false, reduceIte, and_true, true_and, reduceCtorEq, Nat.reduceMul, Nat.reduceSub, e_kontX, e_ks11, e_ks21, e_ks22, e_drop, e_wpT, e_throw, e_callT1, e_callT2, e_callT3, e_callT6, e_kontH, e_callH3, e_callH4, e_callH5, e_callH8, e_last, e_dast, e_lald, e_dald, e_lcmp, e_sld, e_slen, e_bp, xb_n, xb_k, xb_l, xb_r, xb_m, xb_c, xb_s, xw_c, xw_s, Nat.le_refl, xsL_n, xsL_k, xsL_l, xsL_r, xsL_m, xsL_c, xsL_s, xsD_n, xsD_k, xsD_l, xsD_r, xsD_m, xsD_c, xsD_s, forall_const, nI_al, nI_ml, nI_gel, nI_lel, nI_ltl, nI_gtl, nI_eql, nI_cl, nI_in', lit_cl, lit_in, nI_add, nI_dl, nI_rl, nI_rl2, nI_sl, shM hS, z1]
    have f128 : ∀ a j, 128 ≤ a → cDis (xm Y) ((t + n) % 2048) a j = xm Y a j := fun a j x => by
      unfold cDis
      split
      · rw [su_na (by omega), su_na (by omega)]
      · rfl
    refine mc_disturb (t := t) ?hs3 (by omega) ?ht3 (fun r2 => absurd ⟨n, n1, n2, e0⟩ r2) (fun n' n1' n2' e0' c' => ?_) (fun n' n1' n2' e0' c' => ?_)
    case hs3 => exact hS
    case ht3 => rw [xb_m, xsL_m, xw_m, f128 _ _ (by decide)]; exact t2
    · exfalso
      rw [k50] at c
      rw [xb_m, xsL_m, xw_m, f128 _ _ (by decide), m50] at c'
      omega
    · have := (nI_eq (by omega) (by omega)).mp (e0.symm.trans e0')
      subst this
      have ee : xm Y 6 ((t + n) % 2048) = xm Y 141 ((t + n) % 2048) := e6 _ hj
      rw [k50] at c
      refine tl_bool hk (hI.next hS rfl rfl ?_) ?_ (fun _ => ?_)
      · rw [xw_m, xb_m, xsL_m, xw_m]
        by_cases q : xm Y 141 ((t + n) % 2048) = 0
        · have q6 : xm Y 6 ((t + n) % 2048) = 0 := ee.trans q
          unfold cDis mDis
          rw [if_pos q6]
          have e141 : m0 (su (su (xm Y) 6 ((t + n) % 2048) 1) 0 3 (xm Y 0 3 + 1)) 0 141 ((t + n) % 2048) = 0 := by
            unfold m0; rw [su_na (by decide), su_na (by decide), su_na (by decide)]; exact q
          have e116 : m0 (su (su (xm Y) 6 ((t + n) % 2048) 1) 0 3 (xm Y 0 3 + 1)) 0 128 16 = xm Y 128 16 := by
            unfold m0; rw [su_nj (by decide), su_na (by decide), su_na (by decide)]
          rw [if_pos e141, e116]
          have o1 : ∀ a j, a < 128 → ¬ (a = 6 ∧ j = (t + n) % 2048) → ¬ (a = 0 ∧ j = 3) → su (su (m0 (su (su (xm Y) 6 ((t + n) % 2048) 1) 0 3 (xm Y 0 3 + 1)) 0) 141 ((t + n) % 2048) 1) 128 16 (xm Y 128 16 + 1) a j = xm Y a j := fun a j x y z => by
            unfold m0; rw [su_na (by omega), su_na (by omega), su_na (by omega), su_ne z, su_ne y]
          have o2 : ∀ a j, 128 ≤ a → ¬ (a = 141 ∧ j = (t + n) % 2048) → ¬ (a = 128 ∧ (j = 0 ∨ j = 16)) → su (su (m0 (su (su (xm Y) 6 ((t + n) % 2048) 1) 0 3 (xm Y 0 3 + 1)) 0) 141 ((t + n) % 2048) 1) 128 16 (xm Y 128 16 + 1) a j = xm Y a j := fun a j x y z => by
            unfold m0; rw [su_ne (by omega), su_ne y, su_ne (by omega), su_na (by omega), su_na (by omega)]
          have x1 : su (su (m0 (su (su (xm Y) 6 ((t + n) % 2048) 1) 0 3 (xm Y 0 3 + 1)) 0) 141 ((t + n) % 2048) 1) 128 16 (xm Y 128 16 + 1) 6 ((t + n) % 2048) = 1 := by
            unfold m0; rw [su_na (by decide), su_na (by decide), su_na (by decide), su_na (by decide), su_at]
          have x2 : su (su (m0 (su (su (xm Y) 6 ((t + n) % 2048) 1) 0 3 (xm Y 0 3 + 1)) 0) 141 ((t + n) % 2048) 1) 128 16 (xm Y 128 16 + 1) 141 ((t + n) % 2048) = 1 := by
            rw [su_na (by decide), su_at]
          have x3 : su (su (m0 (su (su (xm Y) 6 ((t + n) % 2048) 1) 0 3 (xm Y 0 3 + 1)) 0) 141 ((t + n) % 2048) 1) 128 16 (xm Y 128 16 + 1) 0 3 = xm Y 0 3 + 1 := by
            unfold m0; rw [su_na (by decide), su_na (by decide), su_na (by decide), su_at]
          have x4 : su (su (m0 (su (su (xm Y) 6 ((t + n) % 2048) 1) 0 3 (xm Y 0 3 + 1)) 0) 141 ((t + n) % 2048) 1) 128 16 (xm Y 128 16 + 1) 128 16 = xm Y 128 16 + 1 := su_at _ _ _ _
          generalize su (su (m0 (su (su (xm Y) 6 ((t + n) % 2048) 1) 0 3 (xm Y 0 3 + 1)) 0) 141 ((t + n) % 2048) 1) 128 16 (xm Y 128 16 + 1) = m' at o1 o2 x1 x2 x3 x4 ⊢
          obtain ⟨hr', hct'⟩ := rr_dist hj hr q x1 x2 x3 x4 o1 (fun a j x y z u => o2 a j x z u)
          exact ⟨t, d, d1, D, hr', by omega, by omega, fun j hj => by rw [o2 _ _ (by decide) (by omega) (by omega)]; exact h131 j hj, hN.fr (fun j hj => o2 _ _ (by decide) (by omega) (by omega))⟩
        · have q6 : ¬ xm Y 6 ((t + n) % 2048) = 0 := fun x => q (ee.symm.trans x)
          unfold cDis mDis
          rw [if_neg q6]
          have e141 : ¬ m0 (xm Y) 0 141 ((t + n) % 2048) = 0 := by
            unfold m0; rw [su_na (by decide)]; exact q
          rw [if_neg e141]
          exact hI.2.2.2.up.code 0
      · rw [xw_m, mDis_0]; exact m0_at _ _
      · rw [xw_L, xb_L, xsL_at, xb_m, xsL_m, xw_m, f128 _ _ (by decide), ee]
        have i10 : ¬ (1 : Int32) = 0 := by decide
        by_cases q : xm Y 141 ((t + n) % 2048) = 0
        · rw [if_pos q, if_pos q, if_neg i10]
        · rw [if_neg q, if_neg q, if_pos rfl]
theorem law_5 {L : Nat} {xsv : Nat → Int32} {X0 : Mm} {k : Kk} {i : Nat} {Y : Mm} (hL : 7 * i + 7 ≤ L) (hL2 : L ≤ 3584) (hI : Inv Y i) (hk : Kn k i) : q_law_5 L xsv X0 k (bs i) [] Y := by
  have hS := hI.1
  have r1 : xc Y + 1 ≤ xc X0 + 601024 := by have := hI.2.1; omega
  have r2 : xs Y + 6 ≤ xs X0 + 7293034 := by have := hI.2.2.1; omega
  unfold bs
  have z1 : 7 * i + 1 < L := by omega
  obtain ⟨t, d, d1, D, hr, hD, hct, h131, hN⟩ := hI.2.2.2
  have ht := hr.2.2.1
  have t1 := hr.2.2.2.2.1
  have t2 := hr.2.2.2.1
  have hD5 : D + ctF (xm Y 141) 2048 ≤ 512 := by omega
  have okc : ∀ k, t + k < 100000 → OkC (cIt (xm Y) k) := fun k hk => (rr_ok hr hD5 hk).1
  simp (disch := omega) only [e_q_law_5, i_nz2, i_nz13, i_nz64, i_nz128, i_nz256, i_nz2048, not_false_eq_true, i_10, i_01, or_true, true_or, or_false, false_or, eq_self, e_konts, e_kontn, e_push, e_iload, e_aload, e_dload, e_istore, e_astore, e_dstore, e_iinc, e_bin, e_binz, e_dbin, e_dcmp, e_i2d, e_d2i, e_i2l, e_dupr, e_dupi, e_dup2, e_if, e_icmp, e_getI, e_getR, e_putI, e_putZ, e_ald, e_ast, e_zst, e_aald, e_alen, e_iret, e_zret, e_aret, e_dret, e_vret, e_callS0, e_callV0, e_callS1, e_callV1, e_callS2, e_callV2, e_callS3, e_callV3, e_callS4, e_callV4, e_callS5, e_callV5, e_callS6, e_callV6, e_cats0, e_cats1int, e_cats2intint, e_cats3intintint, e_cats3intintref, e_cats2intref, e_cats3intrefint, e_cats3intrefref, e_cats1ref, e_cats2refint, e_cats3refintint, e_cats3refintref, e_cats2refref, e_cats3refrefint, e_cats3refrefref, e_wp, asz, lv_args, lk, rm1, rm2, List.filter, Value.category, xsm_w, xw_n, xw_k, xw_l, xw_r, xw_m, xw_w, Nat.reduceAdd, Nat.reduceEqDiff, Nat.reduceLeDiff, Nat.reduceLT, Nat.reduceBEq, Bool.not_true, Bool.not_false, Bool.and_true, Bool.and_false, Bool.true_and, Bool.false_and, if_true, if_false, reduceIte, and_true, true_and, reduceCtorEq, Nat.reduceMul, Nat.reduceSub, e_kontX, e_ks11, e_ks21, e_ks22, e_drop, e_wpT, e_throw, e_callT1, e_callT2, e_callT3, e_callT6, e_kontH, e_callH3, e_callH4, e_callH5, e_callH8, e_last, e_dast, e_lald, e_dald, e_lcmp, e_sld, e_slen, e_bp, xb_n, xb_k, xb_l, xb_r, xb_m, xb_c, xb_s, xw_c, xw_s, Nat.le_refl, xsL_n, xsL_k, xsL_l, xsL_r, xsL_m, xsL_c, xsL_s, xsD_n, xsD_k, xsD_l, xsD_r, xsD_m, xsD_c, xsD_s, forall_const, nI_al, nI_ml, nI_gel, nI_lel, nI_ltl, nI_gtl, nI_eql, nI_cl, nI_in', lit_cl, lit_in, nI_add, nI_dl, nI_rl, nI_rl2, nI_sl, r1, r2, z1]
  refine l_run hS (t := t) ht t1 (fun r => ?_) (fun n n1 n2 e0 c => ?_) (fun n hn k hk => okc k (by omega)) (fun n n1 n2 e0 c => ?_)
  · simp (disch := omega) only [i_nz2, i_nz13, i_nz64, i_nz128, i_nz256, i_nz2048, not_false_eq_true, i_10, i_01, or_true, true_or, or_false, false_or, eq_self, e_konts, e_kontn, e_push, e_iload, e_aload, e_dload, e_istore, e_astore, e_dstore, e_iinc, e_bin, e_binz, e_dbin, e_dcmp, e_i2d, e_d2i, e_i2l, e_dupr, e_dupi, e_dup2, e_if, e_icmp, e_getI, e_getR, e_putI, e_putZ, e_ald, e_ast, e_zst, e_aald, e_alen, e_iret, e_zret, e_aret, e_dret, e_vret, e_callS0, e_callV0, e_callS1, e_callV1, e_callS2, e_callV2, e_callS3, e_callV3, e_callS4, e_callV4, e_callS5, e_callV5, e_callS6, e_callV6, e_cats0, e_cats1int, e_cats2intint, e_cats3intintint, e_cats3intintref, e_cats2intref, e_cats3intrefint, e_cats3intrefref, e_cats1ref, e_cats2refint, e_cats3refintint, e_cats3refintref, e_cats2refref, e_cats3refrefint, e_cats3refrefref, e_wp, asz, lv_args, lk, rm1, rm2, List.filter, Value.category, xsm_w, xw_n, xw_k, xw_l, xw_r, xw_m, xw_w, Nat.reduceAdd, Nat.reduceEqDiff, Nat.reduceLeDiff, Nat.reduceLT, Nat.reduceBEq, Bool.not_true, Bool.not_false, Bool.and_true, Bool.and_false, Bool.true_and, Bool.false_and, if_true, if_false, reduceIte, and_true, true_and, reduceCtorEq, Nat.reduceMul, Nat.reduceSub, e_kontX, e_ks11, e_ks21, e_ks22, e_drop, e_wpT, e_throw, e_callT1, e_callT2, e_callT3, e_callT6, e_kontH, e_callH3, e_callH4, e_callH5, e_callH8, e_last, e_dast, e_lald, e_dald, e_lcmp, e_sld, e_slen, e_bp, xb_n, xb_k, xb_l, xb_r, xb_m, xb_c, xb_s, xw_c, xw_s, Nat.le_refl, xsL_n, xsL_k, xsL_l, xsL_r, xsL_m, xsL_c, xsL_s, xsD_n, xsD_k, xsD_l, xsD_r, xsD_m, xsD_c, xsD_s, forall_const, nI_al, nI_ml, nI_gel, nI_lel, nI_ltl, nI_gtl, nI_eql, nI_cl, nI_in', lit_cl, lit_in, nI_add, nI_dl, nI_rl, nI_rl2, nI_sl, shM hS, z1]
    have hr2 : RR (xm Y) (m0 (xm Y) 0) t d d1 D := hr.cg (fun _ _ _ => rfl) (fun a j x y z => su_ne z)
    have hD6 : D + ctF (m0 (xm Y) 0 141) 2048 ≤ 512 := by
      have : ctF (m0 (xm Y) 0 141) 2048 = ctF (xm Y 141) 2048 := ctF_cg _ (fun k _ => su_na (by decide))
      omega
    refine mc_run (t := t) ?hs ht ?ht (fun r2 => ?_) (fun n n1 n2 e0 => absurd ⟨n, n1, n2, e0⟩ r) (fun n hn k hk => (rr_ok hr2 hD6 (by omega)).2) (fun k => (mIt_fr (by decide) (by omega)).trans (m0_at _ _)) (fun n n1 n2 e0 => absurd ⟨n, n1, n2, e0⟩ r)
    case hs => exact hS
    case ht => exact t2
    exact tl_int hk (inv_code hI rfl) (by rw [xw_m]; exact m0_at _ _) (fun q => absurd q (by decide))
  · simp (disch := omega) only [i_nz2, i_nz13, i_nz64, i_nz128, i_nz256, i_nz2048, not_false_eq_true, i_10, i_01, or_true, true_or, or_false, false_or, eq_self, e_konts, e_kontn, e_push, e_iload, e_aload, e_dload, e_istore, e_astore, e_dstore, e_iinc, e_bin, e_binz, e_dbin, e_dcmp, e_i2d, e_d2i, e_i2l, e_dupr, e_dupi, e_dup2, e_if, e_icmp, e_getI, e_getR, e_putI, e_putZ, e_ald, e_ast, e_zst, e_aald, e_alen, e_iret, e_zret, e_aret, e_dret, e_vret, e_callS0, e_callV0, e_callS1, e_callV1, e_callS2, e_callV2, e_callS3, e_callV3, e_callS4, e_callV4, e_callS5, e_callV5, e_callS6, e_callV6, e_cats0, e_cats1int, e_cats2intint, e_cats3intintint, e_cats3intintref, e_cats2intref, e_cats3intrefint, e_cats3intrefref, e_cats1ref, e_cats2refint, e_cats3refintint, e_cats3refintref, e_cats2refref, e_cats3refrefint, e_cats3refrefref, e_wp, asz, lv_args, lk, rm1, rm2, List.filter, Value.category, xsm_w, xw_n, xw_k, xw_l, xw_r, xw_m, xw_w, Nat.reduceAdd, Nat.reduceEqDiff, Nat.reduceLeDiff, Nat.reduceLT, Nat.reduceBEq, Bool.not_true, Bool.not_false, Bool.and_true, Bool.and_false, Bool.true_and, Bool.false_and, if_true, if_false, reduceIte, and_true, true_and, reduceCtorEq, Nat.reduceMul, Nat.reduceSub, e_kontX, e_ks11, e_ks21, e_ks22, e_drop, e_wpT, e_throw, e_callT1, e_callT2, e_callT3, e_callT6, e_kontH, e_callH3, e_callH4, e_callH5, e_callH8, e_last, e_dast, e_lald, e_dald, e_lcmp, e_sld, e_slen, e_bp, xb_n, xb_k, xb_l, xb_r, xb_m, xb_c, xb_s, xw_c, xw_s, Nat.le_refl, xsL_n, xsL_k, xsL_l, xsL_r, xsL_m, xsL_c, xsL_s, xsD_n, xsD_k, xsD_l, xsD_r, xsD_m, xsD_c, xsD_s, forall_const, nI_al, nI_ml, nI_gel, nI_lel, nI_ltl, nI_gtl, nI_eql, nI_cl, nI_in', lit_cl, lit_in, nI_add, nI_dl, nI_rl, nI_rl2, nI_sl, shM hS, z1]
    have hr2 : RR (xm Y) (m0 (xm Y) 0) t d d1 D := hr.cg (fun _ _ _ => rfl) (fun a j x y z => su_ne z)
    have hD6 : D + ctF (m0 (xm Y) 0 141) 2048 ≤ 512 := by
      have : ctF (m0 (xm Y) 0 141) 2048 = ctF (xm Y 141) 2048 := ctF_cg _ (fun k _ => su_na (by decide))
      omega
    refine mc_run (t := t) ?hs2 ht ?ht2 (fun r2 => absurd ⟨n, n1, n2, e0⟩ r2) (fun n' n1' n2' e0' c' => ?_) (fun n hn k hk => (rr_ok hr2 hD6 (by omega)).2) (fun k => (mIt_fr (by decide) (by omega)).trans (m0_at _ _)) (fun n' n1' n2' e0' c' => ?_)
    case hs2 => exact hS
    case ht2 => exact t2
    · exact tl_int hk (inv_code hI rfl) (by rw [xw_m]; exact m0_at _ _) (fun q => absurd q (by decide))
    · exfalso
      have := (nI_eq (by omega) (by omega)).mp (e0.symm.trans e0')
      omega
  · simp (disch := omega) only [i_nz2, i_nz13, i_nz64, i_nz128, i_nz256, i_nz2048, not_false_eq_true, i_10, i_01, or_true, true_or, or_false, false_or, eq_self, e_konts, e_kontn, e_push, e_iload, e_aload, e_dload, e_istore, e_astore, e_dstore, e_iinc, e_bin, e_binz, e_dbin, e_dcmp, e_i2d, e_d2i, e_i2l, e_dupr, e_dupi, e_dup2, e_if, e_icmp, e_getI, e_getR, e_putI, e_putZ, e_ald, e_ast, e_zst, e_aald, e_alen, e_iret, e_zret, e_aret, e_dret, e_vret, e_callS0, e_callV0, e_callS1, e_callV1, e_callS2, e_callV2, e_callS3, e_callV3, e_callS4, e_callV4, e_callS5, e_callV5, e_callS6, e_callV6, e_cats0, e_cats1int, e_cats2intint, e_cats3intintint, e_cats3intintref, e_cats2intref, e_cats3intrefint, e_cats3intrefref, e_cats1ref, e_cats2refint, e_cats3refintint, e_cats3refintref, e_cats2refref, e_cats3refrefint, e_cats3refrefref, e_wp, asz, lv_args, lk, rm1, rm2, List.filter, Value.category, xsm_w, xw_n, xw_k, xw_l, xw_r, xw_m, xw_w, Nat.reduceAdd, Nat.reduceEqDiff, Nat.reduceLeDiff, Nat.reduceLT, Nat.reduceBEq, Bool.not_true, Bool.not_false, Bool.and_true, Bool.and_false, Bool.true_and, Bool.false_and, if_true, if_false, reduceIte, and_true, true_and, reduceCtorEq, Nat.reduceMul, Nat.reduceSub, e_kontX, e_ks11, e_ks21, e_ks22, e_drop, e_wpT, e_throw, e_callT1, e_callT2, e_callT3, e_callT6, e_kontH, e_callH3, e_callH4, e_callH5, e_callH8, e_last, e_dast, e_lald, e_dald, e_lcmp, e_sld, e_slen, e_bp, xb_n, xb_k, xb_l, xb_r, xb_m, xb_c, xb_s, xw_c, xw_s, Nat.le_refl, xsL_n, xsL_k, xsL_l, xsL_r, xsL_m, xsL_c, xsL_s, xsD_n, xsD_k, xsD_l, xsD_r, xsD_m, xsD_c, xsD_s, forall_const, nI_al, nI_ml, nI_gel, nI_lel, nI_ltl, nI_gtl, nI_eql, nI_cl, nI_in', lit_cl, lit_in, nI_add, nI_dl, nI_rl, nI_rl2, nI_sl, shM hS, z1]
    have f128 : ∀ a j, 128 ≤ a → cIt (xm Y) n a j = xm Y a j := fun a j x => cIt_fr (fun k hk => okc k (by omega)) x
    have hr2 : RR (xm Y) (m0 (cIt (xm Y) n) 0) t d d1 D := hr.cg (fun _ _ _ => rfl) (fun a j x y z => (su_ne z).trans (f128 a j x))
    have hc6 : ctF (m0 (cIt (xm Y) n) 0 141) 2048 = ctF (xm Y 141) 2048 := ctF_cg _ (fun k _ => (su_na (by decide)).trans (f128 _ _ (by decide)))
    have hD6 : D + ctF (m0 (cIt (xm Y) n) 0 141) 2048 ≤ 512 := by omega
    refine mc_run (t := t) ?hs3 ht ?ht3 (fun r2 => absurd ⟨n, n1, n2, e0⟩ r2) (fun n' n1' n2' e0' c' => ?_) (fun n hn k hk => ?_) (fun k => (mIt_fr (by decide) (by omega)).trans (m0_at _ _)) (fun n' n1' n2' e0' c' => ?_)
    case hs3 => exact hS
    case ht3 => rw [xb_m, xsL_m, xw_m, f128 _ _ (by decide)]; exact t2
    · exfalso
      have := (nI_eq (by omega) (by omega)).mp (e0.symm.trans e0')
      omega
    · rw [xb_m, xsL_m, xw_m]; exact (rr_ok hr2 hD6 (by omega)).2
    · have := (nI_eq (by omega) (by omega)).mp (e0.symm.trans e0')
      subst this
      obtain ⟨d', d1', D', hr', hc', hd'⟩ := rr_it hr2 hD6 n c
      refine tl_int hk (hI.next hS rfl rfl ?_) ?_ (fun _ => ?_)
      · rw [xw_m, xb_m, xsL_m, xw_m]
        have hr9 : RR (mIt (m0 (cIt (xm Y) n) 0) n) (mIt (m0 (cIt (xm Y) n) 0) n) (t + n) d' d1' D' := hr'.cg (fun a j x => (mIt_fr (by omega) (by omega)).trans (su_na (by omega))) (fun _ _ _ _ _ => rfl)
        have hN2 : NT (m0 (cIt (xm Y) n) 0) := hN.fr (fun j hj => (su_nj (by omega)).trans (f128 _ _ (by decide)))
        refine ⟨t + n, d', d1', D', hr9, by omega, by omega, fun j hj => ?_, hN2.it n⟩
        rw [mIt_fr (by decide) (by omega)]
        have e131 : m0 (cIt (xm Y) n) 0 131 j = xm Y 131 j := (su_na (by decide)).trans (f128 _ _ (by decide))
        rw [e131]; exact h131 j hj
      · rw [xw_m, xb_m, xsL_m, xw_m, mIt_fr (by decide) (by omega)]; exact m0_at _ _
      · rw [xw_L, xb_L, xsL_at, xb_m, xsL_m, xw_m, hr'.2.2.2.2.1, hr'.2.2.2.1]
