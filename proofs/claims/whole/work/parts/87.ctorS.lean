def TlI (Y : Mm) (T : Nat) : Prop := xk Y T = 2 ∧ xl Y T = 0 ∧ xr Y T 0 = some (T + 1) ∧ xm Y T 1 = 8 ∧ xm Y T 2 = 0 ∧ xm Y T 3 = 0 ∧ xk Y (T + 1) = 10 ∧ xl Y (T + 1) = 21 ∧ ∀ k, xm Y (T + 1) k = 0
def BsC (f : Nat → Int32) (p : Int32) : Prop := f 2 = p ∧ f 3 = 0 ∧ f 4 = 0 ∧ f 5 = 0 ∧ f 6 = -1 ∧ f 7 = 1 ∧ f 8 = 0 ∧ f 9 = 0 ∧ f 10 = -1 ∧ f 11 = 0 ∧ f 12 = 0 ∧ f 13 = 0 ∧ f 14 = 0
def BsS (Y : Mm) (A : Nat) (p : Int32) : Prop := xk Y A = 1 ∧ xl Y A = 0 ∧ xk Y (A + 1) = 11 ∧ xl Y (A + 1) = 256 ∧ xk Y (A + 2) = 13 ∧ xl Y (A + 2) = 6 ∧ xr Y A 0 = some (A + 1) ∧ xr Y A 1 = some (A + 2) ∧ BsC (xm Y A) p ∧ ∀ k, xm Y (A + 1) k = 0
theorem TlI.row {Y Y' : Mm} {T : Nat} (h : TlI Y T) (r1 : RowEq Y Y' T) (r2 : RowEq Y Y' (T + 1)) : TlI Y' T := by
  unfold TlI at h ⊢
  rw [r1.1, r1.2.1, r1.2.2.1, r1.2.2.2, r2.1, r2.2.1, r2.2.2.2]; exact h
theorem BsS.row {Y Y' : Mm} {A : Nat} {p : Int32} (h : BsS Y A p) (r1 : RowEq Y Y' A) (r2 : RowEq Y Y' (A + 1)) (r3 : xk Y' (A + 2) = xk Y (A + 2)) (r4 : xl Y' (A + 2) = xl Y (A + 2)) : BsS Y' A p := by
  unfold BsS at h ⊢
  rw [r1.1, r1.2.1, r1.2.2.1, r1.2.2.2, r2.1, r2.2.1, r2.2.2.2, r3, r4]; exact h
def StI (Y : Mm) (A : Nat) (p : Int32) : Prop := BsS Y A p ∧ ∀ t, t < 6 → xr Y (A + 2) t = some (A + 3 + 2 * t) ∧ TlI Y (A + 3 + 2 * t)
theorem StI.row {Y Y' : Mm} {A : Nat} {p : Int32} (h : StI Y A p) (r : ∀ k, A ≤ k → k < A + 15 → RowEq Y Y' k) : StI Y' A p := by
  refine ⟨h.1.row (r _ (by omega) (by omega)) (r _ (by omega) (by omega)) (r _ (by omega) (by omega)).1 (r _ (by omega) (by omega)).2.1, fun t ht => ⟨?_, (h.2 t ht).2.row (r _ (by omega) (by omega)) (r _ (by omega) (by omega))⟩⟩
  rw [(r _ (by omega) (by omega)).2.2.1]; exact (h.2 t ht).1
def StL (X Y : Mm) (A : Nat) (p : Int32) (j : Nat) : Prop := xn Y = A + 3 + 2 * j ∧ xc Y = xc X + 2 + 2 * j ∧ xs Y = xs X + 262 + 25 * j ∧ (∀ k, k < A → RowEq X Y k) ∧ BsS Y A p ∧ ∀ t, t < j → xr Y (A + 2) t = some (A + 3 + 2 * t) ∧ TlI Y (A + 3 + 2 * t)
theorem row_new {Y : Mm} {c l s k : Nat} (h : k < xn Y) : RowEq Y (xnew Y c l s) k := by
  have hk : ¬ k = xn Y := by omega
  exact ⟨by rw [xnew_k, if_neg hk], by rw [xnew_l, if_neg hk], by rw [xnew_r, if_neg hk], by rw [xnew_m, if_neg hk]⟩
theorem row_sr {Y : Mm} {a j k : Nat} {v : Option Nat} (h : k ≠ a) : RowEq Y (xsr Y a j v) k := ⟨rfl, rfl, by rw [xsr_r, if_neg h], rfl⟩
theorem nf2 : nf 2 = 4 := rfl
theorem nf1 : nf 1 = 15 := rfl
theorem nf0 : nf 0 = 16 := rfl
theorem s_step {X Y : Mm} {A j : Nat} {p : Int32} {post : Option Value → Mm → Prop} {k : Kk} (hA : A < 880) (hj : j < 6) (h : StL X Y A p j) (hk1 : ∀ l Z, pickl [0, 1, 2] l = [(0, .ref A), (1, .int p), (2, .int (nI (j + 1)))] → StL X Z A p (j + 1) → k l [] Z) : f_S_init_89 X post k [(0, .ref A), (1, .int p), (2, .int (nI j))] [] Y := by
  obtain ⟨h1, h2, h3, h4, h5, h6⟩ := h
  have h5' := h5
  obtain ⟨b1, b2, b3, b4, b5, b6, b7, b8, -⟩ := h5
  have g : ¬ 6 ≤ nI j := by rw [nI_gel (by omega) (by decide)]; show ¬ 6 ≤ j; omega
  have ha : A < xn Y := by omega
  have ha2 : A + 2 < xn Y := by omega
  have hne : ¬ A + 2 = xn Y := by omega
  have hlt : xn Y < xn Y + 1 := by omega
  have a1 : A < xn Y + 1 := by omega
  have a2 : A + 2 < xn Y + 1 := by omega
  have c1 : xn Y < 900 := by omega
  have c2 : xc Y + 1 ≤ xc X + 14 := by omega
  have c3 : xs Y + 4 ≤ xs X + 412 := by omega
  have c4 : xc Y + 1 + 1 ≤ xc X + 14 := by omega
  have c5 : xs Y + 4 + 21 ≤ xs X + 412 := by omega
  simp (disch := omega) only [e_f_S_init_89, i_nz2, i_nz13, i_nz64, i_nz128, i_nz256, i_nz2048, not_false_eq_true, i_10, i_01, or_true, true_or, or_false, false_or, eq_self, e_konts, e_kontn, e_push, e_iload, e_aload, e_dload, e_istore, e_astore, e_dstore, e_iinc, e_bin, e_binz, e_dbin, e_dcmp, e_i2d, e_d2i, e_i2l, e_dupr, e_dupi, e_dup2, e_if, e_icmp, e_getI, e_getR, e_putI, e_putZ, e_ald, e_ast, e_zst, e_aald, e_alen, e_iret, e_zret, e_aret, e_dret, e_vret, e_callS0, e_callV0, e_callS1, e_callV1, e_callS2, e_callV2, e_callS3, e_callV3, e_callS4, e_callV4, e_callS5, e_callV5, e_callS6, e_callV6, e_cats0, e_cats1int, e_cats2intint, e_cats3intintint, e_cats3intintref, e_cats2intref, e_cats3intrefint, e_cats3intrefref, e_cats1ref, e_cats2refint, e_cats3refintint, e_cats3refintref, e_cats2refref, e_cats3refrefint, e_cats3refrefref, e_wp, asz, lv_args, lk, rm1, rm2, List.filter, Value.category, xsm_w, xw_n, xw_k, xw_l, xw_r, xw_m, xw_w, Nat.reduceAdd, Nat.reduceEqDiff, Nat.reduceLeDiff, Nat.reduceLT, Nat.reduceBEq, Bool.not_true, Bool.not_false, Bool.and_true, Bool.and_false, Bool.true_and, Bool.false_and, if_true, if_false, reduceIte, and_true, true_and, reduceCtorEq, Nat.reduceMul, Nat.reduceSub, e_new, e_callI0, okl_r, okl_i, okl_n, oks_r, oks_i, oks_n, b1, b8, g, ha, ha2, hlt, a1, a2, c1, c2, c3, c4, c5, nf2, xnew_n, xnew_c, xnew_s]
  refine i_T (X := xnew Y 2 0 4) (o := xn Y) (by show xn Y < xn Y + 1; omega) (by rw [xnew_k, if_pos rfl]) (by show xn Y + 1 < 900; omega) ?_
  intro X' q1 q2 q3 q4 q5 q6 q7 q8 q9 q10 q11 q12 q13
  have qn : xn X' = A + 3 + 2 * j + 2 := by rw [q1, xnew_n, h1]
  have r0 : ∀ k, k < xn Y → RowEq Y X' k := fun k hk => (row_new hk).tr (q4 k (by show k < xn Y + 1; omega) (by omega))
  have e13 : xk X' (A + 2) = 13 := (r0 _ ha2).1.trans b5
  have e6 : xl X' (A + 2) = 6 := (r0 _ ha2).2.1.trans b6
  have d1 : A + 2 < xn X' := by omega
  have d2 : xn Y < xn X' := by omega
  simp (disch := omega) only [i_nz2, i_nz13, i_nz64, i_nz128, i_nz256, i_nz2048, not_false_eq_true, i_10, i_01, or_true, true_or, or_false, false_or, eq_self, e_konts, e_kontn, e_push, e_iload, e_aload, e_dload, e_istore, e_astore, e_dstore, e_iinc, e_bin, e_binz, e_dbin, e_dcmp, e_i2d, e_d2i, e_i2l, e_dupr, e_dupi, e_dup2, e_if, e_icmp, e_getI, e_getR, e_putI, e_putZ, e_ald, e_ast, e_zst, e_aald, e_alen, e_iret, e_zret, e_aret, e_dret, e_vret, e_callS0, e_callV0, e_callS1, e_callV1, e_callS2, e_callV2, e_callS3, e_callV3, e_callS4, e_callV4, e_callS5, e_callV5, e_callS6, e_callV6, e_cats0, e_cats1int, e_cats2intint, e_cats3intintint, e_cats3intintref, e_cats2intref, e_cats3intrefint, e_cats3intrefref, e_cats1ref, e_cats2refint, e_cats3refintint, e_cats3refintref, e_cats2refref, e_cats3refrefint, e_cats3refrefref, e_wp, asz, lv_args, lk, rm1, rm2, List.filter, Value.category, xsm_w, xw_n, xw_k, xw_l, xw_r, xw_m, xw_w, Nat.reduceAdd, Nat.reduceEqDiff, Nat.reduceLeDiff, Nat.reduceLT, Nat.reduceBEq, Bool.not_true, Bool.not_false, Bool.and_true, Bool.and_false, Bool.true_and, Bool.false_and, if_true, if_false, reduceIte, and_true, true_and, reduceCtorEq, Nat.reduceMul, Nat.reduceSub, e_aast, e13, e6, d1, d2, q5, nI_al, nI_ml, nI_gel, nI_lel, nI_ltl, nI_gtl, nI_eql, nI_cl, nI_in', lit_cl, lit_in, nI_add, nI_dl, nI_rl, nI_rl2, nI_sl, hj]
  refine hk1 _ _ rfl ⟨?_, ?_, ?_, fun k hk => ?_, ?_, fun t ht => ?_⟩
  · rw [xsr_n, qn]; omega
  · rw [xsr_c, q2, xnew_c, h2]; omega
  · rw [xsr_s, q3, xnew_s, h3]; omega
  · exact ((h4 k hk).tr (r0 k (by omega))).tr (row_sr (by omega))
  · exact (h5'.row (r0 _ (by omega)) (r0 _ (by omega)) (r0 _ (by omega)).1 (r0 _ (by omega)).2.1).row (row_sr (by omega)) (row_sr (by omega)) rfl rfl
  · have eT : ∀ T, A + 2 < T → TlI X' T → TlI (xsr X' (A + 2) j (some (xn Y))) T := fun T hT hq => hq.row (row_sr (by omega)) (row_sr (by omega))
    by_cases c : t = j
    · subst c
      refine ⟨?_, eT _ (by omega) ?_⟩
      · rw [xsr_r, if_pos rfl, vup_at, if_pos rfl, h1]
      · rw [← h1]
        refine ⟨q5, ?_, q7, q8, q9, q10, q11, q12, q13⟩
        rw [q6, xnew_l, if_pos rfl]
    · obtain ⟨z1, z2⟩ := h6 t (by omega)
      refine ⟨?_, eT _ (by omega) (z2.row (r0 _ (by omega)) (r0 _ (by omega)))⟩
      rw [xsr_r, if_pos rfl, vup_at, if_neg c, (r0 _ ha2).2.2.1]; exact z1
