def BuL (Y : Mm) (n : Nat) : Prop := xk Y 0 = 3 ∧ xl Y 0 = 0 ∧ xr Y 0 0 = some 1 ∧ xr Y 0 1 = some 2 ∧ xr Y 0 2 = some 6 ∧ xr Y 0 4 = some 7 ∧ xk Y 1 = 12 ∧ xl Y 1 = 8 ∧ (∀ i, i < n → xr Y 1 i = some (8 + 15 * i)) ∧ ErI Y ∧ xk Y 6 = 11 ∧ xl Y 6 = 2048 ∧ xm Y 6 = (fun _ => 0) ∧ xk Y 7 = 10 ∧ xl Y 7 = 64 ∧ xm Y 7 = (fun _ => 0) ∧ xm Y 0 3 = 0 ∧ xm Y 0 5 = 0 ∧ xm Y 0 6 = 53 ∧ ∀ i, i < n → StI Y (8 + 15 * i) (nI i)
def BuX (X Y : Mm) (n : Nat) : Prop := xn Y = 8 + 15 * n ∧ xc Y = xc X + 7 + 15 * n ∧ xs Y = xs X + 3341 + 427 * n ∧ BuL Y n
/-- all rows but the stations' array are as they were -/
theorem BuL.row {Y Y' : Mm} {n : Nat} (h : BuL Y n) (r : ∀ k, k < 8 + 15 * n → k ≠ 1 → RowEq Y Y' k) (k1 : xk Y' 1 = xk Y 1) (l1 : xl Y' 1 = xl Y 1) (r1 : ∀ i, i < n → xr Y' 1 i = xr Y 1 i) : BuL Y' n := by
  obtain ⟨a1, a2, a3, a4, a5, a6, a7, a8, a9, a10, a11, a12, a13, a14, a15, a16, a17, a18, a19, a20⟩ := h
  have r0 := r 0 (by omega) (by decide)
  have r6 := r 6 (by omega) (by decide)
  have r7 := r 7 (by omega) (by decide)
  unfold BuL
  rw [r0.1, r0.2.1, r0.2.2.1, r0.2.2.2, r6.1, r6.2.1, r6.2.2.2, r7.1, r7.2.1, r7.2.2.2, k1, l1]
  exact ⟨a1, a2, a3, a4, a5, a6, a7, a8, fun i hi => by rw [r1 i hi]; exact a9 i hi, a10.row (fun k h1 h2 => r k (by omega) (by omega)), a11, a12, a13, a14, a15, a16, a17, a18, a19, fun i hi => (a20 i hi).row (fun k h1 h2 => r k (by omega) (by omega))⟩
theorem b_step {X Y : Mm} {n : Nat} {post : Option Value → Mm → Prop} {k : Kk} (hn : n < 8) (h : BuX X Y n) (hk1 : ∀ l Z, pickl [0, 1] l = [(0, .ref 0), (1, .int (nI (n + 1)))] → BuX X Z (n + 1) → k l [] Z) : f_B_init_59 X post k [(0, .ref 0), (1, .int (nI n))] [] Y := by
  obtain ⟨h1, h2, h3, h4⟩ := h
  have h4' := h4
  obtain ⟨a1, a2, a3, a4, a5, a6, a7, a8, a9, -⟩ := h4
  have g : ¬ 8 ≤ nI n := by rw [nI_gel (by omega) (by decide)]; show ¬ 8 ≤ n; omega
  have ha : 0 < xn Y := by omega
  have ha2 : 1 < xn Y := by omega
  have hlt : xn Y < xn Y + 1 := by omega
  have b1 : 0 < xn Y + 1 := by omega
  have b2 : 1 < xn Y + 1 := by omega
  have c1 : xn Y < 900 := by omega
  have c2 : xc Y + 1 ≤ xc X + 127 := by omega
  have c3 : xs Y + 15 ≤ xs X + 6757 := by omega
  have c4 : xc Y + 1 + 14 ≤ xc X + 127 := by omega
  have c5 : xs Y + 15 + 412 ≤ xs X + 6757 := by omega
  simp (disch := omega) only [e_f_B_init_59, i_nz2, i_nz13, i_nz64, i_nz128, i_nz256, i_nz2048, not_false_eq_true, i_10, i_01, or_true, true_or, or_false, false_or, eq_self, e_konts, e_kontn, e_push, e_iload, e_aload, e_dload, e_istore, e_astore, e_dstore, e_iinc, e_bin, e_binz, e_dbin, e_dcmp, e_i2d, e_d2i, e_i2l, e_dupr, e_dupi, e_dup2, e_if, e_icmp, e_getI, e_getR, e_putI, e_putZ, e_ald, e_ast, e_zst, e_aald, e_alen, e_iret, e_zret, e_aret, e_dret, e_vret, e_callS0, e_callV0, e_callS1, e_callV1, e_callS2, e_callV2, e_callS3, e_callV3, e_callS4, e_callV4, e_callS5, e_callV5, e_callS6, e_callV6, e_cats0, e_cats1int, e_cats2intint, e_cats3intintint, e_cats3intintref, e_cats2intref, e_cats3intrefint, e_cats3intrefref, e_cats1ref, e_cats2refint, e_cats3refintint, e_cats3refintref, e_cats2refref, e_cats3refrefint, e_cats3refrefref, e_wp, asz, lv_args, lk, rm1, rm2, List.filter, Value.category, xsm_w, xw_n, xw_k, xw_l, xw_r, xw_m, xw_w, Nat.reduceAdd, Nat.reduceEqDiff, Nat.reduceLeDiff, Nat.reduceLT, Nat.reduceBEq, Bool.not_true, Bool.not_false, Bool.and_true, Bool.and_false, Bool.true_and, Bool.false_and, if_true, if_false, reduceIte, and_true, true_and, reduceCtorEq, Nat.reduceMul, Nat.reduceSub, e_new, e_callI1, okl_r, okl_i, okl_n, oks_r, oks_i, oks_n, a1, a3, g, ha, ha2, hlt, b1, b2, c1, c2, c3, c4, c5, nf1, xnew_n, xnew_c, xnew_s]
  refine i_S (X := xnew Y 1 0 15) (A := xn Y) (by omega) (by rw [xnew_n]) (by rw [xnew_k, if_pos rfl]) (by rw [xnew_l, if_pos rfl]) ?_
  intro X' q1 q2 q3 q4 q5
  have r0 : ∀ k, k < xn Y → RowEq Y X' k := fun k hk => (row_new hk).tr (q4 k hk)
  have e12 : xk X' 1 = 12 := (r0 1 ha2).1.trans a7
  have e8 : xl X' 1 = 8 := (r0 1 ha2).2.1.trans a8
  have d1 : 1 < xn X' := by omega
  have d2 : xn Y < xn X' := by omega
  have q5k : xk X' (xn Y) = 1 := q5.1.1
  simp (disch := omega) only [i_nz2, i_nz13, i_nz64, i_nz128, i_nz256, i_nz2048, not_false_eq_true, i_10, i_01, or_true, true_or, or_false, false_or, eq_self, e_konts, e_kontn, e_push, e_iload, e_aload, e_dload, e_istore, e_astore, e_dstore, e_iinc, e_bin, e_binz, e_dbin, e_dcmp, e_i2d, e_d2i, e_i2l, e_dupr, e_dupi, e_dup2, e_if, e_icmp, e_getI, e_getR, e_putI, e_putZ, e_ald, e_ast, e_zst, e_aald, e_alen, e_iret, e_zret, e_aret, e_dret, e_vret, e_callS0, e_callV0, e_callS1, e_callV1, e_callS2, e_callV2, e_callS3, e_callV3, e_callS4, e_callV4, e_callS5, e_callV5, e_callS6, e_callV6, e_cats0, e_cats1int, e_cats2intint, e_cats3intintint, e_cats3intintref, e_cats2intref, e_cats3intrefint, e_cats3intrefref, e_cats1ref, e_cats2refint, e_cats3refintint, e_cats3refintref, e_cats2refref, e_cats3refrefint, e_cats3refrefref, e_wp, asz, lv_args, lk, rm1, rm2, List.filter, Value.category, xsm_w, xw_n, xw_k, xw_l, xw_r, xw_m, xw_w, Nat.reduceAdd, Nat.reduceEqDiff, Nat.reduceLeDiff, Nat.reduceLT, Nat.reduceBEq, Bool.not_true, Bool.not_false, Bool.and_true, Bool.and_false, Bool.true_and, Bool.false_and, if_true, if_false, reduceIte, and_true, true_and, reduceCtorEq, Nat.reduceMul, Nat.reduceSub, e_aast, e12, e8, d1, d2, q5k, nI_al, nI_ml, nI_gel, nI_lel, nI_ltl, nI_gtl, nI_eql, nI_cl, nI_in', lit_cl, lit_in, nI_add, nI_dl, nI_rl, nI_rl2, nI_sl, hn]
  refine hk1 _ _ rfl ⟨?_, ?_, ?_, ?_⟩
  · rw [xsr_n, q1, h1]; omega
  · rw [xsr_c, q2, xnew_c, h2]; omega
  · rw [xsr_s, q3, xnew_s, h3]; omega
  · have hL : BuL (xsr X' 1 n (some (xn Y))) n := by
      refine h4'.row (fun k hk1 hk2 => (r0 k (by omega)).tr (row_sr hk2)) (r0 1 ha2).1 (r0 1 ha2).2.1 (fun i hi => ?_)
      rw [xsr_r, if_pos rfl, vup_at, if_neg (by omega), (r0 1 ha2).2.2.1]
    obtain ⟨z1, z2, z3, z4, z5, z6, z7, z8, z9, z10, z11, z12, z13, z14, z15, z16, z17, z18, z19, z20⟩ := hL
    refine ⟨z1, z2, z3, z4, z5, z6, z7, z8, fun i hi => ?_, z10, z11, z12, z13, z14, z15, z16, z17, z18, z19, fun i hi => ?_⟩
    · by_cases c : i = n
      · subst c; rw [xsr_r, if_pos rfl, vup_at, if_pos rfl, h1]
      · exact z9 i (by omega)
    · by_cases c : i = n
      · subst c
        rw [← h1]
        exact q5.row (fun k hk1 hk2 => row_sr (by omega))
      · exact z20 i (by omega)
theorem b_exit {X Y : Mm} {post : Option Value → Mm → Prop} {k : Kk} (hs : BuX X Y 8) (h : ∀ X', xn X' = 128 → xc X' = xc X + 127 → xs X' = xs X + 6757 → BuL X' 8 → post none X') : f_B_init_59 X post k [(0, .ref 0), (1, .int (nI 8))] [] Y := by
  have g : 8 ≤ nI 8 := by decide
  obtain ⟨h1, h2, h3, h4⟩ := hs
  simp (disch := omega) only [e_f_B_init_59, i_nz2, i_nz13, i_nz64, i_nz128, i_nz256, i_nz2048, not_false_eq_true, i_10, i_01, or_true, true_or, or_false, false_or, eq_self, e_konts, e_kontn, e_push, e_iload, e_aload, e_dload, e_istore, e_astore, e_dstore, e_iinc, e_bin, e_binz, e_dbin, e_dcmp, e_i2d, e_d2i, e_i2l, e_dupr, e_dupi, e_dup2, e_if, e_icmp, e_getI, e_getR, e_putI, e_putZ, e_ald, e_ast, e_zst, e_aald, e_alen, e_iret, e_zret, e_aret, e_dret, e_vret, e_callS0, e_callV0, e_callS1, e_callV1, e_callS2, e_callV2, e_callS3, e_callV3, e_callS4, e_callV4, e_callS5, e_callV5, e_callS6, e_callV6, e_cats0, e_cats1int, e_cats2intint, e_cats3intintint, e_cats3intintref, e_cats2intref, e_cats3intrefint, e_cats3intrefref, e_cats1ref, e_cats2refint, e_cats3refintint, e_cats3refintref, e_cats2refref, e_cats3refrefint, e_cats3refrefref, e_wp, asz, lv_args, lk, rm1, rm2, List.filter, Value.category, xsm_w, xw_n, xw_k, xw_l, xw_r, xw_m, xw_w, Nat.reduceAdd, Nat.reduceEqDiff, Nat.reduceLeDiff, Nat.reduceLT, Nat.reduceBEq, Bool.not_true, Bool.not_false, Bool.and_true, Bool.and_false, Bool.true_and, Bool.false_and, if_true, if_false, reduceIte, and_true, true_and, reduceCtorEq, Nat.reduceMul, Nat.reduceSub, g, e_bp]
  exact h _ h1 rfl rfl h4
theorem b_loop9 {X Y : Mm} {post : Option Value → Mm → Prop} (hs : BuX X Y 0) (h : ∀ X', xn X' = 128 → xc X' = xc X + 127 → xs X' = xs X + 6757 → BuL X' 8 → post none X') {l : List (Nat × Value)} (hl : pickl [0, 1] l = [(0, .ref 0), (1, .int (nI 0))]) : b_B_init_59 X post l [] Y := by
  rw [e_b_B_init_59]
  refine i_for (N := 8) (fun j => [(0, .ref 0), (1, .int (nI j))]) (fun j Y => BuX X Y j) hl hs ?_ ?_
  · intro j Y k hj hP hk
    exact b_step hj hP hk
  · intro Y k hP
    exact b_exit hP h
theorem i_B {X : Mm} (hn : xn X = 1) (hk : xk X 0 = 3) (hl : xl X 0 = 0) {post : Option Value → Mm → Prop} (h : ∀ X', xn X' = 128 → xc X' = xc X + 127 → xs X' = xs X + 6757 → BuL X' 8 → post none X') : w_B_init [.ref 0] X post := by
  rw [w_B_init, e_wp, e_b_B_init_0]
  refine ⟨by show 1 ≤ 2; decide, ?_⟩
  show i_aload 0 _ [(0, .ref 0)] [] X
  rw [e_aload]
  show i_obj _ [(0, .ref 0)] [.ref 0] X
  rw [e_obj]
  refine npq (o := 0) (N := 8) rfl ⟨Or.inl (by show 0 < xn X; omega), trivial⟩ (by omega) hk (by omega) (by decide) rfl (by decide) (by omega) (by omega) ?_
  intro X1 ⟨a1, a2, a3, a4, a5, a6, a7, a8, a9, a10, a11, a12⟩
  rw [hn] at a1 a8 a10 a11 a12
  rw [e_aload]
  show i_new _ _ _ _ _ [(0, .ref 0)] [.ref 0] X1
  rw [e_new, nf0]
  refine ⟨⟨Or.inl (by show 0 < xn X1; omega), trivial⟩, ⟨Or.inl (by show 0 < xn X1; omega), trivial⟩, by omega, by omega, by omega, ?_⟩
  rw [e_dupr, e_callI0]
  refine ⟨⟨Or.inl (by show 0 < xn X1 + 1; omega), trivial⟩, ⟨Or.inl (by show xn X1 < xn X1 + 1; omega), Or.inl (by show 0 < xn X1 + 1; omega), trivial⟩, by show cats [.ref (xn X1), .ref 0]; rw [e_cats2refref]; trivial, by rw [xnew_c]; omega, by rw [xnew_s]; omega, ?_⟩
  have e2 : xn X1 = 2 := a1
  rw [e2]
  refine i_E (X := xnew X1 0 0 16) (by rw [xnew_n, e2]) (by rw [xnew_k, if_pos e2.symm]) (by rw [xnew_l, if_pos e2.symm]) ?_
  intro X2 b1 b2 b3 b4 b5
  rw [xnew_c] at b2
  rw [xnew_s] at b3
  have rb : ∀ k, k < 2 → RowEq X1 X2 k := fun k hk => (row_new (by omega)).tr (b4 k hk)
  show i_putR 3 1 _ [(0, .ref 0)] [.ref 2, .ref 0] X2
  rw [e_putR]
  refine ⟨by omega, (rb 0 (by decide)).1.trans (a5.trans hk), by omega, ?_⟩
  generalize hX3 : xsr X2 0 1 (some 2) = X3
  have c1 : xn X3 = 6 := by rw [← hX3]; exact b1
  have c2 : xc X3 = xc X2 := by rw [← hX3]; rfl
  have c3 : xs X3 = xs X2 := by rw [← hX3]; rfl
  have c4 : ∀ k, k ≠ 0 → RowEq X2 X3 k := fun k hk => by rw [← hX3]; exact row_sr hk
  have c5 : xk X3 0 = 3 := by rw [← hX3]; exact (rb 0 (by decide)).1.trans (a5.trans hk)
  have c6 : xl X3 0 = 0 := by rw [← hX3]; exact (rb 0 (by decide)).2.1.trans (a6.trans hl)
  have c7 : xr X3 0 0 = some 1 := by rw [← hX3, xsr_r, if_pos rfl, vup_at, if_neg (by decide), (rb 0 (by decide)).2.2.1]; exact a8
  have c8 : xr X3 0 1 = some 2 := by rw [← hX3, xsr_r, if_pos rfl, vup_at, if_pos rfl]
  clear hX3
  refine np (o := 0) (N := 2048) rfl ⟨Or.inl (by show 0 < xn X3; omega), trivial⟩ (by omega) c5 (by omega) (by decide) rfl (by decide) (by omega) (by omega) ?_
  intro X4 ⟨d1, d2, d3, d4, d5, d6, d7, d8, d9, d10, d11, d12⟩
  rw [c1] at d1 d8 d10 d11 d12
  have k4 : xk X4 0 = 3 := d5.trans c5
  have h04 : 0 < xn X4 := by omega
  rw [e_aload]
  show i_push _ _ [(0, .ref 0)] [.ref 0] X4
  rw [e_push, e_putI]
  refine ⟨h04, k4, ?_⟩
  refine np (o := 0) (N := 64) rfl ⟨Or.inl (by show 0 < xn X4; omega), trivial⟩ h04 k4 (by show xn X4 < 900; omega) (by decide) rfl (by decide) (by rw [xsm_c]; omega) (by rw [xsm_s]; omega) ?_
  intro X5 ⟨f1, f2, f3, f4, f5, f6, f7, f8, f9, f10, f11, f12⟩
  have e7 : xn (xsm X4 0 3 0) = 7 := by rw [xsm_n]; omega
  rw [e7] at f1 f8 f10 f11 f12
  rw [xsm_c] at f2
  rw [xsm_s] at f3
  have k5 : xk X5 0 = 3 := f5.trans k4
  have h05 : 0 < xn X5 := by omega
  have f4' : ∀ k, k < 7 → k ≠ 0 → RowEq X4 X5 k := fun k hk hk2 => RowEq.tr (X' := xsm X4 0 3 0) ⟨rfl, rfl, rfl, by rw [xsm_m, if_neg hk2]⟩ (f4 k (by omega) hk2)
  rw [e_aload]
  show i_push _ _ [(0, .ref 0)] [.ref 0] X5
  rw [e_push, e_putI]
  refine ⟨h05, k5, ?_⟩
  rw [e_aload]
  show i_push _ _ [(0, .ref 0)] [.ref 0] _
  rw [e_push, e_putI]
  refine ⟨h05, k5, ?_⟩
  rw [e_push, e_istore]
  have m5 : ∀ k, k ≠ 0 → RowEq X5 (xsm (xsm X5 0 5 0) 0 6 53) k := fun k hk => ⟨rfl, rfl, rfl, by rw [xsm_m, if_neg hk, xsm_m, if_neg hk]⟩
  have rr : ∀ k, 1 ≤ k → k < 6 → RowEq X2 (xsm (xsm X5 0 5 0) 0 6 53) k := fun k hk hk2 => (((c4 k (by omega)).tr (d4 k (by omega) (by omega))).tr (f4' k (by omega) (by omega))).tr (m5 k (by omega))
  have r6 : RowEq X4 (xsm (xsm X5 0 5 0) 0 6 53) 6 := (f4' 6 (by omega) (by omega)).tr (m5 6 (by decide))
  have r7 := m5 7 (by decide)
  refine b_loop9 ⟨?_, ?_, ?_, ?_⟩ h rfl
  · rw [xsm_n, xsm_n, f1]
  · rw [xsm_c, xsm_c, f2, d2, c2, b2, a2]
  · rw [xsm_s, xsm_s, f3, d3, c3, b3, a3]
  · refine ⟨k5, ?_, ?_, ?_, ?_, ?_, ?_, ?_, fun i hi => absurd hi (Nat.not_lt_zero i), b5.row (fun k h1 h2 => rr k (by omega) h2), ?_, ?_, ?_, ?_, ?_, ?_, ?_, ?_, ?_, fun i hi => absurd hi (Nat.not_lt_zero i)⟩
    · show xl X5 0 = 0
      rw [f6]; exact d6.trans c6
    · show xr X5 0 0 = some 1
      rw [f9 0 (by decide), xsm_r, d9 0 (by decide)]; exact c7
    · show xr X5 0 1 = some 2
      rw [f9 1 (by decide), xsm_r, d9 1 (by decide)]; exact c8
    · show xr X5 0 2 = some 6
      rw [f9 2 (by decide), xsm_r]; exact d8
    · exact f8
    · rw [(rr 1 (by decide) (by decide)).1, (rb 1 (by decide)).1]; exact a10
    · rw [(rr 1 (by decide) (by decide)).2.1, (rb 1 (by decide)).2.1]; exact a11
    · rw [r6.1]; exact d10
    · rw [r6.2.1]; exact d11
    · rw [r6.2.2.2]; exact d12
    · rw [r7.1]; exact f10
    · rw [r7.2.1]; exact f11
    · rw [r7.2.2.2]; exact f12
    · rw [xsm_m, if_pos rfl, upd_at, if_neg (by decide), xsm_m, if_pos rfl, upd_at, if_neg (by decide), f7, xsm_m, if_pos rfl, upd_at, if_pos rfl]
    · rw [xsm_m, if_pos rfl, upd_at, if_neg (by decide), xsm_m, if_pos rfl, upd_at, if_pos rfl]
    · rw [xsm_m, if_pos rfl, upd_at, if_pos rfl]
