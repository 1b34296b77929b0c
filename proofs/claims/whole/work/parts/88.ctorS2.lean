theorem StL.start {X M : Mm} {A : Nat} {p : Int32} (hn : xn X = A + 1) (hk : xk X A = 1) (hl : xl X A = 0) (e : M = xsr (xnew (xsr (xnew X 11 256 256) A 0 (some (xn X))) 13 6 6) A 1 (some (xn X + 1))) : xn M = A + 3 ∧ xk M A = 1 ∧ xl M A = 0 ∧ xk M (A + 1) = 11 ∧ xl M (A + 1) = 256 ∧ xk M (A + 2) = 13 ∧ xl M (A + 2) = 6 ∧ xr M A 0 = some (A + 1) ∧ xr M A 1 = some (A + 2) ∧ (∀ k, xm M (A + 1) k = 0) ∧ xc M = xc X + 2 ∧ xs M = xs X + 262 ∧ ∀ k, k < A → RowEq X M k := by
  subst e
  have n0 : ¬ A = xn X := by omega
  have n1 : ¬ A = xn X + 1 := by omega
  have n2 : A + 1 = xn X := by omega
  have n3 : ¬ A + 1 = xn X + 1 := by omega
  have n4 : A + 2 = xn X + 1 := by omega
  have n6 : ¬ A + 1 = A := by omega
  refine ⟨?_, ?_, ?_, ?_, ?_, ?_, ?_, ?_, ?_, fun k => ?_, ?_, ?_, fun k hk9 => ?_⟩
  · show xn X + 1 + 1 = _; omega
  · rw [xsr_k, xnew_k, xsr_n, xnew_n, if_neg n1, xsr_k, xnew_k, if_neg n0]; exact hk
  · rw [xsr_l, xnew_l, xsr_n, xnew_n, if_neg n1, xsr_l, xnew_l, if_neg n0]; exact hl
  · rw [xsr_k, xnew_k, xsr_n, xnew_n, if_neg n3, xsr_k, xnew_k, if_pos n2]
  · rw [xsr_l, xnew_l, xsr_n, xnew_n, if_neg n3, xsr_l, xnew_l, if_pos n2]
  · rw [xsr_k, xnew_k, xsr_n, xnew_n, if_pos n4]
  · rw [xsr_l, xnew_l, xsr_n, xnew_n, if_pos n4]
  · rw [xsr_r, if_pos rfl, vup_at, if_neg (by decide), xnew_r, xsr_n, xnew_n, if_neg n1, xsr_r, if_pos rfl, vup_at, if_pos rfl, n2]
  · rw [xsr_r, if_pos rfl, vup_at, if_pos rfl, n4]
  · rw [xsr_m, xnew_m, xsr_n, xnew_n, if_neg n3, xsr_m, xnew_m, if_pos n2]
  · show xc X + 1 + 1 = _; omega
  · show xs X + 256 + 6 = _; omega
  · exact (((row_new (by omega)).tr (row_sr (by omega))).tr (row_new (by show k < xn X + 1; omega))).tr (row_sr (by omega))
theorem s_exit {X Y : Mm} {A : Nat} {p : Int32} {post : Option Value → Mm → Prop} {k : Kk} (hs : StL X Y A p 6) (h : ∀ X', xn X' = A + 15 → xc X' = xc X + 14 → xs X' = xs X + 412 → (∀ k, k < A → RowEq X X' k) → StI X' A p → post none X') : f_S_init_89 X post k [(0, .ref A), (1, .int p), (2, .int (nI 6))] [] Y := by
  have g : 6 ≤ nI 6 := by decide
  obtain ⟨h1, h2, h3, h4, h5, h6⟩ := hs
  simp (disch := omega) only [e_f_S_init_89, i_nz2, i_nz13, i_nz64, i_nz128, i_nz256, i_nz2048, not_false_eq_true, i_10, i_01, or_true, true_or, or_false, false_or, eq_self, e_konts, e_kontn, e_push, e_iload, e_aload, e_dload, e_istore, e_astore, e_dstore, e_iinc, e_bin, e_binz, e_dbin, e_dcmp, e_i2d, e_d2i, e_i2l, e_dupr, e_dupi, e_dup2, e_if, e_icmp, e_getI, e_getR, e_putI, e_putZ, e_ald, e_ast, e_zst, e_aald, e_alen, e_iret, e_zret, e_aret, e_dret, e_vret, e_callS0, e_callV0, e_callS1, e_callV1, e_callS2, e_callV2, e_callS3, e_callV3, e_callS4, e_callV4, e_callS5, e_callV5, e_callS6, e_callV6, e_cats0, e_cats1int, e_cats2intint, e_cats3intintint, e_cats3intintref, e_cats2intref, e_cats3intrefint, e_cats3intrefref, e_cats1ref, e_cats2refint, e_cats3refintint, e_cats3refintref, e_cats2refref, e_cats3refrefint, e_cats3refrefref, e_wp, asz, lv_args, lk, rm1, rm2, List.filter, Value.category, xsm_w, xw_n, xw_k, xw_l, xw_r, xw_m, xw_w, Nat.reduceAdd, Nat.reduceEqDiff, Nat.reduceLeDiff, Nat.reduceLT, Nat.reduceBEq, Bool.not_true, Bool.not_false, Bool.and_true, Bool.and_false, Bool.true_and, Bool.false_and, if_true, if_false, reduceIte, and_true, true_and, reduceCtorEq, Nat.reduceMul, Nat.reduceSub, g, e_bp]
  exact h _ h1 rfl rfl h4 ⟨h5, h6⟩
theorem s_loop9 {X Y : Mm} {A : Nat} {p : Int32} {post : Option Value → Mm → Prop} (hA : A < 880) (hs : StL X Y A p 0) (h : ∀ X', xn X' = A + 15 → xc X' = xc X + 14 → xs X' = xs X + 412 → (∀ k, k < A → RowEq X X' k) → StI X' A p → post none X') {l : List (Nat × Value)} (hl : pickl [0, 1, 2] l = [(0, .ref A), (1, .int p), (2, .int (nI 0))]) : b_S_init_89 X post l [] Y := by
  rw [e_b_S_init_89]
  refine i_for (N := 6) (fun j => [(0, .ref A), (1, .int p), (2, .int (nI j))]) (fun j Y => StL X Y A p j) hl hs ?_ ?_
  · intro j Y k hj hP hk
    exact s_step hA hj hP hk
  · intro Y k hP
    exact s_exit hP h
theorem s_puts {X M : Mm} {A : Nat} {p : Int32} {post : Option Value → Mm → Prop} (hA : A < 880) (hX : xn M = A + 3 ∧ xk M A = 1 ∧ xl M A = 0 ∧ xk M (A + 1) = 11 ∧ xl M (A + 1) = 256 ∧ xk M (A + 2) = 13 ∧ xl M (A + 2) = 6 ∧ xr M A 0 = some (A + 1) ∧ xr M A 1 = some (A + 2) ∧ (∀ k, xm M (A + 1) k = 0) ∧ xc M = xc X + 2 ∧ xs M = xs X + 262 ∧ ∀ k, k < A → RowEq X M k) (h : ∀ X', xn X' = A + 15 → xc X' = xc X + 14 → xs X' = xs X + 412 → (∀ k, k < A → RowEq X X' k) → StI X' A p → post none X') : i_putZ 1 3 (i_aload 0 (i_push (.int 0) (i_putI 1 4 (i_aload 0 (i_push (.int 0) (i_putI 1 5 (i_aload 0 (i_push (.int (-1)) (i_putI 1 6 (i_aload 0 (i_push (.int 1) (i_putI 1 7 (i_aload 0 (i_push (.int 0) (i_putZ 1 8 (i_aload 0 (i_push (.int 0) (i_putI 1 9 (i_aload 0 (i_push (.int (-1)) (i_putI 1 10 (i_aload 0 (i_push (.int 0) (i_putI 1 11 (i_aload 0 (i_push (.int 0) (i_putI 1 12 (i_aload 0 (i_push (.int 0) (i_putI 1 13 (i_aload 0 (i_push (.int 0) (i_putI 1 14 (i_aload 0 (i_iload 1 (i_putI 1 2 (i_push (.int 0) (i_istore 2 (b_S_init_89 X post))))))))))))))))))))))))))))))))))))))) [(0, .ref A), (1, .int p)] [.int 0, .ref A] M := by
  obtain ⟨x1, x2, x3, x4, x5, x6, x7, x8, x9, x10, x11, x12, x13⟩ := hX
  have ha : A < xn M := by omega
  simp (disch := omega) only [i_nz2, i_nz13, i_nz64, i_nz128, i_nz256, i_nz2048, not_false_eq_true, i_10, i_01, or_true, true_or, or_false, false_or, eq_self, e_konts, e_kontn, e_push, e_iload, e_aload, e_dload, e_istore, e_astore, e_dstore, e_iinc, e_bin, e_binz, e_dbin, e_dcmp, e_i2d, e_d2i, e_i2l, e_dupr, e_dupi, e_dup2, e_if, e_icmp, e_getI, e_getR, e_putI, e_putZ, e_ald, e_ast, e_zst, e_aald, e_alen, e_iret, e_zret, e_aret, e_dret, e_vret, e_callS0, e_callV0, e_callS1, e_callV1, e_callS2, e_callV2, e_callS3, e_callV3, e_callS4, e_callV4, e_callS5, e_callV5, e_callS6, e_callV6, e_cats0, e_cats1int, e_cats2intint, e_cats3intintint, e_cats3intintref, e_cats2intref, e_cats3intrefint, e_cats3intrefref, e_cats1ref, e_cats2refint, e_cats3refintint, e_cats3refintref, e_cats2refref, e_cats3refrefint, e_cats3refrefref, e_wp, asz, lv_args, lk, rm1, rm2, List.filter, Value.category, xsm_w, xw_n, xw_k, xw_l, xw_r, xw_m, xw_w, Nat.reduceAdd, Nat.reduceEqDiff, Nat.reduceLeDiff, Nat.reduceLT, Nat.reduceBEq, Bool.not_true, Bool.not_false, Bool.and_true, Bool.and_false, Bool.true_and, Bool.false_and, if_true, if_false, reduceIte, and_true, true_and, reduceCtorEq, Nat.reduceMul, Nat.reduceSub, x2, ha]
  generalize hm : su (su (su (su (su (su (su (su (su (su (su (su (su (xm M) A 3 0) A 4 0) A 5 0) A 6 (-1)) A 7 1) A 8 0) A 9 0) A 10 (-1)) A 11 0) A 12 0) A 13 0) A 14 0) A 2 p = m
  have hmo : ∀ k, k ≠ A → m k = xm M k := by
    intro k hk
    subst hm
    funext i
    rw [su_na hk, su_na hk, su_na hk, su_na hk, su_na hk, su_na hk, su_na hk, su_na hk, su_na hk, su_na hk, su_na hk, su_na hk, su_na hk]
  have hb : BsC (m A) p := by
    subst hm
    refine ⟨?_, ?_, ?_, ?_, ?_, ?_, ?_, ?_, ?_, ?_, ?_, ?_, ?_⟩ <;> simp only [su_app, false_and, and_false, and_self, Nat.reduceEqDiff, if_false, if_true, eq_self]
  clear hm
  refine s_loop9 (Y := xw M m) hA ⟨x1, x11, x12, fun k hk => ?_, ⟨x2, x3, x4, x5, x6, x7, x8, x9, hb, fun k => ?_⟩, fun t ht => absurd ht (Nat.not_lt_zero t)⟩ h rfl
  · exact (x13 k hk).tr ⟨rfl, rfl, rfl, hmo k (by omega)⟩
  · rw [xw_m, hmo _ (by omega)]; exact x10 k
theorem i_S {X : Mm} {A : Nat} {p : Int32} (hA : A < 880) (hn : xn X = A + 1) (hk : xk X A = 1) (hl : xl X A = 0) {post : Option Value → Mm → Prop} (h : ∀ X', xn X' = A + 15 → xc X' = xc X + 14 → xs X' = xs X + 412 → (∀ k, k < A → RowEq X X' k) → StI X' A p → post none X') : w_S_init [.ref A, .int p] X post := by
  have hM := StL.start (p := p) hn hk hl rfl
  have hne : ¬ A = xn X := by omega
  have hne1 : ¬ A = xn X + 1 := by omega
  rw [w_S_init, e_wp, e_b_S_init_0]
  refine ⟨by show 2 ≤ 3; decide, ?_⟩
  show i_aload 0 _ [(0, .ref A), (1, .int p)] [] X
  rw [e_aload]
  show i_obj _ [(0, .ref A), (1, .int p)] [.ref A] X
  rw [e_obj, e_aload]
  show i_push _ _ [(0, .ref A), (1, .int p)] [.ref A] X
  rw [e_push, e_newa]
  refine ⟨⟨Or.inl (by show A < xn X; omega), trivial, trivial⟩, ⟨Or.inl (by show A < xn X; omega), trivial⟩, by show xn X < 900; omega, by decide, by decide, by show xc X + 1 ≤ _; omega, by show xs X + 256 ≤ _; omega, ?_⟩
  rw [e_putR]
  refine ⟨by show A < xn X + 1; omega, by rw [xnew_k, if_neg hne]; exact hk, by show xn X < xn X + 1; omega, ?_⟩
  rw [e_aload]
  show i_push _ _ [(0, .ref A), (1, .int p)] [.ref A] _
  rw [e_push, e_newq]
  refine ⟨⟨Or.inl (by show A < xn X + 1; omega), trivial, trivial⟩, ⟨Or.inl (by show A < xn X + 1; omega), trivial⟩, by show xn X + 1 < 900; omega, by decide, by decide, by show xc X + 1 + 1 ≤ _; omega, by show xs X + 256 + 6 ≤ _; omega, ?_⟩
  rw [e_putR]
  refine ⟨by show A < xn X + 1 + 1; omega, by rw [xnew_k, xsr_n, xnew_n, if_neg hne1, xsr_k, xnew_k, if_neg hne]; exact hk, by show xn X + 1 < xn X + 1 + 1; omega, ?_⟩
  rw [e_aload]
  show i_push _ _ [(0, .ref A), (1, .int p)] [.ref A] _
  rw [e_push]
  exact s_puts hA hM h
