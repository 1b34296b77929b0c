def NewAt (X X' : Mm) (o j kd N : Nat) : Prop := xn X' = xn X + 1 ∧ xc X' = xc X + 1 ∧ xs X' = xs X + N ∧ (∀ k, k < xn X → k ≠ o → RowEq X X' k) ∧ xk X' o = xk X o ∧ xl X' o = xl X o ∧ xm X' o = xm X o ∧ xr X' o j = some (xn X) ∧ (∀ i, i ≠ j → xr X' o i = xr X o i) ∧ xk X' (xn X) = kd ∧ xl X' (xn X) = N ∧ xm X' (xn X) = fun _ => 0
theorem newAt {X : Mm} {o j kd N : Nat} (ho : o < xn X) : NewAt X (xsr (xnew X kd N N) o j (some (xn X))) o j kd N := by
  have hne : ¬ o = xn X := by omega
  have hne2 : ¬ xn X = o := by omega
  refine ⟨rfl, rfl, rfl, fun k hk hk2 => (row_new hk).tr (row_sr hk2), ?_, ?_, ?_, ?_, fun i hi => ?_, ?_, ?_, ?_⟩
  · rw [xsr_k, xnew_k, if_neg hne]
  · rw [xsr_l, xnew_l, if_neg hne]
  · rw [xsr_m, xnew_m, if_neg hne]
  · rw [xsr_r, if_pos rfl, vup_at, if_pos rfl]
  · rw [xsr_r, if_pos rfl, vup_at, if_neg hi, xnew_r, if_neg hne]
  · rw [xsr_k, xnew_k, if_pos rfl]
  · rw [xsr_l, xnew_l, if_pos rfl]
  · rw [xsr_m, xnew_m, if_pos rfl]
theorem np {k : Kk} {l : List (Nat × Value)} {X X0 : Mm} {mc ms o c j kd N : Nat} {n : Int32} (l0 : lk l 0 = some (.ref o)) (hl : okl (xn X) l) (ho : o < xn X) (hk : xk X o = c) (hn : xn X < 900) (h1 : ¬ n < 0) (h2 : n.toNatClampNeg = N) (h3 : N ≤ 10000) (hc : xc X + 1 ≤ xc X0 + mc) (hs : xs X + N ≤ xs X0 + ms) (h : ∀ X', NewAt X X' o j kd N → k l [] X') : i_aload 0 (i_push (.int n) (i_newa kd X0 mc ms (i_putR c j k))) l [] X := by
  have hne : ¬ o = xn X := by omega
  rw [e_aload, l0]
  show i_push _ _ l [.ref o] X
  rw [e_push, e_newa, h2]
  refine ⟨hl, ⟨Or.inl ho, trivial⟩, hn, h1, h3, hc, hs, ?_⟩
  rw [e_putR]
  exact ⟨by show o < xn X + 1; omega, by rw [xnew_k, if_neg hne]; exact hk, by show xn X < xn X + 1; omega, h _ (newAt ho)⟩
theorem npq {k : Kk} {l : List (Nat × Value)} {X X0 : Mm} {mc ms o c j kd N : Nat} {n : Int32} (l0 : lk l 0 = some (.ref o)) (hl : okl (xn X) l) (ho : o < xn X) (hk : xk X o = c) (hn : xn X < 900) (h1 : ¬ n < 0) (h2 : n.toNatClampNeg = N) (h3 : N ≤ 10000) (hc : xc X + 1 ≤ xc X0 + mc) (hs : xs X + N ≤ xs X0 + ms) (h : ∀ X', NewAt X X' o j kd N → k l [] X') : i_aload 0 (i_push (.int n) (i_newq kd X0 mc ms (i_putR c j k))) l [] X := by
  have hne : ¬ o = xn X := by omega
  rw [e_aload, l0]
  show i_push _ _ l [.ref o] X
  rw [e_push, e_newq, h2]
  refine ⟨hl, ⟨Or.inl ho, trivial⟩, hn, h1, h3, hc, hs, ?_⟩
  rw [e_putR]
  exact ⟨by show o < xn X + 1; omega, by rw [xnew_k, if_neg hne]; exact hk, by show xn X < xn X + 1; omega, h _ (newAt ho)⟩
/-- the ear's cells at the start -/
def EcI (f : Nat → Int32) : Prop := f 3 = 0 ∧ f 4 = 0 ∧ f 5 = 0 ∧ f 6 = 0 ∧ f 7 = 0 ∧ f 8 = 0 ∧ f 9 = 0 ∧ f 10 = 0 ∧ f 11 = 0 ∧ f 12 = -1000 ∧ f 13 = 0 ∧ f 14 = -1 ∧ f 15 = 0
def ErI (Y : Mm) : Prop := xk Y 2 = 0 ∧ xl Y 2 = 0 ∧ xr Y 2 0 = some 3 ∧ xr Y 2 1 = some 4 ∧ xr Y 2 2 = some 5 ∧ xk Y 3 = 10 ∧ xl Y 3 = 600 ∧ xk Y 4 = 10 ∧ xl Y 4 = 600 ∧ xk Y 5 = 10 ∧ xl Y 5 = 5 ∧ EcI (xm Y 2) ∧ xm Y 3 = (fun _ => 0) ∧ xm Y 4 = (fun _ => 0) ∧ xm Y 5 = (fun _ => 0)
theorem ErI.row {Y Y' : Mm} (h : ErI Y) (r : ∀ k, 2 ≤ k → k < 6 → RowEq Y Y' k) : ErI Y' := by
  unfold ErI at h ⊢
  rw [(r 2 (by decide) (by decide)).1, (r 2 (by decide) (by decide)).2.1, (r 2 (by decide) (by decide)).2.2.1, (r 2 (by decide) (by decide)).2.2.2, (r 3 (by decide) (by decide)).1, (r 3 (by decide) (by decide)).2.1, (r 3 (by decide) (by decide)).2.2.2, (r 4 (by decide) (by decide)).1, (r 4 (by decide) (by decide)).2.1, (r 4 (by decide) (by decide)).2.2.2, (r 5 (by decide) (by decide)).1, (r 5 (by decide) (by decide)).2.1, (r 5 (by decide) (by decide)).2.2.2]
  exact h
theorem i_E {X : Mm} (hn : xn X = 3) (hk : xk X 2 = 0) (hl : xl X 2 = 0) {post : Option Value → Mm → Prop} (h : ∀ X', xn X' = 6 → xc X' = xc X + 3 → xs X' = xs X + 1205 → (∀ k, k < 2 → RowEq X X' k) → ErI X' → post none X') : w_E_init [.ref 2] X post := by
  rw [w_E_init, e_wp, e_b_E_init_0]
  refine ⟨by show 1 ≤ 1; decide, ?_⟩
  show i_aload 0 _ [(0, .ref 2)] [] X
  rw [e_aload]
  show i_obj _ [(0, .ref 2)] [.ref 2] X
  rw [e_obj]
  refine np (o := 2) (N := 600) rfl ⟨Or.inl (by show 2 < xn X; omega), trivial⟩ (by omega) hk (by omega) (by decide) rfl (by decide) (by omega) (by omega) ?_
  intro X1 ⟨a1, a2, a3, a4, a5, a6, a7, a8, a9, a10, a11, a12⟩
  rw [hn] at a1 a8 a10 a11 a12
  refine np (o := 2) (N := 600) rfl ⟨Or.inl (by show 2 < xn X1; omega), trivial⟩ (by omega) (a5.trans hk) (by omega) (by decide) rfl (by decide) (by omega) (by omega) ?_
  intro X2 ⟨b1, b2, b3, b4, b5, b6, b7, b8, b9, b10, b11, b12⟩
  rw [a1] at b1 b8 b10 b11 b12
  refine np (o := 2) (N := 5) rfl ⟨Or.inl (by show 2 < xn X2; omega), trivial⟩ (by omega) (b5.trans (a5.trans hk)) (by omega) (by decide) rfl (by decide) (by omega) (by omega) ?_
  intro X3 ⟨c1, c2, c3, c4, c5, c6, c7, c8, c9, c10, c11, c12⟩
  rw [b1] at c1 c8 c10 c11 c12
  have h2 : 2 < xn X3 := by omega
  have k2 : xk X3 2 = 0 := c5.trans (b5.trans (a5.trans hk))
  simp (disch := omega) only [i_nz2, i_nz13, i_nz64, i_nz128, i_nz256, i_nz2048, not_false_eq_true, i_10, i_01, or_true, true_or, or_false, false_or, eq_self, e_konts, e_kontn, e_push, e_iload, e_aload, e_dload, e_istore, e_astore, e_dstore, e_iinc, e_bin, e_binz, e_dbin, e_dcmp, e_i2d, e_d2i, e_i2l, e_dupr, e_dupi, e_dup2, e_if, e_icmp, e_getI, e_getR, e_putI, e_putZ, e_ald, e_ast, e_zst, e_aald, e_alen, e_iret, e_zret, e_aret, e_dret, e_vret, e_callS0, e_callV0, e_callS1, e_callV1, e_callS2, e_callV2, e_callS3, e_callV3, e_callS4, e_callV4, e_callS5, e_callV5, e_callS6, e_callV6, e_cats0, e_cats1int, e_cats2intint, e_cats3intintint, e_cats3intintref, e_cats2intref, e_cats3intrefint, e_cats3intrefref, e_cats1ref, e_cats2refint, e_cats3refintint, e_cats3refintref, e_cats2refref, e_cats3refrefint, e_cats3refrefref, e_wp, asz, lv_args, lk, rm1, rm2, List.filter, Value.category, xsm_w, xw_n, xw_k, xw_l, xw_r, xw_m, xw_w, Nat.reduceAdd, Nat.reduceEqDiff, Nat.reduceLeDiff, Nat.reduceLT, Nat.reduceBEq, Bool.not_true, Bool.not_false, Bool.and_true, Bool.and_false, Bool.true_and, Bool.false_and, if_true, if_false, reduceIte, and_true, true_and, reduceCtorEq, Nat.reduceMul, Nat.reduceSub, k2, h2, e_bp]
  generalize hm : su (su (su (su (su (su (su (su (su (su (su (su (su (xm X3) 2 3 0) 2 4 0) 2 5 0) 2 6 0) 2 7 0) 2 8 0) 2 9 0) 2 10 0) 2 11 0) 2 12 (-1000)) 2 13 0) 2 14 (-1)) 2 15 0 = m
  have hmo : ∀ k, k ≠ 2 → m k = xm X3 k := by
    intro k hk
    subst hm
    funext i
    rw [su_na hk, su_na hk, su_na hk, su_na hk, su_na hk, su_na hk, su_na hk, su_na hk, su_na hk, su_na hk, su_na hk, su_na hk, su_na hk]
  have hb : EcI (m 2) := by
    subst hm
    refine ⟨?_, ?_, ?_, ?_, ?_, ?_, ?_, ?_, ?_, ?_, ?_, ?_, ?_⟩ <;> simp only [su_app, false_and, and_false, and_self, Nat.reduceEqDiff, if_false, if_true, eq_self]
  clear hm
  have r3 : RowEq X2 X3 3 := c4 3 (by omega) (by decide)
  have r3' : RowEq X1 X2 3 := b4 3 (by omega) (by decide)
  have r4 : RowEq X2 X3 4 := c4 4 (by omega) (by decide)
  refine h _ c1 rfl rfl (fun k hk => ?_) ⟨k2, ?_, ?_, ?_, ?_, ?_, ?_, ?_, ?_, ?_, ?_, hb, ?_, ?_, ?_⟩
  · exact (((a4 k (by omega) (by omega)).tr (b4 k (by omega) (by omega))).tr (c4 k (by omega) (by omega))).tr ⟨rfl, rfl, rfl, hmo k (by omega)⟩
  · show xl X3 2 = 0
    exact c6.trans (b6.trans (a6.trans hl))
  · show xr X3 2 0 = some 3
    rw [c9 0 (by decide), b9 0 (by decide)]; exact a8
  · show xr X3 2 1 = some 4
    rw [c9 1 (by decide)]; exact b8
  · exact c8
  · show xk X3 3 = 10
    rw [r3.1, r3'.1]; exact a10
  · show xl X3 3 = 600
    rw [r3.2.1, r3'.2.1]; exact a11
  · show xk X3 4 = 10
    rw [r4.1]; exact b10
  · show xl X3 4 = 600
    rw [r4.2.1]; exact b11
  · exact c10
  · exact c11
  · show m 3 = _
    rw [hmo 3 (by decide), r3.2.2.2, r3'.2.2.2]; exact a12
  · show m 4 = _
    rw [hmo 4 (by decide), r4.2.2.2]; exact b12
  · show m 5 = _
    rw [hmo 5 (by decide)]; exact c12
