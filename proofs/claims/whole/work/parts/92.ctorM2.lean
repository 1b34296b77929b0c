theorem mi_np {X Y : Mm} {q T j kd N : Nat} {f : Nat → Int32} {n : Int32} {k : Kk} (hq : q < 17) (h : MI X Y q T f) (hr : shr 128 j = some (129 + q)) (hkd : kd = shk (129 + q)) (hN : N = shl (129 + q)) (hi : ∀ t, iniM (129 + q) t = 0) (h1 : ¬ n < 0) (h2 : n.toNatClampNeg = N) (h3 : N ≤ 10000) (hs : T + N ≤ 20533) (hk : ∀ Z, MI X Z (q + 1) (T + N) f → k [(0, .ref 128)] [] Z) : i_aload 0 (i_push (.int n) (i_newa kd X 17 20533 (i_putR 4 j k))) [(0, .ref 128)] [] Y := by
  have h' := h
  obtain ⟨a1, a2, a3, a4, a5, a6, a7, a8, a9⟩ := h
  refine np (o := 128) (N := N) rfl ⟨Or.inl (by show 128 < xn Y; omega), trivial⟩ (by omega) a5 (by omega) h1 h2 h3 (by omega) (by omega) ?_
  intro Z ⟨z1, z2, z3, z4, z5, z6, z7, z8, z9, z10, z11, z12⟩
  refine hk Z (mi_add h' hr z1 z2 z3 z4 z5 z6 z7 z8 z9 (z10.trans hkd) (z11.trans hN) (fun t _ => ?_))
  rw [z12, hi]
theorem mi_np8 {X Y : Mm} {q T j : Nat} {f : Nat → Int32} {k : Kk} {v0 v1 v2 v3 v4 v5 v6 v7 : Int32} (hq : q < 17) (h : MI X Y q T f) (hr : shr 128 j = some (129 + q)) (hkd : 10 = shk (129 + q)) (hN : 8 = shl (129 + q)) (hi : iniM (129 + q) 0 = v0 ∧ iniM (129 + q) 1 = v1 ∧ iniM (129 + q) 2 = v2 ∧ iniM (129 + q) 3 = v3 ∧ iniM (129 + q) 4 = v4 ∧ iniM (129 + q) 5 = v5 ∧ iniM (129 + q) 6 = v6 ∧ iniM (129 + q) 7 = v7) (hs : T + 8 ≤ 20533) (hk : ∀ Z, MI X Z (q + 1) (T + 8) f → k [(0, .ref 128)] [] Z) : i_aload 0 (i_push (.int 8) (i_newa 10 X 17 20533 (i_dup (i_push (.int 0) (i_push (.int v0) (i_ast (i_dup (i_push (.int 1) (i_push (.int v1) (i_ast (i_dup (i_push (.int 2) (i_push (.int v2) (i_ast (i_dup (i_push (.int 3) (i_push (.int v3) (i_ast (i_dup (i_push (.int 4) (i_push (.int v4) (i_ast (i_dup (i_push (.int 5) (i_push (.int v5) (i_ast (i_dup (i_push (.int 6) (i_push (.int v6) (i_ast (i_dup (i_push (.int 7) (i_push (.int v7) (i_ast (i_putR 4 j k))))))))))))))))))))))))))))))))))) [(0, .ref 128)] [] Y := by
  have h' := h
  obtain ⟨a1, a2, a3, a4, a5, a6, a7, a8, a9⟩ := h
  have hne : ¬ 128 = xn Y := by omega
  have h128 : 128 < xn Y + 1 := by omega
  have hlt : xn Y < xn Y + 1 := by omega
  rw [e_aload]
  show i_push _ _ [(0, .ref 128)] [.ref 128] Y
  rw [e_push, e_newa]
  refine ⟨⟨Or.inl (by show 128 < xn Y; omega), trivial⟩, ⟨Or.inl (by show 128 < xn Y; omega), trivial⟩, by show xn Y < 900; omega, by decide, by decide, by show xc Y + 1 ≤ _; omega, by show xs Y + 8 ≤ _; omega, ?_⟩
  have e8 : (8 : Int32).toNatClampNeg = 8 := rfl
  rw [e8]
  generalize hM : xnew Y 10 8 8 = M
  have m1 : xn M = xn Y + 1 := by rw [← hM]; rfl
  have m2 : xc M = xc Y + 1 := by rw [← hM]; rfl
  have m3 : xs M = xs Y + 8 := by rw [← hM]; rfl
  have m4 : ∀ k, k < xn Y → RowEq Y M k := fun k hk => by rw [← hM]; exact row_new hk
  have m5 : xk M (xn Y) = 10 := by rw [← hM, xnew_k, if_pos rfl]
  have m6 : xl M (xn Y) = 8 := by rw [← hM, xnew_l, if_pos rfl]
  have m7 : xk M 128 = 4 := (m4 128 (by omega)).1.trans a5
  have i0 : 0 < 8 := by decide
  have i1 : 1 < 8 := by decide
  have i2 : 2 < 8 := by decide
  have i3 : 3 < 8 := by decide
  have i4 : 4 < 8 := by decide
  have i5 : 5 < 8 := by decide
  have i6 : 6 < 8 := by decide
  have i7 : 7 < 8 := by decide
  have c1 : xn Y < xn M := by omega
  have c2 : 128 < xn M := by omega
  clear hM
  simp (disch := omega) only [i_nz2, i_nz13, i_nz64, i_nz128, i_nz256, i_nz2048, not_false_eq_true, i_10, i_01, or_true, true_or, or_false, false_or, eq_self, e_konts, e_kontn, e_push, e_iload, e_aload, e_dload, e_istore, e_astore, e_dstore, e_iinc, e_bin, e_binz, e_dbin, e_dcmp, e_i2d, e_d2i, e_i2l, e_dupr, e_dupi, e_dup2, e_if, e_icmp, e_getI, e_getR, e_putI, e_putZ, e_ald, e_ast, e_zst, e_aald, e_alen, e_iret, e_zret, e_aret, e_dret, e_vret, e_callS0, e_callV0, e_callS1, e_callV1, e_callS2, e_callV2, e_callS3, e_callV3, e_callS4, e_callV4, e_callS5, e_callV5, e_callS6, e_callV6, e_cats0, e_cats1int, e_cats2intint, e_cats3intintint, e_cats3intintref, e_cats2intref, e_cats3intrefint, e_cats3intrefref, e_cats1ref, e_cats2refint, e_cats3refintint, e_cats3refintref, e_cats2refref, e_cats3refrefint, e_cats3refrefref, e_wp, asz, lv_args, lk, rm1, rm2, List.filter, Value.category, xsm_w, xw_n, xw_k, xw_l, xw_r, xw_m, xw_w, Nat.reduceAdd, Nat.reduceEqDiff, Nat.reduceLeDiff, Nat.reduceLT, Nat.reduceBEq, Bool.not_true, Bool.not_false, Bool.and_true, Bool.and_false, Bool.true_and, Bool.false_and, if_true, if_false, reduceIte, and_true, true_and, reduceCtorEq, Nat.reduceMul, Nat.reduceSub, m5, m6, m7, c1, c2, e_putR, lit_in, lit_cl, i0, i1, i2, i3, i4, i5, i6, i7]
  generalize hm : su (su (su (su (su (su (su (su (xm M) (xn Y) 0 v0) (xn Y) 1 v1) (xn Y) 2 v2) (xn Y) 3 v3) (xn Y) 4 v4) (xn Y) 5 v5) (xn Y) 6 v6) (xn Y) 7 v7 = m
  have hmo : ∀ k, k ≠ xn Y → m k = xm M k := by
    intro k hk
    subst hm
    funext i
    rw [su_na hk, su_na hk, su_na hk, su_na hk, su_na hk, su_na hk, su_na hk, su_na hk]
  have hb : ∀ t, t < 8 → m (xn Y) t = iniM (129 + q) t := by
    intro t ht
    subst hm
    obtain ⟨b0, b1, b2, b3, b4, b5, b6, b7⟩ := hi
    rcases (show t = 0 ∨ t = 1 ∨ t = 2 ∨ t = 3 ∨ t = 4 ∨ t = 5 ∨ t = 6 ∨ t = 7 by omega) with rfl | rfl | rfl | rfl | rfl | rfl | rfl | rfl
    · rw [b0]; simp only [su_app, false_and, and_false, and_self, Nat.reduceEqDiff, if_false, if_true, eq_self]
    · rw [b1]; simp only [su_app, false_and, and_false, and_self, Nat.reduceEqDiff, if_false, if_true, eq_self]
    · rw [b2]; simp only [su_app, false_and, and_false, and_self, Nat.reduceEqDiff, if_false, if_true, eq_self]
    · rw [b3]; simp only [su_app, false_and, and_false, and_self, Nat.reduceEqDiff, if_false, if_true, eq_self]
    · rw [b4]; simp only [su_app, false_and, and_false, and_self, Nat.reduceEqDiff, if_false, if_true, eq_self]
    · rw [b5]; simp only [su_app, false_and, and_false, and_self, Nat.reduceEqDiff, if_false, if_true, eq_self]
    · rw [b6]; simp only [su_app, false_and, and_false, and_self, Nat.reduceEqDiff, if_false, if_true, eq_self]
    · rw [b7]; simp only [su_app, false_and, and_false, and_self, Nat.reduceEqDiff, if_false, if_true, eq_self]
  clear hm
  have rw1 : ∀ k, k < xn Y → k ≠ 128 → RowEq Y (xsr (xw M m) 128 j (some (xn Y))) k := fun k hk hk2 => ((m4 k hk).tr (show RowEq M (xw M m) k from ⟨rfl, rfl, rfl, hmo k (by omega)⟩)).tr (row_sr (Y := xw M m) hk2)
  refine hk _ (mi_add h' hr (by rw [xsr_n, xw_n, m1]) (by rw [xsr_c]; exact m2) (by rw [xsr_s]; exact m3) rw1 ?_ ?_ ?_ ?_ (fun i hi => ?_) ?_ ?_ (fun t ht => ?_))
  · show xk M 128 = _
    exact (m4 128 (by omega)).1
  · show xl M 128 = _
    exact (m4 128 (by omega)).2.1
  · show m 128 = _
    rw [hmo 128 (by omega)]; exact (m4 128 (by omega)).2.2.2
  · rw [xsr_r, if_pos rfl, vup_at, if_pos rfl]
  · rw [xsr_r, if_pos rfl, vup_at, if_neg hi]
    show xr M 128 i = _
    rw [(m4 128 (by omega)).2.2.1]
  · show xk M (xn Y) = _
    exact m5.trans hkd
  · show xl M (xn Y) = _
    exact m6.trans hN
  · show m (xn Y) t = _
    exact hb t (by omega)
