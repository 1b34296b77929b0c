/-! the law's loop -/
theorem xsL_n (X : Mm) (a j : Nat) (v : Int64) : xn (xsL X a j v) = xn X := rfl
theorem xsL_k (X : Mm) (a j : Nat) (v : Int64) : xk (xsL X a j v) = xk X := rfl
theorem xsL_l (X : Mm) (a j : Nat) (v : Int64) : xl (xsL X a j v) = xl X := rfl
theorem xsL_r (X : Mm) (a j : Nat) (v : Int64) : xr (xsL X a j v) = xr X := rfl
theorem xsL_m (X : Mm) (a j : Nat) (v : Int64) : xm (xsL X a j v) = xm X := rfl
theorem xsL_c (X : Mm) (a j : Nat) (v : Int64) : xc (xsL X a j v) = xc X := rfl
theorem xsL_s (X : Mm) (a j : Nat) (v : Int64) : xs (xsL X a j v) = xs X := rfl
theorem xsD_n (X : Mm) (a j : Nat) (v : UInt64) : xn (xsD X a j v) = xn X := rfl
theorem xsD_k (X : Mm) (a j : Nat) (v : UInt64) : xk (xsD X a j v) = xk X := rfl
theorem xsD_l (X : Mm) (a j : Nat) (v : UInt64) : xl (xsD X a j v) = xl X := rfl
theorem xsD_r (X : Mm) (a j : Nat) (v : UInt64) : xr (xsD X a j v) = xr X := rfl
theorem xsD_m (X : Mm) (a j : Nat) (v : UInt64) : xm (xsD X a j v) = xm X := rfl
theorem xsD_c (X : Mm) (a j : Nat) (v : UInt64) : xc (xsD X a j v) = xc X := rfl
theorem xsD_s (X : Mm) (a j : Nat) (v : UInt64) : xs (xsD X a j v) = xs X := rfl
theorem xsL_at (X : Mm) (v : Int64) : xL (xsL X 146 0 v) 146 0 = v := rfl
theorem xw_L (X : Mm) (m : Sg) : xL (xw X m) = xL X := rfl
theorem m0_at (m : Sg) (v : Int32) : m0 m v 128 0 = v := su_at _ _ _ _
def RX (m : Sg) (c : Nat) : Prop := ∃ t d d1 D, RR m m t d d1 D ∧ D + ctF (m 141) 2048 ≤ c ∧ ctF (m 141) 2048 ≤ 50 ∧ (∀ i, i < 8 → m 131 i = 0 ∨ m 131 i = 1) ∧ NT m
def Inv (X : Mm) (c : Nat) : Prop := Sh X ∧ xc X ≤ 2000 + c ∧ xs X ≤ 100000 + 6 * c ∧ RX (xm X) c
theorem RX.of {m m' : Sg} {c : Nat} (h : RX m c) (hr : ∀ t d d1 D, RR m m t d d1 D → RR m' m' t d d1 D) (e141 : ∀ k, m' 141 k = m 141 k) (e131 : ∀ i, i < 8 → m' 131 i = 0 ∨ m' 131 i = 1) (e128 : ∀ j, 18 ≤ j → m' 128 j = m 128 j) : RX m' c := by
  obtain ⟨t, d, d1, D, h1, h2, h3, h4, h5⟩ := h
  have e : ctF (m' 141) 2048 = ctF (m 141) 2048 := ctF_cg _ (fun k _ => e141 k)
  exact ⟨t, d, d1, D, hr _ _ _ _ h1, by rw [e]; exact h2, by rw [e]; exact h3, e131, h5.fr e128⟩
theorem RX.up {m : Sg} {c : Nat} (h : RX m c) : RX m (c + 1) := by
  obtain ⟨t, d, d1, D, h1, h2, h3⟩ := h
  exact ⟨t, d, d1, D, h1, Nat.le_succ_of_le h2, h3⟩
theorem RX.code {m : Sg} {c : Nat} (h : RX m c) (v : Int32) : RX (m0 m v) c :=
  h.of (fun t d d1 D r => r.cg (fun a j x => su_na (by omega)) (fun a j x y z => su_ne z)) (fun k => su_na (by decide)) (fun i hi => by
    have e : m0 m v 131 i = m 131 i := su_na (by decide)
    rw [e]; obtain ⟨-, -, -, -, -, -, -, h4, -⟩ := h; exact h4 i hi) (fun j hj => su_nj (by omega))
theorem Inv.next {Y Z : Mm} {c : Nat} (h : Inv Y c) (hs : Sh Z) (hc : xc Z = xc Y + 1) (hx : xs Z = xs Y + 6) (hr : RX (xm Z) (c + 1)) : Inv Z (c + 1) := ⟨hs, by have := h.2.1; omega, by have := h.2.2.1; omega, hr⟩
def bs (i : Nat) : List (Nat × Value) := [(0, .ref 999), (1, .ref 0), (2, .ref 128), (3, .ref 146), (4, .ref 147), (5, .int (nI (7 * i)))]
def Kn (k : Kk) (i : Nat) : Prop := ∀ l Z, pickl [0, 1, 2, 3, 4, 5] l = bs (i + 1) → Inv Z (i + 1) → k l [] Z
def tlI (K : Kk) : Kk := i_istore 7 (i_aload 2 (i_callV 0 4 w_M_thrown (i_iload 6 (i_icmp (fun x y => x = y) (i_iload 6 (i_if (fun x y => x = y) (i_aload 3 (i_push (.int 0) (i_lald (i_iload 7 (i_i2l (i_lcmp (i_if (fun x y => x = y) K (i_push (.int 0) i_lret)))))))) K)) (i_push (.int 0) i_lret)))))
def tlZ (K : Kk) : Kk := i_istore 7 (i_aload 2 (i_callV 0 4 w_M_thrown (i_iload 6 (i_icmp (fun x y => x = y) (i_iload 6 (i_if (fun x y => x = y) (i_aload 3 (i_push (.int 0) (i_lald (i_iload 7 (i_if (fun x y => x = y) (i_push (.long 0) (i_lcmp (i_if (fun x y => x = y) K (i_push (.int 0) i_lret)))) (i_push (.long 1) (i_lcmp (i_if (fun x y => x = y) K (i_push (.int 0) i_lret))))))))) K)) (i_push (.int 0) i_lret)))))
theorem lg_refl (x : Int64) : lg_cmp x x = 0 := by
  unfold lg_cmp
  rw [if_neg, if_pos rfl]
  show ¬ x < x
  rw [Int64.lt_iff_toInt_lt]; omega
theorem fin_law {L : Nat} {xsv : Nat → Int32} {X0 : Mm} {k : Kk} {i : Nat} {l : List (Nat × Value)} {Z : Mm} (hk : Kn k i) (hI : Inv Z (i + 1)) (hl : lk l 5 = some (.int (nI (7 * i)))) (hp : ∀ v, pickl [0, 1, 2, 3, 4, 5] ((5, v) :: rm1 l 5) = [(0, .ref 999), (1, .ref 0), (2, .ref 128), (3, .ref 146), (4, .ref 147), (5, v)]) : b_L_law_988 L xsv X0 k l [] Z := by
  rw [e_b_L_law_988, e_iinc, hl]
  refine hk _ Z ?_ hI
  rw [hp]
  unfold bs
  have e : nI (7 * i) + 7 = nI (7 * (i + 1)) := nI_al (7 * i) 7
  rw [e]
theorem m_thrown0 {X : Mm} (hS : Sh X) {post : Option Value → Mm → Prop} (h : post (some (.int (xm X 128 0))) X) : w_M_thrown [.ref 128] X post := by
  simp (disch := omega) only [w_M_thrown, e_b_M_thrown_0, i_nz2, i_nz13, i_nz64, i_nz128, i_nz256, i_nz2048, not_false_eq_true, i_10, i_01, or_true, true_or, or_false, false_or, eq_self, e_konts, e_kontn, e_push, e_iload, e_aload, e_dload, e_istore, e_astore, e_dstore, e_iinc, e_bin, e_binz, e_dbin, e_dcmp, e_i2d, e_d2i, e_i2l, e_dupr, e_dupi, e_dup2, e_if, e_icmp, e_getI, e_getR, e_putI, e_putZ, e_ald, e_ast, e_zst, e_aald, e_alen, e_iret, e_zret, e_aret, e_dret, e_vret, e_callS0, e_callV0, e_callS1, e_callV1, e_callS2, e_callV2, e_callS3, e_callV3, e_callS4, e_callV4, e_callS5, e_callV5, e_callS6, e_callV6, e_cats0, e_cats1int, e_cats2intint, e_cats3intintint, e_cats3intintref, e_cats2intref, e_cats3intrefint, e_cats3intrefref, e_cats1ref, e_cats2refint, e_cats3refintint, e_cats3refintref, e_cats2refref, e_cats3refrefint, e_cats3refrefref, e_wp, asz, lv_args, lk, rm1, rm2, List.filter, Value.category, xsm_w, xw_n, xw_k, xw_l, xw_r, xw_m, xw_w, Nat.reduceAdd, Nat.reduceEqDiff, Nat.reduceLeDiff, Nat.reduceLT, Nat.reduceBEq, Bool.not_true, Bool.not_false, Bool.and_true, Bool.and_false, Bool.true_and, Bool.false_and, if_true, if_false, reduceIte, and_true, true_and, reduceCtorEq, Nat.reduceMul, Nat.reduceSub, shM hS]
  exact h
theorem tl_int {L : Nat} {xsv : Nat → Int32} {X0 : Mm} {k : Kk} {i : Nat} {kc b : Int32} {Z : Mm} (hk : Kn k i) (hI : Inv Z (i + 1)) (hc : xm Z 128 0 = kc) (hv : kc = 0 → xL Z 146 0 = b.toInt64) : tlI (b_L_law_988 L xsv X0 k) ((6, .int kc) :: bs i) [.int b] Z := by
  have hS := hI.1
  unfold tlI bs
  simp (disch := omega) only [i_nz2, i_nz13, i_nz64, i_nz128, i_nz256, i_nz2048, not_false_eq_true, i_10, i_01, or_true, true_or, or_false, false_or, eq_self, e_konts, e_kontn, e_push, e_iload, e_aload, e_dload, e_istore, e_astore, e_dstore, e_iinc, e_bin, e_binz, e_dbin, e_dcmp, e_i2d, e_d2i, e_i2l, e_dupr, e_dupi, e_dup2, e_if, e_icmp, e_getI, e_getR, e_putI, e_putZ, e_ald, e_ast, e_zst, e_aald, e_alen, e_iret, e_zret, e_aret, e_dret, e_vret, e_callS0, e_callV0, e_callS1, e_callV1, e_callS2, e_callV2, e_callS3, e_callV3, e_callS4, e_callV4, e_callS5, e_callV5, e_callS6, e_callV6, e_cats0, e_cats1int, e_cats2intint, e_cats3intintint, e_cats3intintref, e_cats2intref, e_cats3intrefint, e_cats3intrefref, e_cats1ref, e_cats2refint, e_cats3refintint, e_cats3refintref, e_cats2refref, e_cats3refrefint, e_cats3refrefref, e_wp, asz, lv_args, lk, rm1, rm2, List.filter, Value.category, xsm_w, xw_n, xw_k, xw_l, xw_r, xw_m, xw_w, Nat.reduceAdd, Nat.reduceEqDiff, Nat.reduceLeDiff, Nat.reduceLT, Nat.reduceBEq, Bool.not_true, Bool.not_false, Bool.and_true, Bool.and_false, Bool.true_and, Bool.false_and, if_true, if_false, reduceIte, and_true, true_and, reduceCtorEq, Nat.reduceMul, Nat.reduceSub, shM hS]
  refine m_thrown0 hS ?_
  rw [hc]
  simp (disch := omega) only [i_nz2, i_nz13, i_nz64, i_nz128, i_nz256, i_nz2048, not_false_eq_true, i_10, i_01, or_true, true_or, or_false, false_or, eq_self, e_konts, e_kontn, e_push, e_iload, e_aload, e_dload, e_istore, e_astore, e_dstore, e_iinc, e_bin, e_binz, e_dbin, e_dcmp, e_i2d, e_d2i, e_i2l, e_dupr, e_dupi, e_dup2, e_if, e_icmp, e_getI, e_getR, e_putI, e_putZ, e_ald, e_ast, e_zst, e_aald, e_alen, e_iret, e_zret, e_aret, e_dret, e_vret, e_callS0, e_callV0, e_callS1, e_callV1, e_callS2, e_callV2, e_callS3, e_callV3, e_callS4, e_callV4, e_callS5, e_callV5, e_callS6, e_callV6, e_cats0, e_cats1int, e_cats2intint, e_cats3intintint, e_cats3intintref, e_cats2intref, e_cats3intrefint, e_cats3intrefref, e_cats1ref, e_cats2refint, e_cats3refintint, e_cats3refintref, e_cats2refref, e_cats3refrefint, e_cats3refrefref, e_wp, asz, lv_args, lk, rm1, rm2, List.filter, Value.category, xsm_w, xw_n, xw_k, xw_l, xw_r, xw_m, xw_w, Nat.reduceAdd, Nat.reduceEqDiff, Nat.reduceLeDiff, Nat.reduceLT, Nat.reduceBEq, Bool.not_true, Bool.not_false, Bool.and_true, Bool.and_false, Bool.true_and, Bool.false_and, if_true, if_false, reduceIte, and_true, true_and, reduceCtorEq, Nat.reduceMul, Nat.reduceSub, e_kontX, e_ks11, e_ks21, e_ks22, e_drop, e_wpT, e_throw, e_callT1, e_callT2, e_callT3, e_callT6, e_kontH, e_callH3, e_callH4, e_callH5, e_callH8, e_last, e_dast, e_lald, e_dald, e_lcmp, e_sld, e_slen, e_bp, xb_n, xb_k, xb_l, xb_r, xb_m, xb_c, xb_s, xw_c, xw_s, Nat.le_refl, shM hS, shO hS, lvT0, lit_in, Nat.reduceLT]
  have fin : b_L_law_988 L xsv X0 k [(7, .int b), (6, .int kc), (0, .ref 999), (1, .ref 0), (2, .ref 128), (3, .ref 146), (4, .ref 147), (5, .int (nI (7 * i)))] [] Z := fin_law hk hI rfl (fun v => rfl)
  by_cases c : kc = 0
  · rw [if_pos c, hv c, lg_refl, if_pos rfl]
    exact fin
  · rw [if_neg c]
    exact fin
theorem tl_bool {L : Nat} {xsv : Nat → Int32} {X0 : Mm} {k : Kk} {i : Nat} {kc b : Int32} {Z : Mm} (hk : Kn k i) (hI : Inv Z (i + 1)) (hc : xm Z 128 0 = kc) (hv : kc = 0 → xL Z 146 0 = (if b = 0 then 0 else 1)) : tlZ (b_L_law_988 L xsv X0 k) ((6, .int kc) :: bs i) [.int b] Z := by
  have hS := hI.1
  unfold tlZ bs
  simp (disch := omega) only [i_nz2, i_nz13, i_nz64, i_nz128, i_nz256, i_nz2048, not_false_eq_true, i_10, i_01, or_true, true_or, or_false, false_or, eq_self, e_konts, e_kontn, e_push, e_iload, e_aload, e_dload, e_istore, e_astore, e_dstore, e_iinc, e_bin, e_binz, e_dbin, e_dcmp, e_i2d, e_d2i, e_i2l, e_dupr, e_dupi, e_dup2, e_if, e_icmp, e_getI, e_getR, e_putI, e_putZ, e_ald, e_ast, e_zst, e_aald, e_alen, e_iret, e_zret, e_aret, e_dret, e_vret, e_callS0, e_callV0, e_callS1, e_callV1, e_callS2, e_callV2, e_callS3, e_callV3, e_callS4, e_callV4, e_callS5, e_callV5, e_callS6, e_callV6, e_cats0, e_cats1int, e_cats2intint, e_cats3intintint, e_cats3intintref, e_cats2intref, e_cats3intrefint, e_cats3intrefref, e_cats1ref, e_cats2refint, e_cats3refintint, e_cats3refintref, e_cats2refref, e_cats3refrefint, e_cats3refrefref, e_wp, asz, lv_args, lk, rm1, rm2, List.filter, Value.category, xsm_w, xw_n, xw_k, xw_l, xw_r, xw_m, xw_w, Nat.reduceAdd, Nat.reduceEqDiff, Nat.reduceLeDiff, Nat.reduceLT, Nat.reduceBEq, Bool.not_true, Bool.not_false, Bool.and_true, Bool.and_false, Bool.true_and, Bool.false_and, if_true, if_false, reduceIte, and_true, true_and, reduceCtorEq, Nat.reduceMul, Nat.reduceSub, shM hS]
  refine m_thrown0 hS ?_
  rw [hc]
  simp (disch := omega) only [i_nz2, i_nz13, i_nz64, i_nz128, i_nz256, i_nz2048, not_false_eq_true, i_10, i_01, or_true, true_or, or_false, false_or, eq_self, e_konts, e_kontn, e_push, e_iload, e_aload, e_dload, e_istore, e_astore, e_dstore, e_iinc, e_bin, e_binz, e_dbin, e_dcmp, e_i2d, e_d2i, e_i2l, e_dupr, e_dupi, e_dup2, e_if, e_icmp, e_getI, e_getR, e_putI, e_putZ, e_ald, e_ast, e_zst, e_aald, e_alen, e_iret, e_zret, e_aret, e_dret, e_vret, e_callS0, e_callV0, e_callS1, e_callV1, e_callS2, e_callV2, e_callS3, e_callV3, e_callS4, e_callV4, e_callS5, e_callV5, e_callS6, e_callV6, e_cats0, e_cats1int, e_cats2intint, e_cats3intintint, e_cats3intintref, e_cats2intref, e_cats3intrefint, e_cats3intrefref, e_cats1ref, e_cats2refint, e_cats3refintint, e_cats3refintref, e_cats2refref, e_cats3refrefint, e_cats3refrefref, e_wp, asz, lv_args, lk, rm1, rm2, List.filter, Value.category, xsm_w, xw_n, xw_k, xw_l, xw_r, xw_m, xw_w, Nat.reduceAdd, Nat.reduceEqDiff, Nat.reduceLeDiff, Nat.reduceLT, Nat.reduceBEq, Bool.not_true, Bool.not_false, Bool.and_true, Bool.and_false, Bool.true_and, Bool.false_and, if_true, if_false, reduceIte, and_true, true_and, reduceCtorEq, Nat.reduceMul, Nat.reduceSub, e_kontX, e_ks11, e_ks21, e_ks22, e_drop, e_wpT, e_throw, e_callT1, e_callT2, e_callT3, e_callT6, e_kontH, e_callH3, e_callH4, e_callH5, e_callH8, e_last, e_dast, e_lald, e_dald, e_lcmp, e_sld, e_slen, e_bp, xb_n, xb_k, xb_l, xb_r, xb_m, xb_c, xb_s, xw_c, xw_s, Nat.le_refl, shM hS, shO hS, lvT0, lit_in, Nat.reduceLT]
  have fin : b_L_law_988 L xsv X0 k [(7, .int b), (6, .int kc), (0, .ref 999), (1, .ref 0), (2, .ref 128), (3, .ref 146), (4, .ref 147), (5, .int (nI (7 * i)))] [] Z := fin_law hk hI rfl (fun v => rfl)
  by_cases c : kc = 0
  · rw [if_pos c, hv c]
    by_cases c2 : b = 0
    · rw [if_pos c2, if_pos c2, lg_refl, if_pos rfl]
      exact fin
    · rw [if_neg c2, if_neg c2, lg_refl, if_pos rfl]
      exact fin
  · rw [if_neg c]
    exact fin
theorem IN.u {p : Int32} {n i j : Nat} (hn : n < 2147483648) (hi : i < n) (hj : j < n) (e1 : p = nI i) (e2 : p = nI j) : i = j := (nI_eq (by omega) (by omega)).mp (e1.symm.trans e2)
/-- both threw: nothing has changed but the code -/
theorem inv_code {Y Z : Mm} {i : Nat} (hI : Inv Y i) {v : Int32} (hZ : Z = xw (xbump Y (xc Y + 1) (xs Y + 6)) (m0 (xm Y) v)) : Inv Z (i + 1) := by
  subst hZ
  exact hI.next hI.1 rfl rfl (hI.2.2.2.up.code v)
theorem law_0 {L : Nat} {xsv : Nat → Int32} {X0 : Mm} {k : Kk} {i : Nat} {Y : Mm} (hL : 7 * i + 7 ≤ L) (hL2 : L ≤ 3584) (hI : Inv Y i) (hk : Kn k i) : q_law_0 L xsv X0 k (bs i) [] Y := by
  have hS := hI.1
  have r1 : xc Y + 1 ≤ xc X0 + 601024 := by have := hI.2.1; omega
  have r2 : xs Y + 6 ≤ xs X0 + 7293034 := by have := hI.2.2.1; omega
  unfold bs
  have z1 : 7 * i + 1 < L := by omega
  have z2 : 7 * i + 2 < L := by omega
  simp (disch := omega) only [e_q_law_0, i_nz2, i_nz13, i_nz64, i_nz128, i_nz256, i_nz2048, not_false_eq_true, i_10, i_01, or_true, true_or, or_false, false_or, eq_self, e_konts, e_kontn, e_push, e_iload, e_aload, e_dload, e_istore, e_astore, e_dstore, e_iinc, e_bin, e_binz, e_dbin, e_dcmp, e_i2d, e_d2i, e_i2l, e_dupr, e_dupi, e_dup2, e_if, e_icmp, e_getI, e_getR, e_putI, e_putZ, e_ald, e_ast, e_zst, e_aald, e_alen, e_iret, e_zret, e_aret, e_dret, e_vret, e_callS0, e_callV0, e_callS1, e_callV1, e_callS2, e_callV2, e_callS3, e_callV3, e_callS4, e_callV4, e_callS5, e_callV5, e_callS6, e_callV6, e_cats0, e_cats1int, e_cats2intint, e_cats3intintint, e_cats3intintref, e_cats2intref, e_cats3intrefint, e_cats3intrefref, e_cats1ref, e_cats2refint, e_cats3refintint, e_cats3refintref, e_cats2refref, e_cats3refrefint, e_cats3refrefref, e_wp, asz, lv_args, lk, rm1, rm2, List.filter, Value.category, xsm_w, xw_n, xw_k, xw_l, xw_r, xw_m, xw_w, Nat.reduceAdd, Nat.reduceEqDiff, Nat.reduceLeDiff, Nat.reduceLT, Nat.reduceBEq, Bool.not_true, Bool.not_false, Bool.and_true, Bool.and_false, Bool.true_and, Bool.false_and, if_true, if_false, reduceIte, and_true, true_and, reduceCtorEq, Nat.reduceMul, Nat.reduceSub, e_kontX, e_ks11, e_ks21, e_ks22, e_drop, e_wpT, e_throw, e_callT1, e_callT2, e_callT3, e_callT6, e_kontH, e_callH3, e_callH4, e_callH5, e_callH8, e_last, e_dast, e_lald, e_dald, e_lcmp, e_sld, e_slen, e_bp, xb_n, xb_k, xb_l, xb_r, xb_m, xb_c, xb_s, xw_c, xw_s, Nat.le_refl, nI_al, nI_ml, nI_gel, nI_lel, nI_ltl, nI_gtl, nI_eql, nI_cl, nI_in', lit_cl, lit_in, nI_add, nI_dl, nI_rl, nI_rl2, nI_sl, r1, r2, z1, z2]
  refine l_address hS (fun r => ?_) (fun s a hs ha e0 e1 => ?_)
  · simp (disch := omega) only [i_nz2, i_nz13, i_nz64, i_nz128, i_nz256, i_nz2048, not_false_eq_true, i_10, i_01, or_true, true_or, or_false, false_or, eq_self, e_konts, e_kontn, e_push, e_iload, e_aload, e_dload, e_istore, e_astore, e_dstore, e_iinc, e_bin, e_binz, e_dbin, e_dcmp, e_i2d, e_d2i, e_i2l, e_dupr, e_dupi, e_dup2, e_if, e_icmp, e_getI, e_getR, e_putI, e_putZ, e_ald, e_ast, e_zst, e_aald, e_alen, e_iret, e_zret, e_aret, e_dret, e_vret, e_callS0, e_callV0, e_callS1, e_callV1, e_callS2, e_callV2, e_callS3, e_callV3, e_callS4, e_callV4, e_callS5, e_callV5, e_callS6, e_callV6, e_cats0, e_cats1int, e_cats2intint, e_cats3intintint, e_cats3intintref, e_cats2intref, e_cats3intrefint, e_cats3intrefref, e_cats1ref, e_cats2refint, e_cats3refintint, e_cats3refintref, e_cats2refref, e_cats3refrefint, e_cats3refrefref, e_wp, asz, lv_args, lk, rm1, rm2, List.filter, Value.category, xsm_w, xw_n, xw_k, xw_l, xw_r, xw_m, xw_w, Nat.reduceAdd, Nat.reduceEqDiff, Nat.reduceLeDiff, Nat.reduceLT, Nat.reduceBEq, Bool.not_true, Bool.not_false, Bool.and_true, Bool.and_false, Bool.true_and, Bool.false_and, if_true, if_false, reduceIte, and_true, true_and, reduceCtorEq, Nat.reduceMul, Nat.reduceSub, e_kontX, e_ks11, e_ks21, e_ks22, e_drop, e_wpT, e_throw, e_callT1, e_callT2, e_callT3, e_callT6, e_kontH, e_callH3, e_callH4, e_callH5, e_callH8, e_last, e_dast, e_lald, e_dald, e_lcmp, e_sld, e_slen, e_bp, xb_n, xb_k, xb_l, xb_r, xb_m, xb_c, xb_s, xw_c, xw_s, Nat.le_refl, nI_al, nI_ml, nI_gel, nI_lel, nI_ltl, nI_gtl, nI_eql, nI_cl, nI_in', lit_cl, lit_in, nI_add, nI_dl, nI_rl, nI_rl2, nI_sl, shM hS, z1, z2, forall_const]
    refine mc_address (X := xbump Y (xc Y + 1) (xs Y + 6)) hS (fun r2 => ?_) (fun s a hs ha e0 e1 => absurd ⟨⟨s, hs, e0⟩, ⟨a, ha, e1⟩⟩ r)
    exact tl_int hk (inv_code hI rfl) (by rw [xw_m]; exact m0_at _ _) (fun q => absurd q (by decide))
  · simp (disch := omega) only [i_nz2, i_nz13, i_nz64, i_nz128, i_nz256, i_nz2048, not_false_eq_true, i_10, i_01, or_true, true_or, or_false, false_or, eq_self, e_konts, e_kontn, e_push, e_iload, e_aload, e_dload, e_istore, e_astore, e_dstore, e_iinc, e_bin, e_binz, e_dbin, e_dcmp, e_i2d, e_d2i, e_i2l, e_dupr, e_dupi, e_dup2, e_if, e_icmp, e_getI, e_getR, e_putI, e_putZ, e_ald, e_ast, e_zst, e_aald, e_alen, e_iret, e_zret, e_aret, e_dret, e_vret, e_callS0, e_callV0, e_callS1, e_callV1, e_callS2, e_callV2, e_callS3, e_callV3, e_callS4, e_callV4, e_callS5, e_callV5, e_callS6, e_callV6, e_cats0, e_cats1int, e_cats2intint, e_cats3intintint, e_cats3intintref, e_cats2intref, e_cats3intrefint, e_cats3intrefref, e_cats1ref, e_cats2refint, e_cats3refintint, e_cats3refintref, e_cats2refref, e_cats3refrefint, e_cats3refrefref, e_wp, asz, lv_args, lk, rm1, rm2, List.filter, Value.category, xsm_w, xw_n, xw_k, xw_l, xw_r, xw_m, xw_w, Nat.reduceAdd, Nat.reduceEqDiff, Nat.reduceLeDiff, Nat.reduceLT, Nat.reduceBEq, Bool.not_true, Bool.not_false, Bool.and_true, Bool.and_false, Bool.true_and, Bool.false_and, if_true, if_false, reduceIte, and_true, true_and, reduceCtorEq, Nat.reduceMul, Nat.reduceSub, e_kontX, e_ks11, e_ks21, e_ks22, e_drop, e_wpT, e_throw, e_callT1, e_callT2, e_callT3, e_callT6, e_kontH, e_callH3, e_callH4, e_callH5, e_callH8, e_last, e_dast, e_lald, e_dald, e_lcmp, e_sld, e_slen, e_bp, xb_n, xb_k, xb_l, xb_r, xb_m, xb_c, xb_s, xw_c, xw_s, Nat.le_refl, xsL_n, xsL_k, xsL_l, xsL_r, xsL_m, xsL_c, xsL_s, xsD_n, xsD_k, xsD_l, xsD_r, xsD_m, xsD_c, xsD_s, forall_const, nI_al, nI_ml, nI_gel, nI_lel, nI_ltl, nI_gtl, nI_eql, nI_cl, nI_in', lit_cl, lit_in, nI_add, nI_dl, nI_rl, nI_rl2, nI_sl, shM hS, z1, z2, forall_const]
    refine mc_address ?hs (fun r => absurd ⟨⟨s, hs, e0⟩, ⟨a, ha, e1⟩⟩ r) (fun s' a' hs' ha' e0' e1' => ?_)
    case hs => exact hS
    have := IN.u (by decide) hs hs' e0 e0'
    subst this
    obtain ⟨t, d, d1, D, hr, -⟩ := hI.2.2.2
    have hss := (hr.r0 hs).s
    refine tl_int hk (hI.next hS rfl rfl ?_) (by rw [xw_m, su_na (by decide)]; exact m0_at _ _) (fun _ => ?_)
    · rw [xw_m, xb_m, xsL_m, xw_m, e1]
      have o1 : ∀ b j, b < 128 → ¬ (b = 8 + 15 * s ∧ j = 2) → su (m0 (su (xm Y) (8 + 15 * s) 2 (nI a)) 0) 129 s (nI a) b j = xm Y b j := fun b j x y => by
        unfold m0; rw [su_na (by omega), su_na (by omega), su_ne y]
      have o2 : ∀ b j, 128 ≤ b → ¬ (b = 129 ∧ j = s) → ¬ (b = 128 ∧ j = 0) → su (m0 (su (xm Y) (8 + 15 * s) 2 (nI a)) 0) 129 s (nI a) b j = xm Y b j := fun b j x y z => by
        unfold m0; rw [su_ne y, su_ne z, su_na (by omega)]
      refine (hI.2.2.2.up).of (fun t d d1 D r => rr_addr hs r ha ?_ ?_ o1 (fun b j x y z u => o2 b j x z u)) (fun k => o2 _ _ (by decide) (by omega) (by omega)) (fun j hj => ?_) (fun j hj => o2 _ _ (by decide) (by omega) (by omega))
      · unfold m0; rw [su_na (by omega), su_na (by omega), su_at]
      · rw [su_at]
      · rw [o2 _ _ (by decide) (by omega) (by omega)]; obtain ⟨-, -, -, -, -, -, -, h4, -⟩ := hI.2.2.2; exact h4 j hj
    · rw [xw_L, xb_L, xsL_at]
      rw [xb_m, xsL_m, xw_m, su_na (show (129 : Nat) ≠ 8 + 15 * s by omega), hss.1]
