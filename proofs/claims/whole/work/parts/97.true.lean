theorem law_d {L : Nat} {xsv : Nat → Int32} {X0 : Mm} {k : Kk} {i : Nat} {Y : Mm} (hI : Inv Y i) (hk : Kn k i) : b_L_law_988 L xsv X0 k (bs i) [] Y := by
  unfold bs
  exact fin_law hk (hI.nx2 hI.1 (Nat.le_succ _) (Nat.le_add_right _ _) hI.2.2.2.up) rfl (fun v => rfl)
theorem i15 (x : Int32) : ∃ j, j < 16 ∧ x &&& 15 = nI j := by
  have h : (x &&& 15).toBitVec = x.toBitVec &&& 15#32 := rfl
  refine ⟨(x &&& 15).toBitVec.toNat, ?_, ?_⟩
  · rw [h, BitVec.toNat_and]
    show x.toBitVec.toNat &&& 15 < 16
    exact Nat.lt_succ_of_le Nat.and_le_right
  · apply Int32.toBitVec_inj.mp
    show _ = BitVec.ofNat 32 _
    rw [BitVec.ofNat_toNat, BitVec.setWidth_eq]
theorem law_body {L : Nat} {xsv : Nat → Int32} {X0 : Mm} {k : Kk} {i : Nat} {Y : Mm} (hL : 7 * i + 7 ≤ L) (hL2 : L ≤ 3584) (hI : Inv Y i) (hk : Kn k i) : f_L_law_28 L xsv X0 k (bs i) [] Y := by
  have z0 : 7 * i < L := by omega
  have e7 : nI L - 7 = nI (L - 7) := nI_sl (by show 7 ≤ L; omega)
  have g : ¬ nI (L - 7) < nI (7 * i) := by rw [nI_ltI (by omega) (by omega)]; omega
  have a0 := law_0 (xsv := xsv) (X0 := X0) hL hL2 hI hk
  have a1 := law_1 (xsv := xsv) (X0 := X0) hL hL2 hI hk
  have a2 := law_2 (xsv := xsv) (X0 := X0) hL hL2 hI hk
  have a3 := law_3 (xsv := xsv) (X0 := X0) hL hL2 hI hk
  have a4 := law_4 (xsv := xsv) (X0 := X0) hL hL2 hI hk
  have a5 := law_5 (xsv := xsv) (X0 := X0) hL hL2 hI hk
  have a6 := law_6 (xsv := xsv) (X0 := X0) hL hL2 hI hk
  have a7 := law_7 (xsv := xsv) (X0 := X0) hL hL2 hI hk
  have a8 := law_8 (xsv := xsv) (X0 := X0) hL hL2 hI hk
  have a9 := law_9 (xsv := xsv) (X0 := X0) hL hL2 hI hk
  have a10 := law_10 (xsv := xsv) (X0 := X0) hL hL2 hI hk
  have a11 := law_11 (xsv := xsv) (X0 := X0) hL hL2 hI hk
  have a12 := law_12 (xsv := xsv) (X0 := X0) hL hL2 hI hk
  have ad := law_d (L := L) (xsv := xsv) (X0 := X0) hI hk
  unfold bs at a0 a1 a2 a3 a4 a5 a6 a7 a8 a9 a10 a11 a12 ad ⊢
  simp (disch := omega) only [e_f_L_law_28q, i_nz2, i_nz13, i_nz64, i_nz128, i_nz256, i_nz2048, not_false_eq_true, i_10, i_01, or_true, true_or, or_false, false_or, eq_self, e_konts, e_kontn, e_push, e_iload, e_aload, e_dload, e_istore, e_astore, e_dstore, e_iinc, e_bin, e_binz, e_dbin, e_dcmp, e_i2d, e_d2i, e_i2l, e_dupr, e_dupi, e_dup2, e_if, e_icmp, e_getI, e_getR, e_putI, e_putZ, e_ald, e_ast, e_zst, e_aald, e_alen, e_iret, e_zret, e_aret, e_dret, e_vret, e_callS0, e_callV0, e_callS1, e_callV1, e_callS2, e_callV2, e_callS3, e_callV3, e_callS4, e_callV4, e_callS5, e_callV5, e_callS6, e_callV6, e_cats0, e_cats1int, e_cats2intint, e_cats3intintint, e_cats3intintref, e_cats2intref, e_cats3intrefint, e_cats3intrefref, e_cats1ref, e_cats2refint, e_cats3refintint, e_cats3refintref, e_cats2refref, e_cats3refrefint, e_cats3refrefref, e_wp, asz, lv_args, lk, rm1, rm2, List.filter, Value.category, xsm_w, xw_n, xw_k, xw_l, xw_r, xw_m, xw_w, Nat.reduceAdd, Nat.reduceEqDiff, Nat.reduceLeDiff, Nat.reduceLT, Nat.reduceBEq, Bool.not_true, Bool.not_false, Bool.and_true, Bool.and_false, Bool.true_and, Bool.false_and, if_true, if_false, reduceIte, and_true, true_and, reduceCtorEq, Nat.reduceMul, Nat.reduceSub, e_slen, e_sld, e7, g, z0, nI_cl, nI_in']
  obtain ⟨j, hj, ej⟩ := i15 (xsv (7 * i))
  rw [ej]
  rcases (show j = 0 ∨ j = 1 ∨ j = 2 ∨ j = 3 ∨ j = 4 ∨ j = 5 ∨ j = 6 ∨ j = 7 ∨ j = 8 ∨ j = 9 ∨ j = 10 ∨ j = 11 ∨ j = 12 ∨ 13 ≤ j by omega) with rfl | rfl | rfl | rfl | rfl | rfl | rfl | rfl | rfl | rfl | rfl | rfl | rfl | h13
  · rw [e_tsw_in (by omega) rfl]; exact a0
  · rw [e_tsw_in (by omega) rfl]; exact a1
  · rw [e_tsw_in (by omega) rfl]; exact a2
  · rw [e_tsw_in (by omega) rfl]; exact a3
  · rw [e_tsw_in (by omega) rfl]; exact a4
  · rw [e_tsw_in (by omega) rfl]; exact a5
  · rw [e_tsw_in (by omega) rfl]; exact a6
  · rw [e_tsw_in (by omega) rfl]; exact a7
  · rw [e_tsw_in (by omega) rfl]; exact a8
  · rw [e_tsw_in (by omega) rfl]; exact a9
  · rw [e_tsw_in (by omega) rfl]; exact a10
  · rw [e_tsw_in (by omega) rfl]; exact a11
  · rw [e_tsw_in (by omega) rfl]; exact a12
  · rw [e_tsw_out (by omega) ?hlen]
    case hlen => exact h13
    exact ad
theorem law_exit {L : Nat} {xsv : Nat → Int32} {X0 : Mm} {k : Kk} {i : Nat} {Y : Mm} (hi : i = L / 7) (hL2 : L ≤ 3584) : f_L_law_28 L xsv X0 k (bs i) [] Y := by
  have g : nI L - 7 < nI (7 * i) := by
    by_cases c : 7 ≤ L
    · have e7 : nI L - 7 = nI (L - 7) := nI_sl (by show 7 ≤ L; omega)
      rw [e7, nI_ltI (by omega) (by omega)]; omega
    · have : i = 0 := by omega
      subst this
      rcases (show L = 0 ∨ L = 1 ∨ L = 2 ∨ L = 3 ∨ L = 4 ∨ L = 5 ∨ L = 6 by omega) with rfl | rfl | rfl | rfl | rfl | rfl | rfl <;> decide
  unfold bs
  simp (disch := omega) only [e_f_L_law_28q, i_nz2, i_nz13, i_nz64, i_nz128, i_nz256, i_nz2048, not_false_eq_true, i_10, i_01, or_true, true_or, or_false, false_or, eq_self, e_konts, e_kontn, e_push, e_iload, e_aload, e_dload, e_istore, e_astore, e_dstore, e_iinc, e_bin, e_binz, e_dbin, e_dcmp, e_i2d, e_d2i, e_i2l, e_dupr, e_dupi, e_dup2, e_if, e_icmp, e_getI, e_getR, e_putI, e_putZ, e_ald, e_ast, e_zst, e_aald, e_alen, e_iret, e_zret, e_aret, e_dret, e_vret, e_callS0, e_callV0, e_callS1, e_callV1, e_callS2, e_callV2, e_callS3, e_callV3, e_callS4, e_callV4, e_callS5, e_callV5, e_callS6, e_callV6, e_cats0, e_cats1int, e_cats2intint, e_cats3intintint, e_cats3intintref, e_cats2intref, e_cats3intrefint, e_cats3intrefref, e_cats1ref, e_cats2refint, e_cats3refintint, e_cats3refintref, e_cats2refref, e_cats3refrefint, e_cats3refrefref, e_wp, asz, lv_args, lk, rm1, rm2, List.filter, Value.category, xsm_w, xw_n, xw_k, xw_l, xw_r, xw_m, xw_w, Nat.reduceAdd, Nat.reduceEqDiff, Nat.reduceLeDiff, Nat.reduceLT, Nat.reduceBEq, Bool.not_true, Bool.not_false, Bool.and_true, Bool.and_false, Bool.true_and, Bool.false_and, if_true, if_false, reduceIte, and_true, true_and, reduceCtorEq, Nat.reduceMul, Nat.reduceSub, e_slen, g]
  show (1 : Int32) = 1
  rfl
theorem rowKL {X Y : Mm} (h : BuL X 8) (r : ∀ k, k < 128 → RowEq X Y k) : BuL Y 8 := h.row (fun k hk _ => r k (by omega)) (r 1 (by decide)).1 (r 1 (by decide)).2.1 (fun i _ => by rw [(r 1 (by decide)).2.2.1])
theorem law_init {L : Nat} {xsv : Nat → Int32} {X : Mm} (hL : L ≤ 3584) (n0 : xn X = 0) (c0 : xc X = 0) (s0 : xs X = 0) : b_L_law_0 L xsv X [(0, Value.ref 999)] [] X := by
  rw [e_b_L_law_0, e_new]
  refine ⟨⟨Or.inr rfl, trivial⟩, trivial, by omega, by omega, by rw [s0]; decide, ?_⟩
  have f3 : nf 3 = 7 := rfl
  have f4 : nf 4 = 35 := rfl
  rw [e_dupr, e_callI0, f3, n0]
  refine ⟨⟨Or.inr rfl, trivial⟩, ⟨Or.inl (by show 0 < xn X + 1; omega), trivial⟩, by show cats [.ref 0]; rw [e_cats1ref]; trivial, by rw [xnew_c]; omega, by rw [xnew_s]; omega, ?_⟩
  refine i_B (X := xnew X 3 0 7) (by rw [xnew_n, n0]) (by rw [xnew_k, if_pos n0.symm]) (by rw [xnew_l, if_pos n0.symm]) ?_
  intro X1 a1 a2 a3 a4
  rw [xnew_c, c0] at a2
  rw [xnew_s, s0] at a3
  show i_astore 1 _ [(0, .ref 999)] [.ref 0] X1
  rw [e_astore]
  show i_new 4 X 601024 7293034 _ [(1, .ref 0), (0, .ref 999)] [] X1
  rw [e_new]
  refine ⟨⟨Or.inl (by show 0 < xn X1; omega), Or.inr rfl, trivial⟩, trivial, by omega, by omega, by rw [f4]; omega, ?_⟩
  rw [e_dupr, e_callI0, f4, a1]
  refine ⟨⟨Or.inl (by show 0 < xn X1 + 1; omega), Or.inr rfl, trivial⟩, ⟨Or.inl (by show 128 < xn X1 + 1; omega), trivial⟩, by show cats [.ref 128]; rw [e_cats1ref]; trivial, by rw [xnew_c]; omega, by rw [xnew_s]; omega, ?_⟩
  have rb : ∀ k, k < 128 → RowEq X1 (xnew X1 4 0 35) k := fun k hk => row_new (by omega)
  refine i_M (X := xnew X1 4 0 35) (f := fun _ => 0) (by rw [xnew_n, a1]) (by rw [xnew_k, if_pos a1.symm]) (by rw [xnew_l, if_pos a1.symm]) (by rw [xnew_m, if_pos a1.symm]) ?_
  intro X2 ⟨b1, b2, b3, b4, b5, b6, b7, b8, b9⟩
  rw [xnew_c, a2] at b2
  rw [xnew_s, a3] at b3
  show i_astore 2 _ [(1, .ref 0), (0, .ref 999)] [.ref 128] X2
  rw [e_astore]
  show i_push _ _ [(2, .ref 128), (1, .ref 0), (0, .ref 999)] [] X2
  rw [e_push, e_newa]
  refine ⟨⟨Or.inl (by show 128 < xn X2; omega), Or.inl (by show 0 < xn X2; omega), Or.inr rfl, trivial⟩, trivial, by omega, by decide, by decide, by omega, by rw [b3, s0]; decide, ?_⟩
  have e1 : (1 : Int32).toNatClampNeg = 1 := rfl
  have hX2 : xn X2 = 146 := b1
  rw [e1, hX2]
  show i_astore 3 _ [(2, .ref 128), (1, .ref 0), (0, .ref 999)] [.ref 146] _
  rw [e_astore]
  show i_push _ _ [(3, .ref 146), (2, .ref 128), (1, .ref 0), (0, .ref 999)] [] _
  rw [e_push, e_newa, e1]
  have n3 : xn (xnew X2 14 1 1) = 147 := by rw [xnew_n, hX2]
  refine ⟨⟨Or.inl (by show 146 < xn X2 + 1; omega), Or.inl (by show 128 < xn X2 + 1; omega), Or.inl (by show 0 < xn X2 + 1; omega), Or.inr rfl, trivial⟩, trivial, by rw [n3]; decide, by decide, by decide, by rw [xnew_c]; omega, by rw [xnew_s, b3, s0]; decide, ?_⟩
  rw [n3]
  show i_astore 4 _ [(3, .ref 146), (2, .ref 128), (1, .ref 0), (0, .ref 999)] [.ref 147] _
  rw [e_astore]
  show i_push _ _ [(4, .ref 147), (3, .ref 146), (2, .ref 128), (1, .ref 0), (0, .ref 999)] [] _
  rw [e_push, e_istore]
  have r3 : ∀ k, k < 146 → RowEq X2 (xnew (xnew X2 14 1 1) 15 1 1) k := fun k hk => (row_new (by omega)).tr (row_new (by omega))
  have hInv : Inv (xnew (xnew X2 14 1 1) 15 1 1) 0 := by
    have r2 := r3 128 (by decide)
    refine inv0 (rowKL a4 (fun k hk => ((rb k hk).tr (b4 k hk)).tr (r3 k (by omega)))) (by rw [xnew_n, n3]) (r2.1.trans b5) (r2.2.1.trans b6) (fun k h1 h2 => ?_) (fun j b hb hb2 => ?_) (r2.2.2.2.trans b9) ?_ ?_ ?_ ?_ ?_ ?_
    · have r := r3 k h2
      rw [r.1, r.2.1, r.2.2.2]; exact b7 k h1 (by omega)
    · rw [r2.2.2.1]; exact b8 j b hb (by omega)
    · rw [xnew_k, n3, if_neg (by decide), xnew_k, if_pos hX2.symm]
    · rw [xnew_l, n3, if_neg (by decide), xnew_l, if_pos hX2.symm]
    · rw [xnew_k, if_pos n3.symm]
    · rw [xnew_l, if_pos n3.symm]
    · rw [xnew_c, xnew_c]; omega
    · rw [xnew_s, xnew_s]; omega
  rw [e_b_L_law_28]
  refine i_for (N := L / 7) (fun i => bs i) (fun i Y => Inv Y i) rfl hInv ?_ ?_
  · intro i Y k hi hI hk
    exact law_body (by omega) hL hI (fun l Z hl hZ => hk l Z hl hZ)
  · intro Y k hI
    exact law_exit rfl hL
theorem law_true (L : Nat) (xsv : Nat → Int32) (hL : L ≤ 3584) : b_L_law_0 L xsv (xmk 0 0 0 (fun _ => 0) (fun _ => 0) (fun _ _ => 0) (fun _ _ => none) (fun _ _ => 0) (fun _ _ => 0)) [(0, Value.ref 999)] [] (xmk 0 0 0 (fun _ => 0) (fun _ => 0) (fun _ _ => 0) (fun _ _ => none) (fun _ _ => 0) (fun _ _ => 0)) := law_init hL rfl rfl rfl
