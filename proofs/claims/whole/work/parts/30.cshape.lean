/-! the class's side: stations and telegrams -/
theorem cs_q (i : Nat) : 8 + 15 * i - 8 = 15 * i := by omega
def stk (q : Nat) : Nat := match q with | 0 => 1 | 1 => 11 | 2 => 13 | q => if q % 2 = 1 then 2 else 10
def stl (q : Nat) : Nat := match q with | 0 => 0 | 1 => 256 | 2 => 6 | q => if q % 2 = 1 then 0 else 21
theorem shStk {X : Mm} (hS : Sh X) {i : Nat} (hi : i < 8) (q : Nat) (hq : q < 15) : xk X (8 + 15 * i + q) = stk q := by
  refine sh_k hS (by omega) ?_
  unfold shk
  rw [if_neg (by omega), if_pos (by omega), show (8 + 15 * i + q - 8) % 15 = q by omega]
  rfl
theorem shStl {X : Mm} (hS : Sh X) {i : Nat} (hi : i < 8) (q : Nat) (hq : q < 15) : xl X (8 + 15 * i + q) = stl q := by
  refine sh_l hS (by omega) ?_
  unfold shl
  rw [if_neg (by omega), if_pos (by omega), show (8 + 15 * i + q - 8) % 15 = q by omega]
  rfl
theorem shSt {X : Mm} (hS : Sh X) {i A : Nat} (hi : i < 8) (hA : A = 8 + 15 * i) : xk X A = 1 ∧ xr X A 0 = some (A + 1) ∧ xr X A 1 = some (A + 2) ∧ xk X (A + 1) = 11 ∧ xl X (A + 1) = 256 ∧ xk X (A + 2) = 13 ∧ xl X (A + 2) = 6 ∧ A < 148 ∧ A + 1 < 148 ∧ A + 2 < 148 := by
  subst hA
  refine ⟨shStk hS hi 0 (by decide), ?_, ?_, shStk hS hi 1 (by decide), shStl hS hi 1 (by decide), shStk hS hi 2 (by decide), shStl hS hi 2 (by decide), by omega, by omega, by omega⟩
  · refine sh_r hS (by omega) (by omega) ?_
    unfold shr
    rw [if_neg (by omega), if_pos (by omega), show (8 + 15 * i - 8) % 15 = 0 by omega]
    rfl
  · refine sh_r hS (by omega) (by omega) ?_
    unfold shr
    rw [if_neg (by omega), if_pos (by omega), show (8 + 15 * i - 8) % 15 = 0 by omega]
    rfl
theorem shQu {X : Mm} (hS : Sh X) {i A j : Nat} (hi : i < 8) (hA : A = 8 + 15 * i) (hj : j < 6) : xr X (A + 2) j = some (A + 3 + 2 * j) := by
  subst hA
  refine sh_r hS (by omega) (by omega) ?_
  unfold shr
  rw [if_neg (by omega), if_pos (by omega), show (8 + 15 * i + 2 - 8) % 15 = 2 by omega]
  simp only [if_pos hj]
theorem shTg {X : Mm} (hS : Sh X) {i A T j : Nat} (hi : i < 8) (hA : A = 8 + 15 * i) (hj : j < 6) (hT : T = A + 3 + 2 * j) : xk X T = 2 ∧ xr X T 0 = some (T + 1) ∧ xk X (T + 1) = 10 ∧ xl X (T + 1) = 21 ∧ T < 148 ∧ T + 1 < 148 := by
  subst hT hA
  have e1 := shStk hS hi (3 + 2 * j) (by omega)
  have e2 := shStk hS hi (4 + 2 * j) (by omega)
  have e3 := shStl hS hi (4 + 2 * j) (by omega)
  have a1 : (3 + 2 * j) % 2 = 1 := by omega
  have a2 : ¬ (4 + 2 * j) % 2 = 1 := by omega
  have b1 : 8 + 15 * i + (3 + 2 * j) = 8 + 15 * i + 3 + 2 * j := by omega
  have b2 : 8 + 15 * i + (4 + 2 * j) = 8 + 15 * i + 3 + 2 * j + 1 := by omega
  refine ⟨?_, ?_, ?_, ?_, by omega, by omega⟩
  · rw [← b1, e1]
    unfold stk
    split <;> first | omega | skip
    rw [if_pos a1]
  · refine sh_r hS (by omega) (by omega) ?_
    unfold shr
    rw [if_neg (by omega), if_pos (by omega), show (8 + 15 * i + 3 + 2 * j - 8) % 15 = 3 + 2 * j by omega]
    obtain rfl | rfl | rfl | rfl | rfl | rfl : j = 0 ∨ j = 1 ∨ j = 2 ∨ j = 3 ∨ j = 4 ∨ j = 5 := by omega
    all_goals rfl
  · rw [← b2, e2]
    unfold stk
    split <;> first | omega | skip
    rw [if_neg a2]
  · rw [← b2, e3]
    unfold stl
    split <;> first | omega | skip
    rw [if_neg a2]
theorem pv {post : Option Value → Mm → Prop} {X : Mm} {v v' : Int32} (e : v = v') (h : post (some (.int v')) X) : post (some (.int v)) X := e ▸ h
theorem all256 {P : Nat → Prop} (h : ∀ u, u < 16 → ∀ v, v < 16 → P (16 * u + v)) (b : Nat) (hb : b < 256) : P b := by
  have := h (b / 16) (by omega) (b % 16) (by omega)
  rwa [show 16 * (b / 16) + b % 16 = b by omega] at this
def jb1 (x : Int32) : Int32 := x - ((x.toUInt32 >>> (Int32.toUInt32 1 &&& Int32.toUInt32 31)).toInt32 &&& 1431655765)
def jb2 (x : Int32) : Int32 := (x &&& 858993459) + ((x.toUInt32 >>> (Int32.toUInt32 2 &&& Int32.toUInt32 31)).toInt32 &&& 858993459)
def jb3 (x : Int32) : Int32 := (x + (x.toUInt32 >>> (Int32.toUInt32 4 &&& Int32.toUInt32 31)).toInt32) &&& 252645135
def jb4 (x : Int32) : Int32 := x + (x.toUInt32 >>> (Int32.toUInt32 8 &&& Int32.toUInt32 31)).toInt32
def jb5 (x : Int32) : Int32 := (x + (x.toUInt32 >>> (Int32.toUInt32 16 &&& Int32.toUInt32 31)).toInt32) &&& 63
theorem c_bitCount {X : Mm} {x : Int32} {post : Option Value → Mm → Prop} (h : post (some (.int (jb5 (jb4 (jb3 (jb2 (jb1 x))))))) X) : w_J_bitCount [.int x] X post := by
  simp only [w_J_bitCount, e_b_J_bitCount_0, i_nz2, i_nz13, i_nz64, i_nz128, i_nz256, i_nz2048, not_false_eq_true, i_10, i_01, or_true, true_or, or_false, false_or, eq_self, e_konts, e_kontn, e_push, e_iload, e_aload, e_dload, e_istore, e_astore, e_dstore, e_iinc, e_bin, e_binz, e_dbin, e_dcmp, e_i2d, e_d2i, e_i2l, e_dupr, e_dupi, e_dup2, e_if, e_icmp, e_getI, e_getR, e_putI, e_putZ, e_ald, e_ast, e_zst, e_aald, e_alen, e_iret, e_zret, e_aret, e_dret, e_vret, e_callS0, e_callV0, e_callS1, e_callV1, e_callS2, e_callV2, e_callS3, e_callV3, e_callS4, e_callV4, e_callS5, e_callV5, e_callS6, e_callV6, e_cats0, e_cats1int, e_cats2intint, e_cats3intintint, e_cats3intintref, e_cats2intref, e_cats3intrefint, e_cats3intrefref, e_cats1ref, e_cats2refint, e_cats3refintint, e_cats3refintref, e_cats2refref, e_cats3refrefint, e_cats3refrefref, e_wp, asz, lv_args, lk, rm1, rm2, List.filter, Value.category, xsm_w, xw_n, xw_k, xw_l, xw_r, xw_m, xw_w, Nat.reduceAdd, Nat.reduceEqDiff, Nat.reduceLeDiff, Nat.reduceLT, Nat.reduceBEq, Bool.not_true, Bool.not_false, Bool.and_true, Bool.and_false, Bool.true_and, Bool.false_and, if_true, if_false, reduceIte, and_true, true_and, reduceCtorEq, Nat.reduceMul, Nat.reduceSub]
  exact h
theorem bc_par : ∀ b, b < 256 → jb5 (jb4 (jb3 (jb2 (jb1 (nI b))))) &&& 1 = par8 (nI b) 8 := by
  refine all256 ?_
  decide +kernel
theorem c_charBit {X : Mm} {b p : Nat} (hb : b < 256) (hp : p < 2147483648) {post : Option Value → Mm → Prop} (h : post (some (.int (bitOf (nI b) p))) X) : w_B_characterBit [.int (nI b), .int (nI p)] X post := by
  unfold bitOf at h
  by_cases h0 : p = 0
  · subst h0
    rw [if_pos rfl] at h
    have e : nI 0 = 0 := rfl
    simp (disch := omega) only [w_B_characterBit, e_b_B_characterBit_41, e_b_B_characterBit_25, e_b_B_characterBit_0, i_nz2, i_nz13, i_nz64, i_nz128, i_nz256, i_nz2048, not_false_eq_true, i_10, i_01, or_true, true_or, or_false, false_or, eq_self, e_konts, e_kontn, e_push, e_iload, e_aload, e_dload, e_istore, e_astore, e_dstore, e_iinc, e_bin, e_binz, e_dbin, e_dcmp, e_i2d, e_d2i, e_i2l, e_dupr, e_dupi, e_dup2, e_if, e_icmp, e_getI, e_getR, e_putI, e_putZ, e_ald, e_ast, e_zst, e_aald, e_alen, e_iret, e_zret, e_aret, e_dret, e_vret, e_callS0, e_callV0, e_callS1, e_callV1, e_callS2, e_callV2, e_callS3, e_callV3, e_callS4, e_callV4, e_callS5, e_callV5, e_callS6, e_callV6, e_cats0, e_cats1int, e_cats2intint, e_cats3intintint, e_cats3intintref, e_cats2intref, e_cats3intrefint, e_cats3intrefref, e_cats1ref, e_cats2refint, e_cats3refintint, e_cats3refintref, e_cats2refref, e_cats3refrefint, e_cats3refrefref, e_wp, asz, lv_args, lk, rm1, rm2, List.filter, Value.category, xsm_w, xw_n, xw_k, xw_l, xw_r, xw_m, xw_w, Nat.reduceAdd, Nat.reduceEqDiff, Nat.reduceLeDiff, Nat.reduceLT, Nat.reduceBEq, Bool.not_true, Bool.not_false, Bool.and_true, Bool.and_false, Bool.true_and, Bool.false_and, if_true, if_false, reduceIte, and_true, true_and, reduceCtorEq, Nat.reduceMul, Nat.reduceSub, e]
    exact h
  · rw [if_neg h0] at h
    have g0 : ¬ nI p = 0 := by rw [nI_eql (by omega) (by omega)]; exact h0
    have g1 : ¬ nI p < 1 := by rw [nI_ltl (by omega) (by omega)]; omega
    by_cases h9 : 9 ≤ p
    · rw [if_pos h9] at h
      have g8 : 8 < nI p := by rw [nI_gtl (by omega) (by omega)]; omega
      by_cases h99 : p = 9
      · rw [if_pos h99] at h
        have g9 : (nI p = 9) = True := eq_true (by rw [h99]; rfl)
        simp (disch := omega) only [w_B_characterBit, e_b_B_characterBit_41, e_b_B_characterBit_25, e_b_B_characterBit_0, i_nz2, i_nz13, i_nz64, i_nz128, i_nz256, i_nz2048, not_false_eq_true, i_10, i_01, or_true, true_or, or_false, false_or, eq_self, e_konts, e_kontn, e_push, e_iload, e_aload, e_dload, e_istore, e_astore, e_dstore, e_iinc, e_bin, e_binz, e_dbin, e_dcmp, e_i2d, e_d2i, e_i2l, e_dupr, e_dupi, e_dup2, e_if, e_icmp, e_getI, e_getR, e_putI, e_putZ, e_ald, e_ast, e_zst, e_aald, e_alen, e_iret, e_zret, e_aret, e_dret, e_vret, e_callS0, e_callV0, e_callS1, e_callV1, e_callS2, e_callV2, e_callS3, e_callV3, e_callS4, e_callV4, e_callS5, e_callV5, e_callS6, e_callV6, e_cats0, e_cats1int, e_cats2intint, e_cats3intintint, e_cats3intintref, e_cats2intref, e_cats3intrefint, e_cats3intrefref, e_cats1ref, e_cats2refint, e_cats3refintint, e_cats3refintref, e_cats2refref, e_cats3refrefint, e_cats3refrefref, e_wp, asz, lv_args, lk, rm1, rm2, List.filter, Value.category, xsm_w, xw_n, xw_k, xw_l, xw_r, xw_m, xw_w, Nat.reduceAdd, Nat.reduceEqDiff, Nat.reduceLeDiff, Nat.reduceLT, Nat.reduceBEq, Bool.not_true, Bool.not_false, Bool.and_true, Bool.and_false, Bool.true_and, Bool.false_and, if_true, if_false, reduceIte, and_true, true_and, reduceCtorEq, Nat.reduceMul, Nat.reduceSub, g0, g1, g8, g9]
        refine c_bitCount ?_
        simp (disch := omega) only [e_b_B_characterBit_41, e_b_B_characterBit_25, e_b_B_characterBit_0, i_nz2, i_nz13, i_nz64, i_nz128, i_nz256, i_nz2048, not_false_eq_true, i_10, i_01, or_true, true_or, or_false, false_or, eq_self, e_konts, e_kontn, e_push, e_iload, e_aload, e_dload, e_istore, e_astore, e_dstore, e_iinc, e_bin, e_binz, e_dbin, e_dcmp, e_i2d, e_d2i, e_i2l, e_dupr, e_dupi, e_dup2, e_if, e_icmp, e_getI, e_getR, e_putI, e_putZ, e_ald, e_ast, e_zst, e_aald, e_alen, e_iret, e_zret, e_aret, e_dret, e_vret, e_callS0, e_callV0, e_callS1, e_callV1, e_callS2, e_callV2, e_callS3, e_callV3, e_callS4, e_callV4, e_callS5, e_callV5, e_callS6, e_callV6, e_cats0, e_cats1int, e_cats2intint, e_cats3intintint, e_cats3intintref, e_cats2intref, e_cats3intrefint, e_cats3intrefref, e_cats1ref, e_cats2refint, e_cats3refintint, e_cats3refintref, e_cats2refref, e_cats3refrefint, e_cats3refrefref, e_wp, asz, lv_args, lk, rm1, rm2, List.filter, Value.category, xsm_w, xw_n, xw_k, xw_l, xw_r, xw_m, xw_w, Nat.reduceAdd, Nat.reduceEqDiff, Nat.reduceLeDiff, Nat.reduceLT, Nat.reduceBEq, Bool.not_true, Bool.not_false, Bool.and_true, Bool.and_false, Bool.true_and, Bool.false_and, if_true, if_false, reduceIte, and_true, true_and, reduceCtorEq, Nat.reduceMul, Nat.reduceSub]
        refine pv ?_ h
        exact bc_par b hb
      · rw [if_neg h99] at h
        have g9 : ¬ nI p = 9 := by rw [nI_eql (by omega) (by omega)]; exact h99
        simp (disch := omega) only [w_B_characterBit, e_b_B_characterBit_41, e_b_B_characterBit_25, e_b_B_characterBit_0, i_nz2, i_nz13, i_nz64, i_nz128, i_nz256, i_nz2048, not_false_eq_true, i_10, i_01, or_true, true_or, or_false, false_or, eq_self, e_konts, e_kontn, e_push, e_iload, e_aload, e_dload, e_istore, e_astore, e_dstore, e_iinc, e_bin, e_binz, e_dbin, e_dcmp, e_i2d, e_d2i, e_i2l, e_dupr, e_dupi, e_dup2, e_if, e_icmp, e_getI, e_getR, e_putI, e_putZ, e_ald, e_ast, e_zst, e_aald, e_alen, e_iret, e_zret, e_aret, e_dret, e_vret, e_callS0, e_callV0, e_callS1, e_callV1, e_callS2, e_callV2, e_callS3, e_callV3, e_callS4, e_callV4, e_callS5, e_callV5, e_callS6, e_callV6, e_cats0, e_cats1int, e_cats2intint, e_cats3intintint, e_cats3intintref, e_cats2intref, e_cats3intrefint, e_cats3intrefref, e_cats1ref, e_cats2refint, e_cats3refintint, e_cats3refintref, e_cats2refref, e_cats3refrefint, e_cats3refrefref, e_wp, asz, lv_args, lk, rm1, rm2, List.filter, Value.category, xsm_w, xw_n, xw_k, xw_l, xw_r, xw_m, xw_w, Nat.reduceAdd, Nat.reduceEqDiff, Nat.reduceLeDiff, Nat.reduceLT, Nat.reduceBEq, Bool.not_true, Bool.not_false, Bool.and_true, Bool.and_false, Bool.true_and, Bool.false_and, if_true, if_false, reduceIte, and_true, true_and, reduceCtorEq, Nat.reduceMul, Nat.reduceSub, g0, g1, g8, g9]
        exact h
    · rw [if_neg h9] at h
      have g8 : ¬ 8 < nI p := by rw [nI_gtl (by omega) (by omega)]; omega
      simp (disch := omega) only [w_B_characterBit, e_b_B_characterBit_41, e_b_B_characterBit_25, e_b_B_characterBit_0, i_nz2, i_nz13, i_nz64, i_nz128, i_nz256, i_nz2048, not_false_eq_true, i_10, i_01, or_true, true_or, or_false, false_or, eq_self, e_konts, e_kontn, e_push, e_iload, e_aload, e_dload, e_istore, e_astore, e_dstore, e_iinc, e_bin, e_binz, e_dbin, e_dcmp, e_i2d, e_d2i, e_i2l, e_dupr, e_dupi, e_dup2, e_if, e_icmp, e_getI, e_getR, e_putI, e_putZ, e_ald, e_ast, e_zst, e_aald, e_alen, e_iret, e_zret, e_aret, e_dret, e_vret, e_callS0, e_callV0, e_callS1, e_callV1, e_callS2, e_callV2, e_callS3, e_callV3, e_callS4, e_callV4, e_callS5, e_callV5, e_callS6, e_callV6, e_cats0, e_cats1int, e_cats2intint, e_cats3intintint, e_cats3intintref, e_cats2intref, e_cats3intrefint, e_cats3intrefref, e_cats1ref, e_cats2refint, e_cats3refintint, e_cats3refintref, e_cats2refref, e_cats3refrefint, e_cats3refrefref, e_wp, asz, lv_args, lk, rm1, rm2, List.filter, Value.category, xsm_w, xw_n, xw_k, xw_l, xw_r, xw_m, xw_w, Nat.reduceAdd, Nat.reduceEqDiff, Nat.reduceLeDiff, Nat.reduceLT, Nat.reduceBEq, Bool.not_true, Bool.not_false, Bool.and_true, Bool.and_false, Bool.true_and, Bool.false_and, if_true, if_false, reduceIte, and_true, true_and, reduceCtorEq, Nat.reduceMul, Nat.reduceSub, g0, g1, g8]
      exact h
def cLine (m : Sg) (T p : Nat) : Int32 := bitOf (m (T + 1) (p / 13)) (p % 13)
theorem c_lineBit {X : Mm} (hS : Sh X) {i A T j p : Nat} (hi : i < 8) (hA : A = 8 + 15 * i) (hj : j < 6) (hT : T = A + 3 + 2 * j) (hp : p < 273) {b : Nat} (hb : b < 256) (eb : xm X (T + 1) (p / 13) = nI b) {post : Option Value → Mm → Prop} (h : post (some (.int (cLine (xm X) T p))) X) : w_T_lineBit [.ref T, .int (nI p)] X post := by
  have g0 : ¬ nI p < 0 := by rw [nI_ltl (by omega) (by omega)]; omega
  have g1 : p / 13 < 21 := by omega
  have g2 : nI (p / 13) < Int32.ofNat 21 := (nI_ltI (b := 21) (by omega) (by decide)).mpr g1
  unfold cLine at h
  rw [eb] at h
  simp (disch := omega) only [w_T_lineBit, e_b_T_lineBit_18, e_b_T_lineBit_0, i_nz2, i_nz13, i_nz64, i_nz128, i_nz256, i_nz2048, not_false_eq_true, i_10, i_01, or_true, true_or, or_false, false_or, eq_self, e_konts, e_kontn, e_push, e_iload, e_aload, e_dload, e_istore, e_astore, e_dstore, e_iinc, e_bin, e_binz, e_dbin, e_dcmp, e_i2d, e_d2i, e_i2l, e_dupr, e_dupi, e_dup2, e_if, e_icmp, e_getI, e_getR, e_putI, e_putZ, e_ald, e_ast, e_zst, e_aald, e_alen, e_iret, e_zret, e_aret, e_dret, e_vret, e_callS0, e_callV0, e_callS1, e_callV1, e_callS2, e_callV2, e_callS3, e_callV3, e_callS4, e_callV4, e_callS5, e_callV5, e_callS6, e_callV6, e_cats0, e_cats1int, e_cats2intint, e_cats3intintint, e_cats3intintref, e_cats2intref, e_cats3intrefint, e_cats3intrefref, e_cats1ref, e_cats2refint, e_cats3refintint, e_cats3refintref, e_cats2refref, e_cats3refrefint, e_cats3refrefref, e_wp, asz, lv_args, lk, rm1, rm2, List.filter, Value.category, xsm_w, xw_n, xw_k, xw_l, xw_r, xw_m, xw_w, Nat.reduceAdd, Nat.reduceEqDiff, Nat.reduceLeDiff, Nat.reduceLT, Nat.reduceBEq, Bool.not_true, Bool.not_false, Bool.and_true, Bool.and_false, Bool.true_and, Bool.false_and, if_true, if_false, reduceIte, and_true, true_and, reduceCtorEq, Nat.reduceMul, Nat.reduceSub, nI_al, nI_ml, nI_gel, nI_lel, nI_ltl, nI_gtl, nI_eql, nI_cl, nI_in', lit_cl, lit_in, nI_add, nI_dl, nI_rl, nI_rl2, nI_sl, shC hS, shTg hS hi hA hj hT, g0, g1, g2, eb]
  refine c_charBit hb (by omega) ?_
  simp (disch := omega) only [i_nz2, i_nz13, i_nz64, i_nz128, i_nz256, i_nz2048, not_false_eq_true, i_10, i_01, or_true, true_or, or_false, false_or, eq_self, e_konts, e_kontn, e_push, e_iload, e_aload, e_dload, e_istore, e_astore, e_dstore, e_iinc, e_bin, e_binz, e_dbin, e_dcmp, e_i2d, e_d2i, e_i2l, e_dupr, e_dupi, e_dup2, e_if, e_icmp, e_getI, e_getR, e_putI, e_putZ, e_ald, e_ast, e_zst, e_aald, e_alen, e_iret, e_zret, e_aret, e_dret, e_vret, e_callS0, e_callV0, e_callS1, e_callV1, e_callS2, e_callV2, e_callS3, e_callV3, e_callS4, e_callV4, e_callS5, e_callV5, e_callS6, e_callV6, e_cats0, e_cats1int, e_cats2intint, e_cats3intintint, e_cats3intintref, e_cats2intref, e_cats3intrefint, e_cats3intrefref, e_cats1ref, e_cats2refint, e_cats3refintint, e_cats3refintref, e_cats2refref, e_cats3refrefint, e_cats3refrefref, e_wp, asz, lv_args, lk, rm1, rm2, List.filter, Value.category, xsm_w, xw_n, xw_k, xw_l, xw_r, xw_m, xw_w, Nat.reduceAdd, Nat.reduceEqDiff, Nat.reduceLeDiff, Nat.reduceLT, Nat.reduceBEq, Bool.not_true, Bool.not_false, Bool.and_true, Bool.and_false, Bool.true_and, Bool.false_and, if_true, if_false, reduceIte, and_true, true_and, reduceCtorEq, Nat.reduceMul, Nat.reduceSub]
  exact h
