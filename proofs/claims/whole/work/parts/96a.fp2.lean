/-! a double from -2048 to 2048 and its whole part -/
theorem tr_core {c : Nat} {q : Int} : (c * 2 ^ (q - min q (-41)).toNat < 4503599627370496 * 2 ^ ((-41) - min q (-41)).toNat → c * 2 ^ q.toNat / 2 ^ (-q).toNat < 2048) ∧ (c * 2 ^ (q - min q (-41)).toNat ≤ 4503599627370496 * 2 ^ ((-41) - min q (-41)).toNat → c * 2 ^ q.toNat / 2 ^ (-q).toNat ≤ 2048) := by
  by_cases h0 : 0 ≤ q
  · obtain ⟨a, rfl⟩ : ∃ a : Nat, q = (a : Int) := ⟨q.toNat, by omega⟩
    have e1 : min (a : Int) (-41) = -41 := by omega
    have e2 : ((a : Int) - -41).toNat = a + 41 := by omega
    have e3 : ((-41 : Int) - -41).toNat = 0 := by decide
    have e4 : (a : Int).toNat = a := by omega
    have e5 : (-(a : Int)).toNat = 0 := by omega
    rw [e1, e2, e3, e4, e5, Nat.pow_add, Nat.pow_zero, Nat.mul_one, Nat.div_one, ← Nat.mul_assoc]
    have k : (4503599627370496 : Nat) = 2048 * 2 ^ 41 := by decide
    rw [k]
    exact ⟨fun h => Nat.lt_of_mul_lt_mul_right h, fun h => Nat.le_of_mul_le_mul_right h (by decide)⟩
  · obtain ⟨b, rfl⟩ : ∃ b : Nat, q = -(b : Int) := ⟨(-q).toNat, by omega⟩
    have e4 : (-(b : Int)).toNat = 0 := by omega
    have e5 : (- -(b : Int)).toNat = b := by omega
    rw [e4, e5, Nat.pow_zero, Nat.mul_one]
    have key : (c < 2048 * 2 ^ b → c / 2 ^ b < 2048) ∧ (c ≤ 2048 * 2 ^ b → c / 2 ^ b ≤ 2048) := by
      have hp : 0 < 2 ^ b := Nat.pow_pos (by decide)
      exact ⟨fun h => (Nat.div_lt_iff_lt_mul hp).mpr h, fun h => Nat.div_le_of_le_mul (by rw [Nat.mul_comm]; exact h)⟩
    by_cases h1 : b ≤ 41
    · have e1 : min (-(b : Int)) (-41) = -41 := by omega
      have e2 : (-(b : Int) - -41).toNat = 41 - b := by omega
      have e3 : ((-41 : Int) - -41).toNat = 0 := by decide
      rw [e1, e2, e3, Nat.pow_zero, Nat.mul_one]
      have k : (4503599627370496 : Nat) = 2048 * 2 ^ b * 2 ^ (41 - b) := by
        rw [Nat.mul_assoc, ← Nat.pow_add, show b + (41 - b) = 41 by omega]
      rw [k]
      exact ⟨fun h => key.1 (Nat.lt_of_mul_lt_mul_right h), fun h => key.2 (Nat.le_of_mul_le_mul_right h (Nat.pow_pos (by decide)))⟩
    · have e1 : min (-(b : Int)) (-41) = -(b : Int) := by omega
      have e2 : (-(b : Int) - -(b : Int)).toNat = 0 := by omega
      have e3 : ((-41 : Int) - -(b : Int)).toNat = b - 41 := by omega
      rw [e1, e2, e3, Nat.pow_zero, Nat.mul_one]
      have k : (4503599627370496 : Nat) * 2 ^ (b - 41) = 2048 * 2 ^ b := by
        have : (4503599627370496 : Nat) = 2048 * 2 ^ 41 := by decide
        rw [this, Nat.mul_assoc, ← Nat.pow_add, show 41 + (b - 41) = b by omega]
      rw [k]
      exact key
abbrev cLo : UInt64 := 13880094051555868672
abbrev cHi : UInt64 := 4656722014701092864
/-- inside: the number's whole part -/
theorem in_rng {r : UInt64} (h1 : FP.dcmp r 4656722014701092864 = some .lt) (h2 : FP.dcmp r 13880094051555868672 ≠ some .lt) : ∃ T : Int, -2048 ≤ T ∧ T ≤ 2047 ∧ (FP.d2i r).toInt = T := by
  have h1' : Jvm.FP.Core.order (dec r) (dec 4656722014701092864) = some .lt := h1
  have h2' : Jvm.FP.Core.order (dec r) (dec 13880094051555868672) ≠ some .lt := h2
  rw [dhi] at h1'
  rw [dlo] at h2'
  show ∃ T : Int, -2048 ≤ T ∧ T ≤ 2047 ∧ (Jvm.FP.Core.toI (dec r)).toInt = T
  generalize dec r = x at *
  cases x with
  | nan => cases h1'
  | inf s =>
    cases s with
    | false => exact absurd h1' (by decide)
    | true => exact absurd (by decide) h2'
  | fin s c q =>
    have h1'' : compare (Jvm.FP.Core.signed s (Jvm.FP.Core.inUnits c q (min q (-41)))) (Jvm.FP.Core.signed false (Jvm.FP.Core.inUnits 4503599627370496 (-41) (min q (-41)))) = .lt := Option.some.inj h1'
    have h2'' : ¬ compare (Jvm.FP.Core.signed s (Jvm.FP.Core.inUnits c q (min q (-41)))) (Jvm.FP.Core.signed true (Jvm.FP.Core.inUnits 4503599627370496 (-41) (min q (-41)))) = .lt := fun z => h2' (congrArg some z)
    rw [Int.compare_eq_lt] at h1'' h2''
    unfold Jvm.FP.Core.signed Jvm.FP.Core.inUnits at h1'' h2''
    have core := tr_core (c := c) (q := q)
    have key : ∃ T : Int, -2048 ≤ T ∧ T ≤ 2047 ∧ Jvm.FP.Core.truncate s c q = T := by
      unfold Jvm.FP.Core.truncate Jvm.FP.Core.signed
      generalize c * 2 ^ q.toNat / 2 ^ (-q).toNat = t at *
      generalize c * 2 ^ (q - min q (-41)).toNat = u at *
      generalize 4503599627370496 * 2 ^ ((-41) - min q (-41)).toNat = v at *
      cases s with
      | false =>
        simp only [Bool.false_eq_true, if_false] at h1'' h2'' ⊢
        have := core.1 (by omega)
        exact ⟨t, by omega, by omega, rfl⟩
      | true =>
        simp only [if_true, Bool.false_eq_true, if_false] at h1'' h2'' ⊢
        have := core.2 (by omega)
        exact ⟨-(t : Int), by omega, by omega, rfl⟩
    obtain ⟨T, t1, t2, t3⟩ := key
    refine ⟨T, t1, t2, ?_⟩
    show (Int32.ofInt (max (-2 ^ 31) (min (2 ^ 31 - 1) (Jvm.FP.Core.truncate s c q)))).toInt = T
    rw [t3]
    have e : max (-2 ^ 31 : Int) (min (2 ^ 31 - 1) T) = T := by omega
    rw [e, Int32.toInt_ofInt]
    have : (T.bmod (2 ^ 32)) = T := by
      rw [Int.bmod_eq_of_le] <;> omega
    exact this
/-- the greatest whole number not above -/
def wh (r : UInt64) : Int32 := if Op.cmpValue (FP.dcmp (FP.i2d (FP.d2i r)) r) .l ≤ 0 then FP.d2i r else FP.d2i r - 1
theorem i2d_lo : FP.i2d (-2048) = 13880094051555868672 := by decide +kernel
theorem order_sw {a b : UInt64} (h : FP.dcmp a b = some .gt) : FP.dcmp b a = some .lt := by
  have h' : Jvm.FP.Core.order (dec a) (dec b) = some .gt := h
  show Jvm.FP.Core.order (dec b) (dec a) = some .lt
  generalize dec a = x at *
  generalize dec b = y at *
  cases x with
  | nan => cases h'
  | inf s =>
    cases y with
    | nan => cases h'
    | inf t => exact congrArg some (Int.compare_eq_lt.mpr (Int.compare_eq_gt.mp (Option.some.inj h')))
    | fin t d r => exact congrArg some (Int.compare_eq_lt.mpr (Int.compare_eq_gt.mp (Option.some.inj h')))
  | fin s c q =>
    cases y with
    | nan => cases h'
    | inf t => exact congrArg some (Int.compare_eq_lt.mpr (Int.compare_eq_gt.mp (Option.some.inj h')))
    | fin t d r =>
      have h9 := Int.compare_eq_gt.mp (Option.some.inj h')
      show some (compare (Jvm.FP.Core.signed t (Jvm.FP.Core.inUnits d r (min r q))) (Jvm.FP.Core.signed s (Jvm.FP.Core.inUnits c q (min r q)))) = some .lt
      rw [Int.min_comm r q]
      exact congrArg some (Int.compare_eq_lt.mpr h9)
theorem wh_rng {r : UInt64} (h1 : FP.dcmp r 4656722014701092864 = some .lt) (h2 : FP.dcmp r 13880094051555868672 ≠ some .lt) : -2048 ≤ (wh r).toInt ∧ (wh r).toInt ≤ 2047 := by
  obtain ⟨T, t1, t2, t3⟩ := in_rng h1 h2
  unfold wh
  split
  · omega
  · rename_i c
    have hT : T ≠ -2048 := by
      intro q
      apply c
      have e : FP.d2i r = -2048 := by
        rw [← Int32.toInt_inj, t3, q]; rfl
      rw [e, i2d_lo]
      have h3 : FP.dcmp 13880094051555868672 r ≠ some .gt := fun z => h2 (order_sw z)
      generalize FP.dcmp 13880094051555868672 r = o at h3
      rcases o with _ | o
      · decide
      · cases o
        · decide
        · decide
        · exact absurd rfl h3
    rw [Int32.toInt_sub, t3]
    have e1 : (1 : Int32).toInt = 1 := by decide
    rw [e1, Int.bmod_eq_of_le] <;> omega
