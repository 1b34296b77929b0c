/-! doubles -/
abbrev dec (x : UInt64) : Jvm.FP.Core.Datum := Jvm.FP.Core.decode Jvm.FP.Core.b64 x.toNat
def OKd (d : Jvm.FP.Core.Datum) : Prop := d ≠ .nan ∧ ∀ s c q, d = .fin s c q → c < 2 ^ 53 ∧ q ≤ 971
theorem f_tails : Jvm.FP.Core.Fmt.tails Jvm.FP.Core.b64 = 4503599627370496 := rfl
theorem f_exps : Jvm.FP.Core.Fmt.exps Jvm.FP.Core.b64 = 2048 := rfl
theorem f_qmin : Jvm.FP.Core.Fmt.qmin Jvm.FP.Core.b64 = -1074 := rfl
theorem f_qmax : Jvm.FP.Core.Fmt.qmax Jvm.FP.Core.b64 = 971 := rfl
theorem f_p : Jvm.FP.Core.b64.p = 53 := rfl
theorem okd_settle (s : Bool) (c : Nat) (q : Int) : OKd (Jvm.FP.Core.settle Jvm.FP.Core.b64 s c q) := by
  unfold Jvm.FP.Core.settle Jvm.FP.Core.bound
  rw [f_p, f_qmax, f_tails]
  split
  · split
    · refine ⟨Jvm.FP.Core.Datum.noConfusion, ?_⟩
      intro s' c' q' h
      injection h with h1 h2 h3
      subst h2 h3
      exact ⟨by assumption, by assumption⟩
    · exact ⟨Jvm.FP.Core.Datum.noConfusion, fun s' c' q' h => by injection h⟩
  · split
    · refine ⟨Jvm.FP.Core.Datum.noConfusion, ?_⟩
      intro s' c' q' h
      injection h with h1 h2 h3
      subst h2 h3
      exact ⟨by decide, by assumption⟩
    · exact ⟨Jvm.FP.Core.Datum.noConfusion, fun s' c' q' h => by injection h⟩
theorem okd_ratio (s : Bool) (n d : Nat) (e : Int) : OKd (Jvm.FP.Core.roundRatio Jvm.FP.Core.b64 s n d e) := by
  unfold Jvm.FP.Core.roundRatio
  split
  · rw [f_qmin]
    refine ⟨Jvm.FP.Core.Datum.noConfusion, ?_⟩
    intro s' c' q' h
    injection h with h1 h2 h3
    subst h2 h3
    exact ⟨by decide, by decide⟩
  · exact okd_settle _ _ _
theorem okd_round {d : Jvm.FP.Core.Datum} (h : d ≠ .nan) : OKd (Jvm.FP.Core.round Jvm.FP.Core.b64 d) := by
  cases d with
  | nan => exact absurd rfl h
  | inf s => exact ⟨Jvm.FP.Core.Datum.noConfusion, fun s' c' q' h => by injection h⟩
  | fin s c q => exact okd_ratio _ _ _ _
theorem enc_ok {d : Jvm.FP.Core.Datum} (h : OKd d) : Jvm.FP.Core.encode Jvm.FP.Core.b64 d < 18446744073709551616 ∧ Jvm.FP.Core.encode Jvm.FP.Core.b64 d % 9223372036854775808 ≤ 9218868437227405312 := by
  have hb : ∀ s : Bool, s.toNat ≤ 1 := fun s => by cases s <;> decide
  cases d with
  | nan => exact absurd rfl h.1
  | inf s =>
    show Jvm.FP.Core.assemble Jvm.FP.Core.b64 s (2048 - 1) 0 < _ ∧ Jvm.FP.Core.assemble Jvm.FP.Core.b64 s (2048 - 1) 0 % _ ≤ _
    unfold Jvm.FP.Core.assemble
    rw [f_exps, f_tails]
    have := hb s
    omega
  | fin s c q =>
    obtain ⟨hc, hq⟩ := h.2 s c q rfl
    have := hb s
    unfold Jvm.FP.Core.encode
    rw [f_tails, f_qmin]
    unfold Jvm.FP.Core.assemble
    rw [f_exps, f_tails]
    simp only
    split
    · omega
    · omega
theorem n64_enc {d : Jvm.FP.Core.Datum} (h : OKd d) : vf_n64 (UInt64.ofNat (Jvm.FP.Core.encode Jvm.FP.Core.b64 d)) := by
  obtain ⟨h1, h2⟩ := enc_ok h
  unfold vf_n64
  rw [UInt64.le_iff_toNat_le, UInt64.toNat_and, UInt64.toNat_ofNat']
  have e1 : (0x7fffffffffffffff : UInt64).toNat = 2 ^ 63 - 1 := by decide
  have e2 : (0x7ff0000000000000 : UInt64).toNat = 9218868437227405312 := by decide
  rw [e1, e2, Nat.and_two_pow_sub_one_eq_mod]
  rw [Nat.mod_eq_of_lt h1]
  exact h2
theorem nn_of {x : UInt64} (h : vf_n64 x) : dec x ≠ .nan := by
  unfold vf_n64 at h
  rw [UInt64.le_iff_toNat_le, UInt64.toNat_and] at h
  have e1 : (0x7fffffffffffffff : UInt64).toNat = 2 ^ 63 - 1 := by decide
  have e2 : (0x7ff0000000000000 : UInt64).toNat = 9218868437227405312 := by decide
  rw [e1, e2, Nat.and_two_pow_sub_one_eq_mod] at h
  show Jvm.FP.Core.decode Jvm.FP.Core.b64 x.toNat ≠ .nan
  generalize x.toNat = n at h
  unfold Jvm.FP.Core.decode Jvm.FP.Core.fieldE Jvm.FP.Core.fieldT
  rw [f_exps, f_tails]
  split
  · split
    · exact Jvm.FP.Core.Datum.noConfusion
    · exfalso
      rename_i a b
      have hh : n % 9223372036854775808 ≤ 9218868437227405312 := h
      omega
  · split
    · exact Jvm.FP.Core.Datum.noConfusion
    · exact Jvm.FP.Core.Datum.noConfusion
theorem n64_i2d (i : Int32) : vf_n64 (FP.i2d i) := n64_enc (okd_round (d := Jvm.FP.Core.ofInt i.toInt) Jvm.FP.Core.Datum.noConfusion)
theorem n64_mul {a b : UInt64} (ha : dec a ≠ .nan) (hb : dec b ≠ .nan) (h : (∃ s c q, dec a = .fin s c q ∧ c ≠ 0) ∨ ∃ s c q, dec b = .fin s c q ∧ c ≠ 0) : vf_n64 (FP.dmul a b) := by
  refine n64_enc (okd_round (d := Jvm.FP.Core.exactProduct (dec a) (dec b)) ?_)
  generalize dec a = x at *
  generalize dec b = y at *
  cases x with
  | nan => exact absurd rfl ha
  | inf s =>
    cases y with
    | nan => exact absurd rfl hb
    | inf t => exact Jvm.FP.Core.Datum.noConfusion
    | fin t d r =>
      rcases h with ⟨s', c', q', e, -⟩ | ⟨s', c', q', e, h0⟩
      · injection e
      · injection e with e1 e2 e3
        subst e2
        show (if d = 0 then _ else _) ≠ _
        rw [if_neg h0]; exact Jvm.FP.Core.Datum.noConfusion
  | fin s c q =>
    cases y with
    | nan => exact absurd rfl hb
    | inf t =>
      rcases h with ⟨s', c', q', e, h0⟩ | ⟨s', c', q', e, -⟩
      · injection e with e1 e2 e3
        subst e2
        show (if c = 0 then _ else _) ≠ _
        rw [if_neg h0]; exact Jvm.FP.Core.Datum.noConfusion
      · injection e
    | fin t d r => exact Jvm.FP.Core.Datum.noConfusion
theorem n64_div {a b : UInt64} (ha : dec a ≠ .nan) (h : ∃ s c q, dec b = .fin s c q ∧ c ≠ 0) : vf_n64 (FP.ddiv a b) := by
  obtain ⟨t, d, r, e, h0⟩ := h
  show vf_n64 (UInt64.ofNat (Jvm.FP.Core.encode Jvm.FP.Core.b64 (Jvm.FP.Core.quotient Jvm.FP.Core.b64 (dec a) (dec b))))
  rw [e]
  generalize dec a = x at *
  cases x with
  | nan => exact absurd rfl ha
  | inf s => exact n64_enc ⟨Jvm.FP.Core.Datum.noConfusion, fun s' c' q' h => by injection h⟩
  | fin s c q =>
    refine n64_enc ?_
    show OKd (if d = 0 then _ else _)
    rw [if_neg h0]; exact okd_ratio _ _ _ _
theorem n64_add {a b : UInt64} (ha : dec a ≠ .nan) (h : ∃ s c q, dec b = .fin s c q) : vf_n64 (FP.dadd a b) := by
  obtain ⟨t, d, r, e⟩ := h
  refine n64_enc (okd_round (d := Jvm.FP.Core.exactSum (dec a) (dec b)) ?_)
  rw [e]
  generalize dec a = x at *
  cases x with
  | nan => exact absurd rfl ha
  | inf s => exact Jvm.FP.Core.Datum.noConfusion
  | fin s c q => exact Jvm.FP.Core.Datum.noConfusion
theorem dcmp_self {a : UInt64} (ha : dec a ≠ .nan) : FP.dcmp a a = some .eq := by
  show Jvm.FP.Core.order (dec a) (dec a) = _
  generalize dec a = x at *
  cases x with
  | nan => exact absurd rfl ha
  | inf s => exact congrArg some (Int.compare_eq_eq.mpr rfl)
  | fin s c q => exact congrArg some (Int.compare_eq_eq.mpr rfl)
theorem d100 : dec 4636737291354636288 = .fin false 7036874417766400 (-46) := by decide +kernel
theorem d8th : dec 4593671619917905920 = .fin false 4503599627370496 (-55) := by decide +kernel
theorem dhalf : dec 4602678819172646912 = .fin false 4503599627370496 (-53) := by decide +kernel
theorem dlo : dec 13880094051555868672 = .fin true 4503599627370496 (-41) := by decide +kernel
theorem dhi : dec 4656722014701092864 = .fin false 4503599627370496 (-41) := by decide +kernel
