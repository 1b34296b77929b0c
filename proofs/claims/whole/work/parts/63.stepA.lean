theorem GE.rf {m1 m2 : Sg} : GE m1 m2 m1 m2 := ⟨fun _ _ _ => rfl, fun _ _ _ => rfl⟩
theorem GE.tr {m1 m2 x1 x2 y1 y2 : Sg} (h : GE m1 m2 x1 x2) (h2 : GE x1 x2 y1 y2) : GE m1 m2 y1 y2 := ⟨fun a j q => (h2.1 a j q).trans (h.1 a j q), fun a j q => (h2.2 a j q).trans (h.2 a j q)⟩
theorem due_iff {m1 m2 : Sg} {T : Nat} (hT : T < 200000) (h : ET m1 m2) (t1 : m1 0 5 = nI T) (t2 : m2 128 1 = nI T) : cDue m1 ↔ mDue m2 := by
  obtain ⟨x1, x2, x3, x4, x5, x6⟩ := h
  unfold cDue mDue
  rw [t1, t2, x4]
  by_cases c : m2 128 28 = 0
  · rw [x5 c]
    constructor
    · rintro ⟨y, -⟩
      have := congrArg Int32.toInt y
      rw [nI_toInt (by omega)] at this
      have e : ((-1000 : Int32) + 14).toInt = -986 := by decide
      omega
    · rintro ⟨y, -⟩; exact absurd c y
  · rw [x6 c]
    exact ⟨fun y => ⟨c, y.2, y.1⟩, fun y => ⟨y.2.2, y.2.1⟩⟩
theorem Eof_some {m : Sg} {e : Nat} (h : m 128 28 = 1) (e1 : m 128 29 = nI e) (he : e < 2147483648) : Eof m = some e := by
  unfold Eof; rw [if_neg (by rw [h]; decide), e1, nI_clamp he]
theorem tl_idle {m : Sg} {t d D : Nat} (h : EH m t d D) (ht : t ≤ 100000) : ∀ e, Eof m = some e → d + e ≤ t + 10 := by
  intro e he
  obtain ⟨b, c, l, hb, hl9, hc, e23, e25, e24, h22, hy, hp, htl⟩ := h
  rcases htl with h | ⟨h, e', n, e1, e2, h8, h9, h10, h11, -⟩
  · unfold Eof at he; rw [if_pos h] at he; cases he
  · rw [Eof_some h e1 (by omega)] at he
    cases he; exact h11
theorem ER.fr {m1 m2 m1' m2' : Sg} (h : ER m1 m2) (e1 : ∀ a j, 2 ≤ a → a < 6 → m1' a j = m1 a j) (e2 : ∀ j, 18 ≤ j → m2' 128 j = m2 128 j) (e3 : ∀ a j, 143 ≤ a → a ≤ 145 → m2' a j = m2 a j) : ER m1' m2' := by
  unfold ER EQ4 EA ET EC EL EB at h ⊢
  simp (disch := omega) only [e1, e2, e3]
  exact h
theorem EH.fr {m m' : Sg} {t d D : Nat} (h : EH m t d D) (e2 : ∀ j, 18 ≤ j → m' 128 j = m 128 j) (e3 : ∀ a j, 143 ≤ a → a ≤ 145 → m' a j = m a j) : EH m' t d D := by
  unfold EH PH TL at h ⊢
  simp (disch := omega) only [e2, e3]
  exact h
theorem Bof_cg {m m' : Sg} (e2 : ∀ j, 18 ≤ j → m' 128 j = m 128 j) : Bof m' = Bof m := by unfold Bof; rw [e2 _ (by decide), e2 _ (by decide)]
theorem Eof_cg' {m m' : Sg} (e2 : ∀ j, 18 ≤ j → m' 128 j = m 128 j) : Eof m' = Eof m := by unfold Eof; rw [e2 _ (by decide), e2 _ (by decide)]
theorem EH.aim {m1 m2 : Sg} {t d D : Nat} (h : EH m2 t d D) (hl : EL m1 m2) (hD : D ≤ 512) (h28 : ¬ m2 128 28 = 0) : ∃ av, av < 65536 ∧ cAim m1 = nI av ∧ mAim m2 = nI av ∧ m1 4 5 = m2 145 5 := by
  obtain ⟨b, c, l, hb, hl9, hc, e23, e25, e24, h22, hy, hp, htl⟩ := h
  rcases htl with h | ⟨h, e, n, e1, e2, h8, h9, h10, h11, hx, -⟩
  · exact absurd h h28
  · have hl := hl n (by omega) e2
    obtain ⟨x3, hx3, q3⟩ := hx 3 (by omega)
    obtain ⟨x4, hx4, q4⟩ := hx 4 (by omega)
    have a2 : mAim m2 = nI (256 * x3 + x4) := by unfold mAim; rw [q3, q4, nI_ml, nI_add]
    refine ⟨256 * x3 + x4, by omega, ?_, a2, hl 5 (by omega)⟩
    rw [← a2]; unfold cAim mAim; rw [hl 3 (by omega), hl 4 (by omega)]
theorem EH.end' {m : Sg} {t d D : Nat} (h : EH m t d D) (h28 : ¬ m 128 28 = 0) : ∃ e, e ≤ t ∧ m 128 29 = nI e := by
  obtain ⟨b, c, l, hb, hl9, hc, e23, e25, e24, h22, hy, hp, htl⟩ := h
  rcases htl with h | ⟨h, e, n, e1, e2, h8, h9, h10, h11, hx, -⟩
  · exact absurd h h28
  · exact ⟨e, h10, e1⟩
theorem stepA {m1 m2 : Sg} {t d d1 D : Nat} (h : RR m1 m2 t d d1 D) (ht : t + 1 ≤ 100000) (hD : D ≤ 512) : (∀ i, i < 8 → Rb (t + 1) d1 (Bof m2) (Eof m2) i (cS2 m1) (mS2 m2)) ∧ GE (cS1 m1) (mS1 m2) (cS2 m1) (mS2 m2) := by
  obtain ⟨hEH, hER, ht0, t2, t1, hd, ed, hd1, ed1, hdd, e3, e16, e6, e7, hR⟩ := h
  have hT : t + 1 < 200000 := by omega
  have c1 : ∀ i, i < 8 → CAg i m1 (cS1 m1) := fun i hi a j x y => (su_na (by omega)).symm
  have g1 : ∀ i, i < 8 → MAg i m2 (mS1 m2) := fun i hi a j x => (su_ne (fun q => by rw [q.1] at x; exact absurd x.symm (by show ¬ i = 99; omega))).symm
  have hR1 : ∀ i, i < 8 → R0 t (Bof m2) (Eof m2) i (cS1 m1) (mS1 m2) := fun i hi => R0.cg i _ _ _ _ (c1 i hi) (g1 i hi) (hR i hi)
  have n1 : cS1 m1 0 5 = nI (t + 1) := by unfold cS1; rw [su_at, t1]; exact nI_al t 1
  have n2 : mS1 m2 128 1 = nI (t + 1) := by unfold mS1; rw [su_at, t2]; exact nI_al t 1
  have o1 : ∀ a j, ¬ (a = 0 ∧ j = 5) → cS1 m1 a j = m1 a j := fun a j q => su_ne q
  have o2 : ∀ a j, ¬ (a = 128 ∧ j = 1) → mS1 m2 a j = m2 a j := fun a j q => su_ne q
  have L := lift (P := R0 t (Bof m2) (Eof m2)) (Q := Ra t d1 (Bof m2) (Eof m2)) (f := idS) (g := mBegS) (m1 := cS1 m1) (m2 := mS1 m2) R0.cg Ra.cg (fun i x1 x2 _ _ a j _ => rfl) loc_begS (fun i x1 x2 hi hG hP => begS_step (d := d) (by omega) (by omega) hdd (tl_idle hEH ht0) (by rw [hG.2 128 2 rfl, o2 _ _ (by decide)]; exact ed) (show x1 0 6 = nI d1 by rw [hG.1 0 6 (by omega), o1 _ _ (by decide)]; exact ed1) hP) hR1
  obtain ⟨L1, -, L3⟩ := L
  rw [itr_id] at L1 L3
  have hETx : ET (cS1 m1) (itr mBegS (mS1 m2) 8) := by
    have := hER.fr (m1' := cS1 m1) (m2' := itr mBegS (mS1 m2) 8) (fun a j x y => o1 a j (by omega)) (fun j x => (L3.2 128 j rfl).trans (o2 _ _ (by omega))) (fun a j x y => (fr_begS (by omega)).trans (o2 _ _ (by omega)))
    exact this.2.2.2.1.2.1
  have e128 : ∀ j, itr mBegS (mS1 m2) 8 128 j = mS1 m2 128 j := fun j => L3.2 128 j rfl
  have hdue := due_iff hT hETx n1 ((e128 1).trans n2)
  unfold cS2 mS2 cBegin mBegin
  by_cases c : mDue (itr mBegS (mS1 m2) 8)
  · rw [if_pos (hdue.mpr c), if_pos c]
    obtain ⟨q1, q2, q3⟩ := c
    rw [e128, o2 _ _ (by decide)] at q1
    rw [e128, e128, n2, o2 _ _ (by decide)] at q3
    obtain ⟨e, he, e29⟩ := hEH.end' q1
    have hEof : Eof m2 = some e := by unfold Eof; rw [if_neg q1, e29, nI_clamp (by omega)]
    have hTe : t + 1 = e + 14 := by rw [e29, nI_al] at q3; exact (nI_eq (by omega) (by omega)).mp q3
    have hid := tl_idle hEH ht0 e hEof
    obtain ⟨av, hav, a1, a2, a5⟩ := hEH.aim hER.2.2.2.1.2.2.2 hD q1
    have L2 := lift (P := Ra t d1 (Bof m2) (Eof m2)) (Q := Rb (t + 1) d1 (Bof m2) (Eof m2)) (f := cBegS) (g := mAnsS) (m1 := cS1 m1) (m2 := itr mBegS (mS1 m2) 8) Ra.cg Rb.cg (fun i x1 x2 _ _ a j q => locC_begS x1 i a j q) loc_ansS (fun i x1 x2 hi hG hP => ?_) L1
    · obtain ⟨M1, -, M3⟩ := L2
      exact ⟨M1, L3.tr M3⟩
    · have hG' := L3.tr hG
      have k1 : ∀ a j, 2 ≤ a → a < 6 → x1 a j = m1 a j := fun a j x y => (hG'.1 a j (by omega)).trans (o1 _ _ (by omega))
      have k2 : ∀ j, 18 ≤ j → x2 128 j = m2 128 j := fun j x => (hG'.2 128 j rfl).trans (o2 _ _ (by omega))
      have k3 : ∀ j, x2 145 j = m2 145 j := fun j => (hG'.2 145 j rfl).trans (o2 _ _ (by omega))
      refine ans_step hEof hTe (by omega) hav ?_ ?_ ?_ ?_ hP
      · rw [← a1]; unfold cAim; rw [k1 4 3 (by decide) (by decide), k1 4 4 (by decide) (by decide)]
      · rw [← a2]; unfold mAim; rw [k3, k3]
      · rw [k1 4 5 (by decide) (by decide), k3]; exact a5
      · rw [k1 2 13 (by decide) (by decide), k2 31 (by decide)]; exact hER.2.2.2.1.2.1.2.1
  · rw [if_neg (fun q => c (hdue.mp q)), if_neg c]
    exact ⟨fun i hi => (L1 i hi).b, L3⟩
