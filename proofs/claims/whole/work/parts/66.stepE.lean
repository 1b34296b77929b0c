/-- the ear's part of a bit time -/
theorem stepE {m1 m2 : Sg} {t d d1 D : Nat} (h : RR m1 m2 t d d1 D) (ht : t + 1 ≤ 100000) (hD : D + ctF (m2 141) 2048 ≤ 512) : ∃ D', D ≤ D' ∧ D' + ctF (mS3 m2 141) 2048 = D + ctF (m2 141) 2048 ∧ EH (mS5 m2) (t + 1) (if mLn m2 = 1 then d + 1 else 0) D' ∧ ER (cS6 m1) (mS5 m2) ∧ (∀ i, i < 8 → R2 (t + 1) d1 (mLn m2) (Bof m2) (Eof m2) i (cS6 m1) (mS5 m2)) ∧ BE (t + 1) d1 (mLn m2) (Bof m2) (Eof m2) (Bof (mS5 m2)) (Eof (mS5 m2)) ∧ (∃ n, n < 600 ∧ cS5 m1 2 7 = nI n ∧ mS4 m2 128 25 = nI n) ∧ GE (cS4 m1) (mS3 m2) (cS5 m1) (mS4 m2) := by
  have hD0 : D ≤ 512 := by omega
  obtain ⟨hR2, -, -, hG5⟩ := stepD h ht hD0
  obtain ⟨hR, eL, h01, hv, ⟨ds1, ds2, ds3⟩, ⟨D', hD', hDc⟩, o1, n1, o2, n2⟩ := stepC h ht hD0
  obtain ⟨hEH, hER, ht0, t2, t1, hd, ed, hd1, ed1, hdd, e3, e16, e6, e7, -⟩ := h
  have k1 : ∀ a j, 2 ≤ a → a < 6 → cS5 m1 a j = m1 a j := fun a j x y => (hG5.1 a j (by omega)).trans (o1 _ _ (by omega) (by omega) (by omega))
  have k2 : ∀ j, 18 ≤ j → mS4 m2 128 j = m2 128 j := fun j x => (hG5.2 128 j rfl).trans (o2 _ _ rfl (by omega) (by decide))
  have k3 : ∀ a j, 143 ≤ a → a ≤ 145 → mS4 m2 a j = m2 a j := fun a j x y => by
    have hs : stn a j = 99 := by
      rcases (show a = 143 ∨ a = 144 ∨ a = 145 by omega) with rfl | rfl | rfl <;> rfl
    exact (hG5.2 a j hs).trans (o2 _ _ hs (by omega) (by omega))
  have hER4 := hER.fr k1 k2 k3
  have hEH4 := hEH.fr k2 k3
  have eB4 := Bof_cg k2
  have eE4 := Eof_cg' k2
  have c5 : cS5 m1 0 5 = nI (t + 1) := (hG5.1 0 5 (by omega)).trans n1
  have m4 : mS4 m2 128 1 = nI (t + 1) := (hG5.2 128 1 rfl).trans n2
  have hDD : D ≤ D' := by rcases hD' with ⟨x, -⟩ | x <;> omega
  have hn : ∃ n, n < 600 ∧ cS5 m1 2 7 = nI n ∧ mS4 m2 128 25 = nI n := by
    have hE := hER4.2.2.2.1.1.1
    obtain ⟨b, c, l, hb, hl9, hc, e23, e25, -⟩ := hEH4
    exact ⟨c, by omega, hE.trans e25, e25⟩
  have hear := hear_sim hER4 (hEH4.ei hD0 ht0) m4 h01
  have hch : ∀ b c, mS4 m2 128 18 = 2 → mS4 m2 128 19 = 2 → mLn m2 = 0 → mS4 m2 128 23 = nI b → mS4 m2 128 25 = nI c → b ≤ t → t + 1 = b + 13 * c → c + 1 ≤ 21 + D' := by
    intro b c p2 g2 hl e23 e25 hb htb
    rw [k2 _ (by decide)] at p2 g2 e23 e25
    rcases hD' with ⟨x, hz⟩ | x
    · have := hch_of (m1 := m1) hEH ht0 hdd hR (hz hl) hD0 p2 g2 e23 e25 hb htb
      omega
    · obtain ⟨b', c', l', hb', hl9', hc', e23', e25', -⟩ := hEH
      have := (nI_eq (by omega) (by omega)).mp (e25'.symm.trans e25)
      omega
  have hEH5 := eh_hear (hEH4.mono hDD) m4 h01 (by omega) ht0 hch
  have hBE := be_hear hEH4 m4 h01 hD0 ht0 (d1 := d1) (fun x => by omega)
  rw [eB4, eE4] at hBE
  refine ⟨D', hDD, hDc, hEH5, ?_, fun i hi => R2.cg i _ _ _ _ (CAg.of hi (fun a j x y => ?_)) (MAg.of hi (fun a j x => ?_)) (hR2 i hi), hBE, hn, hG5⟩
  · unfold cS6 mS5
    rw [c5, eL]; exact hear
  · unfold cS6; exact eTake_fr (by omega)
  · unfold mS5
    have hs : ∀ a, a = 128 ∨ a = 143 ∨ a = 144 ∨ a = 145 → stn a j = 99 := by
      rintro a (rfl | rfl | rfl | rfl) <;> rfl
    have hx : ¬ (a = 128 ∨ a = 143 ∨ a = 144 ∨ a = 145) := fun q => x (hs a q)
    exact mHear_fr (by omega) (by omega)
theorem good_iff {m1 m2 : Sg} {T e : Nat} (hT : T < 200000) (h : ET m1 m2) (he : ¬ m2 128 28 = 0 → e < 200000 ∧ m2 128 29 = nI e) (t1 : m1 0 5 = nI T) (t2 : m2 128 1 = nI T) : (m1 0 5 = m1 2 12 + 28 ∧ m1 2 14 = 204) ↔ mGood m2 := by
  obtain ⟨x1, x2, x3, x4, x5, x6⟩ := h
  unfold mGood
  rw [t1, t2, x3]
  by_cases c : m2 128 28 = 0
  · rw [x5 c]
    constructor
    · rintro ⟨y, -⟩
      have := congrArg Int32.toInt y
      rw [nI_toInt (by omega)] at this
      have e : ((-1000 : Int32) + 28).toInt = -972 := by decide
      omega
    · rintro ⟨y, -⟩; exact absurd c y
  · rw [x6 c]
    have key : nI T = m2 128 29 + 28 ↔ m2 128 29 = nI T - 28 := by
      constructor
      · intro y; rw [y]; exact (Int32.add_sub_cancel _ _).symm
      · intro y; rw [y]; exact (Int32.sub_add_cancel _ _).symm
    rw [key]
    exact ⟨fun y => ⟨c, y.1, y.2⟩, fun y => ⟨y.2.1, y.2.2⟩⟩
theorem rr_step {m1 m2 : Sg} {t d d1 D : Nat} (h : RR m1 m2 t d d1 D) (ht : t + 1 ≤ 100000) (hD : D + ctF (m2 141) 2048 ≤ 512) : OkC m1 ∧ OkM m2 ∧ ∃ d' d1' D', RR (cStep m1) (mStep m2) (t + 1) d' d1' D' ∧ D' + ctF (mStep m2 141) 2048 = D + ctF (m2 141) 2048 ∧ D ≤ D' := by
  have hD0 : D ≤ 512 := by omega
  obtain ⟨hRb, -⟩ := stepA h ht hD0
  obtain ⟨-, -, hGB, hCB, hRg⟩ := stepB h ht hD0
  obtain ⟨-, eL, h01, -, ⟨ds1, ds2, ds3⟩, -, o1, n1, o2, n2⟩ := stepC h ht hD0
  obtain ⟨-, hC5, hGo, -⟩ := stepD h ht hD0
  obtain ⟨D', hDD, hDc, hEH5, hER5, hR5, hBE, ⟨n, hn, en1, en2⟩, hG5⟩ := stepE h ht hD
  obtain ⟨hEH, hER, ht0, t2, t1, hd, ed, hd1, ed1, hdd, e3, e16, e6, e7, hR0⟩ := h
  -- now on both sides behind the ear
  have c6 : ∀ a j, a < 2 ∨ 128 ≤ a ∨ a = 6 ∨ a = 7 → cS6 m1 a j = cS4 m1 a j := fun a j x => by
    unfold cS6; rw [eTake_fr (by omega)]; exact hG5.1 a j (by omega)
  have m5 : ∀ j, j < 18 → mS5 m2 128 j = mS3 m2 128 j := fun j x => by
    unfold mS5; rw [mHear_fr (by omega) (by omega)]; exact hG5.2 128 j rfl
  have m5' : ∀ a j, a = 141 ∨ a = 142 → mS5 m2 a j = mS3 m2 a j := fun a j x => by
    unfold mS5; rw [mHear_fr (by omega) (by omega)]; exact hG5.2 a j (by rcases x with rfl | rfl <;> rfl)
  have a1 : cS6 m1 0 5 = nI (t + 1) := (c6 _ _ (by omega)).trans n1
  have a2 : mS5 m2 128 1 = nI (t + 1) := (m5 _ (by decide)).trans n2
  have hgood : (cS6 m1 0 5 = cS6 m1 2 12 + 28 ∧ cS6 m1 2 14 = 204) ↔ mGood (mS5 m2) := by
    by_cases c : mS5 m2 128 28 = 0
    · exact good_iff (e := 0) (by omega) hER5.2.2.2.1.2.1 (fun q => absurd c q) a1 a2
    · obtain ⟨e, he, ee⟩ := hEH5.end' c
      exact good_iff (e := e) (by omega) hER5.2.2.2.1.2.1 (fun _ => ⟨by omega, ee⟩) a1 a2
  have hacc : ¬ cAcc m1 = 0 ↔ mGood (mS5 m2) := by
    rw [← hgood]; unfold cAcc
    by_cases c : cS6 m1 0 5 = cS6 m1 2 12 + 28 ∧ cS6 m1 2 14 = 204
    · rw [if_pos c]; exact ⟨fun _ => c, fun _ => by decide⟩
    · rw [if_neg c]; exact ⟨fun x => absurd rfl x, fun x => absurd x c⟩
  have L := lift (P := R2 (t + 1) d1 (mLn m2) (Bof m2) (Eof m2)) (Q := R0 (t + 1) (Bof (mS5 m2)) (Eof (mS5 m2))) (f := cEndS (cAcc m1)) (g := mLook) (m1 := cS6 m1) (m2 := mS5 m2) R2.cg R0.cg (fun i x1 x2 _ _ a j q => cEnd_loc q) loc_look (fun i x1 x2 hi hG hP => by
    refine end_step hi (by omega) (by rw [hG.1 0 5 (by omega)]; exact a1) (by rw [hG.2 128 1 rfl]; exact a2) ?_ hBE hP
    rw [hacc]; unfold mGood
    rw [hG.2 128 28 rfl, hG.2 128 29 rfl, hG.2 128 1 rfl, hG.2 128 33 rfl]) hR5
  obtain ⟨L1, L2, L3⟩ := L
  have c7 : ∀ a j, ¬ (8 ≤ a ∧ a < 128) → cS7 m1 a j = cS6 m1 a j := fun a j x => L3.1 a j x
  have m6 : ∀ a j, stn a j = 99 → mS6 m2 a j = mS5 m2 a j := fun a j x => L3.2 a j x
  have hR7 : ∀ i, i < 8 → R0 (t + 1) (Bof (mS5 m2)) (Eof (mS5 m2)) i (cS7 m1) (mS6 m2) := L1
  have a3 : cS7 m1 0 5 = nI (t + 1) := (c7 _ _ (by omega)).trans a1
  have a4 : mS6 m2 128 1 = nI (t + 1) := (m6 _ _ rfl).trans a2
  have b2 : mS2 m2 128 1 = nI (t + 1) := by rw [hGB.2 128 1 rfl]; unfold mS1; rw [su_at, t2]; exact nI_al t 1
  have b3 : cS3 m1 0 5 = nI (t + 1) := by rw [hGB.1 0 5 (by omega)]; unfold cS1; rw [su_at, t1]; exact nI_al t 1
  refine ⟨⟨fun s hs k => ?_, hCB, ⟨t + 1, by omega, b3⟩, hC5, ⟨n, hn, en1⟩, fun s hs => ?_, ⟨t + 1, by omega, a3⟩⟩, ⟨⟨t, by omega, t2⟩, fun q => ?_, hRg, hGo, ⟨n, by omega, en2⟩, ⟨t + 1, by omega, b2⟩, ⟨t + 1, by omega, a4⟩⟩, (if mLn m2 = 1 then d + 1 else 0), (if mLn m2 = 1 then d1 + 1 else 0), D', ?_, ?_, hDD⟩
  · obtain ⟨f, q, p, a, w, hs', -⟩ := hR0 s hs
    unfold cS1
    rw [su_na (by omega)]; exact hs'.2.2.2.2.2.2.1.2.2 k
  · obtain ⟨f, q, p, a, w, hs', -⟩ := L2 s hs
    exact hs'.ok
  · obtain ⟨av, hav, -, ea, -⟩ := hEH.aim hER.2.2.2.1.2.2.2 hD0 q
    rw [ea, nI_toInt (by omega)]; omega
  · unfold cStep mStep
    rw [eL, a3, a4, nI_clamp (by omega)]
    have hj : (t + 1) % 64 < 64 := Nat.mod_lt _ (by decide)
    -- frames
    have f1 : ∀ u, ∀ a j, ¬ (a = 0 ∧ j = 6) → a ≠ 7 → su (su (cS7 m1) 0 6 u) 7 ((t + 1) % 64) (mLn m2) a j = cS7 m1 a j := fun u a j x y => by rw [su_na y, su_ne x]
    have f2 : ∀ u, ∀ a j, ¬ (a = 128 ∧ j = 2) → a ≠ 142 → su (su (mS6 m2) 142 ((t + 1) % 64) (mLn m2)) 128 2 u a j = mS6 m2 a j := fun u a j x y => by rw [su_ne x, su_na y]
    have v6 : ∀ a j, a = 0 ∨ a = 6 ∨ a = 7 → cS7 m1 a j = cS4 m1 a j := fun a j x => (c7 _ _ (by omega)).trans (c6 _ _ (by omega))
    have v5 : ∀ j, j < 18 → mS6 m2 128 j = mS3 m2 128 j := fun j x => (m6 _ _ rfl).trans (m5 j x)
    have v5' : ∀ a j, a = 141 ∨ a = 142 → mS6 m2 a j = mS3 m2 a j := fun a j x => (m6 a j (by rcases x with rfl | rfl <;> rfl)).trans (m5' a j x)
    have w6 : cS7 m1 0 6 = nI d1 := by rw [v6 _ _ (by omega), o1 _ _ (by omega) (by decide) (by decide)]; exact ed1
    have w2 : mS6 m2 128 2 = nI d := by rw [v5 _ (by decide), o2 _ _ rfl (by decide) (by decide)]; exact ed
    have i01 : ¬ (0 : Int32) = 1 := by decide
    have k2 : ∀ u j, 18 ≤ j → su (su (mS6 m2) 142 ((t + 1) % 64) (mLn m2)) 128 2 u 128 j = mS5 m2 128 j := fun u j x => by rw [f2 _ _ _ (by omega) (by decide)]; exact m6 _ _ rfl
    have k3 : ∀ u a j, 143 ≤ a → a ≤ 145 → su (su (mS6 m2) 142 ((t + 1) % 64) (mLn m2)) 128 2 u a j = mS5 m2 a j := fun u a j x y => by
      rw [f2 _ _ _ (by omega) (by omega)]
      exact m6 a j (by rcases (show a = 143 ∨ a = 144 ∨ a = 145 by omega) with rfl | rfl | rfl <;> rfl)
    have dd : ∀ x : Nat, (if mLn m2 = 1 then nI x + 1 else 0) = nI (if mLn m2 = 1 then x + 1 else 0) := by
      intro x
      rcases h01 with q | q
      · rw [q, if_neg i01, if_neg i01]; rfl
      · rw [q, if_pos rfl, if_pos rfl]; exact nI_al x 1
    have hle : ∀ x : Nat, (if mLn m2 = 1 then x + 1 else 0) ≤ x + 1 := by intro x; split <;> omega
    have hl2 := hle d
    have hl1 := hle d1
    refine ⟨hEH5.fr (k2 _) (k3 _), hER5.fr (fun a j x y => ?_) (k2 _) (k3 _), ht, ?_, ?_, by omega, ?_, by omega, ?_, ?_, ?_, ?_, fun k hk => ?_, fun k hk => ?_, fun i hi => ?_⟩
    · rw [f1 _ _ _ (by omega) (by omega)]; exact c7 _ _ (by omega)
    · rw [f2 _ _ _ (by decide) (by decide)]; exact a4
    · rw [f1 _ _ _ (by decide) (by decide)]; exact a3
    · rw [su_at, w2]; exact dd d
    · rw [su_na (by decide), su_at, w6]; exact dd d1
    · rcases h01 with q | q
      · rw [q, if_neg i01, if_neg i01]; exact Or.inl rfl
      · rw [q, if_pos rfl, if_pos rfl]; omega
    · rw [f1 _ _ _ (by decide) (by decide), f2 _ _ _ (by decide) (by decide), v6 _ _ (by omega), v5 _ (by decide)]; exact ds1
    · rw [f2 _ _ _ (by decide) (by decide), v5 _ (by decide), ds2]
      exact congrArg nI (ctF_cg _ (fun k _ => by rw [f2 _ _ _ (by omega) (by decide), v5' _ _ (by omega)]))
    · rw [f1 _ _ _ (by omega) (by decide), f2 _ _ _ (by omega) (by decide), v6 _ _ (by omega), v5' _ _ (by omega)]; exact ds3 k hk
    · by_cases q : k = (t + 1) % 64
      · subst q; rw [su_at, su_na (by decide), su_at]
      · rw [su_nj q, su_na (by decide), su_na (by decide), su_nj q, v6 _ _ (by omega), v5' _ _ (by omega), o1 _ _ (by omega) (by omega) (by decide), o2 _ _ rfl (by omega) (by decide)]; exact e7 k hk
    · rw [Bof_cg (k2 _), Eof_cg' (k2 _)]
      refine R0.cg i _ _ _ _ (CAg.of hi (fun a j x y => f1 _ _ _ (by omega) (by omega))) (MAg.of hi (fun a j x => ?_)) (hR7 i hi)
      refine f2 _ _ _ (fun q => x (by rw [q.1]; rfl)) (fun q => x (by rw [q]; rfl))
  · unfold mStep
    rw [← hDc]
    refine congrArg (fun x => D' + x) (ctF_cg 2048 (fun k _ => ?_))
    rw [su_na (by decide), su_na (by decide), m6 _ _ rfl, m5' _ _ (by omega)]
