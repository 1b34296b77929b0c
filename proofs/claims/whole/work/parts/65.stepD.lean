theorem ST.go {m1 m2 : Sg} {i f q : Nat} {cs ms ca ma w : Option Nat} (h : ST m1 m2 i f q cs ms ca ma w) (x : 0 ≤ m2 134 i) : ∃ p, p < 273 ∧ m2 134 i = nI p := h.rg.1 (fun y => by
  have := Int32.lt_iff_toInt_lt.mp y
  have := Int32.le_iff_toInt_le.mp x
  omega)
theorem stepD {m1 m2 : Sg} {t d d1 D : Nat} (h : RR m1 m2 t d d1 D) (ht : t + 1 ≤ 100000) (hD : D ≤ 512) : (∀ i, i < 8 → R2 (t + 1) d1 (mLn m2) (Bof m2) (Eof m2) i (cS5 m1) (mS4 m2)) ∧ (∀ i, i < 8 → CSt (itr (cSeeS (cLn m1)) (cS4 m1) i) (8 + 15 * i)) ∧ (∀ s, s < 8 → 0 ≤ itr (mGo (mLn m2)) (mS3 m2) s 134 s → ∃ p, p < 273 ∧ itr (mGo (mLn m2)) (mS3 m2) s 134 s = nI p) ∧ GE (cS4 m1) (mS3 m2) (cS5 m1) (mS4 m2) := by
  obtain ⟨hR, eL, h01, hv, hDs, -, -, n1, -, n2⟩ := stepC h ht hD
  have L := lift (P := fun i x1 x2 => R1 (t + 1) d1 (Bof m2) (Eof m2) i x1 x2 ∧ (vm x2 i = 0 → mLn m2 = 0)) (Q := R2 (t + 1) d1 (mLn m2) (Bof m2) (Eof m2)) (f := cSeeS (mLn m2)) (g := mGo (mLn m2)) (m1 := cS4 m1) (m2 := mS3 m2) (fun i x1 x2 y1 y2 c1 c2 hP => ⟨R1.cg i _ _ _ _ c1 c2 hP.1, by rw [vm_cg c2]; exact hP.2⟩) R2.cg (fun i x1 x2 _ hP a j q => ?_) (loc_go _) (fun i x1 x2 hi hG hP => ?_) (fun i hi => ⟨hR i hi, hv i hi⟩)
  · obtain ⟨L1, L2, L3⟩ := L
    unfold cS5 mS4
    rw [eL]
    refine ⟨L1, fun i hi => ?_, fun i hi => ?_, L3⟩
    · obtain ⟨⟨f, q, p, a, w, hs, -⟩, -⟩ := L2 i hi
      exact hs.ok
    · obtain ⟨⟨f, q, p, a, w, hs, -⟩, -⟩ := L2 i hi
      exact hs.go
  · obtain ⟨⟨f9, q9, p9, a9, w9, hs, -⟩, -⟩ := hP
    unfold cSeeS
    exact cSee_loc hs.ok q
  · exact go_step (by omega) h01 (by rw [hG.1 0 5 (by omega)]; exact n1) (by rw [hG.2 128 1 rfl]; exact n2) hP.2 hP.1
theorem eOpen_fr {m : Sg} {a j : Nat} (h : a < 2 ∨ 6 ≤ a) : eOpen m a j = m a j := by
  unfold eOpen; simp (disch := omega) only [su_na]
theorem eFirst_fr {t : Int32} {m : Sg} {a j : Nat} (h : a < 2 ∨ 6 ≤ a) : eFirst t m a j = m a j := by
  unfold eFirst; rw [eOpen_fr h]; simp (disch := omega) only [su_na]
theorem eCompl_frA {m : Sg} {a j : Nat} (h : a < 2 ∨ 6 ≤ a) : eCompl m a j = m a j := eCompl_o (by omega) (by omega) (by omega)
theorem eTake_fr {ln t : Int32} {m : Sg} {a j : Nat} (h : a < 2 ∨ 6 ≤ a) : eTake ln t m a j = m a j := by
  unfold eTake
  split
  · unfold eChar
    split
    · unfold eEnd eEnd9 eBad
      split
      · simp (disch := omega) only [su_na]
      · simp (disch := omega) only [su_na]
    · split
      · simp (disch := omega) only [su_na]
      · simp (disch := omega) only [su_na]
  · split
    · unfold eGap
      split
      · split
        · exact eOpen_fr h
        · rw [eFirst_fr h, eCompl_frA h, su_na (by omega)]
      · split
        · rw [su_na (by omega)]
        · rw [eCompl_frA h, su_na (by omega)]
    · split
      · exact eFirst_fr h
      · rfl
theorem mOpen_fr {m : Sg} {a j : Nat} (h : ¬ (a = 128 ∧ 18 ≤ j)) : mOpen m a j = m a j := by
  unfold mOpen; simp (disch := omega) only [su_ne]
theorem mFirst_fr {m : Sg} {a j : Nat} (h : ¬ (a = 128 ∧ 18 ≤ j)) : mFirst m a j = m a j := by
  unfold mFirst; rw [mOpen_fr h]; simp (disch := omega) only [su_ne]
theorem mCompl_frA {m : Sg} {a j : Nat} (h : ¬ (a = 128 ∧ 18 ≤ j)) (h2 : a < 143 ∨ 145 < a) : mCompl m a j = m a j := mCompl_o (by omega) (by omega) (by omega)
theorem mHear_fr {ln : Int32} {m : Sg} {a j : Nat} (h : ¬ (a = 128 ∧ 18 ≤ j)) (h2 : a < 143 ∨ 145 < a) : mHear ln m a j = m a j := by
  unfold mHear
  split
  · split
    · exact mFirst_fr h
    · rfl
  · split
    · unfold mCollect
      have e : mCol1 ln m a j = m a j := by unfold mCol1; simp (disch := omega) only [su_ne]
      split
      · unfold mCol2
        rw [su_ne (by omega), su_ne (by omega), su_ne (by omega), su_ne (by omega), su_na (by omega), su_ne (by omega)]
        exact e
      · exact e
    · split
      · split
        · rw [mCompl_frA h h2, su_ne (by omega), su_ne (by omega)]
        · rw [su_ne (by omega)]
      · split
        · exact mOpen_fr h
        · rw [mFirst_fr h, mCompl_frA h h2]
theorem EH.mono {m : Sg} {t d D D' : Nat} (h : EH m t d D) (hD : D ≤ D') : EH m t d D' := by
  obtain ⟨b, c, l, hb, hl9, hc, e23, e25, e24, h22, hy, hp, htl⟩ := h
  refine ⟨b, c, l, hb, hl9, by omega, e23, e25, e24, h22, hy, ?_, ?_⟩
  · rcases hp with p0 | ⟨p1, g, v, o, hg1, hg2, eg, ev, hv, eo, ho, hd, htb, hc21⟩ | p
    · exact Or.inl p0
    · exact Or.inr (Or.inl ⟨p1, g, v, o, hg1, hg2, eg, ev, hv, eo, ho, hd, htb, by omega⟩)
    · exact Or.inr (Or.inr p)
  · rcases htl with h | ⟨h, e, n, e1, e2, h8, h9, h10⟩
    · exact Or.inl h
    · exact Or.inr ⟨h, e, n, e1, e2, h8, by omega, h10⟩
/-- a 0 behind a character that no disturbance made: the character's number is small -/
theorem hch_of {m1 m2 z1 z2 : Sg} {t d d1 D : Nat} (hEH : EH m2 t d D) (ht : t ≤ 100000) (hdd : d1 = d ∨ (53 ≤ d1 ∧ 53 ≤ d)) (hR : ∀ i, i < 8 → R1 (t + 1) d1 (Bof m2) (Eof m2) i z1 z2) (hz : mLv z2 1 8 = 0) {b c : Nat} (hD : D ≤ 512) (p2 : m2 128 18 = 2) (g2 : m2 128 19 = 2) (e23 : m2 128 23 = nI b) (e25 : m2 128 25 = nI c) (hb : b ≤ t) (htb : t + 1 = b + 13 * c) : c + 1 ≤ 21 := by
  obtain ⟨b', c', l, hb', hl9, hc, e23', e25', e24, h22, hy, hp, htl⟩ := hEH
  have n18 : ¬ m2 128 18 = 0 := by rw [p2]; decide
  have hbb : b' = b := (nI_eq (by omega) (by omega)).mp (e23'.symm.trans e23)
  subst hbb
  have eB : Bof m2 = some b' := Bof_some n18 e23' (by omega)
  have hd12 : d ≤ 12 := by
    rcases hp with p0 | ⟨p1, -⟩ | ⟨-, g, hg, eg, hc1, hd, -⟩
    · exact absurd p0 n18
    · rw [p2] at p1; exact absurd p1 (by decide)
    · omega
  obtain ⟨i, hi, hzi⟩ := lv_some z2 8 hz
  obtain ⟨f, q, p, a, w, hs, ⟨c1, c2, c3⟩, -⟩ := hR i hi
  have a0 : enc none < 0 := by decide
  have hs' := hs
  obtain ⟨-, -, -, -, -, hQ, -, -, ⟨p1, p2', p3, p4⟩, ⟨b1, b2, b3, b4, b5⟩, -⟩ := hs
  rcases hzi with ⟨x, -⟩ | ⟨x, -⟩
  · rw [p2'] at x
    rcases p with _ | k
    · exact absurd a0 x
    · obtain ⟨y1, y2, y3, y4, y5⟩ := c1 k rfl
      obtain ⟨n, y, ev, -⟩ := hQ 0 y3
      have h1 := y4 n y ev
      have h2 := ev.2.2.2.1
      rcases y5 with ⟨-, z⟩ | ⟨-, b9, z1, z2⟩
      · omega
      · rw [eB] at z1; cases z1; omega
  · rw [b2] at x
    rcases a with _ | k
    · exact absurd a0 x
    · have hk := b4 k rfl
      obtain ⟨e, he, hte⟩ := c2 k rfl
      rcases htl with h | ⟨h, e', n, e1, e2, h8, h9, h10, h11, hx, hxb⟩
      · unfold Eof at he; rw [if_pos h] at he; cases he
      · rw [Eof_some h e1 (by omega)] at he
        cases he
        have := hxb n18
        omega
