def Bof (m : Sg) : Option Nat := if m 128 18 = 0 then none else some (m 128 23).toNatClampNeg
def Eof (m : Sg) : Option Nat := if m 128 28 = 0 then none else some (m 128 29).toNatClampNeg
theorem Bof_some {m : Sg} {b : Nat} (h : ¬ m 128 18 = 0) (e : m 128 23 = nI b) (hb : b < 2147483648) : Bof m = some b := by
  unfold Bof; rw [if_neg h, e, nI_clamp hb]
theorem Eof_cg {m m' : Sg} (h1 : m' 128 28 = m 128 28) (h2 : m' 128 29 = m 128 29) : Eof m' = Eof m := by
  unfold Eof; rw [h1, h2]
theorem mOther_28 {m : Sg} {j : Nat} (h : j = 28 ∨ j = 29) : mOther m 128 j = m 128 j := by
  unfold mOther
  rw [su_ne (by omega)]
  split
  · split
    · rw [su_na (by decide), su_ne (by omega)]
    · rw [su_na (by decide), su_ne (by omega)]
  · rw [su_na (by decide)]
theorem mFirst_o {m : Sg} {j : Nat} (h : 28 ≤ j) : mFirst m 128 j = m 128 j := by
  unfold mFirst mOpen
  rw [su_nj (by omega), su_nj (by omega), su_nj (by omega), su_nj (by omega), su_nj (by omega), su_nj (by omega), su_nj (by omega)]
theorem be_hear {m : Sg} {t d d1 D : Nat} {ln : Int32} (h : EH m t d D) (t1 : m 128 1 = nI (t + 1)) (hl : ln = 0 ∨ ln = 1) (hD : D ≤ 512) (ht : t ≤ 100000) (hd1 : 50 ≤ d1 → 50 ≤ d) : BE (t + 1) d1 ln (Bof m) (Eof m) (Bof (mHear ln m)) (Eof (mHear ln m)) := by
  obtain ⟨b, c, l, hb, hl9, hc, e23, e25, e24, h22, hy, hp, htl⟩ := h
  have i01 : ¬ (0 : Int32) = 1 := by decide
  have i10 : ¬ (1 : Int32) = 0 := by decide
  have i20 : ¬ (2 : Int32) = 0 := by decide
  have i21 : ¬ (2 : Int32) = 1 := by decide
  unfold mHear
  rcases hp with p0 | ⟨p1, g, v, o, hg1, hg2, eg, ev, hv, eo, ho, hd, htb, hc21⟩ | ⟨p2, g, hg, eg, hc1, hd, hlb, htl9⟩
  · have eB : Bof m = none := if_pos p0
    rw [p0, if_pos rfl, eB]
    rcases hl with rfl | rfl
    · rw [if_pos rfl]
      refine ⟨fun _ _ => ?_, (fun b hb => by cases hb), fun e he _ => ?_⟩
      · refine Bof_some ?_ ?_ (by omega)
        · unfold mFirst mOpen; simp only [su_app, false_and, and_false, and_self, Nat.reduceEqDiff, if_false, if_true, eq_self]; decide
        · unfold mFirst mOpen; simp only [su_app, false_and, and_false, and_self, Nat.reduceEqDiff, if_false, if_true, eq_self]; exact t1
      · rw [Eof_cg (m := m) (mFirst_o (by decide)) (mFirst_o (by decide))]; exact he
    · rw [if_neg i10]
      exact ⟨fun _ x => absurd x i10, (fun b hb => by cases hb), fun e he _ => he⟩
  · have n18 : ¬ m 128 18 = 0 := by rw [p1]; exact i10
    rw [Bof_some n18 e23 (by omega), p1, if_neg i10, if_pos rfl]
    have mo : ∀ a j, ¬ (a = 128 ∧ (j = 19 ∨ j = 20 ∨ j = 21)) → mCol1 ln m a j = m a j := by
      intro a j hj
      unfold mCol1; rw [su_ne (by omega), su_ne (by omega), su_ne (by omega)]
    have k18 : ¬ mCollect ln m 128 18 = 0 := by
      unfold mCollect
      split
      · unfold mCol2; rw [su_nj (by decide), su_at]; exact i20
      · rw [mo _ _ (by omega)]; exact n18
    have ko : ∀ j, j = 23 ∨ j = 28 ∨ j = 29 → mCollect ln m 128 j = m 128 j := by
      intro j hj
      unfold mCollect
      split
      · unfold mCol2
        rw [su_nj (by omega), su_nj (by omega), su_nj (by omega), su_nj (by omega), su_na (by decide), su_nj (by omega)]
        exact mo _ _ (by omega)
      · exact mo _ _ (by omega)
    refine ⟨fun x => by have := hd1 x; omega, fun b' hb' _ _ _ => ?_, fun e he _ => ?_⟩
    · cases hb'
      exact Bof_some k18 ((ko _ (by omega)).trans e23) (by omega)
    · rw [Eof_cg (m := m) (ko _ (by omega)) (ko _ (by omega))]; exact he
  · have n18 : ¬ m 128 18 = 0 := by rw [p2]; exact i20
    rw [Bof_some n18 e23 (by omega), p2, if_neg i20, if_neg i21]
    have noT : ∀ e, Eof m = some e → t + 1 ≤ e + 24 → ∀ x : Sg, x 128 25 = m 128 25 → x 128 28 = m 128 28 → x 128 29 = m 128 29 → Eof (mCompl x) = some e := by
      intro e he hte x x25 x28 x29
      have hq : ¬ mIsTel x := by
        intro q
        have h8 := q.1
        rw [x25, e25, nI_ltl (by omega) (by decide)] at h8
        have e8 : (OfNat.ofNat 8 : Nat) = 8 := rfl
        rcases htl with h | ⟨h, e', n, e1, e2, -, -, hx, -, -, hxb⟩
        · unfold Eof at he; rw [if_pos h] at he; cases he
        · unfold Eof at he
          rw [h, if_neg i10, e1, nI_clamp (by omega)] at he
          cases he
          have := hxb n18
          omega
      unfold mCompl
      rw [if_neg hq, Eof_cg (m := x) (mOther_28 (Or.inl rfl)) (mOther_28 (Or.inr rfl)), Eof_cg (m := m) x28 x29]
      exact he
    rcases hl with rfl | rfl
    · rw [if_neg i01, eg]
      by_cases g2 : g = 2
      · subst g2
        rw [if_pos (show nI 2 = 2 from rfl)]
        refine ⟨fun x => by have := hd1 x; omega, fun b' hb' _ _ _ => ?_, fun e he _ => ?_⟩
        · cases hb'
          refine Bof_some ?_ ?_ (by omega)
          · unfold mOpen; simp only [su_app, false_and, and_false, and_self, Nat.reduceEqDiff, if_false, if_true, eq_self]; decide
          · unfold mOpen; simp only [su_app, false_and, and_false, and_self, Nat.reduceEqDiff, if_false, if_true, eq_self]; exact e23
        · have : Eof (mOpen m) = Eof m := by unfold mOpen; exact Eof_cg (by simp only [su_app, false_and, and_false, and_self, Nat.reduceEqDiff, if_false, if_true, eq_self]) (by simp only [su_app, false_and, and_false, and_self, Nat.reduceEqDiff, if_false, if_true, eq_self])
          rw [this]; exact he
      · rw [if_neg (show ¬ nI g = 2 by rw [nI_eql (by omega) (by decide)]; exact g2)]
        refine ⟨fun x => by have := hd1 x; omega, fun b' hb' _ _ h11 => ?_, fun e he hte => ?_⟩
        · cases hb'
          have := h11 (by omega)
          exact absurd this i01
        · rw [Eof_cg (m := mCompl m) (mFirst_o (by decide)) (mFirst_o (by decide))]
          exact noT e he hte m rfl rfl rfl
    · rw [if_pos rfl, eg]
      have egg : nI g + 1 = nI (g + 1) := nI_al g 1
      rw [egg]
      by_cases g2 : g = 2
      · subst g2
        rw [if_pos (show nI (2 + 1) = 3 from rfl)]
        refine ⟨fun x => by have := hd1 x; omega, fun b' hb' _ h0 _ => ?_, fun e he hte => ?_⟩
        · cases hb'
          have := h0 (by omega)
          exact absurd this i10
        · exact noT e he hte _ (by rw [su_nj (by decide), su_nj (by decide)]) (by rw [su_nj (by decide), su_nj (by decide)]) (by rw [su_nj (by decide), su_nj (by decide)])
      · rw [if_neg (show ¬ nI (g + 1) = 3 by rw [nI_eql (by omega) (by decide)]; show ¬ g + 1 = 3; omega)]
        refine ⟨fun x => by have := hd1 x; omega, fun b' hb' _ _ _ => ?_, fun e he _ => ?_⟩
        · cases hb'
          refine Bof_some ?_ ?_ (by omega)
          · rw [su_nj (by decide)]; exact n18
          · rw [su_nj (by decide)]; exact e23
        · rw [Eof_cg (m := m) (su_nj (by decide)) (su_nj (by decide))]; exact he
