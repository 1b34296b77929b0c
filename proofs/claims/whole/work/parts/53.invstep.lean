theorem pw_lt {g : Nat} (h1 : 1 ≤ g) (h : g < 9) : 2 ^ (min (g - 1) 8) + 2 ^ (g - 1) = 2 ^ (min (g + 1 - 1) 8) := by
  have e1 : min (g - 1) 8 = g - 1 := by omega
  have e2 : min (g + 1 - 1) 8 = (g - 1) + 1 := by omega
  rw [e1, e2, Nat.pow_succ]; omega
theorem pw_256 (g : Nat) : 2 ^ (min (g - 1) 8) ≤ 256 := Nat.pow_le_pow_right (n := 2) (by decide) (show min (g - 1) 8 ≤ 8 by omega)
theorem eh_hear {m : Sg} {t d D : Nat} {ln : Int32} (h : EH m t d D) (t1 : m 128 1 = nI (t + 1)) (hl : ln = 0 ∨ ln = 1) (hD : D ≤ 512) (ht : t ≤ 100000) (hch : ∀ b c, m 128 18 = 2 → m 128 19 = 2 → ln = 0 → m 128 23 = nI b → m 128 25 = nI c → b ≤ t → t + 1 = b + 13 * c → c + 1 ≤ 21 + D) : EH (mHear ln m) (t + 1) (if ln = 1 then d + 1 else 0) D := by
  obtain ⟨b, c, l, hb, hl9, hc, e23, e25, e24, h22, hy, hp, htl⟩ := h
  have i01 : ¬ (0 : Int32) = 1 := by decide
  have i10 : ¬ (1 : Int32) = 0 := by decide
  have i20 : ¬ (2 : Int32) = 0 := by decide
  have i21 : ¬ (2 : Int32) = 1 := by decide
  unfold mHear
  rcases hp with p0 | ⟨p1, g, v, o, hg1, hg2, eg, ev, hv, eo, ho, hd, htb, hc21⟩ | ⟨p2, g, hg, eg, hc1, hd, hlb, htl9⟩
  · rw [p0, if_pos rfl]
    rcases hl with rfl | rfl
    · rw [if_pos rfl, if_neg i01]
      unfold mFirst mOpen
      refine ⟨t + 1, 0, l, by omega, by omega, by omega, ?_, ?_, ?_, ?_, fun k hk => absurd hk (Nat.not_lt_zero k), Or.inr (Or.inl ⟨?_, 1, 0, 0, by omega, by omega, ?_, ?_, by decide, ?_, by omega, by omega, by omega, by omega⟩), ?_⟩
      all_goals try simp only [su_app, false_and, and_false, and_self, Nat.reduceEqDiff, if_false, if_true, eq_self, t1, e24]
      · exact rfl
      · exact Or.inl trivial
      · rfl
      · rfl
      · rfl
      · exact htl.mv (fun j hj => by simp (disch := omega) only [su_nj]) (fun k => by simp only [su_app, false_and, and_false, and_self, Nat.reduceEqDiff, if_false, if_true, eq_self]) (by omega) (by omega) (fun x hx _ _ => by omega)
    · rw [if_neg i10, if_pos rfl]
      exact ⟨b, c, l, by omega, by omega, hc, e23, e25, e24, h22, hy, Or.inl p0, htl.mv (fun _ _ => rfl) (fun _ => rfl) (by omega) (by omega) (fun x hx q r => absurd p0 r)⟩
  · rw [p1, if_neg i10, if_pos rfl]
    have hdn : (if ln = 1 then d + 1 else 0) ≤ g := by
      split
      · omega
      · omega
    have hdd : (if ln = 1 then d + 1 else 0) ≤ d + 1 := by
      split
      · omega
      · omega
    unfold mCollect
    have c19 : mCol1 ln m 128 19 = nI (g + 1) := by unfold mCol1; rw [su_at, eg]; exact nI_al g 1
    have mo : ∀ a j, ¬ (a = 128 ∧ (j = 19 ∨ j = 20 ∨ j = 21)) → mCol1 ln m a j = m a j := by
      intro a j hj
      unfold mCol1; rw [su_ne (by omega), su_ne (by omega), su_ne (by omega)]
    have n18 : ¬ m 128 18 = 0 := by rw [p1]; decide
    rw [c19]
    by_cases d10 : g = 10
    · subst d10
      rw [if_pos (by decide)]
      have m20 : mCol1 ln m 128 20 = nI v := by
        unfold mCol1; rw [su_nj (by decide), su_nj (by decide), su_at, if_pos (by rw [eg]; decide), i_add0]; exact ev
      have hv256 : v < 256 := hv
      have hbv : mBadV ln (mCol1 ln m) = 0 ∨ mBadV ln (mCol1 ln m) = 1 := by
        unfold mBadV
        split
        · exact Or.inl rfl
        · exact Or.inr rfl
      unfold mCol2
      generalize mBadV ln (mCol1 ln m) = bv at hbv ⊢
      have n25 : mCol1 ln m 128 25 = nI c := (mo _ _ (by omega)).trans e25
      have n1 : mCol1 ln m 128 1 = nI (t + 1) := (mo _ _ (by omega)).trans t1
      have n23 : mCol1 ln m 128 23 = nI b := (mo _ _ (by omega)).trans e23
      have nTL : TL (mCol1 ln m) t d D b := htl.mv (fun j hj => mo _ _ (by omega)) (fun k => mo _ _ (by omega)) (Nat.le_refl _) (by omega) (fun x hx q _ => q n18)
      have ny : ∀ k, k < c → ∃ x, x < 256 ∧ mCol1 ln m 143 k = nI x := fun k hk => by rw [mo _ _ (by omega)]; exact hy k hk
      have nn18 : ¬ mCol1 ln m 128 18 = 0 := by rw [mo _ _ (by omega)]; exact n18
      generalize mCol1 ln m = x2 at m20 n25 n1 n23 nTL ny nn18 ⊢
      refine ⟨b, c + 1, t + 1, by omega, by omega, by omega, ?_, ?_, ?_, ?_, fun k hk => ?_, Or.inr (Or.inr ⟨?_, 0, by omega, ?_, by omega, by omega, by omega, by omega⟩), ?_⟩
      all_goals try simp only [su_app, false_and, and_false, and_self, Nat.reduceEqDiff, if_false, if_true, eq_self, n23, n25, n1]
      · exact nI_al c 1
      · exact hbv
      · rw [nI_clamp (by omega)]
        by_cases kc : k = c
        · subst kc
          exact ⟨v, hv256, by rw [if_pos ⟨trivial, rfl⟩]; exact m20⟩
        · rw [if_neg (fun q => kc q.2)]; exact ny k (by omega)
      · rfl
      · exact nTL.mv (fun j hj => by simp (disch := omega) only [su_nj, su_na]) (fun k => by simp only [su_app, false_and, and_false, and_self, Nat.reduceEqDiff, if_false, if_true, eq_self]) (by omega) (by omega) (fun x hx q _ => q nn18)
    · have g9 : ¬ 10 ≤ g := by omega
      rw [if_neg (show ¬ 11 ≤ nI (g + 1) by rw [nI_gel (by omega) (by decide)]; show ¬ 11 ≤ g + 1; omega)]
      have m21 : ∃ o', o' < g + 1 ∧ mCol1 ln m 128 21 = nI o' := by
        unfold mCol1; rw [su_nj (by decide), su_at, eo, if_neg (by rw [eg, nI_gel (by omega) (by decide)]; exact g9)]
        rcases hl with rfl | rfl
        · exact ⟨o, by omega, i_add0 _⟩
        · exact ⟨o + 1, by omega, nI_al o 1⟩
      have m20 : ∃ v', v' < 2 ^ (min (g + 1 - 1) 8) ∧ mCol1 ln m 128 20 = nI v' := by
        unfold mCol1; rw [su_nj (by decide), su_nj (by decide), su_at, ev, eg]
        by_cases g99 : 9 ≤ g
        · rw [if_pos (by rw [nI_gel (by omega) (by decide)]; exact g99), i_add0]
          have e1 : min (g + 1 - 1) 8 = min (g - 1) 8 := by omega
          exact ⟨v, by rw [e1]; exact hv, rfl⟩
        · rw [if_neg (by rw [nI_gel (by omega) (by decide)]; exact g99)]
          rw [← pw_lt hg1 (by omega)]
          rcases hl with rfl | rfl
          · rw [shl_zero g (by omega) hg1]
            exact ⟨v, Nat.lt_of_lt_of_le hv (Nat.le_add_right _ _), i_add0 _⟩
          · rw [shl_bit g (by omega) hg1, nI_add]
            exact ⟨v + 2 ^ (g - 1), Nat.add_lt_add_right hv _, rfl⟩
      obtain ⟨o', ho', eo'⟩ := m21
      obtain ⟨v', hv', ev'⟩ := m20
      refine ⟨b, c, l, by omega, by omega, hc, ?_, ?_, ?_, ?_, fun k hk => ?_, Or.inr (Or.inl ⟨?_, g + 1, v', o', by omega, by omega, c19, ev', hv', eo', ho', by omega, by omega, hc21⟩), ?_⟩
      · rw [mo _ _ (by omega)]; exact e23
      · rw [mo _ _ (by omega)]; exact e25
      · rw [mo _ _ (by omega)]; exact e24
      · rw [mo _ _ (by omega)]; exact h22
      · rw [mo _ _ (by omega)]; exact hy k hk
      · rw [mo _ _ (by omega)]; exact p1
      · exact htl.mv (fun j hj => mo _ _ (by omega)) (fun k => mo _ _ (by omega)) (by omega) (by omega) (fun x hx q _ => q n18)
  · rw [p2, if_neg i20, if_neg i21]
    have n18 : ¬ m 128 18 = 0 := by rw [p2]; decide
    rcases hl with rfl | rfl
    · rw [if_neg i01, if_neg i01, eg]
      by_cases g2 : g = 2
      · subst g2
        rw [if_pos (show nI 2 = 2 from rfl)]
        have hcc := hch b c p2 eg rfl e23 e25 hb (by omega)
        unfold mOpen
        refine ⟨b, c, l, by omega, by omega, hc, ?_, ?_, ?_, ?_, fun k hk => ?_, Or.inr (Or.inl ⟨?_, 1, 0, 0, by omega, by omega, ?_, ?_, by decide, ?_, by omega, by omega, by omega, hcc⟩), ?_⟩
        all_goals try simp only [su_app, false_and, and_false, and_self, Nat.reduceEqDiff, if_false, if_true, eq_self, e23, e25, e24]
        · exact h22
        · exact hy k hk
        · rfl
        · rfl
        · rfl
        · exact htl.mv (fun j hj => by simp (disch := omega) only [su_nj]) (fun k => by simp only [su_app, false_and, and_false, and_self, Nat.reduceEqDiff, if_false, if_true, eq_self]) (by omega) (by omega) (fun x hx q _ => q n18)
      · rw [if_neg (show ¬ nI g = 2 by rw [nI_eql (by omega) (by decide)]; exact g2)]
        have T1 : TL (mCompl m) (t + 1) 0 D (t + 1) := htl.compl hc hD e25 e24 hy hl9 (by omega) (by omega) (by omega) (fun x hx => by omega)
        have ct : mCompl m 128 1 = nI (t + 1) := by rw [mCompl_o (by omega) (by decide) (by decide)]; exact t1
        have cl : mCompl m 128 24 = nI l := by rw [mCompl_o (by omega) (by decide) (by decide)]; exact e24
        have c18 : ¬ mCompl m 128 18 = 0 := by rw [mCompl_o (by omega) (by decide) (by decide)]; exact n18
        generalize mCompl m = x at T1 ct cl c18 ⊢
        unfold mFirst mOpen
        refine ⟨t + 1, 0, l, by omega, by omega, by omega, ?_, ?_, ?_, ?_, fun k hk => absurd hk (Nat.not_lt_zero k), Or.inr (Or.inl ⟨?_, 1, 0, 0, by omega, by omega, ?_, ?_, by decide, ?_, by omega, by omega, by omega, by omega⟩), ?_⟩
        all_goals try simp only [su_app, false_and, and_false, and_self, Nat.reduceEqDiff, if_false, if_true, eq_self, ct, cl]
        · exact rfl
        · exact Or.inl trivial
        · rfl
        · rfl
        · rfl
        · exact T1.mv (fun j hj => by simp (disch := omega) only [su_nj]) (fun k => by simp only [su_app, false_and, and_false, and_self, Nat.reduceEqDiff, if_false, if_true, eq_self]) (Nat.le_refl _) (by omega) (fun y hy q _ => q c18)
    · rw [if_pos rfl, if_pos rfl, eg]
      have egg : nI g + 1 = nI (g + 1) := nI_al g 1
      rw [egg]
      by_cases g2 : g = 2
      · subst g2
        rw [if_pos (show nI (2 + 1) = 3 from rfl)]
        have htl' : TL (su (su m 128 19 (nI (2 + 1))) 128 18 0) t d D b := htl.mv (fun j hj => by simp (disch := omega) only [su_nj]) (fun k => by simp only [su_app, false_and, and_false, and_self, Nat.reduceEqDiff, if_false, if_true, eq_self]) (Nat.le_refl _) (by omega) (fun x hx q _ => q n18)
        have f : ∀ a j, ¬ (a = 128 ∧ (j = 18 ∨ j = 19)) → su (su m 128 19 (nI (2 + 1))) 128 18 0 a j = m a j := fun a j hj => by rw [su_ne (by omega), su_ne (by omega)]
        have z : su (su m 128 19 (nI (2 + 1))) 128 18 0 128 18 = 0 := su_at _ _ _ _
        generalize su (su m 128 19 (nI (2 + 1))) 128 18 0 = x at htl' f z ⊢
        have T1 : TL (mCompl x) (t + 1) (d + 1) D (t + 2) := htl'.compl hc hD ((f _ _ (by omega)).trans e25) ((f _ _ (by omega)).trans e24) (fun k hk => by rw [f _ _ (by omega)]; exact hy k hk) hl9 (by omega) (by omega) (by omega) (fun x hx => by omega)
        have o : ∀ j, j < 28 → mCompl x 128 j = x 128 j := fun j hj => mCompl_o (by omega) (by decide) (by decide)
        refine ⟨b, c, l, by omega, by omega, hc, ?_, ?_, ?_, ?_, fun k hk => ?_, Or.inl ?_, ?_⟩
        · rw [o _ (by decide), f _ _ (by omega)]; exact e23
        · rw [o _ (by decide), f _ _ (by omega)]; exact e25
        · rw [o _ (by decide), f _ _ (by omega)]; exact e24
        · rw [o _ (by decide), f _ _ (by omega)]; exact h22
        · rw [mCompl_fr, f _ _ (by omega)]; exact hy k hk
        · rw [o _ (by decide)]; exact z
        · have z' : mCompl x 128 18 = 0 := (o _ (by decide)).trans z
          exact T1.mv (fun _ _ => rfl) (fun _ => rfl) (Nat.le_refl _) (by omega) (fun y hy q r => absurd z' r)
      · rw [if_neg (show ¬ nI (g + 1) = 3 by rw [nI_eql (by omega) (by decide)]; show ¬ g + 1 = 3; omega)]
        refine ⟨b, c, l, by omega, by omega, hc, ?_, ?_, ?_, ?_, fun k hk => ?_, Or.inr (Or.inr ⟨?_, g + 1, by omega, su_at _ _ _ _, hc1, by omega, hlb, by omega⟩), ?_⟩
        all_goals try simp only [su_app, false_and, and_false, and_self, Nat.reduceEqDiff, if_false, if_true, eq_self, e23, e25, e24]
        · exact h22
        · exact hy k hk
        · exact p2
        · exact htl.mv (fun j hj => su_nj (by omega)) (fun k => su_na (by decide)) (by omega) (by omega) (fun x hx q _ => q n18)
