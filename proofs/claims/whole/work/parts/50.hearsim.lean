theorem par_iff : ∀ o, o < 100 → ((nI o &&& 1 = 1) ↔ (nI o - nI o / 2 * 2 = 1)) := by
  intro o ho
  have : ∀ o, o < 100 → ((nI o &&& 1 = 1) ↔ (nI o - nI o / 2 * 2 = 1)) := by decide +kernel
  exact this o ho
theorem char_sim {m1 m2 : Sg} {T g c o : Nat} {ln : Int32} (h : ER m1 m2) (t1 : m2 128 1 = nI T) (p1 : m2 128 18 = 1) (hg : 1 ≤ g ∧ g ≤ 10) (eg : m2 128 19 = nI g) (ho : o < 100) (eo : m2 128 21 = nI o) (hc : c < 600) (ec : m2 128 25 = nI c) (h22 : m2 128 22 = 0 ∨ m2 128 22 = 1) : ER (eChar ln (nI T) m1) (mCollect ln m2) := by
  obtain ⟨e3, e4, e56, ⟨⟨a1, a2, a3, a4⟩, ⟨t1', t2, t3, t4, t5, t6⟩, ⟨c0, c1, c2, c3, c4⟩, l⟩, hb⟩ := h
  have n18 : ¬ m2 128 18 = 0 := by rw [p1]; decide
  have e4 := e4 n18
  obtain ⟨e5, e6⟩ := e56 p1
  have hb := hb c (by omega) ec
  have e4g : m1 2 4 = nI g := e4.trans eg
  unfold eChar mCollect
  have c19 : mCol1 ln m2 128 19 = nI (g + 1) := by
    unfold mCol1; rw [su_at, eg]; exact nI_al g 1
  have eg1 : m1 2 4 + 1 = nI (g + 1) := by rw [e4g]; exact nI_al g 1
  rw [c19, eg1]
  by_cases d : g = 10
  · subst d
    rw [if_pos (show nI (10 + 1) = 11 from rfl), if_pos (show 11 ≤ nI (10 + 1) by decide)]
    have m20 : mCol1 ln m2 128 20 = m2 128 20 := by
      unfold mCol1; rw [su_nj (by decide), su_nj (by decide), su_at, if_pos (by rw [eg]; decide), i_add0]
    have m21 : mCol1 ln m2 128 21 = m2 128 21 := by
      unfold mCol1; rw [su_nj (by decide), su_at, if_pos (by rw [eg]; decide), i_add0]
    have mo : ∀ a j, ¬ (a = 128 ∧ (j = 19 ∨ j = 20 ∨ j = 21)) → mCol1 ln m2 a j = m2 a j := by
      intro a j hj
      unfold mCol1; rw [su_ne (by omega), su_ne (by omega), su_ne (by omega)]
    have m25 : mCol1 ln m2 128 25 = nI c := (mo _ _ (by omega)).trans ec
    have bad : eBad ln (su m1 2 4 (nI (10 + 1))) 2 8 = mBadV ln (mCol1 ln m2) := by
      unfold eBad mBadV eBadC
      rw [m21, mo _ _ (by omega), su_nj (show (6 : Nat) ≠ 4 by decide), e6, eo]
      by_cases b1 : ln = 0
      · rw [if_pos (Or.inl b1), su_at, if_neg (fun q => q.2.2 b1)]
      · by_cases b2 : nI o &&& 1 = 1
        · rw [if_pos (Or.inr b2), su_at, if_neg (fun q => q.2.1 ((par_iff o ho).mp b2))]
        · rw [if_neg (fun q => q.elim b1 b2), su_nj (by decide), a2]
          rcases h22 with b3 | b3
          · rw [b3, if_pos ⟨rfl, fun q => b2 ((par_iff o ho).mpr q), b1⟩]
          · rw [b3, if_neg (fun q => absurd q.1 (by decide))]
    have bo : ∀ a j, ¬ (a = 2 ∧ (j = 4 ∨ j = 8)) → eBad ln (su m1 2 4 (nI (10 + 1))) a j = m1 a j := by
      intro a j hj
      unfold eBad
      split
      · rw [su_ne (by omega), su_ne (by omega)]
      · rw [su_ne (by omega)]
    unfold eEnd
    generalize eBad ln (su m1 2 4 (nI (10 + 1))) = x1 at bad bo ⊢
    unfold eEnd9 mCol2
    rw [← bad]
    generalize mCol1 ln m2 = x2 at m20 m21 mo m25 ⊢
    have x7 : x1 2 7 = nI c := (bo _ _ (by omega)).trans (a1.trans ec)
    have xr : ∀ j, ¬ (j = 4 ∨ j = 8) → x1 2 j = m1 2 j := fun j hj => bo 2 j (by omega)
    refine ⟨?_, ?_, ?_, ⟨⟨?_, ?_, ?_, ?_⟩, ⟨?_, ?_, ?_, ?_, ?_, ?_⟩, ⟨?_, ?_, ?_, ?_, ?_⟩, ?_⟩, ?_⟩
    all_goals try simp only [su_app, false_and, and_false, and_self, Nat.reduceEqDiff, if_false, if_true, eq_self]
    · exact fun _ => trivial
    · intro q; exact absurd q (by decide)
    · rw [x7, m25]
    · rw [xr 9 (by decide), mo _ _ (by omega), a3]
    · rw [mo _ _ (by omega), t1]
    · rw [xr 11 (by decide), mo _ _ (by omega), t1']
    · rw [xr 13 (by decide), mo _ _ (by omega), t2]
    · rw [xr 14 (by decide), mo _ _ (by omega), t3]
    · rw [xr 15 (by decide), mo _ _ (by omega), t4]
    · rw [xr 12 (by decide), mo _ _ (by omega)]; exact t5
    · rw [xr 12 (by decide), mo _ _ (by omega), mo _ _ (by omega)]; exact t6
    · rw [bo _ _ (by omega), mo _ _ (by omega)]; exact c0
    · rw [bo _ _ (by omega), mo _ _ (by omega)]; exact c1
    · rw [bo _ _ (by omega), mo _ _ (by omega)]; exact c2
    · rw [bo _ _ (by omega), mo _ _ (by omega)]; exact c3
    · rw [bo _ _ (by omega), mo _ _ (by omega)]; exact c4
    · intro n hn en k hk
      simp only [su_app, false_and, and_false, and_self, Nat.reduceEqDiff, if_false, if_true, eq_self] at en ⊢
      rw [mo _ _ (by omega)] at en
      rw [bo _ _ (by omega), mo _ _ (by omega)]
      exact l n hn en k hk
    · intro c' hc' ec' k hk
      have ec2 : nI (c + 1) = nI c' := by
        try simp only [su_app, false_and, and_false, and_self, Nat.reduceEqDiff, if_false, if_true, eq_self] at ec'
        rw [m25, nI_al] at ec'
        exact ec'
      have := (nI_eq (by omega) hc').mp ec2
      subst this
      rw [x7, m25, nI_clamp (by omega)]
      simp only [su_app, false_and, and_false, and_self, Nat.reduceEqDiff, if_false, if_true, eq_self]
      by_cases kc : k = c
      · subst kc
        rw [if_pos ⟨trivial, rfl⟩, if_pos ⟨trivial, rfl⟩, xr 5 (by decide), m20]; exact e5
      · rw [if_neg (fun q => kc q.2), if_neg (fun q => kc q.2), bo _ _ (by omega), mo _ _ (by omega)]
        exact hb k (by omega)
  · rw [if_neg (show ¬ nI (g + 1) = 11 by rw [nI_eql (by omega) (by decide)]; show ¬ g + 1 = 11; omega), if_neg (show ¬ 11 ≤ nI (g + 1) by rw [nI_gel (by omega) (by decide)]; show ¬ 11 ≤ g + 1; omega)]
    unfold mCol1
    rw [eg, if_neg (show ¬ 10 ≤ nI g by rw [nI_gel (by omega) (by decide)]; show ¬ 10 ≤ g; omega)]
    have egg : nI g + 1 = nI (g + 1) := nI_al g 1
    rw [egg]
    by_cases e : g = 9
    · rw [if_pos (show 10 ≤ nI (g + 1) by rw [e]; decide), if_pos (show 9 ≤ nI g by rw [e]; decide), i_add0]
      refine ⟨?_, ?_, ?_, ⟨⟨?_, ?_, ?_, ?_⟩, ⟨?_, ?_, ?_, ?_, ?_, ?_⟩, ⟨?_, ?_, ?_, ?_, ?_⟩, ?_⟩, ?_⟩
      all_goals try simp only [su_app, false_and, and_false, and_self, Nat.reduceEqDiff, if_false, if_true, eq_self, e3, e5, e6, a1, a2, a3, a4, t1', t2, t3, t4, c0, c1, c2, c3, c4]
      · exact fun _ => trivial
      · exact fun _ => trivial
      · exact t5
      · exact t6
      · intro n hn en k hk; simp only [su_app, false_and, and_false, and_self, Nat.reduceEqDiff, if_false, if_true, eq_self] at en ⊢; exact l n hn en k hk
      · intro c' hc' ec' k hk
        simp only [su_app, false_and, and_false, and_self, Nat.reduceEqDiff, if_false, if_true, eq_self] at ec' ⊢
        rw [ec] at ec'
        have := (nI_eq (by omega) hc').mp ec'
        subst this
        exact hb k hk
    · rw [if_neg (show ¬ 10 ≤ nI (g + 1) by rw [nI_gel (by omega) (by decide)]; show ¬ 10 ≤ g + 1; omega), if_neg (show ¬ 9 ≤ nI g by rw [nI_gel (by omega) (by decide)]; show ¬ 9 ≤ g; omega)]
      have s1 : nI (g + 1) - 2 = nI (g - 1) := by rw [nI_sl (show 2 ≤ g + 1 by omega)]; exact congrArg nI (show g + 1 - 2 = g - 1 by omega)
      have s2 : nI g - 1 = nI (g - 1) := nI_sl (show 1 ≤ g by omega)
      rw [s1, s2]
      refine ⟨?_, ?_, ?_, ⟨⟨?_, ?_, ?_, ?_⟩, ⟨?_, ?_, ?_, ?_, ?_, ?_⟩, ⟨?_, ?_, ?_, ?_, ?_⟩, ?_⟩, ?_⟩
      all_goals try simp only [su_app, false_and, and_false, and_self, Nat.reduceEqDiff, if_false, if_true, eq_self, e3, e5, e6, a1, a2, a3, a4, t1', t2, t3, t4, c0, c1, c2, c3, c4]
      · exact fun _ => trivial
      · exact fun _ => trivial
      · exact t5
      · exact t6
      · intro n hn en k hk; simp only [su_app, false_and, and_false, and_self, Nat.reduceEqDiff, if_false, if_true, eq_self] at en ⊢; exact l n hn en k hk
      · intro c' hc' ec' k hk
        simp only [su_app, false_and, and_false, and_self, Nat.reduceEqDiff, if_false, if_true, eq_self] at ec' ⊢
        rw [ec] at ec'
        have := (nI_eq (by omega) hc').mp ec'
        subst this
        exact hb k hk
