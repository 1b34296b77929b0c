theorem mCompl_o {m : Sg} {a j : Nat} (h : ¬ (a = 128 ∧ 28 ≤ j ∧ j ≤ 33)) (h2 : a ≠ 144) (h3 : a ≠ 145) : mCompl m a j = m a j := by
  unfold mCompl
  have ot : mOther m a j = m a j := by
    unfold mOther
    rw [su_ne (by omega)]
    split
    · split
      · rw [su_na h2, su_ne (by omega)]
      · rw [su_na h2, su_ne (by omega)]
    · rw [su_na h2]
  have tl : ∀ v, mTel m v a j = m a j := by
    intro v
    have f : itr mCopy (mTel0 m) (mTelN m) a j = mTel0 m a j := fr_copy h3
    unfold mTel mTel9
    rw [su_na h2, su_na h2, su_ne (by omega), su_ne (by omega), su_ne (by omega), f]
    unfold mTel0
    rw [su_ne (by omega), su_ne (by omega), su_ne (by omega)]
  split
  · split
    · exact tl 1
    · exact tl 0
  · exact ot
theorem eCompl_o {m : Sg} {a j : Nat} (h : ¬ (a = 2 ∧ 11 ≤ j ∧ j ≤ 15)) (h2 : a ≠ 4) (h3 : a ≠ 5) : eCompl m a j = m a j := by
  unfold eCompl
  have ot : eOther m a j = m a j := by
    unfold eOther
    split
    · split
      · rw [su_na h3, su_ne (by omega), su_ne (by omega)]
      · rw [su_na h3, su_ne (by omega), su_ne (by omega)]
    · rw [su_na h3, su_ne (by omega)]
  have tl : ∀ v n, eTel9 v (eTel0 (itr eCopy m n)) a j = m a j := by
    intro v n
    have f : itr eCopy m n a j = m a j := fr_ecopy h2
    have t0 : eTel0 (itr eCopy m n) a j = m a j := by
      unfold eTel0
      rw [su_ne (by omega), su_ne (by omega), su_ne (by omega), su_ne (by omega), f]
    unfold eTel9
    split
    · rw [su_na h3, su_ne (by omega), t0]
    · rw [su_na h3, su_na h3, su_ne (by omega), t0]
  split
  · split
    · exact tl 1 _
    · exact tl 0 _
  · exact ot
theorem EQ4.cg {m1 m2 m1' m2' : Sg} (h : EQ4 m1 m2) (e1 : ∀ a j, ¬ (a = 2 ∧ j < 7) → m1' a j = m1 a j) (e2 : ∀ a j, ¬ (a = 128 ∧ (j = 18 ∨ j = 19)) → m2' a j = m2 a j) : EQ4 m1' m2' := by
  obtain ⟨⟨a1, a2, a3, a4⟩, ⟨t1', t2, t3, t4, t5, t6⟩, ⟨c0, c1, c2, c3, c4⟩, l⟩ := h
  have x : ∀ j, 7 ≤ j → m1' 2 j = m1 2 j := fun j hj => e1 2 j (by omega)
  have y : ∀ j, 20 ≤ j → m2' 128 j = m2 128 j := fun j hj => e2 128 j (by omega)
  have z : ∀ j, m1' 5 j = m1 5 j := fun j => e1 5 j (by omega)
  have w : ∀ j, m2' 144 j = m2 144 j := fun j => e2 144 j (by omega)
  refine ⟨⟨?_, ?_, ?_, ?_⟩, ⟨?_, ?_, ?_, ?_, ?_, ?_⟩, ⟨?_, ?_, ?_, ?_, ?_⟩, ?_⟩
  · rw [x _ (by decide), y _ (by decide)]; exact a1
  · rw [x _ (by decide), y _ (by decide)]; exact a2
  · rw [x _ (by decide), y _ (by decide)]; exact a3
  · rw [x _ (by decide), y _ (by decide)]; exact a4
  · rw [x _ (by decide), y _ (by decide)]; exact t1'
  · rw [x _ (by decide), y _ (by decide)]; exact t2
  · rw [x _ (by decide), y _ (by decide)]; exact t3
  · rw [x _ (by decide), y _ (by decide)]; exact t4
  · rw [x _ (by decide), y _ (by decide)]; exact t5
  · rw [x _ (by decide), y _ (by decide), y _ (by decide)]; exact t6
  · rw [z, w]; exact c0
  · rw [z, w]; exact c1
  · rw [z, w]; exact c2
  · rw [z, w]; exact c3
  · rw [z, w]; exact c4
  · intro n hn en k hk
    rw [y _ (by decide)] at en
    rw [e1 _ _ (by omega), e2 _ _ (by omega)]
    exact l n hn en k hk
theorem hear_sim {m1 m2 : Sg} {T : Nat} {ln : Int32} (h : ER m1 m2) (hi : EI m2) (t1 : m2 128 1 = nI T) (hl : ln = 0 ∨ ln = 1) : ER (eTake ln (nI T) m1) (mHear ln m2) := by
  have h9 := h
  obtain ⟨h23, h22, ⟨c, hc, ec, hc1⟩, hp⟩ := hi
  obtain ⟨e3, e4, e56, hq, hb⟩ := h
  unfold eTake mHear
  have i01 : ¬ (0 : Int32) = 1 := by decide
  have i02 : ¬ (0 : Int32) = 2 := by decide
  have i10 : ¬ (1 : Int32) = 0 := by decide
  have i20 : ¬ (2 : Int32) = 0 := by decide
  have i21 : ¬ (2 : Int32) = 1 := by decide
  rcases hp with p0 | ⟨p1, ⟨g, hg1, hg2, eg⟩, o, ho, eo⟩ | ⟨p2, g, hg, eg⟩
  · rw [e3, p0, if_neg i01, if_neg i02, if_pos rfl]
    rcases hl with rfl | rfl
    · rw [if_pos rfl, if_pos rfl]; exact hq.first t1 0
    · rw [if_neg i10, if_neg i10]; exact h9
  · rw [e3, p1, if_pos rfl, if_neg i10, if_pos rfl]
    exact char_sim h9 t1 p1 ⟨hg1, hg2⟩ eg ho eo hc ec h22
  · rw [e3, p2, if_neg i21, if_pos rfl, if_neg i20, if_neg i21]
    have e4 : m1 2 4 = nI g := (e4 (by rw [p2]; exact i20)).trans eg
    have hcp := hc1 p2
    have q3 : EQ4 (su m1 2 3 0) m2 := hq.cg (fun a j x => su_ne (by omega)) (fun _ _ _ => rfl)
    unfold eGap
    rw [e4]
    rcases hl with rfl | rfl
    · rw [if_pos rfl, if_neg i01, eg]
      by_cases g2 : g = 2
      · rw [if_pos (show nI g = 2 by rw [g2]; rfl), if_pos (show nI g = 2 by rw [g2]; rfl)]
        exact hq.opn hb
      · rw [if_neg (show ¬ nI g = 2 by rw [nI_eql (by omega) (by decide)]; exact g2), if_neg (show ¬ nI g = 2 by rw [nI_eql (by omega) (by decide)]; exact g2)]
        have hB : EB (su m1 2 3 0) m2 c := fun k hk => by rw [su_na (by decide)]; exact hb c (by omega) ec k hk
        have cs := compl_sim hc hcp ec q3 hB h23
        exact cs.first (by rw [mCompl_o (by omega) (by decide) (by decide)]; exact t1) 0
    · rw [if_neg i10, if_pos rfl, eg]
      have egg : nI g + 1 = nI (g + 1) := nI_al g 1
      rw [egg]
      by_cases g2 : g = 2
      · subst g2
        rw [if_neg (fun q => q.2 (by decide)), if_pos (show nI (2 + 1) = 3 from rfl)]
        have q4 : EQ4 (su m1 2 3 0) (su (su m2 128 19 (nI (2 + 1))) 128 18 0) := hq.cg (fun a j x => su_ne (by omega)) (fun a j x => by rw [su_ne (by omega), su_ne (by omega)])
        have ec' : su (su m2 128 19 (nI (2 + 1))) 128 18 0 128 25 = nI c := by rw [su_nj (by decide), su_nj (by decide)]; exact ec
        have hB : EB (su m1 2 3 0) (su (su m2 128 19 (nI (2 + 1))) 128 18 0) c := fun k hk => by rw [su_na (by decide), su_na (by decide), su_na (by decide)]; exact hb c (by omega) ec k hk
        have cs := compl_sim hc hcp ec' q4 hB (by rw [su_nj (by decide), su_nj (by decide)]; exact h23)
        have z1 : eCompl (su m1 2 3 0) 2 3 = 0 := by rw [eCompl_o (by omega) (by decide) (by decide), su_at]
        have z2 : mCompl (su (su m2 128 19 (nI (2 + 1))) 128 18 0) 128 18 = 0 := by rw [mCompl_o (by omega) (by decide) (by decide), su_at]
        refine ⟨z1.trans z2.symm, fun q => absurd z2 q, fun q => absurd (z2.symm.trans q) i01, cs, ?_⟩
        intro c' hc' ec2 k hk
        rw [mCompl_o (by omega) (by decide) (by decide), ec'] at ec2
        have := (nI_eq (by omega) hc').mp ec2
        subst this
        rw [eCompl_fr, mCompl_fr]
        exact hB k hk
      · rw [if_pos ⟨rfl, show ¬ 2 ≤ nI g by rw [nI_gel (by omega) (by decide)]; show ¬ 2 ≤ g; omega⟩, if_neg (show ¬ nI (g + 1) = 3 by rw [nI_eql (by omega) (by decide)]; show ¬ g + 1 = 3; omega)]
        have q4 : EQ4 (su m1 2 4 (nI (g + 1))) (su m2 128 19 (nI (g + 1))) := hq.cg (fun a j x => su_ne (by omega)) (fun a j x => su_ne (by omega))
        refine ⟨?_, fun _ => ?_, ?_, q4, ?_⟩
        · rw [su_nj (by decide), su_nj (by decide)]; exact e3
        · rw [su_at, su_at]
        · rw [su_nj (by decide), su_nj (by decide), su_nj (by decide), su_nj (by decide), su_nj (by decide)]; exact e56
        · intro c' hc' ec2 k hk
          rw [su_nj (by decide)] at ec2
          rw [su_na (by decide), su_na (by decide)]; exact hb c' hc' ec2 k hk
