abbrev EQ4 (m1 m2 : Sg) : Prop := EA m1 m2 ∧ ET m1 m2 ∧ EC m1 m2 ∧ EL m1 m2
theorem eTel_fr {m : Sg} {n : Nat} {v : Int32} (k : Nat) : eTel9 v (eTel0 (itr eCopy m n)) 3 k = m 3 k := by
  have f : itr eCopy m n 3 k = m 3 k := fr_ecopy (by decide)
  unfold eTel9
  split
  · rw [su_na (by decide), su_na (by decide)]; unfold eTel0; rw [su_na (by decide), su_na (by decide), su_na (by decide), su_na (by decide)]; exact f
  · rw [su_na (by decide), su_na (by decide), su_na (by decide)]; unfold eTel0; rw [su_na (by decide), su_na (by decide), su_na (by decide), su_na (by decide)]; exact f
theorem mTel_fr {m : Sg} {v : Int32} (k : Nat) : mTel m v 143 k = m 143 k := by
  have f : itr mCopy (mTel0 m) (mTelN m) 143 k = mTel0 m 143 k := fr_copy (by decide)
  unfold mTel mTel9
  rw [su_na (by decide), su_na (by decide), su_na (by decide), su_na (by decide), su_na (by decide), f]
  unfold mTel0
  rw [su_na (by decide), su_na (by decide), su_na (by decide)]
theorem eOther_fr {m : Sg} (k : Nat) : eOther m 3 k = m 3 k := by
  unfold eOther
  split
  · split
    · rw [su_na (by decide), su_na (by decide), su_na (by decide)]
    · rw [su_na (by decide), su_na (by decide), su_na (by decide)]
  · rw [su_na (by decide), su_na (by decide)]
theorem mOther_fr {m : Sg} (k : Nat) : mOther m 143 k = m 143 k := by
  unfold mOther
  rw [su_na (by decide)]
  split
  · split
    · rw [su_na (by decide), su_na (by decide)]
    · rw [su_na (by decide), su_na (by decide)]
  · rw [su_na (by decide)]
theorem eCompl_fr {m : Sg} (k : Nat) : eCompl m 3 k = m 3 k := by
  unfold eCompl
  split
  · split
    · exact eTel_fr k
    · exact eTel_fr k
  · exact eOther_fr k
theorem mCompl_fr {m : Sg} (k : Nat) : mCompl m 143 k = m 143 k := by
  unfold mCompl
  split
  · split
    · exact mTel_fr k
    · exact mTel_fr k
  · exact mOther_fr k
theorem compl_sim {m1 m2 : Sg} {n : Nat} (hn : n < 600) (h1 : 1 ≤ n) (en : m2 128 25 = nI n) (h : EQ4 m1 m2) (hb : EB m1 m2 n) (h23 : ∃ b, b < 2147483648 ∧ m2 128 23 = nI b) : EQ4 (eCompl m1) (mCompl m2) := by
  obtain ⟨a, t, c, l⟩ := h
  have en1 : m1 2 7 = nI n := a.1.trans en
  have eI : eIsTel m1 ↔ mIsTel m2 := by
    unfold eIsTel mIsTel
    rw [a.1, a.2.1]
    exact ⟨fun q => ⟨q.2, q.1⟩, fun q => ⟨q.2, q.1⟩⟩
  have eN1 : eTelN m1 = n := by unfold eTelN; rw [en1, nI_clamp (by omega)]
  have eN2 : mTelN m2 = n := by unfold mTelN; rw [en, nI_clamp (by omega)]
  unfold eCompl mCompl
  by_cases d : mIsTel m2
  · rw [if_pos (eI.mpr d), if_pos d, eN1, eN2]
    have h8 : 8 ≤ n := by
      have := d.1
      rw [en, nI_ltl (by omega) (by decide)] at this
      have e : (OfNat.ofNat 8 : Nat) = 8 := rfl
      omega
    have eR := right_iff h8 hb
    by_cases r : mRight m2 n
    · rw [if_pos (eR.mpr r), if_pos r]
      unfold mTel
      rw [eN2]
      exact eTel_sim hn h8 en a t c hb (Or.inr rfl)
    · rw [if_neg (fun q => r (eR.mp q)), if_neg r]
      unfold mTel
      rw [eN2]
      exact eTel_sim hn h8 en a t c hb (Or.inl rfl)
  · rw [if_neg (fun q => d (eI.mp q)), if_neg d]
    exact eOther_sim a t c l (fun _ => hb 0 (by omega)) h23
def ER (m1 m2 : Sg) : Prop := m1 2 3 = m2 128 18 ∧ (¬ m2 128 18 = 0 → m1 2 4 = m2 128 19) ∧ (m2 128 18 = 1 → m1 2 5 = m2 128 20 ∧ m1 2 6 = m2 128 21) ∧ EQ4 m1 m2 ∧ (∀ c, c < 2147483648 → m2 128 25 = nI c → EB m1 m2 c)
/-- the numbers of the reference's ear -/
def EI (m : Sg) : Prop := (∃ b, b < 2147483648 ∧ m 128 23 = nI b) ∧ (m 128 22 = 0 ∨ m 128 22 = 1) ∧ (∃ c, c < 600 ∧ m 128 25 = nI c ∧ (m 128 18 = 2 → 1 ≤ c)) ∧ (m 128 18 = 0 ∨ (m 128 18 = 1 ∧ (∃ g, 1 ≤ g ∧ g ≤ 10 ∧ m 128 19 = nI g) ∧ ∃ o, o < 100 ∧ m 128 21 = nI o) ∨ (m 128 18 = 2 ∧ ∃ g, g ≤ 2 ∧ m 128 19 = nI g))
theorem EQ4.first {m1 m2 : Sg} (h : EQ4 m1 m2) {T : Nat} (t1 : m2 128 1 = nI T) (v18 : Int32) : ER (eFirst (nI T) m1) (mFirst m2) := by
  obtain ⟨⟨a1, a2, a3, a4⟩, ⟨t1', t2, t3, t4, t5, t6⟩, ⟨c0, c1, c2, c3, c4⟩, l⟩ := h
  unfold eFirst mFirst eOpen mOpen
  refine ⟨?_, ?_, ?_, ⟨⟨?_, ?_, ?_, ?_⟩, ⟨?_, ?_, ?_, ?_, ?_, ?_⟩, ⟨?_, ?_, ?_, ?_, ?_⟩, ?_⟩, ?_⟩
  all_goals try simp only [su_app, false_and, and_false, and_self, Nat.reduceEqDiff, if_false, if_true, eq_self, a1, a2, a3, a4, t1', t2, t3, t4, c0, c1, c2, c3, c4, t1]
  · exact fun _ => trivial
  · exact fun _ => trivial
  · exact t5
  · exact t6
  · intro n hn en k hk; simp only [su_app, false_and, and_false, and_self, Nat.reduceEqDiff, if_false, if_true, eq_self] at en ⊢; exact l n hn en k hk
  · intro c hc ec k hk
    have : (0 : Int32) = nI 0 := rfl
    rw [this] at ec
    have := (nI_eq (by decide) hc).mp ec
    omega
theorem EQ4.opn {m1 m2 : Sg} (h : EQ4 m1 m2) (hb : ∀ c, c < 2147483648 → m2 128 25 = nI c → EB m1 m2 c) : ER (eOpen m1) (mOpen m2) := by
  obtain ⟨⟨a1, a2, a3, a4⟩, ⟨t1', t2, t3, t4, t5, t6⟩, ⟨c0, c1, c2, c3, c4⟩, l⟩ := h
  unfold eOpen mOpen
  refine ⟨?_, ?_, ?_, ⟨⟨?_, ?_, ?_, ?_⟩, ⟨?_, ?_, ?_, ?_, ?_, ?_⟩, ⟨?_, ?_, ?_, ?_, ?_⟩, ?_⟩, ?_⟩
  all_goals try simp only [su_app, false_and, and_false, and_self, Nat.reduceEqDiff, if_false, if_true, eq_self, a1, a2, a3, a4, t1', t2, t3, t4, c0, c1, c2, c3, c4]
  · exact fun _ => trivial
  · exact fun _ => trivial
  · exact t5
  · exact t6
  · intro n hn en k hk; simp only [su_app, false_and, and_false, and_self, Nat.reduceEqDiff, if_false, if_true, eq_self] at en ⊢; exact l n hn en k hk
  · intro c hc ec k hk; simp only [su_app, false_and, and_false, and_self, Nat.reduceEqDiff, if_false, if_true, eq_self]; exact hb c hc ec k hk
