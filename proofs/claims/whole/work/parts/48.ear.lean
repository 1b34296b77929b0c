/-! the ear against the reference's hearing -/
/-- the cells that are the same on both sides in every phase -/
def EA (m1 m2 : Sg) : Prop := m1 2 7 = m2 128 25 ∧ m1 2 8 = m2 128 22 ∧ m1 2 9 = m2 128 23 ∧ m1 2 10 = m2 128 24
def ET (m1 m2 : Sg) : Prop := m1 2 11 = m2 128 30 ∧ m1 2 13 = m2 128 31 ∧ m1 2 14 = m2 128 33 ∧ m1 2 15 = m2 128 32 ∧ (m2 128 28 = 0 → m1 2 12 = -1000) ∧ (¬ m2 128 28 = 0 → m1 2 12 = m2 128 29)
def EC (m1 m2 : Sg) : Prop := m1 5 0 = m2 144 0 ∧ m1 5 1 = m2 144 1 ∧ m1 5 2 = m2 144 2 ∧ m1 5 3 = m2 144 3 ∧ m1 5 4 = m2 144 4
def EB (m1 m2 : Sg) (c : Nat) : Prop := ∀ k, k < c → m1 3 k = m2 143 k
def EL (m1 m2 : Sg) : Prop := ∀ n, n < 600 → m2 128 30 = nI n → ∀ k, k < n → m1 4 k = m2 145 k
theorem xor_ck (a x : Int32) : a ^^^ x = 255 ↔ 255 ^^^ a = x := by
  constructor
  · intro h; rw [← h, Int32.xor_comm a x, Int32.xor_assoc, Int32.xor_self, Int32.xor_zero]
  · intro h; rw [← h, Int32.xor_comm 255 a, ← Int32.xor_assoc, Int32.xor_self, Int32.zero_xor]
theorem ck_all {m1 m2 : Sg} {n : Nat} (hb : EB m1 m2 n) : ∀ k, k < n → mCk m2 n k = 255 ^^^ eAll m1 k := by
  intro k
  induction k with
  | zero => intro _; exact (Int32.xor_zero).symm
  | succ k ih =>
    intro hk
    show (if n ≤ k + 1 then mCk m2 n k else mCk m2 n k ^^^ m2 143 k) = 255 ^^^ (eAll m1 k ^^^ m1 3 k)
    rw [if_neg (by omega), ih (by omega), hb k (by omega), Int32.xor_assoc]
theorem right_iff {m1 m2 : Sg} {n : Nat} (h8 : 8 ≤ n) (hb : EB m1 m2 n) : eRight m1 n ↔ mRight m2 n := by
  obtain ⟨k, rfl⟩ : ∃ k, n = k + 1 := ⟨n - 1, by omega⟩
  have e1 : mCk m2 (k + 1) (k + 1) = 255 ^^^ eAll m1 k := by
    show (if k + 1 ≤ k + 1 then mCk m2 (k + 1) k else _) = _
    rw [if_pos (Nat.le_refl _), ck_all hb k (by omega)]
  have e2 : m2 143 (k + 1 - 1) = m1 3 k := (hb k (by omega)).symm
  have e3 : eAll m1 (k + 1) = eAll m1 k ^^^ m1 3 k := rfl
  unfold eRight mRight
  rw [e1, e2, e3, xor_ck, hb 5 (by omega)]
theorem ecopy_at {m : Sg} {n k : Nat} (hk : k < n) : itr eCopy m n 4 k = m 3 k := by
  induction n with
  | zero => omega
  | succ n ih =>
    show su (itr eCopy m n) 4 n (itr eCopy m n 3 n) 4 k = _
    by_cases c : k = n
    · subst c; rw [su_at, fr_ecopy (by decide)]
    · rw [su_nj c]; exact ih (by omega)
theorem mcopy_at {m : Sg} {n k : Nat} (hk : k < n) : itr mCopy m n 145 k = m 143 k := by
  induction n with
  | zero => omega
  | succ n ih =>
    show su (itr mCopy m n) 145 n (itr mCopy m n 143 n) 145 k = _
    by_cases c : k = n
    · subst c; rw [su_at, fr_copy (by decide)]
    · rw [su_nj c]; exact ih (by omega)
theorem eOther_sim {m1 m2 : Sg} (a : EA m1 m2) (t : ET m1 m2) (c : EC m1 m2) (l : EL m1 m2) (hb : m2 128 25 = 1 → m1 3 0 = m2 143 0) (h23 : ∃ b, b < 2147483648 ∧ m2 128 23 = nI b) : EA (eOther m1) (mOther m2) ∧ ET (eOther m1) (mOther m2) ∧ EC (eOther m1) (mOther m2) ∧ EL (eOther m1) (mOther m2) := by
  obtain ⟨a1, a2, a3, a4⟩ := a
  obtain ⟨t1, t2, t3, t4, t5, t6⟩ := t
  obtain ⟨c0, c1, c2, c3, c4⟩ := c
  have hC : eOkAns m1 ↔ mOkAns m2 := by
    unfold eOkAns mOkAns
    constructor
    · rintro ⟨h1, h2, h3⟩
      have n28 : ¬ m2 128 28 = 0 := by
        intro q
        rw [t5 q, a3] at h3
        obtain ⟨b, hb9, eb⟩ := h23
        rw [eb] at h3
        have := congrArg Int32.toInt h3
        rw [nI_toInt hb9] at this
        have e : ((-1000 : Int32) + 14).toInt = -986 := by decide
        omega
      exact ⟨n28, by rw [← a3, h3, t6 n28], by rw [← a1]; exact h2, by rw [← a2]; exact h1⟩
    · rintro ⟨h1, h2, h3, h4⟩
      exact ⟨by rw [a2]; exact h4, by rw [a1]; exact h3, by rw [a3, t6 h1]; exact h2⟩
  unfold eOther mOther
  by_cases d : mOkAns m2
  · have hb := hb d.2.2.1
    rw [if_pos (hC.mpr d), if_pos d, hb]
    by_cases e : m2 143 0 = 204
    · rw [if_pos e, if_pos e]
      refine ⟨⟨?_, ?_, ?_, ?_⟩, ⟨?_, ?_, ?_, ?_, ?_, ?_⟩, ⟨?_, ?_, ?_, ?_, ?_⟩, ?_⟩
      all_goals simp only [su_app, false_and, and_false, and_self, Nat.reduceEqDiff, if_false, if_true, eq_self, *]
      · first | exact t5 | exact fun q => q.elim
      · first | exact t6 | exact fun _ => t6 d.1
      · intro n hn en k hk; simp only [su_app, false_and, and_false, and_self, Nat.reduceEqDiff, if_false, if_true, eq_self] at en ⊢; exact l n hn en k hk
    · rw [if_neg e, if_neg e]
      refine ⟨⟨?_, ?_, ?_, ?_⟩, ⟨?_, ?_, ?_, ?_, ?_, ?_⟩, ⟨?_, ?_, ?_, ?_, ?_⟩, ?_⟩
      all_goals simp only [su_app, false_and, and_false, and_self, Nat.reduceEqDiff, if_false, if_true, eq_self, *]
      · first | exact t5 | exact fun q => q.elim
      · first | exact t6 | exact fun _ => t6 d.1
      · intro n hn en k hk; simp only [su_app, false_and, and_false, and_self, Nat.reduceEqDiff, if_false, if_true, eq_self] at en ⊢; exact l n hn en k hk
  · rw [if_neg (fun q => d (hC.mp q)), if_neg d]
    refine ⟨⟨?_, ?_, ?_, ?_⟩, ⟨?_, ?_, ?_, ?_, ?_, ?_⟩, ⟨?_, ?_, ?_, ?_, ?_⟩, ?_⟩
    all_goals simp only [su_app, false_and, and_false, and_self, Nat.reduceEqDiff, if_false, if_true, eq_self, *]
    · exact t5
    · exact t6
    · intro n hn en k hk; simp only [su_app, false_and, and_false, and_self, Nat.reduceEqDiff, if_false, if_true, eq_self] at en ⊢; exact l n hn en k hk
theorem eTel_sim {m1 m2 : Sg} {n : Nat} (hn : n < 600) (h8 : 8 ≤ n) (en : m2 128 25 = nI n) (a : EA m1 m2) (t : ET m1 m2) (c : EC m1 m2) (hb : EB m1 m2 n) {v : Int32} (hv : v = 0 ∨ v = 1) : EA (eTel9 v (eTel0 (itr eCopy m1 n))) (mTel9 (itr mCopy (mTel0 m2) n) v) ∧ ET (eTel9 v (eTel0 (itr eCopy m1 n))) (mTel9 (itr mCopy (mTel0 m2) n) v) ∧ EC (eTel9 v (eTel0 (itr eCopy m1 n))) (mTel9 (itr mCopy (mTel0 m2) n) v) ∧ EL (eTel9 v (eTel0 (itr eCopy m1 n))) (mTel9 (itr mCopy (mTel0 m2) n) v) := by
  obtain ⟨a1, a2, a3, a4⟩ := a
  obtain ⟨t1, t2, t3, t4, t5, t6⟩ := t
  obtain ⟨c0, c1, c2, c3, c4⟩ := c
  have f1 : ∀ a j, a ≠ 4 → itr eCopy m1 n a j = m1 a j := fun a j h => fr_ecopy h
  have f2 : ∀ a j, a ≠ 145 → itr mCopy (mTel0 m2) n a j = mTel0 m2 a j := fun a j h => fr_copy h
  have g1 : ∀ k, k < n → itr eCopy m1 n 4 k = m1 3 k := fun k hk => ecopy_at hk
  have g2 : ∀ k, k < n → itr mCopy (mTel0 m2) n 145 k = m2 143 k := fun k hk => by
    rw [mcopy_at hk]; unfold mTel0; rw [su_na (by decide), su_na (by decide), su_na (by decide)]
  generalize itr eCopy m1 n = x1 at f1 g1 ⊢
  generalize itr mCopy (mTel0 m2) n = x2 at f2 g2 ⊢
  have q : ∀ j, x1 2 j = m1 2 j := fun j => f1 2 j (by decide)
  have q5 : ∀ j, x1 5 j = m1 5 j := fun j => f1 5 j (by decide)
  have r : ∀ j, x2 128 j = mTel0 m2 128 j := fun j => f2 128 j (by decide)
  have r4 : ∀ j, x2 144 j = m2 144 j := fun j => by
    rw [f2 144 j (by decide)]; unfold mTel0; rw [su_na (by decide), su_na (by decide), su_na (by decide)]
  have i10 : ¬ (1 : Int32) = 0 := by decide
  rcases hv with rfl | rfl
  · unfold eTel9 eTel0 mTel9
    refine ⟨⟨?_, ?_, ?_, ?_⟩, ⟨?_, ?_, ?_, ?_, ?_, ?_⟩, ⟨?_, ?_, ?_, ?_, ?_⟩, ?_⟩
    all_goals simp only [su_app, false_and, and_false, and_self, Nat.reduceEqDiff, if_false, if_true, eq_self, q, q5, r, r4, mTel0, a1, a2, a3, a4, t1, t2, t3, t4, c0, c1, c2, c3, c4, i_add0, i10, not_false_eq_true]
    · exact fun q => q.elim
    · exact fun _ => trivial
    · intro n' hn' en' k hk
      simp only [su_app, false_and, and_false, and_self, Nat.reduceEqDiff, if_false, if_true, eq_self, r, mTel0, en] at en' ⊢
      have := (nI_eq (by omega) (by omega)).mp en'
      subst this
      rw [g1 k hk, g2 k hk]; exact hb k hk
  · unfold eTel9 eTel0 mTel9
    rw [if_neg i10]
    refine ⟨⟨?_, ?_, ?_, ?_⟩, ⟨?_, ?_, ?_, ?_, ?_, ?_⟩, ⟨?_, ?_, ?_, ?_, ?_⟩, ?_⟩
    all_goals simp only [su_app, false_and, and_false, and_self, Nat.reduceEqDiff, if_false, if_true, eq_self, q, q5, r, r4, mTel0, a1, a2, a3, a4, t1, t2, t3, t4, c0, c1, c2, c3, c4, i_add0, i10, not_false_eq_true]
    · exact fun q => q.elim
    · exact fun _ => trivial
    · intro n' hn' en' k hk
      simp only [su_app, false_and, and_false, and_self, Nat.reduceEqDiff, if_false, if_true, eq_self, r, mTel0, en] at en' ⊢
      have := (nI_eq (by omega) (by omega)).mp en'
      subst this
      rw [g1 k hk, g2 k hk]; exact hb k hk
