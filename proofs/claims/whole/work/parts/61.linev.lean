/-! the line on both sides -/
theorem lv_0 (m : Sg) (n : Nat) : mLv m 0 n = 0 := by
  induction n with
  | zero => rfl
  | succ n ih =>
    show (if mZero m n then 0 else mLv m 0 n) = 0
    split
    · rfl
    · exact ih
theorem lv_01 (m : Sg) {v : Int32} (hv : v = 0 ∨ v = 1) (n : Nat) : mLv m v n = 0 ∨ mLv m v n = 1 := by
  induction n with
  | zero => exact hv
  | succ n ih =>
    show (if mZero m n then 0 else mLv m v n) = 0 ∨ (if mZero m n then 0 else mLv m v n) = 1
    split
    · exact Or.inl rfl
    · exact ih
theorem lv_z (m : Sg) (v : Int32) {i : Nat} (hz : mZero m i) : ∀ n, i < n → mLv m v n = 0 := by
  intro n
  induction n with
  | zero => intro h; exact absurd h (Nat.not_lt_zero i)
  | succ n ih =>
    intro h
    show (if mZero m n then 0 else mLv m v n) = 0
    by_cases c : mZero m n
    · rw [if_pos c]
    · rw [if_neg c]
      refine ih ?_
      by_cases d : i = n
      · subst d; exact absurd hz c
      · omega
theorem vm_zero {m : Sg} {i : Nat} (h : vm m i = 0) : mZero m i := by
  unfold vm at h
  by_cases c : mZero m i
  · exact c
  · rw [if_neg c] at h; exact absurd h (by decide)
theorem lv_some (m : Sg) (n : Nat) (h : mLv m 1 n = 0) : ∃ i, i < n ∧ mZero m i := by
  induction n with
  | zero => exact absurd h (by show ¬ (1 : Int32) = 0; decide)
  | succ n ih =>
    have h : (if mZero m n then 0 else mLv m 1 n) = 0 := h
    by_cases c : mZero m n
    · exact ⟨n, by omega, c⟩
    · rw [if_neg c] at h
      obtain ⟨i, hi, hz⟩ := ih h
      exact ⟨i, by omega, hz⟩
theorem and_0 (x : Int32) (h : x = 0 ∨ x = 1) : x &&& 0 = 0 := by rcases h with rfl | rfl <;> decide
theorem and_1 (x : Int32) (h : x = 0 ∨ x = 1) : x &&& 1 = x := by rcases h with rfl | rfl <;> decide
theorem lv_c {m1 m2 : Sg} (h : ∀ i, i < 8 → cNV (itr cNx m1 i) i = vm m2 i) : ∀ n, n ≤ 8 → cLv m1 n = mLv m2 1 n := by
  intro n
  induction n with
  | zero => intro _; rfl
  | succ n ih =>
    intro hn
    show cLv m1 n &&& cNV (itr cNx m1 n) n = (if mZero m2 n then 0 else mLv m2 1 n)
    rw [h n (by omega), ih (by omega)]
    unfold vm
    by_cases c : mZero m2 n
    · rw [if_pos c, if_pos c]; exact and_0 _ (lv_01 m2 (Or.inr rfl) n)
    · rw [if_neg c, if_neg c]; exact and_1 _ (lv_01 m2 (Or.inr rfl) n)
theorem mZero_cg {m m' : Sg} (h : ∀ a j, a = 133 ∨ a = 134 ∨ a = 135 ∨ a = 136 → m' a j = m a j) (i : Nat) : mZero m' i ↔ mZero m i := by
  have e : ∀ c, c < 6 → qx m' i 0 c = qx m i 0 c := fun c _ => h _ _ (by omega)
  have es : mSaid m' i = mSaid m i := by
    unfold mSaid
    rw [h 134 _ (by omega), mByte_t, mByte_t, tB_cg e]
  unfold mZero
  rw [es, h 134 _ (by omega), h 135 _ (by omega), h 136 _ (by omega)]
theorem mLv_cg {m m' : Sg} (h : ∀ a j, a = 133 ∨ a = 134 ∨ a = 135 ∨ a = 136 → m' a j = m a j) (v : Int32) (n : Nat) : mLv m' v n = mLv m v n := by
  induction n with
  | zero => rfl
  | succ n ih =>
    show (if mZero m' n then 0 else mLv m' v n) = (if mZero m n then 0 else mLv m v n)
    by_cases c : mZero m n
    · rw [if_pos c, if_pos ((mZero_cg h n).mpr c)]
    · rw [if_neg c, if_neg (fun x => c ((mZero_cg h n).mp x)), ih]
