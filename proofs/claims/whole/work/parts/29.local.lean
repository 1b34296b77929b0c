/-! what a station's part of a bit time touches -/
def stn (a j : Nat) : Nat := match a with
  | 129 => j | 131 => j | 132 => j | 134 => j | 135 => j | 136 => j | 137 => j | 138 => j | 139 => j | 140 => j
  | 130 => j / 256
  | 133 => j / 36
  | _ => 99
def Ag (i : Nat) (m m' : Sg) : Prop := ∀ a j, (stn a j = i ∨ stn a j = 99) → m a j = m' a j
theorem Ag.rf {i : Nat} {m : Sg} : Ag i m m := fun _ _ _ => rfl
theorem Ag.sy {i : Nat} {m m' : Sg} (h : Ag i m m') : Ag i m' m := fun a j q => (h a j q).symm
theorem Ag.tr {i : Nat} {m m' m9 : Sg} (h : Ag i m m') (h2 : Ag i m' m9) : Ag i m m9 := fun a j q => (h a j q).trans (h2 a j q)
theorem Ag.su {i : Nat} {m m' : Sg} (h : Ag i m m') (a j : Nat) {v v' : Int32} (e : v = v') : Ag i (su m a j v) (su m' a j v') := by
  subst e
  intro b k q
  by_cases c : b = a ∧ k = j
  · rw [c.1, c.2, su_at, su_at]
  · rw [su_ne c, su_ne c]; exact h b k q
theorem stn133 {s k : Nat} (hk : k < 36) : stn 133 (36 * s + k) = s := by show (36 * s + k) / 36 = s; omega
theorem stn130 {s k : Nat} (hk : k < 256) : stn 130 (256 * s + k) = s := by show (256 * s + k) / 256 = s; omega
section AgS
variable {i : Nat} {m m' : Sg} (h : Ag i m m')
theorem Ag.g (h : Ag i m m') (j : Nat) : m 128 j = m' 128 j := h 128 j (Or.inr rfl)
theorem Ag.t (h : Ag i m m') (j : Nat) : m 145 j = m' 145 j := h 145 j (Or.inr rfl)
theorem Ag.q (h : Ag i m m') {k : Nat} (hk : k < 36) : m 133 (36 * i + k) = m' 133 (36 * i + k) := h _ _ (Or.inl (stn133 hk))
theorem Ag.size (h : Ag i m m') : mSize m i = mSize m' i := by unfold mSize; rw [h.q (by decide)]
theorem Ag.plain (h : Ag i m m') (k : Nat) : mPlain m i k = mPlain m' i k := by
  unfold mPlain
  have e0 : m 133 (36 * i) = m' 133 (36 * i) := h.q (k := 0) (by decide)
  split <;> simp only [e0, h.q (show 1 < 36 by decide), h.q (show 2 < 36 by decide), h.q (show 3 < 36 by decide), h.q (show 4 < 36 by decide), h.q (show 5 < 36 by decide)]
theorem Ag.chk (h : Ag i m m') (k : Nat) : mChk m i k = mChk m' i k := by
  induction k with
  | zero => rfl
  | succ k ih => show _ ^^^ _ = _ ^^^ _; rw [ih, h.plain]
theorem Ag.byte (h : Ag i m m') (k : Nat) : mByte m i k = mByte m' i k := by unfold mByte; rw [h.size, h.chk, h.plain]
theorem Ag.said (h : Ag i m m') : mSaid m i = mSaid m' i := by
  have e : m 134 i = m' 134 i := h _ _ (Or.inl rfl)
  unfold mSaid; rw [e, h.byte]
theorem Ag.begS (h : Ag i m m') : Ag i (mBegS m i) (mBegS m' i) := by
  have e0 : m 133 (36 * i) = m' 133 (36 * i) := h.q (k := 0) (by decide)
  have e1 : mBegC m i ↔ mBegC m' i := by
    unfold mBegC
    rw [h 134 i (Or.inl rfl), h 132 i (Or.inl rfl), h 137 i (Or.inl rfl), h.g, e0, h.q (show 5 < 36 by decide)]
  unfold mBegS
  by_cases c : mBegC m i
  · rw [if_pos c, if_pos (e1.mp c)]; exact h.su _ _ rfl
  · rw [if_neg c, if_neg (fun q => c (e1.mpr q))]; exact h
theorem Ag.aim (h : Ag i m m') : mAim m = mAim m' := by unfold mAim; rw [h.t, h.t]
theorem Ag.meant (h : Ag i m m') (ha : ¬ m 145 5 < 128 → ¬ 256 ≤ mAim m → (mAim m).toNatClampNeg < 256) : mMeant m i ↔ mMeant m' i := by
  unfold mMeant
  rw [h.t 5, h.aim, h 129 i (Or.inl rfl)]
  rw [h.t 5, h.aim] at ha
  constructor
  · rintro (q | ⟨q1, q2, q3⟩)
    · exact Or.inl q
    · exact Or.inr ⟨q1, q2, by rw [← h _ _ (Or.inl (stn130 (ha q1 q2)))]; exact q3⟩
  · rintro (q | ⟨q1, q2, q3⟩)
    · exact Or.inl q
    · exact Or.inr ⟨q1, q2, by rw [h _ _ (Or.inl (stn130 (ha q1 q2)))]; exact q3⟩
theorem Ag.ansS (h : Ag i m m') (ha : ¬ m 145 5 < 128 → ¬ 256 ≤ mAim m → (mAim m).toNatClampNeg < 256) : Ag i (mAnsS m i) (mAnsS m' i) := by
  have e1 := h.meant ha
  have e2 : mAnsV m i = mAnsV m' i := by unfold mAnsV; rw [h.g, h 131 i (Or.inl rfl)]
  unfold mAnsS
  by_cases c : ¬ 0 ≤ m 134 i ∧ ¬ 0 ≤ m 137 i ∧ mMeant m i
  · rw [if_pos c, if_pos (by rw [← h 134 i (Or.inl rfl), ← h 137 i (Or.inl rfl), ← e1]; exact c)]
    exact (h.su _ _ rfl).su _ _ e2
  · rw [if_neg c, if_neg (by rw [← h 134 i (Or.inl rfl), ← h 137 i (Or.inl rfl), ← e1]; exact c)]; exact h
theorem Ag.go1 (h : Ag i m m') : Ag i (mGo1 m i) (mGo1 m' i) := by
  unfold mGo1
  rw [h 135 i (Or.inl rfl)]
  split
  · exact h
  · exact h.su _ _ rfl
theorem Ag.go2 (h : Ag i m m') (line : Int32) : Ag i (mGo2 line m i) (mGo2 line m' i) := by
  unfold mGo2
  rw [h 134 i (Or.inl rfl), h.said, h.size, h.q (show 5 < 36 by decide), h.g, h 140 i (Or.inl rfl)]
  split
  · split
    · exact (h.su _ _ rfl).su _ _ rfl
    · split
      · exact ((h.su _ _ rfl).su _ _ rfl).su _ _ rfl
      · exact h.su _ _ rfl
  · exact h
theorem Ag.go (h : Ag i m m') (line : Int32) : Ag i (mGo line m i) (mGo line m' i) := h.go1.go2 line
theorem Ag.dr (h : Ag i m m') (n : Nat) (hn : n ≤ 30) : Ag i (itr (mDr i) m n) (itr (mDr i) m' n) := by
  induction n with
  | zero => exact h
  | succ n ih =>
    have ih := ih (by omega)
    exact ih.su _ _ (by rw [Nat.add_assoc]; exact ih.q (by omega))
theorem Ag.drop (h : Ag i m m') : Ag i (mDrop m i) (mDrop m' i) := (h.dr 30 (by decide)).su _ _ (by rw [h.dr 30 (by decide) 132 i (Or.inl rfl)])
theorem Ag.look1 (h : Ag i m m') (g l : Int32) : Ag i (mLook1 m i g l) (mLook1 m' i g l) := ((h.su _ _ rfl).su _ _ (by rw [h 138 i (Or.inl rfl)])).su _ _ (by rw [h 139 i (Or.inl rfl)])
theorem Ag.look (h : Ag i m m') : Ag i (mLook m i) (mLook m' i) := by
  have e1 : mGood m ↔ mGood m' := by unfold mGood; rw [h.g 28, h.g 29, h.g 1, h.g 33]
  have e2 : m 137 i = m' 137 i := h 137 i (Or.inl rfl)
  have e3 : m 133 (36 * i + 5) = m' 133 (36 * i + 5) := h.q (by decide)
  have e4 := h.g 1
  unfold mLook
  by_cases c1 : m 137 i < 0
  · rw [if_pos c1, if_pos (show m' 137 i < 0 from e2 ▸ c1)]; exact h
  · rw [if_neg c1, if_neg (show ¬ m' 137 i < 0 from e2 ▸ c1)]
    by_cases c2 : m 137 i = m 128 1 - 28
    · rw [if_pos c2, if_pos (show m' 137 i = m' 128 1 - 28 by rw [← e2, ← e4]; exact c2)]
      by_cases c : mGood m
      · rw [if_pos c, if_pos (show mGood m' from e1.mp c)]; exact (h.look1 _ _).drop
      · rw [if_neg c, if_neg (show ¬ mGood m' from fun q => c (e1.mpr q))]
        by_cases c3 : m 133 (36 * i + 5) = 4
        · rw [if_pos c3, if_pos (show m' 133 (36 * i + 5) = 4 from e3 ▸ c3)]; exact (h.look1 _ _).drop
        · rw [if_neg c3, if_neg (show ¬ m' 133 (36 * i + 5) = 4 from e3 ▸ c3)]; exact h.look1 _ _
    · rw [if_neg c2, if_neg (show ¬ m' 137 i = m' 128 1 - 28 by rw [← e2, ← e4]; exact c2)]; exact h
end AgS
-- what a station's step leaves alone
def Loc (f : Sg → Nat → Sg) : Prop := ∀ m s a j, s < 8 → stn a j ≠ s → f m s a j = m a j
theorem su_stn {m : Sg} {a j b k : Nat} {v : Int32} {s : Nat} (h : stn b k ≠ s) (e : stn a j = s) : su m a j v b k = m b k := su_ne (fun q => h (by rw [q.1, q.2]; exact e))
theorem loc_begS : Loc mBegS := by
  intro m s a j _ h
  unfold mBegS
  split
  · exact su_stn h rfl
  · rfl
theorem loc_ansS : Loc mAnsS := by
  intro m s a j _ h
  unfold mAnsS
  split
  · rw [su_stn h rfl, su_stn h rfl]
  · rfl
theorem loc_go (line : Int32) : Loc (mGo line) := by
  intro m s a j _ h
  have e : mGo1 m s a j = m a j := by
    unfold mGo1
    split
    · rfl
    · exact su_stn h rfl
  rw [← e]
  unfold mGo mGo2
  split
  · split
    · rw [su_stn h rfl, su_stn h rfl]
    · split
      · rw [su_stn h (stn133 (by decide)), su_stn h rfl, su_stn h rfl]
      · rw [su_stn h rfl]
  · rfl
theorem loc_dr (s : Nat) (m : Sg) (n : Nat) (hn : n ≤ 30) {a j : Nat} (h : stn a j ≠ s) : itr (mDr s) m n a j = m a j := by
  induction n with
  | zero => rfl
  | succ n ih =>
    show su (itr (mDr s) m n) 133 (36 * s + n) _ a j = _
    rw [su_stn h (stn133 (by omega))]; exact ih (by omega)
theorem loc_drop (s : Nat) (m : Sg) {a j : Nat} (h : stn a j ≠ s) : mDrop m s a j = m a j := by
  unfold mDrop; rw [su_stn h rfl, loc_dr s m 30 (by decide) h]
theorem loc_look : Loc mLook := by
  intro m s a j _ h
  have e : ∀ g l, mLook1 m s g l a j = m a j := by
    intro g l; unfold mLook1; rw [su_stn h rfl, su_stn h rfl, su_stn h rfl]
  unfold mLook
  split
  · rfl
  · split
    · split
      · rw [loc_drop _ _ h, e]
      · split
        · rw [loc_drop _ _ h, e]
        · exact e _ _
    · rfl
theorem loc_itr {f : Sg → Nat → Sg} (hf : Loc f) (m : Sg) {n : Nat} (hn : n ≤ 8) {a j : Nat} (h : n ≤ stn a j) : itr f m n a j = m a j := by
  induction n with
  | zero => rfl
  | succ n ih =>
    show f (itr f m n) n a j = _
    rw [hf _ n a j (by omega) (by omega)]; exact ih (by omega) (by omega)
/-- behind the loop a station's cells are what its own step makes of the memory ahead of the loop -/
theorem itr_at {f : Sg → Nat → Sg} (hf : Loc f) {m : Sg} {i n : Nat} (hi : i < n) (hn : n ≤ 8) (ha : ∀ m', Ag i m m' → Ag i (f m i) (f m' i)) : Ag i (f m i) (itr f m n) := by
  have key : Ag i m (itr f m i) := fun a j q => (loc_itr hf m (by omega) (by omega)).symm
  have h2 := ha _ key
  have h3 : ∀ d, i + 1 + d ≤ 8 → Ag i (f m i) (itr f m (i + 1 + d)) := by
    intro d hd
    induction d with
    | zero => exact h2
    | succ d ih =>
      refine (ih (by omega)).tr (fun a j q => ?_)
      exact (hf _ (i + 1 + d) a j (by omega) (by omega)).symm
  have := h3 (n - (i + 1)) (by omega)
  rwa [show i + 1 + (n - (i + 1)) = n by omega] at this
