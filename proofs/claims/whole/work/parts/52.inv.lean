/-! the numbers of the reference's hearing, bit time by bit time -/
def PH (m : Sg) (t d D b c l : Nat) : Prop := m 128 18 = 0 ∨ (m 128 18 = 1 ∧ ∃ g v o, 1 ≤ g ∧ g ≤ 10 ∧ m 128 19 = nI g ∧ m 128 20 = nI v ∧ v < 2 ^ (min (g - 1) 8) ∧ m 128 21 = nI o ∧ o < g ∧ d + 1 ≤ g ∧ t + 1 = b + 13 * c + g ∧ c + 1 ≤ 21 + D) ∨ (m 128 18 = 2 ∧ ∃ g, g ≤ 2 ∧ m 128 19 = nI g ∧ 1 ≤ c ∧ d ≤ 10 + g ∧ l + 3 = b + 13 * c ∧ t = l + g)
def TL (m : Sg) (t d D b : Nat) : Prop := m 128 28 = 0 ∨ (m 128 28 = 1 ∧ ∃ e n, m 128 29 = nI e ∧ m 128 30 = nI n ∧ 8 ≤ n ∧ n ≤ 21 + D ∧ e ≤ t ∧ d + e ≤ t + 10 ∧ (∀ k, k < n → ∃ x, x < 256 ∧ m 145 k = nI x) ∧ (¬ m 128 18 = 0 → e < b))
def EH (m : Sg) (t d D : Nat) : Prop := ∃ b c l, b ≤ t ∧ l ≤ t ∧ c ≤ 21 + D ∧ m 128 23 = nI b ∧ m 128 25 = nI c ∧ m 128 24 = nI l ∧ (m 128 22 = 0 ∨ m 128 22 = 1) ∧ (∀ k, k < c → ∃ x, x < 256 ∧ m 143 k = nI x) ∧ PH m t d D b c l ∧ TL m t d D b
theorem EH.ei {m : Sg} {t d D : Nat} (h : EH m t d D) (hD : D ≤ 512) (ht : t ≤ 100000) : EI m := by
  obtain ⟨b, c, l, hb, hl, hc, e23, e25, e24, h22, hy, hp, -⟩ := h
  refine ⟨⟨b, by omega, e23⟩, h22, ⟨c, by omega, e25, fun q => ?_⟩, ?_⟩
  · rcases hp with p | ⟨p, -⟩ | ⟨-, g, -, -, h1, -⟩
    · rw [p] at q; exact absurd q (by decide)
    · rw [p] at q; exact absurd q (by decide)
    · exact h1
  · rcases hp with p | ⟨p, g, v, o, h1, h2, eg, -, -, eo, ho, -⟩ | ⟨p, g, hg, eg, -⟩
    · exact Or.inl p
    · exact Or.inr (Or.inl ⟨p, ⟨g, h1, h2, eg⟩, o, by omega, eo⟩)
    · exact Or.inr (Or.inr ⟨p, g, hg, eg⟩)
/-- the telegram's cells and what they ask, at another time -/
theorem TL.mv {m m' : Sg} {t d D b t' d' b' : Nat} (h : TL m t d D b) (e : ∀ j, j = 28 ∨ j = 29 ∨ j = 30 → m' 128 j = m 128 j) (e5 : ∀ k, m' 145 k = m 145 k) (ht : t ≤ t') (hd : d' ≤ d + (t' - t)) (hb : ∀ x, x ≤ t → (¬ m 128 18 = 0 → x < b) → ¬ m' 128 18 = 0 → x < b') : TL m' t' d' D b' := by
  rcases h with h | ⟨h, x, n, e1, e2, h8, hn, hx, hdx, hy, hxb⟩
  · exact Or.inl (by rw [e _ (by omega)]; exact h)
  · refine Or.inr ⟨by rw [e _ (by omega)]; exact h, x, n, by rw [e _ (by omega)]; exact e1, by rw [e _ (by omega)]; exact e2, h8, hn, by omega, by omega, fun k hk => by rw [e5]; exact hy k hk, hb x hx hxb⟩
theorem shl_bit : ∀ g, g < 9 → 1 ≤ g → (1 : Int32) <<< ((nI g - 1) &&& 31) = nI (2 ^ (g - 1)) := by decide +kernel
theorem shl_zero : ∀ g, g < 9 → 1 ≤ g → (0 : Int32) <<< ((nI g - 1) &&& 31) = nI 0 := by decide +kernel
/-- what is complete: the telegram's cells behind it -/
theorem TL.compl {m : Sg} {t d D b c l T d' b' : Nat} (h : TL m t d D b) (hc : c ≤ 21 + D) (hD : D ≤ 512) (e25 : m 128 25 = nI c) (e24 : m 128 24 = nI l) (hy : ∀ k, k < c → ∃ x, x < 256 ∧ m 143 k = nI x) (hl : l ≤ t) (ht : t < T) (hd : d' ≤ d + (T - t)) (hd2 : d' + l ≤ T + 10) (hb : ∀ x, x ≤ t → x < b') : TL (mCompl m) T d' D b' := by
  unfold mCompl
  by_cases q : mIsTel m
  · have eN : mTelN m = c := by unfold mTelN; rw [e25, nI_clamp (by omega)]
    have h8 : 8 ≤ c := by
      have := q.1
      rw [e25, nI_ltl (by omega) (by decide)] at this
      have e : (OfNat.ofNat 8 : Nat) = 8 := rfl
      omega
    have key : ∀ v, TL (mTel m v) T d' D b' := by
      intro v
      have f : ∀ a j, a ≠ 145 → itr mCopy (mTel0 m) c a j = mTel0 m a j := fun a j ha => fr_copy ha
      have f5 : ∀ k, k < c → itr mCopy (mTel0 m) c 145 k = m 143 k := fun k hk => by
        rw [mcopy_at hk]; unfold mTel0; rw [su_na (by decide), su_na (by decide), su_na (by decide)]
      unfold mTel
      rw [eN]
      have o : ∀ j, j = 18 ∨ j = 28 ∨ j = 29 ∨ j = 30 → mTel9 (itr mCopy (mTel0 m) c) v 128 j = mTel0 m 128 j := by
        intro j hj
        unfold mTel9
        rw [su_na (by decide), su_na (by decide), su_nj (by omega), su_nj (by omega), su_nj (by omega), f _ _ (by decide)]
      have o5 : ∀ k, mTel9 (itr mCopy (mTel0 m) c) v 145 k = itr mCopy (mTel0 m) c 145 k := by
        intro k
        unfold mTel9
        rw [su_na (by decide), su_na (by decide), su_na (by decide), su_na (by decide), su_na (by decide)]
      refine Or.inr ⟨?_, l, c, ?_, ?_, h8, hc, by omega, by omega, fun k hk => ?_, fun _ => hb l hl⟩
      · rw [o _ (by omega)]; unfold mTel0; rw [su_nj (by decide), su_nj (by decide), su_at]
      · rw [o _ (by omega)]; unfold mTel0; rw [su_nj (by decide), su_at]; exact e24
      · rw [o _ (by omega)]; unfold mTel0; rw [su_at]; exact e25
      · rw [o5, f5 k hk]; exact hy k hk
    rw [if_pos q]
    split
    · exact key 1
    · exact key 0
  · rw [if_neg q]
    have o : ∀ a j, a ≠ 144 → ¬ (a = 128 ∧ (j = 32 ∨ j = 33)) → mOther m a j = m a j := by
      intro a j h2 h3
      unfold mOther
      rw [su_ne (by omega)]
      split
      · split
        · rw [su_na h2, su_ne (by omega)]
        · rw [su_na h2, su_ne (by omega)]
      · rw [su_na h2]
    exact h.mv (fun j hj => o _ _ (by decide) (by omega)) (fun k => o _ _ (by decide) (by omega)) (by omega) hd (fun x hx _ _ => hb x hx)
