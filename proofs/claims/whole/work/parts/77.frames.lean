/-! what a bit time leaves alone, and many of them -/
theorem itr_fr {f : Sg → Nat → Sg} {a j : Nat} (h : ∀ m s, f m s a j = m a j) (m : Sg) (n : Nat) : itr f m n a j = m a j := by
  induction n with
  | zero => rfl
  | succ n ih => exact (h _ n).trans ih
theorem mGo_fr {ln : Int32} {m : Sg} {s a j : Nat} (h : a < 132) : mGo ln m s a j = m a j := by
  have e : mGo1 m s a j = m a j := by
    unfold mGo1
    split
    · rfl
    · rw [su_na (by omega)]
  unfold mGo mGo2
  split
  · split
    · rw [su_na (by omega), su_na (by omega)]; exact e
    · split
      · rw [su_na (by omega), su_na (by omega), su_na (by omega)]; exact e
      · rw [su_na (by omega)]; exact e
  · exact e
theorem mLook_fr {m : Sg} {s a j : Nat} (h : a < 132) : mLook m s a j = m a j := by
  have e : ∀ g l, mLook1 m s g l a j = m a j := by
    intro g l; unfold mLook1; rw [su_na (by omega), su_na (by omega), su_na (by omega)]
  unfold mLook
  split
  · rfl
  · split
    · split
      · rw [mDrop_o _ _ (by omega)]; exact e _ _
      · split
        · rw [mDrop_o _ _ (by omega)]; exact e _ _
        · exact e _ _
    · rfl
theorem mS4_fr {m : Sg} {a j : Nat} (h : a < 132) (h2 : ¬ (a = 128 ∧ (j = 1 ∨ j = 16))) : mS4 m a j = m a j := by
  unfold mS4
  rw [itr_fr (fun m s => mGo_fr h)]
  unfold mS3 mLineM
  rw [su_na (by omega), su_ne (by omega)]
  unfold mS2 mBegin
  have e1 : mS1 m a j = m a j := su_ne (by omega)
  split
  · rw [fr_ansS (by omega) (by omega), fr_begS (by omega)]; exact e1
  · rw [fr_begS (by omega)]; exact e1
theorem mStep_fr {m : Sg} {a j : Nat} (h : a < 132) (h2 : ¬ (a = 128 ∧ ¬ j = 0)) : mStep m a j = m a j := by
  unfold mStep
  rw [su_ne (by omega), su_na (by omega)]
  unfold mS6
  rw [itr_fr (fun m s => mLook_fr h)]
  unfold mS5
  rw [mHear_fr (by omega) (by omega)]
  exact mS4_fr h (by omega)
theorem itr_fr8 {f : Sg → Nat → Sg} {a j : Nat} {m : Sg} (n : Nat) (h : ∀ s, s < n → f (itr f m s) s a j = itr f m s a j) : itr f m n a j = m a j := by
  induction n with
  | zero => rfl
  | succ n ih => exact (h n (by omega)).trans (ih (fun s hs => h s (by omega)))
theorem cStep_fr {m : Sg} {a j : Nat} (hO : OkC m) (h : 128 ≤ a) : cStep m a j = m a j := by
  obtain ⟨-, -, -, hC5, -, -, -⟩ := hO
  unfold cStep
  rw [su_na (by omega), su_na (by omega)]
  unfold cS7
  rw [itr_fr8 8 (fun s hs => by unfold cEndS; exact cEnd_loc (by omega))]
  unfold cS6
  rw [eTake_fr (by omega)]
  unfold cS5
  rw [itr_fr8 8 (fun s hs => by unfold cSeeS; exact cSee_loc (hC5 s hs) (by omega))]
  have e3 : cS3 m a j = m a j := by
    unfold cS3
    rw [locC_itr locC_nx _ (by omega)]
    unfold cS2 cBegin
    have e1 : cS1 m a j = m a j := su_na (by omega)
    split
    · rw [locC_itr locC_begS _ (by omega)]; exact e1
    · exact e1
  unfold cS4 cTakeS
  split
  · exact e3
  · rw [su_na (by omega), su_na (by omega)]; exact e3
/-- the relation speaks of the class's cells in one memory, of the reference's in the other -/
theorem RR.cg {m1 m2 m1' m2' : Sg} {t d d1 D : Nat} (h : RR m1 m2 t d d1 D) (e1 : ∀ a j, a < 128 → m1' a j = m1 a j) (e2 : ∀ a j, 128 ≤ a → a < 146 → ¬ (a = 128 ∧ j = 0) → m2' a j = m2 a j) : RR m1' m2' t d d1 D := by
  obtain ⟨hEH, hER, ht0, t2, t1, hd, ed, hd1, ed1, hdd, e3, e16, e6, e7, hR⟩ := h
  have k2 : ∀ j, 18 ≤ j → m2' 128 j = m2 128 j := fun j hj => e2 _ _ (by decide) (by decide) (by omega)
  have k3 : ∀ a j, 143 ≤ a → a ≤ 145 → m2' a j = m2 a j := fun a j x y => e2 _ _ (by omega) (by omega) (by omega)
  refine ⟨hEH.fr k2 k3, hER.fr (fun a j x y => e1 _ _ (by omega)) k2 k3, ht0, ?_, ?_, hd, ?_, hd1, ?_, hdd, ?_, ?_, fun k hk => ?_, fun k hk => ?_, fun i hi => ?_⟩
  · rw [e2 _ _ (by decide) (by decide) (by decide)]; exact t2
  · rw [e1 _ _ (by decide)]; exact t1
  · rw [e2 _ _ (by decide) (by decide) (by decide)]; exact ed
  · rw [e1 _ _ (by decide)]; exact ed1
  · rw [e1 _ _ (by decide), e2 _ _ (by decide) (by decide) (by decide)]; exact e3
  · rw [e2 _ _ (by decide) (by decide) (by decide), e16]
    exact congrArg nI (ctF_cg _ (fun k _ => (e2 _ _ (by decide) (by decide) (by omega)).symm))
  · rw [e1 _ _ (by decide), e2 _ _ (by decide) (by decide) (by omega)]; exact e6 k hk
  · rw [e1 _ _ (by decide), e2 _ _ (by decide) (by decide) (by omega)]; exact e7 k hk
  · rw [Bof_cg k2, Eof_cg' k2]
    refine R0.cg i _ _ _ _ (fun a j x y => (e1 _ _ (by omega)).symm) (fun a j x => ?_) (hR i hi)
    have : 129 ≤ a ∧ a ≤ 140 := by
      by_cases c : 129 ≤ a ∧ a ≤ 140
      · exact c
      · exfalso
        have e99 : stn a j = 99 := by
          unfold stn
          split <;> first | omega | rfl
        omega
    exact (e2 _ _ (by omega) (by omega) (by omega)).symm
/-- many bit times -/
theorem rr_it {m1 m2 : Sg} {t d d1 D : Nat} (h : RR m1 m2 t d d1 D) (hD : D + ctF (m2 141) 2048 ≤ 512) : ∀ k, t + k ≤ 100000 → ∃ d' d1' D', RR (cIt m1 k) (mIt m2 k) (t + k) d' d1' D' ∧ D' + ctF (mIt m2 k 141) 2048 = D + ctF (m2 141) 2048 ∧ D ≤ D' := by
  intro k
  induction k with
  | zero => exact fun _ => ⟨d, d1, D, h, rfl, Nat.le_refl _⟩
  | succ k ih =>
    intro hk
    obtain ⟨d', d1', D', h', hc, hd⟩ := ih (by omega)
    obtain ⟨-, -, d2, d3, D2, h2, hc2, hd2⟩ := rr_step h' (by omega) (by omega)
    rw [cIt_s, mIt_s]
    exact ⟨d2, d3, D2, h2, hc2.trans hc, Nat.le_trans hd hd2⟩
theorem rr_ok {m1 m2 : Sg} {t d d1 D : Nat} (h : RR m1 m2 t d d1 D) (hD : D + ctF (m2 141) 2048 ≤ 512) {k : Nat} (hk : t + k < 100000) : OkC (cIt m1 k) ∧ OkM (mIt m2 k) := by
  obtain ⟨d', d1', D', h', hc, hd⟩ := rr_it h hD k (by omega)
  obtain ⟨a, b, -⟩ := rr_step h' (by omega) (by omega)
  exact ⟨a, b⟩
theorem cIt_fr {m : Sg} {n a j : Nat} (hO : ∀ k, k < n → OkC (cIt m k)) (h : 128 ≤ a) : cIt m n a j = m a j := by
  induction n with
  | zero => rfl
  | succ n ih =>
    rw [cIt_s, cStep_fr (hO n (by omega)) h]
    exact ih (fun k hk => hO k (by omega))
theorem mIt_fr {m : Sg} {n a j : Nat} (h : a < 132) (h2 : ¬ (a = 128 ∧ ¬ j = 0)) : mIt m n a j = m a j := by
  induction n with
  | zero => rfl
  | succ n ih => rw [mIt_s, mStep_fr h h2]; exact ih
/-- no telegram yet: nothing of one -/
def NT (m : Sg) : Prop := m 128 28 = 0 → m 128 30 = 0 ∧ m 128 33 = -1
theorem NT.fr {m m' : Sg} (h : NT m) (e : ∀ j, 18 ≤ j → m' 128 j = m 128 j) : NT m' := by
  unfold NT at h ⊢
  rw [e _ (by decide), e _ (by decide), e _ (by decide)]; exact h
theorem NT.fr3 {m m' : Sg} (h : NT m) (e : ∀ j, j = 28 ∨ j = 30 ∨ j = 33 → m' 128 j = m 128 j) : NT m' := by
  unfold NT at h ⊢
  rw [e _ (by decide), e _ (by decide), e _ (by decide)]; exact h
theorem NT.compl {m : Sg} (h : NT m) : NT (mCompl m) := by
  have i10 : ¬ (1 : Int32) = 0 := by decide
  have tl : ∀ v, NT (mTel m v) := by
    intro v q
    exfalso
    apply i10
    rw [← q]
    have f : itr mCopy (mTel0 m) (mTelN m) 128 28 = mTel0 m 128 28 := fr_copy (by decide)
    unfold mTel mTel9
    rw [su_na (by decide), su_na (by decide), su_nj (by decide), su_nj (by decide), su_nj (by decide), f]
    unfold mTel0
    rw [su_nj (by decide), su_nj (by decide), su_at]
  unfold mCompl
  split
  · split
    · exact tl 1
    · exact tl 0
  · unfold mOther
    by_cases c : mOkAns m
    · intro q
      exfalso
      apply c.1
      rw [su_nj (by decide), if_pos c] at q
      split at q
      · rw [su_na (by decide), su_nj (by decide)] at q; exact q
      · rw [su_na (by decide), su_nj (by decide)] at q; exact q
    · rw [if_neg c]
      exact h.fr3 (fun j hj => by rw [su_nj (by omega), su_na (by decide)])
theorem NT.hear {m : Sg} {ln : Int32} (h : NT m) : NT (mHear ln m) := by
  have op : ∀ x : Sg, NT x → NT (mOpen x) := fun x hx => hx.fr3 (fun j hj => by
    unfold mOpen; rw [su_nj (by omega), su_nj (by omega), su_nj (by omega), su_nj (by omega)])
  have fi : ∀ x : Sg, NT x → NT (mFirst x) := fun x hx => hx.fr3 (fun j hj => mFirst_o (by omega))
  unfold mHear
  split
  · split
    · exact fi m h
    · exact h
  · split
    · have e : NT (mCol1 ln m) := h.fr3 (fun j hj => by unfold mCol1; rw [su_nj (by omega), su_nj (by omega), su_nj (by omega)])
      unfold mCollect
      split
      · exact e.fr3 (fun j hj => by
          unfold mCol2
          rw [su_nj (by omega), su_nj (by omega), su_nj (by omega), su_nj (by omega), su_na (by decide), su_nj (by omega)])
      · exact e
    · split
      · split
        · exact (h.fr3 (fun j hj => by rw [su_nj (by omega), su_nj (by omega)])).compl
        · exact h.fr3 (fun j hj => by rw [su_nj (by omega)])
      · split
        · exact op m h
        · exact fi _ h.compl
theorem mGo_128 {ln : Int32} {m : Sg} {s j : Nat} : mGo ln m s 128 j = m 128 j := mGo_fr (by decide)
theorem NT.step {m : Sg} (h : NT m) : NT (mStep m) := by
  have h4 : NT (mS4 m) := h.fr3 (fun j hj => mS4_fr (by decide) (by omega))
  have h5 : NT (mS5 m) := h4.hear
  refine h5.fr3 (fun j hj => ?_)
  unfold mStep
  rw [su_nj (by omega), su_na (by decide)]
  unfold mS6
  exact itr_fr (fun m s => mLook_fr (by decide)) _ _
theorem NT.it {m : Sg} (h : NT m) (n : Nat) : NT (mIt m n) := by
  induction n with
  | zero => exact h
  | succ n ih => rw [mIt_s]; exact ih.step
