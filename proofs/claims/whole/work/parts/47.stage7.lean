theorem mDr_eff (s : Nat) (m : Sg) (n : Nat) : ∀ b k, itr (mDr s) m n b k = (if b = 133 ∧ 36 * s ≤ k ∧ k < 36 * s + n then m 133 (k + 6) else m b k) := by
  induction n with
  | zero => intro b k; rw [if_neg (by omega)]; rfl
  | succ n ih =>
    intro b k
    show su (itr (mDr s) m n) 133 (36 * s + n) (itr (mDr s) m n 133 (36 * s + n + 6)) b k = _
    by_cases c : b = 133 ∧ k = 36 * s + n
    · obtain ⟨rfl, rfl⟩ := c
      rw [su_at, if_pos (by omega), ih, if_neg (by omega)]
    · rw [su_ne c, ih]
      by_cases d : b = 133 ∧ 36 * s ≤ k ∧ k < 36 * s + n
      · rw [if_pos d, if_pos (by omega)]
      · rw [if_neg d, if_neg (by omega)]
theorem mDrop_o (s : Nat) (m : Sg) {b k : Nat} (h : ¬ (b = 132 ∨ b = 133)) : mDrop m s b k = m b k := by
  unfold mDrop
  rw [su_na (by omega), mDr_eff, if_neg (by omega)]
theorem mDrop_q (s : Nat) (m : Sg) {k : Nat} (h : k < 30) : mDrop m s 133 (36 * s + k) = m 133 (36 * s + k + 6) := by
  unfold mDrop
  rw [su_na (by decide), mDr_eff, if_pos (by omega)]
theorem mDrop_n (s : Nat) (m : Sg) : mDrop m s 132 s = m 132 s - 1 := by
  unfold mDrop
  rw [su_at, mDr_eff, if_neg (by omega)]
theorem st_rem {m1 m2 m1' m2' : Sg} {i f q : Nat} {cs ms ca ma w : Option Nat} (h : ST m1 m2 i f q cs ms ca ma w) (c4 : m1' (8 + 15 * i) 4 = nI ((f + 1) % 6)) (c5 : m1' (8 + 15 * i) 5 = nI (q - 1)) (c8 : m1' (8 + 15 * i) 8 = 0) (c12 : m1' (8 + 15 * i) 12 = m2' 138 i) (c13 : m1' (8 + 15 * i) 13 = m2' 139 i) (co : ∀ a k, ¬ (a = 8 + 15 * i ∧ (k = 4 ∨ k = 5 ∨ k = 8 ∨ k = 12 ∨ k = 13)) → m1' a k = m1 a k) (d133 : ∀ k, k < 30 → m2' 133 (36 * i + k) = m2 133 (36 * i + k + 6)) (d132 : m2' 132 i = nI (q - 1)) (d137 : m2' 137 i = -1) (dd : ∀ a k, ¬ (a = 132 ∨ a = 133 ∨ a = 137 ∨ a = 138 ∨ a = 139) → m2' a k = m2 a k) : ST m1' m2' i ((f + 1) % 6) (q - 1) cs ms ca ma none := by
  obtain ⟨hf, hq, e4, e5, e6, hQ, hL, ⟨s1, s2, s3, s4, s5, s6, s7⟩, hP, hB, hW⟩ := h
  refine ⟨Nat.mod_lt _ (by decide), by omega, c4, c5, d132, ?_, hL.fr (fun a k x y => co _ _ (by omega)), ⟨?_, ?_, fun g hg => ?_, c12, c13, ?_, ?_⟩, ?_, ?_, ⟨d137, fun _ => c8, by rintro u hu; cases hu⟩⟩
  · intro j hj
    obtain ⟨n, y, ev, te, hy⟩ := hQ (j + 1) (by omega)
    have eq : ∀ c, c < 6 → qx m2 i (j + 1) c = qx m2' i j c := by
      intro c hc
      unfold qx
      have := d133 (6 * j + c) (by omega)
      rw [show 36 * i + 6 * j + c = 36 * i + (6 * j + c) by omega, this]
      rw [show 36 * i + 6 * (j + 1) + c = 36 * i + (6 * j + c) + 6 by omega]
    have hm : ((f + 1) % 6 + j) % 6 = (f + (j + 1)) % 6 := by omega
    refine ⟨n, y, ev.cg eq, ?_, Or.inl (hy.elim id (fun q => by omega))⟩
    rw [hm]
    have hm6 : (f + (j + 1)) % 6 < 6 := Nat.mod_lt _ (by decide)
    exact te.cg eq (fun k => (co _ _ (by omega)).symm) (fun k => (co _ _ (by omega)).symm)
  · rw [co _ _ (by omega), dd _ _ (by omega)]; exact s1
  · rw [co _ _ (by omega), dd _ _ (by omega)]; exact s2
  · rw [co _ _ (by omega), dd _ _ (by omega)]; exact s3 g hg
  · rw [co _ _ (by omega), dd _ _ (by omega)]; exact s6
  · rw [dd _ _ (by omega)]; exact s7
  · unfold SP at hP ⊢
    rw [co _ 6 (by omega), dd 134 _ (by omega)]; exact hP
  · unfold SB at hB ⊢
    rw [co _ 10 (by omega), co _ 11 (by omega), dd 135 _ (by omega), dd 136 _ (by omega)]; exact hB
theorem i_add0 (x : Int32) : x + 0 = x := Int32.add_zero x
/-- the wait is over, and nothing is taken from the queue -/
theorem st_keep {m1 m2 : Sg} {i f q u : Nat} {cs ms ca ma : Option Nat} (h : ST m1 m2 i f q cs ms ca ma (some u)) (hy : ∀ n y, EV (qx m2 i 0) n y → y ≤ 3) : ST (su m1 (8 + 15 * i) 8 0) (mLook1 m2 i 0 0) i f q cs ms ca ma none := by
  obtain ⟨hf, hq, e4, e5, e6, hQ, hL, hS, hP, hB, hW⟩ := h
  have e138 : su m2 137 i (-1) 138 i = m2 138 i := su_na (by decide)
  have dd : ∀ a k, ¬ a = 137 → mLook1 m2 i 0 0 a k = m2 a k := by
    intro a k ha
    unfold mLook1
    rw [i_add0, i_add0, su_app, su_app, su_na ha]
    by_cases c : a = 139 ∧ k = i
    · rw [if_pos c, c.1, c.2]
    · rw [if_neg c]
      by_cases d : a = 138 ∧ k = i
      · rw [if_pos d, d.1, d.2]
      · rw [if_neg d]
  refine ⟨hf, hq, ?_, ?_, ?_, ?_, hL.fr (fun a k x y => su_na (by omega)), hS.fr (fun c hc => su_nj (by omega)) (fun k => su_na (by omega)) (fun a k x => dd _ _ (by omega)), ?_, ?_, ⟨?_, fun _ => su_at _ _ _ _, by rintro u hu; cases hu⟩⟩
  · rw [su_nj (by decide)]; exact e4
  · rw [su_nj (by decide)]; exact e5
  · rw [dd _ _ (by decide)]; exact e6
  · have h2 := hQ.fr (m1' := su m1 (8 + 15 * i) 8 0) (m2' := mLook1 m2 i 0 0) hf (fun a k x y => su_na (by omega)) (fun k => dd _ _ (by decide))
    intro j hj
    obtain ⟨n, y, ev, te, hy'⟩ := h2 j hj
    refine ⟨n, y, ev, te, Or.inl (hy'.elim id (fun q => ?_))⟩
    obtain ⟨rfl, -⟩ := q
    exact hy n y (ev.cg (fun c _ => dd _ _ (by decide)))
  · unfold SP at hP ⊢
    rw [su_nj (by decide), dd 134 _ (by decide)]; exact hP
  · unfold SB at hB ⊢
    rw [su_nj (show (10 : Nat) ≠ 8 by decide), su_nj (show (11 : Nat) ≠ 8 by decide), dd 135 _ (by decide), dd 136 _ (by decide)]; exact hB
  · unfold mLook1
    rw [su_na (by decide), su_na (by decide), su_at]; rfl
/-- the end of a wait -/
theorem st_end {m1 m2 : Sg} {i f q T : Nat} {cs ms ca ma w : Option Nat} {acc : Int32} (hi : i < 8) (h : ST m1 m2 i f q cs ms ca ma w) (hT : T < 200000) (t1 : m1 0 5 = nI T) (t2 : m2 128 1 = nI T) (hw : ∀ u, w = some u → u ≤ T ∧ T ≤ u + 28 ∧ 0 < q) (hacc : ¬ acc = 0 ↔ mGood m2) :
    (w = none ∧ ST (cEndS acc m1 i) (mLook m2 i) i f q cs ms ca ma none ∧ mLook m2 i = m2) ∨
    (∃ u, w = some u ∧ T < u + 28 ∧ ST (cEndS acc m1 i) (mLook m2 i) i f q cs ms ca ma w ∧ mLook m2 i = m2) ∨
    (∃ u, w = some u ∧ T = u + 28 ∧ ∃ f' q', q' ≤ q ∧ ST (cEndS acc m1 i) (mLook m2 i) i f' q' cs ms ca ma none) := by
  have h9 := h
  obtain ⟨hf, hq, e4, e5, e6, hQ, hL, ⟨s1, s2, s3, s4, s5, s6, s7⟩, hP, hB, ⟨w1, w2, w3⟩⟩ := h
  unfold cEndS cEnd mLook
  rcases w with _ | u
  · left
    rw [if_pos (Or.inl (w2 rfl)), if_pos (show m2 137 i < 0 by rw [w1]; decide)]
    exact ⟨rfl, h9, rfl⟩
  · right
    obtain ⟨hu, hu2, hq0⟩ := hw u rfl
    obtain ⟨hu3, e8, e9⟩ := w3 u rfl
    have e137 : m2 137 i = nI u := w1
    have n8 : ¬ m1 (8 + 15 * i) 8 = 0 := by rw [e8]; decide
    have n137 : ¬ m2 137 i < 0 := by rw [e137, nI_ltl (by omega) (by decide)]; exact Nat.not_lt_zero _
    rw [if_neg n137]
    by_cases c : T = u + 28
    · right
      refine ⟨u, rfl, c, ?_⟩
      have e28 : m2 137 i = m2 128 1 - 28 := by
        rw [e137, t2, nI_sl (show 28 ≤ T by omega)]
        show nI u = nI (T - 28)
        rw [show T - 28 = u by omega]
      have nlt : ¬ (m1 (8 + 15 * i) 8 = 0 ∨ m1 0 5 < m1 (8 + 15 * i) 9) := by
        rintro (x | x)
        · exact n8 x
        · rw [t1, e9, nI_ltI (by omega) (by omega)] at x; omega
      rw [if_neg nlt, if_pos e28]
      have eF : (m1 (8 + 15 * i) 4).toNatClampNeg = f := by rw [e4, nI_clamp (by omega)]
      have eH : cHead m1 (8 + 15 * i) = 8 + 15 * i + 3 + 2 * f := by unfold cHead; rw [eF]
      obtain ⟨n, y, ev, te, hy⟩ := hQ 0 hq0
      rw [show (f + 0) % 6 = f by omega] at te
      have x5 : m2 133 (36 * i + 5) = nI y := by rw [qx0 m2]; exact ev.2.2.2.2.2.2
      have hy4 := ev.2.2.2.2.2.1
      have eT3 : m1 (8 + 15 * i + 3 + 2 * f) 3 = nI y := te.2.2.1.trans ev.2.2.2.2.2.2
      have rem : ∀ (cc : Nat) (g l : Int32), (cc = 12 ∧ g = 1 ∧ l = 0 ∨ cc = 13 ∧ g = 0 ∧ l = 1) → ∃ f' q', q' ≤ q ∧ ST (cRem (su (su m1 (8 + 15 * i) 8 0) (8 + 15 * i) cc (m1 (8 + 15 * i) cc + 1)) (8 + 15 * i) f) (mDrop (mLook1 m2 i g l) i) i f' q' cs ms ca ma none := by
        intro cc g l hc
        have cc12 : cc = 12 ∨ cc = 13 := by omega
        have l137 : mLook1 m2 i g l 137 i = -1 := by unfold mLook1; rw [su_na (by decide), su_na (by decide), su_at]
        have l138 : mLook1 m2 i g l 138 i = m2 138 i + g := by unfold mLook1; rw [su_na (by decide), su_at]
        have l139 : mLook1 m2 i g l 139 i = m2 139 i + l := by unfold mLook1; rw [su_at]
        have lo : ∀ a k, ¬ (a = 137 ∨ a = 138 ∨ a = 139) → mLook1 m2 i g l a k = m2 a k := by
          intro a k ha
          unfold mLook1
          rw [su_na (by omega), su_na (by omega), su_na (by omega)]
        refine ⟨(f + 1) % 6, q - 1, by omega, ?_⟩
        refine st_rem h9 ?_ ?_ ?_ ?_ ?_ ?_ ?_ ?_ ?_ ?_
        · unfold cRem; rw [su_nj (by decide), su_at]
        · unfold cRem
          rw [su_at, su_nj (by omega), su_nj (by decide), e5]
          exact nI_sl (show 1 ≤ q by omega)
        · unfold cRem
          rw [su_nj (by decide), su_nj (by decide), su_nj (by omega), su_at]
        · rw [mDrop_o _ _ (by decide), l138]
          unfold cRem
          rw [su_nj (by decide), su_nj (by decide)]
          rcases hc with ⟨rfl, rfl, rfl⟩ | ⟨rfl, rfl, rfl⟩
          · rw [su_at, s4]
          · rw [su_nj (by decide), su_nj (by decide), i_add0]; exact s4
        · rw [mDrop_o _ _ (by decide), l139]
          unfold cRem
          rw [su_nj (by decide), su_nj (by decide)]
          rcases hc with ⟨rfl, rfl, rfl⟩ | ⟨rfl, rfl, rfl⟩
          · rw [su_nj (by decide), su_nj (by decide), i_add0]; exact s5
          · rw [su_at, s5]
        · intro a k ha
          unfold cRem
          rw [su_ne (by omega), su_ne (by omega), su_ne (by omega), su_ne (by omega)]
        · intro k hk
          rw [mDrop_q _ _ hk, lo _ _ (by decide)]
        · rw [mDrop_n, lo _ _ (by decide), e6]; exact nI_sl (show 1 ≤ q by omega)
        · rw [mDrop_o _ _ (by decide)]; exact l137
        · intro a k ha
          rw [mDrop_o _ _ (by omega), lo _ _ (by omega)]
      rw [eF, eH, eT3, x5]
      by_cases g : mGood m2
      · rw [if_pos (hacc.mpr g), if_pos g]
        exact rem 12 1 0 (Or.inl ⟨rfl, rfl, rfl⟩)
      · rw [if_neg (fun q => g (hacc.mp q)), if_neg g]
        by_cases y4 : y = 4
        · subst y4
          rw [if_neg (by decide), if_pos (show nI 4 = 4 from rfl)]
          exact rem 13 0 1 (Or.inr ⟨rfl, rfl, rfl⟩)
        · rw [if_pos (by rw [nI_ltl (by omega) (by decide)]; show y < 4; omega), if_neg (by rw [nI_eql (by omega) (by decide)]; exact y4)]
          refine ⟨f, q, Nat.le_refl _, st_keep h9 ?_⟩
          intro n' y' ev'
          have : nI y' = nI y := ev'.2.2.2.2.2.2.symm.trans ev.2.2.2.2.2.2
          have := (nI_eq (by have := ev'.2.2.2.2.2.1; omega) (by omega)).mp this
          omega
    · left
      have nlt : m1 (8 + 15 * i) 8 = 0 ∨ m1 0 5 < m1 (8 + 15 * i) 9 := Or.inr (by rw [t1, e9, nI_ltI (by omega) (by omega)]; omega)
      have e28 : ¬ m2 137 i = m2 128 1 - 28 := by
        rw [e137, t2]
        by_cases d : 28 ≤ T
        · rw [nI_sl (show 28 ≤ T by omega)]
          intro x
          have := (nI_eq (by omega) (by omega)).mp x
          have e : (OfNat.ofNat 28 : Nat) = 28 := rfl
          omega
        · intro x
          have h2 : nI u + 28 = nI T := by rw [x]; exact Int32.sub_add_cancel _ _
          rw [nI_al] at h2
          have := (nI_eq (by omega) (by omega)).mp h2
          omega
      rw [if_pos nlt, if_neg e28]
      exact ⟨u, rfl, by omega, h9, rfl⟩
