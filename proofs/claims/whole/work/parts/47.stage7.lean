theorem mDr_eff (s : Nat) (m : Sg) (n : Nat) : ∀ b k, itr (mDr s) m n b k = (if b = 133 ∧ 36 * s ≤ k ∧ k < 36 * s + n then m 133 (k + 6) else m b k) := by
  induction n with
  | zero => intro b k; rw [if_neg (by omega)]; rfl
  | succ n ih =>
    intro b k
    show su (itr (mDr s) m n) 133 (36 * s + n) (itr (mDr s) m n 133 (36 * s + n + 6)) b k = _
    by_cases c : b = 133 ∧ k = 36 * s + n
    · obtain ⟨rfl, rfl⟩ := c
      rw [su_at, if_pos (by omega), ih, if_neg (by omega)]
    · rw [su_ne c, ih]
      by_cases d : b = 133 ∧ 36 * s ≤ k ∧ k < 36 * s + n
      · rw [if_pos d, if_pos (by omega)]
      · rw [if_neg d, if_neg (by omega)]
theorem mDrop_o (s : Nat) (m : Sg) {b k : Nat} (h : ¬ (b = 132 ∨ b = 133)) : mDrop m s b k = m b k := by
  unfold mDrop
  rw [su_na (by omega), mDr_eff, if_neg (by omega)]
theorem mDrop_q (s : Nat) (m : Sg) {k : Nat} (h : k < 30) : mDrop m s 133 (36 * s + k) = m 133 (36 * s + k + 6) := by
  unfold mDrop
  rw [su_na (by decide), mDr_eff, if_pos (by omega)]
theorem mDrop_n (s : Nat) (m : Sg) : mDrop m s 132 s = m 132 s - 1 := by
  unfold mDrop
  rw [su_at, mDr_eff, if_neg (by omega)]
theorem st_rem {m1 m2 m1' m2' : Sg} {i f q : Nat} {cs ms ca ma w : Option Nat} (h : ST m1 m2 i f q cs ms ca ma w) (c4 : m1' (8 + 15 * i) 4 = nI ((f + 1) % 6)) (c5 : m1' (8 + 15 * i) 5 = nI (q - 1)) (c8 : m1' (8 + 15 * i) 8 = 0) (c12 : m1' (8 + 15 * i) 12 = m2' 138 i) (c13 : m1' (8 + 15 * i) 13 = m2' 139 i) (co : ∀ a k, ¬ (a = 8 + 15 * i ∧ (k = 4 ∨ k = 5 ∨ k = 8 ∨ k = 12 ∨ k = 13)) → m1' a k = m1 a k) (d133 : ∀ k, k < 30 → m2' 133 (36 * i + k) = m2 133 (36 * i + k + 6)) (d132 : m2' 132 i = nI (q - 1)) (d137 : m2' 137 i = -1) (dd : ∀ a k, ¬ (a = 132 ∨ a = 133 ∨ a = 137 ∨ a = 138 ∨ a = 139) → m2' a k = m2 a k) : ST m1' m2' i ((f + 1) % 6) (q - 1) cs ms ca ma none := by
  obtain ⟨hf, hq, e4, e5, e6, hQ, hL, ⟨s1, s2, s3, s4, s5, s6, s7⟩, hP, hB, hW⟩ := h
  refine ⟨Nat.mod_lt _ (by decide), by omega, c4, c5, d132, ?_, hL.fr (fun a k x y => co _ _ (by omega)), ⟨?_, ?_, fun g hg => ?_, c12, c13, ?_, ?_⟩, ?_, ?_, ⟨d137, fun _ => c8, by rintro u hu; cases hu⟩⟩
  · intro j hj
    obtain ⟨n, y, ev, te, hy⟩ := hQ (j + 1) (by omega)
    have eq : ∀ c, c < 6 → qx m2 i (j + 1) c = qx m2' i j c := by
      intro c hc
      unfold qx
      have := d133 (6 * j + c) (by omega)
      rw [show 36 * i + 6 * j + c = 36 * i + (6 * j + c) by omega, this]
      rw [show 36 * i + 6 * (j + 1) + c = 36 * i + (6 * j + c) + 6 by omega]
    have hm : ((f + 1) % 6 + j) % 6 = (f + (j + 1)) % 6 := by omega
    refine ⟨n, y, ev.cg eq, ?_, Or.inl (hy.elim id (fun q => by omega))⟩
    rw [hm]
    have hm6 : (f + (j + 1)) % 6 < 6 := Nat.mod_lt _ (by decide)
    exact te.cg eq (fun k => (co _ _ (by omega)).symm) (fun k => (co _ _ (by omega)).symm)
  · rw [co _ _ (by omega), dd _ _ (by omega)]; exact s1
  · rw [co _ _ (by omega), dd _ _ (by omega)]; exact s2
  · rw [co _ _ (by omega), dd _ _ (by omega)]; exact s3 g hg
  · rw [co _ _ (by omega), dd _ _ (by omega)]; exact s6
  · rw [dd _ _ (by omega)]; exact s7
  · unfold SP at hP ⊢
    rw [co _ 6 (by omega), dd 134 _ (by omega)]; exact hP
  · unfold SB at hB ⊢
    rw [co _ 10 (by omega), co _ 11 (by omega), dd 135 _ (by omega), dd 136 _ (by omega)]; exact hB
theorem i_add0 (x : Int32) : x + 0 = x := Int32.add_zero x
/-- the wait is over, and nothing is taken from the queue -/
theorem st_keep {m1 m2 : Sg} {i f q u : Nat} {cs ms ca ma : Option Nat} (h : ST m1 m2 i f q cs ms ca ma (some u)) (hy : ∀ n y, EV (qx m2 i 0) n y → y ≤ 3) : ST (su m1 (8 + 15 * i) 8 0) (mLook1 m2 i 0 0) i f q cs ms ca ma none := by
  obtain ⟨hf, hq, e4, e5, e6, hQ, hL, hS, hP, hB, hW⟩ := h
  have e138 : su m2 137 i (-1) 138 i = m2 138 i := su_na (by decide)
  have dd : ∀ a k, ¬ a = 137 → mLook1 m2 i 0 0 a k = m2 a k := by
    intro a k ha
    unfold mLook1
    rw [i_add0, i_add0, su_app, su_app, su_na ha]
    by_cases c : a = 139 ∧ k = i
    · rw [if_pos c, c.1, c.2]
    · rw [if_neg c]
      by_cases d : a = 138 ∧ k = i
      · rw [if_pos d, d.1, d.2]
      · rw [if_neg d]
  refine ⟨hf, hq, ?_, ?_, ?_, ?_, hL.fr (fun a k x y => su_na (by omega)), hS.fr (fun c hc => su_nj (by omega)) (fun k => su_na (by omega)) (fun a k x => dd _ _ (by omega)), ?_, ?_, ⟨?_, fun _ => su_at _ _ _ _, by rintro u hu; cases hu⟩⟩
  · rw [su_nj (by decide)]; exact e4
  · rw [su_nj (by decide)]; exact e5
  · rw [dd _ _ (by decide)]; exact e6
  · have h2 := hQ.fr (m1' := su m1 (8 + 15 * i) 8 0) (m2' := mLook1 m2 i 0 0) hf (fun a k x y => su_na (by omega)) (fun k => dd _ _ (by decide))
    intro j hj
    obtain ⟨n, y, ev, te, hy'⟩ := h2 j hj
    refine ⟨n, y, ev, te, Or.inl (hy'.elim id (fun q => ?_))⟩
    obtain ⟨rfl, -⟩ := q
    exact hy n y (ev.cg (fun c _ => dd _ _ (by decide)))
  · unfold SP at hP ⊢
    rw [su_nj (by decide), dd 134 _ (by decide)]; exact hP
  · unfold SB at hB ⊢
    rw [su_nj (show (10 : Nat) ≠ 8 by decide), su_nj (show (11 : Nat) ≠ 8 by decide), dd 135 _ (by decide), dd 136 _ (by decide)]; exact hB
  · unfold mLook1
    rw [su_na (by decide), su_na (by decide), su_at]; rfl
