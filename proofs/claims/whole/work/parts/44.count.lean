/-! a telegram said once more -/
def xUp (x : Nat → Int32) (v : Int32) : Nat → Int32 := fun c => if c = 5 then v else x c
theorem xUp5 (x : Nat → Int32) (v : Int32) : xUp x v 5 = v := rfl
theorem xUp_ne {x : Nat → Int32} {v : Int32} {c : Nat} (h : c ≠ 5) : xUp x v c = x c := if_neg h
theorem tP_up {x : Nat → Int32} {v : Int32} {k : Nat} (h : k ≠ 0) : tP (xUp x v) k = tP x k := by
  unfold tP
  split
  · exact absurd rfl h
  · rfl
  · rfl
  · rfl
  · rfl
  · rfl
  · rfl
theorem EV.up {x : Nat → Int32} {n y : Nat} (h : EV x n y) (hy : y ≤ 3) : EV (xUp x (nI (y + 1))) n (y + 1) := by
  obtain ⟨a, b, c, d, e, -, -⟩ := h
  exact ⟨a, b, c, d, e, by omega, rfl⟩
theorem cCount_fr {m : Sg} {T L a k : Nat} (h : ¬ (a = T ∧ k = 3)) (h2 : ¬ (a = T + 1 ∧ (k = 0 ∨ k = L - 1))) : cCount m T L a k = m a k := by
  unfold cCount cSeal
  rw [su_ne (by omega), su_ne (by omega), su_ne (by omega)]
theorem TE.count {m : Sg} {T : Nat} {x : Nat → Int32} {n y : Nat} (t : TE m T x n) (e : EV x n y) (hy : y ≤ 3) : TE (cCount m T (n + 7)) T (xUp x (nI (y + 1))) n := by
  have e' := e.up hy
  have hn := e.2.2.2.1
  obtain ⟨t1, t2, t3, t4⟩ := t
  have x5 : x 5 = nI y := e.2.2.2.2.2.2
  have c3 : su m T 3 (m T 3 + 1) T 3 = nI (y + 1) := by rw [su_at, t3, x5]; exact nI_al y 1
  have ctl : cCtl (su m T 3 (m T 3 + 1)) T = tP (xUp x (nI (y + 1))) 0 := by
    unfold cCtl tP
    rw [c3, su_nj (show (2 : Nat) ≠ 3 by decide), t2, xUp5, xUp_ne (show (0 : Nat) ≠ 5 by decide)]
    rfl
  -- the bytes ahead of the check
  have pre : ∀ k, k < n + 6 → su (su m T 3 (m T 3 + 1)) (T + 1) 0 (cCtl (su m T 3 (m T 3 + 1)) T) (T + 1) k = tP (xUp x (nI (y + 1))) k := by
    intro k hk
    by_cases k0 : k = 0
    · subst k0; rw [su_at]; exact ctl
    · rw [su_nj k0, su_na (by omega), t4 k (by omega), tP_up k0]
      unfold tB
      rw [e.size, if_neg]
      rw [nI_leI (by omega) (by omega)]; omega
  have chk : ∀ k, k ≤ n + 6 → cChk (su (su m T 3 (m T 3 + 1)) (T + 1) 0 (cCtl (su m T 3 (m T 3 + 1)) T)) T k = tC (xUp x (nI (y + 1))) k := by
    intro k
    induction k with
    | zero => intro _; rfl
    | succ k ih =>
      intro hk
      show _ ^^^ _ = _ ^^^ _
      rw [ih (by omega), pre k (by omega)]
  refine ⟨?_, ?_, ?_, ?_⟩
  · rw [cCount_fr (by omega) (by omega)]; exact t1
  · rw [cCount_fr (by omega) (by omega), xUp_ne (by decide)]; exact t2
  · unfold cCount cSeal
    rw [su_na (by omega), su_na (by omega), c3]; rfl
  · intro k hk
    unfold cCount cSeal
    unfold tB
    rw [e'.size]
    by_cases kl : k = n + 6
    · subst kl
      rw [show n + 7 - 1 = n + 6 by omega, su_at, if_pos (by rw [nI_leI (by omega) (by omega)]; omega)]
      exact chk _ (by omega)
    · rw [su_nj (by omega), if_neg (by rw [nI_leI (by omega) (by omega)]; omega)]
      exact pre k (by omega)
theorem SLn.count {m : Sg} {A j : Nat} (h : SLn m A) (hj : j < 6) {x : Nat → Int32} {n y : Nat} (t : TE m (A + 3 + 2 * j) x n) (e : EV x n y) (hy : y ≤ 3) : SLn (cCount m (A + 3 + 2 * j) (n + 7)) A := by
  obtain ⟨a, b, c⟩ := h
  have hn := e.2.2.2.1
  refine ⟨fun j' hj' => ?_, fun j' k hj' hk => ?_, fun k => ?_⟩
  · rw [cCount_fr (by omega) (by omega)]; exact a j' hj'
  · by_cases q : j' = j ∧ (k = 0 ∨ k = n + 6)
    · obtain ⟨rfl, q⟩ := q
      have := (t.count e hy).2.2.2 k (by omega)
      rw [this]
      exact (e.up hy).byte (by omega)
    · rw [cCount_fr (by omega) (by omega)]; exact b j' k hj' hk
  · rw [cCount_fr (by omega) (by omega)]; exact c k
theorem TE.count_ne {m : Sg} {T T' L : Nat} {x : Nat → Int32} {n : Nat} (t : TE m T x n) (h : T' ≠ T ∧ T' + 1 ≠ T ∧ T' ≠ T + 1) : TE (cCount m T' L) T x n := by
  obtain ⟨t1, t2, t3, t4⟩ := t
  refine ⟨?_, ?_, ?_, ?_⟩
  · rw [cCount_fr (by omega) (by omega)]; exact t1
  · rw [cCount_fr (by omega) (by omega)]; exact t2
  · rw [cCount_fr (by omega) (by omega)]; exact t3
  · intro k hk; rw [cCount_fr (by omega) (by omega)]; exact t4 k hk
