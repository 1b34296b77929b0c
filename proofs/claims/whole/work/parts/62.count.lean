/-! how many disturbances are to come -/
def ctF (f : Nat → Int32) : Nat → Nat
  | 0 => 0
  | n + 1 => ctF f n + (if f n = 0 then 0 else 1)
theorem ctF_cg {f g : Nat → Int32} (n : Nat) (h : ∀ k, k < n → f k = g k) : ctF f n = ctF g n := by
  induction n with
  | zero => rfl
  | succ n ih =>
    show ctF f n + (if f n = 0 then 0 else 1) = ctF g n + (if g n = 0 then 0 else 1)
    rw [ih (fun k hk => h k (by omega)), h n (by omega)]
theorem ctF_le (f : Nat → Int32) (n : Nat) : ctF f n ≤ n := by
  induction n with
  | zero => exact Nat.le_refl _
  | succ n ih =>
    show ctF f n + (if f n = 0 then 0 else 1) ≤ n + 1
    split
    · omega
    · omega
theorem ctF_clr {f g : Nat → Int32} {j : Nat} (hj : ¬ f j = 0) (hg : g j = 0) (n : Nat) (hn : j < n) (h : ∀ k, k ≠ j → g k = f k) : ctF g n + 1 = ctF f n := by
  induction n with
  | zero => exact absurd hn (Nat.not_lt_zero j)
  | succ n ih =>
    show ctF g n + (if g n = 0 then 0 else 1) + 1 = ctF f n + (if f n = 0 then 0 else 1)
    by_cases c : n = j
    · subst c
      rw [if_pos hg, if_neg hj, ctF_cg n (fun k hk => h k (by omega))]
    · have := ih (by omega)
      rw [h n c]
      omega
theorem ctF_set {f g : Nat → Int32} {j : Nat} (hj : f j = 0) (hg : ¬ g j = 0) (n : Nat) (hn : j < n) (h : ∀ k, k ≠ j → g k = f k) : ctF g n = ctF f n + 1 := (ctF_clr hg hj n hn (fun k hk => (h k hk).symm)).symm
/-- at rest: t bit times, idle for d (the class: d1), D disturbances used up -/
def RR (m1 m2 : Sg) (t d d1 D : Nat) : Prop :=
  EH m2 t d D ∧ ER m1 m2 ∧ t ≤ 100000 ∧ m2 128 1 = nI t ∧ m1 0 5 = nI t ∧ d ≤ t + 1000000 ∧ m2 128 2 = nI d ∧ d1 ≤ t + 53 ∧ m1 0 6 = nI d1 ∧ (d1 = d ∨ (53 ≤ d1 ∧ 53 ≤ d)) ∧ m1 0 3 = m2 128 16 ∧ m2 128 16 = nI (ctF (m2 141) 2048) ∧ (∀ k, k < 2048 → m1 6 k = m2 141 k) ∧ (∀ k, k < 64 → m1 7 k = m2 142 k) ∧ (∀ i, i < 8 → R0 t (Bof m2) (Eof m2) i m1 m2)
