/-! the state behind the constructors -/
theorem ctF_zero {f : Nat → Int32} (n : Nat) (h : ∀ k, k < n → f k = 0) : ctF f n = 0 := by
  induction n with
  | zero => rfl
  | succ n ih =>
    show ctF f n + (if f n = 0 then 0 else 1) = 0
    rw [ih (fun k hk => h k (by omega)), if_pos (h n (by omega))]
theorem StI.kl {Y : Mm} {A : Nat} {p : Int32} (h : StI Y A p) (q : Nat) (hq : q < 15) : xk Y (A + q) = stk q ∧ xl Y (A + q) = stl q := by
  obtain ⟨⟨b1, b2, b3, b4, b5, b6, -⟩, h2⟩ := h
  have t := fun t ht => (h2 t ht).2
  rcases (show q = 0 ∨ q = 1 ∨ q = 2 ∨ (∃ j, j < 6 ∧ q = 3 + 2 * j) ∨ (∃ j, j < 6 ∧ q = 4 + 2 * j) by
    by_cases c : q < 3
    · omega
    · by_cases d : q % 2 = 1
      · exact Or.inr (Or.inr (Or.inr (Or.inl ⟨(q - 3) / 2, by omega, by omega⟩)))
      · exact Or.inr (Or.inr (Or.inr (Or.inr ⟨(q - 4) / 2, by omega, by omega⟩)))) with rfl | rfl | rfl | ⟨j, hj, rfl⟩ | ⟨j, hj, rfl⟩
  · exact ⟨b1, b2⟩
  · exact ⟨b3, b4⟩
  · exact ⟨b5, b6⟩
  · obtain ⟨k1, k2, -⟩ := t j hj
    rw [show A + (3 + 2 * j) = A + 3 + 2 * j by omega, k1, k2]
    rcases (show j = 0 ∨ j = 1 ∨ j = 2 ∨ j = 3 ∨ j = 4 ∨ j = 5 by omega) with rfl | rfl | rfl | rfl | rfl | rfl <;> exact ⟨rfl, rfl⟩
  · obtain ⟨-, -, -, -, -, -, k1, k2, -⟩ := t j hj
    rw [show A + (4 + 2 * j) = A + 3 + 2 * j + 1 by omega, k1, k2]
    rcases (show j = 0 ∨ j = 1 ∨ j = 2 ∨ j = 3 ∨ j = 4 ∨ j = 5 by omega) with rfl | rfl | rfl | rfl | rfl | rfl <;> exact ⟨rfl, rfl⟩
theorem shk_st {i q : Nat} (hi : i < 8) (hq : q < 15) : shk (8 + 15 * i + q) = stk q := by
  unfold shk stk
  rw [if_neg (by omega), if_pos (by omega), show (8 + 15 * i + q - 8) % 15 = q by omega]
  rcases q with _ | _ | _ | q <;> rfl
theorem shl_st {i q : Nat} (hi : i < 8) (hq : q < 15) : shl (8 + 15 * i + q) = stl q := by
  unfold shl stl
  rw [if_neg (by omega), if_pos (by omega), show (8 + 15 * i + q - 8) % 15 = q by omega]
  rcases q with _ | _ | _ | q <;> rfl
def str (k q j : Nat) : Option Nat := match q, j with | 0, 0 => some (k + 1) | 0, 1 => some (k + 2) | 2, j => if j < 6 then some (k + 1 + 2 * j) else none | q, 0 => if q % 2 = 1 ∧ 3 ≤ q then some (k + 1) else none | _, _ => none
theorem shr_st {i q j : Nat} (hi : i < 8) (hq : q < 15) : shr (8 + 15 * i + q) j = str (8 + 15 * i + q) q j := by
  unfold shr str
  rw [if_neg (by omega), if_pos (by omega), show (8 + 15 * i + q - 8) % 15 = q by omega]
  generalize 8 + 15 * i + q = k
  rcases q with _ | _ | _ | q <;> rcases j with _ | _ | j <;> rfl
theorem StI.rf {Y : Mm} {A : Nat} {p : Int32} (h : StI Y A p) (q j : Nat) (hq : q < 15) (hs : str (A + q) q j ≠ none) : xr Y (A + q) j = str (A + q) q j := by
  obtain ⟨⟨-, -, -, -, -, -, b7, b8, -⟩, h2⟩ := h
  have t0 : ∀ t, t < 6 → xr Y (A + 2) t = some (A + 3 + 2 * t) := fun t ht => (h2 t ht).1
  have t1 : ∀ t, t < 6 → xr Y (A + 3 + 2 * t) 0 = some (A + 3 + 2 * t + 1) := fun t ht => (h2 t ht).2.2.2.1
  rcases (show q = 0 ∨ q = 1 ∨ q = 2 ∨ (∃ j, j < 6 ∧ q = 3 + 2 * j) ∨ (∃ j, j < 6 ∧ q = 4 + 2 * j) by
    by_cases c : q < 3
    · omega
    · by_cases d : q % 2 = 1
      · exact Or.inr (Or.inr (Or.inr (Or.inl ⟨(q - 3) / 2, by omega, by omega⟩)))
      · exact Or.inr (Or.inr (Or.inr (Or.inr ⟨(q - 4) / 2, by omega, by omega⟩)))) with rfl | rfl | rfl | ⟨t, ht, rfl⟩ | ⟨t, ht, rfl⟩
  · rcases j with _ | _ | j
    · exact b7
    · exact b8
    · exact absurd rfl hs
  · rcases j with _ | j
    · exact absurd rfl hs
    · exact absurd rfl hs
  · by_cases c : j < 6
    · show xr Y (A + 2) j = (if j < 6 then some (A + 2 + 1 + 2 * j) else none)
      rw [if_pos c, t0 j c]
    · exfalso; apply hs
      show (if j < 6 then some (A + 2 + 1 + 2 * j) else none) = none
      rw [if_neg c]
  · rcases j with _ | j
    · rw [show A + (3 + 2 * t) = A + 3 + 2 * t by omega, t1 t ht]
      rcases (show t = 0 ∨ t = 1 ∨ t = 2 ∨ t = 3 ∨ t = 4 ∨ t = 5 by omega) with rfl | rfl | rfl | rfl | rfl | rfl <;> rfl
    · exfalso; apply hs
      rcases (show t = 0 ∨ t = 1 ∨ t = 2 ∨ t = 3 ∨ t = 4 ∨ t = 5 by omega) with rfl | rfl | rfl | rfl | rfl | rfl <;> rfl
  · exfalso; apply hs
    rcases j with _ | j
    · rcases (show t = 0 ∨ t = 1 ∨ t = 2 ∨ t = 3 ∨ t = 4 ∨ t = 5 by omega) with rfl | rfl | rfl | rfl | rfl | rfl <;> rfl
    · rcases (show t = 0 ∨ t = 1 ∨ t = 2 ∨ t = 3 ∨ t = 4 ∨ t = 5 by omega) with rfl | rfl | rfl | rfl | rfl | rfl <;> rfl
theorem BuL.sh {Y : Mm} (h : BuL Y 8) : (∀ k, k < 128 → xk Y k = shk k ∧ xl Y k = shl k) ∧ ∀ k j, k < 128 → shr k j ≠ none → xr Y k j = shr k j := by
  obtain ⟨a1, a2, a3, a4, a5, a6, a7, a8, a9, ⟨e1, e2, e3, e4, e5, e6, e7, e8, e9, e10, e11, -⟩, a11, a12, a13, a14, a15, a16, a17, a18, a19, a20⟩ := h
  constructor
  · intro k hk
    by_cases c : k < 8
    · rcases (show k = 0 ∨ k = 1 ∨ k = 2 ∨ k = 3 ∨ k = 4 ∨ k = 5 ∨ k = 6 ∨ k = 7 by omega) with rfl | rfl | rfl | rfl | rfl | rfl | rfl | rfl
      · exact ⟨a1, a2⟩
      · exact ⟨a7, a8⟩
      · exact ⟨e1, e2⟩
      · exact ⟨e6, e7⟩
      · exact ⟨e8, e9⟩
      · exact ⟨e10, e11⟩
      · exact ⟨a11, a12⟩
      · exact ⟨a14, a15⟩
    · obtain ⟨i, q, hi, hq, rfl⟩ : ∃ i q, i < 8 ∧ q < 15 ∧ k = 8 + 15 * i + q := ⟨(k - 8) / 15, (k - 8) % 15, by omega, by omega, by omega⟩
      rw [shk_st hi hq, shl_st hi hq]
      exact (a20 i hi).kl q hq
  · intro k j hk hs
    by_cases c : k < 8
    · rcases (show k = 0 ∨ k = 1 ∨ k = 2 ∨ k = 3 ∨ k = 4 ∨ k = 5 ∨ k = 6 ∨ k = 7 by omega) with rfl | rfl | rfl | rfl | rfl | rfl | rfl | rfl
      · rcases j with _ | _ | _ | _ | _ | j
        · exact a3
        · exact a4
        · exact a5
        · exact absurd rfl hs
        · exact a6
        · exact absurd rfl hs
      · by_cases d : j < 8
        · rw [a9 j d]
          show _ = (if j < 8 then some (8 + 15 * j) else none)
          rw [if_pos d]
        · exfalso; apply hs
          show (if j < 8 then some (8 + 15 * j) else none) = none
          rw [if_neg d]
      · rcases j with _ | _ | _ | j
        · exact e3
        · exact e4
        · exact e5
        · exact absurd rfl hs
      · exact absurd rfl hs
      · exact absurd rfl hs
      · exact absurd rfl hs
      · exact absurd rfl hs
      · exact absurd rfl hs
    · obtain ⟨i, q, hi, hq, rfl⟩ : ∃ i q, i < 8 ∧ q < 15 ∧ k = 8 + 15 * i + q := ⟨(k - 8) / 15, (k - 8) % 15, by omega, by omega, by omega⟩
      rw [shr_st hi hq] at hs ⊢
      exact (a20 i hi).rf q j hq hs
