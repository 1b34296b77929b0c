def C2 (m2 : Sg) (i T d1 : Nat) (ln : Int32) (B E : Option Nat) (q : Nat) (p a w : Option Nat) : Prop :=
  (∀ k, p = some k → 1 ≤ k ∧ a = none ∧ w = none ∧ 0 < q ∧ (∀ n y, EV (qx m2 i 0) n y → k + 3 ≤ 13 * (n + 7)) ∧ ((k - 1) % 13 = 0 → ln = 0) ∧ (11 ≤ (k - 1) % 13 → ln = 1) ∧ (k = 1 ∧ 50 ≤ d1 ∨ 2 ≤ k ∧ ∃ b, B = some b ∧ T + 1 = b + k)) ∧
  (∀ k, a = some k → 1 ≤ k ∧ ∃ e, E = some e ∧ T = e + 13 + k) ∧
  (∀ u, w = some u → u ≤ T ∧ T ≤ u + 28 ∧ 0 < q)
def R2 (T d1 : Nat) (ln : Int32) (B E : Option Nat) (i : Nat) (m1 m2 : Sg) : Prop := ∃ f q p a w, ST m1 m2 i f q (prd p) p a a w ∧ C2 m2 i T d1 ln B E q p a w
theorem mGo_133 {ln : Int32} {m2 : Sg} {i : Nat} {a : Option Nat} {k : Nat} (e135 : m2 135 i = enc a) (ha : ∀ k, a = some k → k < 11) (e134 : m2 134 i = nI k) (hk : k < 1000) (h1 : ¬ goStop ln m2 i) (h2 : ¬ goLast m2 i k) (j : Nat) : mGo ln m2 i 133 j = m2 133 j := by
  obtain ⟨g1, g2⟩ := m_go1 e135 ha
  obtain ⟨es, ez⟩ := mSaid_go1 g2
  have e34 : mGo1 m2 i 134 i = nI k := (g2 _ _ (by omega)).trans e134
  unfold mGo mGo2
  rw [es, ez, e34, if_neg h1, if_neg (show ¬ nI k = 13 * mSize m2 i - 3 from h2)]
  split
  · rw [su_na (by decide)]; exact g2 _ _ (by omega)
  · exact g2 _ _ (by omega)
theorem go_step {T d1 : Nat} {ln : Int32} {B E : Option Nat} {i : Nat} {m1 m2 : Sg} (hT : T < 200000) (hl : ln = 0 ∨ ln = 1) (t1 : m1 0 5 = nI T) (t2 : m2 128 1 = nI T) (hv : vm m2 i = 0 → ln = 0) (h : R1 T d1 B E i m1 m2) : R2 T d1 ln B E i (cSeeS ln m1 i) (mGo ln m2 i) := by
  obtain ⟨f, q, p, a, w, hs, ⟨c1, c2, c3⟩, h7⟩ := h
  have hk : ∀ k, p = some k → w = none ∧ 0 < q ∧ ∀ n y, EV (qx m2 i 0) n y → y ≤ 3 ∧ k + 3 ≤ 13 * (n + 7) := by
    intro k hk
    obtain ⟨y1, y2, y3, y4, y5⟩ := c1 k hk
    subst y2
    exact ⟨rfl, y3, fun n y ev => ⟨st_y3 hs y3 ev, y4 n y ev⟩⟩
  have hg := st_go (ln := ln) hs h7 hk hT t1 t2
  have e135 := hs.2.2.2.2.2.2.2.2.2.1.2.1
  have h11 := hs.2.2.2.2.2.2.2.2.2.1.2.2.2.1
  have hadv : ∀ k, adv a = some k → 1 ≤ k ∧ ∃ e, E = some e ∧ T = e + 13 + k := by
    intro k hk
    rcases a with _ | k0
    · cases hk
    · by_cases d : k0 < 10
      · rw [adv_lt d] at hk
        cases hk
        obtain ⟨e, he, hte⟩ := c2 k0 rfl
        exact ⟨by omega, e, he, by omega⟩
      · rw [adv_ge d] at hk; cases hk
  refine ⟨f, q, goP ln m2 i p, adv a, goW ln m2 i T w p, hg, ?_, hadv, ?_⟩
  · intro k hk'
    rcases p with _ | k0
    · cases hk'
    · obtain ⟨y1, y2, y3, y4, y5⟩ := c1 k0 rfl
      have e134 := hs.2.2.2.2.2.2.2.2.1.2.1
      have hk0 := hs.2.2.2.2.2.2.2.2.1.2.2.2 k0 rfl
      have x1 : ¬ goStop ln m2 i := by
        intro x
        have : goP ln m2 i (some k0) = none := if_pos x
        rw [this] at hk'; cases hk'
      have x2 : ¬ goLast m2 i k0 := by
        intro x
        have : goP ln m2 i (some k0) = none := by show (if _ then none else _) = _; rw [if_neg x1, if_pos x]
        rw [this] at hk'; cases hk'
      have x3 : goP ln m2 i (some k0) = some (k0 + 1) := by show (if _ then none else _) = _; rw [if_neg x1, if_neg x2]
      rw [x3] at hk'
      cases hk'
      subst y1 y2
      have q133 := mGo_133 e135 h11 e134 (by omega) x1 x2
      have es : mSaid m2 i = bitOf (tB (qx m2 i 0) (k0 / 13)) (k0 % 13) := mSaid_t (by omega) e134
      have ev : SV m2 i none (some k0) = vm m2 i := sv_vm hs (fun x => absurd rfl x) (fun k hk => by cases hk; exact ⟨y3, y4⟩)
      have ev : mSaid m2 i = vm m2 i := ev
      -- one bit less of room than before
      have room : ∀ n y, EV (qx m2 i 0) n y → k0 + 1 + 3 ≤ 13 * (n + 7) := by
        intro n y e
        have h1 := y4 n y e
        have h2 : k0 ≠ 13 * (n + 7) - 3 := by
          intro x
          apply x2
          show nI k0 = _
          have hn := e.2.2.2.1
          rw [mSize_t, e.size, nI_ml, x]
          exact (nI_sl (by omega)).symm
        omega
      refine ⟨by omega, rfl, ?_, y3, ?_, ?_, ?_, ?_⟩
      · show (if _ then none else _) = _
        rw [if_neg x1, if_neg x2]
      · intro n y e
        exact room n y (e.cg (fun c _ => q133 _))
      · intro hz
        apply hv
        rw [← ev, es, show k0 % 13 = 0 from hz]; rfl
      · intro hz
        have : mSaid m2 i = 1 := by rw [es, bitOf_hi _ (show 10 ≤ k0 % 13 by have : k0 + 1 - 1 = k0 := rfl; omega)]
        exact hl.resolve_left (fun x => x1 ⟨x, this⟩)
      · rcases y5 with ⟨z1, z2⟩ | ⟨z1, b, z2, z3⟩
        · exact Or.inl ⟨by omega, z2⟩
        · exact Or.inr ⟨by omega, b, z2, by omega⟩
  · intro u hu
    rcases p with _ | k0
    · obtain ⟨z1, z2, z3⟩ := c3 u hu
      exact ⟨by omega, z2, z3⟩
    · obtain ⟨y1, y2, y3, y4, y5⟩ := c1 k0 rfl
      subst y2
      by_cases x1 : goStop ln m2 i
      · have : goW ln m2 i T none (some k0) = none := if_pos x1
        rw [this] at hu; cases hu
      · by_cases x2 : goLast m2 i k0
        · have : goW ln m2 i T none (some k0) = some T := by show (if _ then none else _) = _; rw [if_neg x1, if_pos x2]
          rw [this] at hu
          cases hu
          exact ⟨Nat.le_refl _, by omega, y3⟩
        · have : goW ln m2 i T none (some k0) = none := by show (if _ then none else _) = _; rw [if_neg x1, if_neg x2]
          rw [this] at hu; cases hu
