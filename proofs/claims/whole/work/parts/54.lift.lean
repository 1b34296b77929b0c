/-! from one station to eight -/
def GE (m1 m2 x1 x2 : Sg) : Prop := (∀ a j, ¬ (8 ≤ a ∧ a < 128) → x1 a j = m1 a j) ∧ (∀ a j, stn a j = 99 → x2 a j = m2 a j)
theorem lift {P Q : Nat → Sg → Sg → Prop} (fP : ∀ i m1 m2 m1' m2', CAg i m1 m1' → MAg i m2 m2' → P i m1 m2 → P i m1' m2') (fQ : ∀ i m1 m2 m1' m2', CAg i m1 m1' → MAg i m2 m2' → Q i m1 m2 → Q i m1' m2') {f g : Sg → Nat → Sg} {m1 m2 : Sg} (hf : ∀ i x1 x2, i < 8 → P i x1 x2 → ∀ a j, ¬ (8 + 15 * i ≤ a ∧ a < 8 + 15 * i + 15) → f x1 i a j = x1 a j) (hg : Loc g) (step : ∀ i x1 x2, i < 8 → GE m1 m2 x1 x2 → P i x1 x2 → Q i (f x1 i) (g x2 i)) (h : ∀ i, i < 8 → P i m1 m2) : (∀ i, i < 8 → Q i (itr f m1 8) (itr g m2 8)) ∧ (∀ i, i < 8 → P i (itr f m1 i) (itr g m2 i)) ∧ GE m1 m2 (itr f m1 8) (itr g m2 8) := by
  have key : ∀ n, n ≤ 8 → (∀ i, i < n → Q i (itr f m1 n) (itr g m2 n)) ∧ (∀ i, n ≤ i → i < 8 → P i (itr f m1 n) (itr g m2 n)) ∧ (∀ i, i < n → P i (itr f m1 i) (itr g m2 i)) ∧ GE m1 m2 (itr f m1 n) (itr g m2 n) := by
    intro n
    induction n with
    | zero => exact fun _ => ⟨fun i hi => absurd hi (Nat.not_lt_zero i), fun i _ hi => h i hi, fun i hi => absurd hi (Nat.not_lt_zero i), fun _ _ _ => rfl, fun _ _ _ => rfl⟩
    | succ n ih =>
      intro hn
      obtain ⟨h1, h2, h3, h4⟩ := ih (by omega)
      have hPn := h2 n (Nat.le_refl _) (by omega)
      have l1 : ∀ i, i < 8 → i ≠ n → CAg i (itr f m1 n) (itr f m1 (n + 1)) := fun i hi hin a j ha hb => (hf n _ _ (by omega) hPn a j (by omega)).symm
      have l2 : ∀ i, i ≠ n → MAg i (itr g m2 n) (itr g m2 (n + 1)) := fun i hin a j ha => (hg _ n a j (by omega) (by omega)).symm
      refine ⟨fun i hi => ?_, fun i hi hi8 => ?_, fun i hi => ?_, fun a j ha => ?_, fun a j ha => ?_⟩
      · by_cases c : i = n
        · subst c; exact step i _ _ (by omega) h4 hPn
        · exact fQ i _ _ _ _ (l1 i (by omega) c) (l2 i c) (h1 i (by omega))
      · exact fP i _ _ _ _ (l1 i hi8 (by omega)) (l2 i (by omega)) (h2 i (by omega) hi8)
      · by_cases c : i = n
        · subst c; exact hPn
        · exact h3 i (by omega)
      · exact (hf n _ _ (by omega) hPn a j (by omega)).trans (h4.1 a j ha)
      · exact (hg _ n a j (by omega) (by omega)).trans (h4.2 a j ha)
  obtain ⟨a, -, b, c⟩ := key 8 (Nat.le_refl _)
  exact ⟨a, b, c⟩
/-- nothing done on one side -/
def idS (m : Sg) (_ : Nat) : Sg := m
theorem itr_id (m : Sg) (n : Nat) : itr idS m n = m := by
  induction n with
  | zero => rfl
  | succ n ih => exact ih
theorem loc_id : Loc idS := fun _ _ _ _ _ _ => rfl
theorem cCount_loc {m : Sg} {A f L : Nat} (hf : f < 6) {a j : Nat} (h : ¬ (A ≤ a ∧ a < A + 15)) : cCount m (A + 3 + 2 * f) L a j = m a j := cCount_fr (by omega) (by omega)
theorem cSee_loc {m : Sg} {A : Nat} {ln t : Int32} (hC : CSt m A) {a j : Nat} (h : ¬ (A ≤ a ∧ a < A + 15)) : cSee ln t m A a j = m a j := by
  obtain ⟨f, hf, eH⟩ := cSt_head hC
  unfold cSee
  rw [eH]
  split
  · rfl
  · split
    · rw [su_na (by omega), su_na (by omega)]
    · split
      · rfl
      · rw [su_na (by omega), su_na (by omega), cCount_loc hf h, su_na (by omega)]
theorem cEnd_loc {m : Sg} {A : Nat} {acc t : Int32} {a j : Nat} (h : ¬ (A ≤ a ∧ a < A + 15)) : cEnd acc t m A a j = m a j := by
  unfold cEnd cRem
  split
  · rfl
  · split
    · rw [su_na (by omega), su_na (by omega), su_na (by omega), su_na (by omega)]
    · split
      · rw [su_na (by omega)]
      · rw [su_na (by omega), su_na (by omega), su_na (by omega), su_na (by omega)]
/-- what a station's cells are tied to at rest: B the time the ear's telegram began, E the end of the latest one -/
def CD (m2 : Sg) (i t : Nat) (B E : Option Nat) (q : Nat) (p a w : Option Nat) : Prop :=
  (∀ k, p = some k → 1 ≤ k ∧ a = none ∧ w = none ∧ 0 < q ∧ (∀ n y, EV (qx m2 i 0) n y → k + 3 ≤ 13 * (n + 7)) ∧ ∃ b, B = some b ∧ t + 1 = b + k) ∧
  (∀ k, a = some k → 1 ≤ k ∧ ∃ e, E = some e ∧ t = e + 13 + k) ∧
  (∀ u, w = some u → u ≤ t ∧ t < u + 28 ∧ 0 < q)
theorem EV.cg2 {x x' : Nat → Int32} {n y : Nat} (h : ∀ c, c < 6 → x c = x' c) : EV x n y ↔ EV x' n y := ⟨fun e => e.cg h, fun e => e.cg (fun c hc => (h c hc).symm)⟩
theorem CD.cg {m2 m2' : Sg} {i t : Nat} {B E : Option Nat} {q : Nat} {p a w : Option Nat} (h : CD m2 i t B E q p a w) (h2 : MAg i m2 m2') : CD m2' i t B E q p a w := by
  obtain ⟨h1, h3, h4⟩ := h
  refine ⟨fun k hk => ?_, h3, h4⟩
  obtain ⟨x1, x2, x3, x4, x5, x6⟩ := h1 k hk
  exact ⟨x1, x2, x3, x4, fun n y ev => x5 n y ((EV.cg2 (fun c hc => qx_cg h2 (by decide) hc)).mpr ev), x6⟩
/-- a station at rest -/
def R0 (t : Nat) (B E : Option Nat) (i : Nat) (m1 m2 : Sg) : Prop := ∃ f q p a w, ST m1 m2 i f q (prd p) p a a w ∧ CD m2 i t B E q p a w
theorem R0.cg {t : Nat} {B E : Option Nat} (i : Nat) (m1 m2 m1' m2' : Sg) (h1 : CAg i m1 m1') (h2 : MAg i m2 m2') (h : R0 t B E i m1 m2) : R0 t B E i m1' m2' := by
  obtain ⟨f, q, p, a, w, hs, hc⟩ := h
  exact ⟨f, q, p, a, w, hs.cg h1 h2, hc.cg h2⟩
