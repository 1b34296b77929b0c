theorem vm_cg {m m' : Sg} {i : Nat} (h : MAg i m m') : vm m' i = vm m i := by
  have e : ∀ c, c < 6 → qx m' i 0 c = qx m i 0 c := fun c hc => (qx_cg h (by decide) hc).symm
  have e4 : m' 134 i = m 134 i := (h 134 i rfl).symm
  have es : mSaid m' i = mSaid m i := by
    unfold mSaid
    rw [e4, mByte_t, mByte_t, tB_cg e]
  unfold vm mZero
  rw [es, e4, ← h 135 i rfl, ← h 136 i rfl]
theorem mSaid_cg {m m' : Sg} {i : Nat} (h : MAg i m m') : mSaid m' i = mSaid m i := by
  have e : ∀ c, c < 6 → qx m' i 0 c = qx m i 0 c := fun c hc => (qx_cg h (by decide) hc).symm
  have e4 : m' 134 i = m 134 i := (h 134 i rfl).symm
  unfold mSaid
  rw [e4, mByte_t, mByte_t, tB_cg e]
theorem R1.cg {T d1 : Nat} {B E : Option Nat} (i : Nat) (m1 m2 m1' m2' : Sg) (h1 : CAg i m1 m1') (h2 : MAg i m2 m2') (h : R1 T d1 B E i m1 m2) : R1 T d1 B E i m1' m2' := by
  obtain ⟨f, q, p, a, w, hs, ⟨c1, c2, c3⟩, h7⟩ := h
  refine ⟨f, q, p, a, w, hs.cg h1 h2, ⟨fun k hk => ?_, c2, c3⟩, fun hp => ?_⟩
  · obtain ⟨y1, y2, y3, y4, y5⟩ := c1 k hk
    exact ⟨y1, y2, y3, fun n y ev => y4 n y ((EV.cg2 (fun c hc => qx_cg h2 (by decide) hc)).mpr ev), y5⟩
  · rw [← h1 _ _ (by omega) (by omega), mSaid_cg h2]; exact h7 hp
theorem R2.cg {T d1 : Nat} {ln : Int32} {B E : Option Nat} (i : Nat) (m1 m2 m1' m2' : Sg) (h1 : CAg i m1 m1') (h2 : MAg i m2 m2') (h : R2 T d1 ln B E i m1 m2) : R2 T d1 ln B E i m1' m2' := by
  obtain ⟨f, q, p, a, w, hs, ⟨c1, c2, c3⟩⟩ := h
  refine ⟨f, q, p, a, w, hs.cg h1 h2, ⟨fun k hk => ?_, c2, c3⟩⟩
  obtain ⟨y1, y2, y3, y4, y5, y6⟩ := c1 k hk
  exact ⟨y1, y2, y3, y4, fun n y ev => y5 n y ((EV.cg2 (fun c hc => qx_cg h2 (by decide) hc)).mpr ev), y6⟩
/-- what the hearing of this bit time makes of B and E -/
def BE (T d1 : Nat) (ln : Int32) (B E B' E' : Option Nat) : Prop :=
  (50 ≤ d1 → ln = 0 → B' = some T) ∧ (∀ b, B = some b → b < T → ((T - b) % 13 = 0 → ln = 0) → (11 ≤ (T - b) % 13 → ln = 1) → B' = some b) ∧ (∀ e, E = some e → T ≤ e + 24 → E' = some e)
theorem end_step {T d1 : Nat} {ln acc : Int32} {B E B' E' : Option Nat} {i : Nat} {m1 m2 : Sg} (hi : i < 8) (hT : T < 200000) (t1 : m1 0 5 = nI T) (t2 : m2 128 1 = nI T) (hacc : ¬ acc = 0 ↔ mGood m2) (hBE : BE T d1 ln B E B' E') (h : R2 T d1 ln B E i m1 m2) : R0 T B' E' i (cEndS acc m1 i) (mLook m2 i) := by
  obtain ⟨f, q, p, a, w, hs, ⟨c1, c2, c3⟩⟩ := h
  obtain ⟨b1, b2, b3⟩ := hBE
  have h11 := hs.2.2.2.2.2.2.2.2.2.1.2.2.2.1
  have ca : ∀ k, a = some k → 1 ≤ k ∧ ∃ e, E' = some e ∧ T = e + 13 + k := by
    intro k hk
    obtain ⟨k1, e, he, hte⟩ := c2 k hk
    exact ⟨k1, e, b3 e he (by have := h11 k hk; omega), hte⟩
  have cp : ∀ k, p = some k → ∃ b, B' = some b ∧ T + 1 = b + k := by
    intro k hk
    obtain ⟨y1, y2, y3, y4, y5, y6, y7, y8⟩ := c1 k hk
    rcases y8 with ⟨rfl, z⟩ | ⟨z1, b, z2, z3⟩
    · exact ⟨T, b1 z (y6 rfl), rfl⟩
    · have e : T - b = k - 1 := by omega
      exact ⟨b, b2 b z2 (by omega) (by rw [e]; exact y6) (by rw [e]; exact y7), z3⟩
  rcases st_end hi hs hT t1 t2 (fun u hu => c3 u hu) hacc with ⟨rfl, hs', em⟩ | ⟨u, rfl, hu, hs', em⟩ | ⟨u, rfl, hu, f', q', hq', hs'⟩
  · refine ⟨f, q, p, a, none, hs', ⟨fun k hk => ?_, ca, by rintro u hu; cases hu⟩⟩
    obtain ⟨y1, y2, y3, y4, y5, -⟩ := c1 k hk
    exact ⟨y1, y2, rfl, y4, by rw [em]; exact y5, cp k hk⟩
  · refine ⟨f, q, p, a, some u, hs', ⟨fun k hk => ?_, ca, ?_⟩⟩
    · obtain ⟨y1, y2, y3, -⟩ := c1 k hk
      cases y3
    · rintro u' hu'
      cases hu'
      obtain ⟨z1, z2, z3⟩ := c3 u rfl
      exact ⟨z1, hu, z3⟩
  · refine ⟨f', q', p, a, none, hs', ⟨fun k hk => ?_, ca, by rintro u hu; cases hu⟩⟩
    obtain ⟨y1, y2, y3, -⟩ := c1 k hk
    cases y3
