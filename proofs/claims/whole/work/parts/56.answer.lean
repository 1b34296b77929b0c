def CDb (m2 : Sg) (i T : Nat) (B E : Option Nat) (q : Nat) (p a w : Option Nat) : Prop :=
  (∀ k, p = some k → 1 ≤ k ∧ a = none ∧ w = none ∧ 0 < q ∧ (∀ n y, EV (qx m2 i 0) n y → k + 3 ≤ 13 * (n + 7)) ∧ ∃ b, B = some b ∧ T = b + k) ∧
  (∀ k, a = some k → ∃ e, E = some e ∧ T = e + 14 + k) ∧
  (∀ u, w = some u → u < T ∧ T ≤ u + 28 ∧ 0 < q)
def Rb (T d1 : Nat) (B E : Option Nat) (i : Nat) (m1 m2 : Sg) : Prop := ∃ f q p ms a w, ST m1 m2 i f q (prd p) ms a a w ∧ CDb m2 i T B E q p a w ∧ (a ≠ none → p = none ∧ ms = none) ∧ (a = none → ms = nxt (BgI d1 m1 (8 + 15 * i)) (prd p)) ∧ (ms = p ∨ p = none ∧ ms = some 0 ∧ 0 < q ∧ w = none ∧ 50 ≤ d1)
theorem CDb.cg {m2 m2' : Sg} {i t : Nat} {B E : Option Nat} {q : Nat} {p a w : Option Nat} (h : CDb m2 i t B E q p a w) (h2 : ∀ c, c < 6 → qx m2 i 0 c = qx m2' i 0 c) : CDb m2' i t B E q p a w := by
  obtain ⟨h1, h3, h4⟩ := h
  refine ⟨fun k hk => ?_, h3, h4⟩
  obtain ⟨x1, x2, x3, x4, x5, x6⟩ := h1 k hk
  exact ⟨x1, x2, x3, x4, fun n y ev => x5 n y ((EV.cg2 h2).mpr ev), x6⟩
theorem Rb.cg {t d1 : Nat} {B E : Option Nat} (i : Nat) (m1 m2 m1' m2' : Sg) (h1 : CAg i m1 m1') (h2 : MAg i m2 m2') (h : Rb t d1 B E i m1 m2) : Rb t d1 B E i m1' m2' := by
  obtain ⟨f, q, p, ms, a, w, hs, hc, x1, x2, x3⟩ := h
  refine ⟨f, q, p, ms, a, w, hs.cg h1 h2, hc.cg (fun c hc => qx_cg h2 (by decide) hc), x1, fun ha => ?_, x3⟩
  rw [x2 ha]
  exact nxt_cg (BgI.cg hs.1 hs.2.2.1 h1) _
theorem CD.b {m2 : Sg} {i t : Nat} {B E : Option Nat} {q : Nat} {p a w : Option Nat} (h : CD m2 i t B E q p a w) : CDb m2 i (t + 1) B E q p a w := by
  obtain ⟨h1, h3, h4⟩ := h
  refine ⟨h1, fun k hk => ?_, fun u hu => ?_⟩
  · obtain ⟨x1, e, x2, x3⟩ := h3 k hk; exact ⟨e, x2, by omega⟩
  · obtain ⟨x1, x2, x3⟩ := h4 u hu; exact ⟨by omega, by omega, x3⟩
theorem Ra.b {t d1 : Nat} {B E : Option Nat} {i : Nat} {m1 m2 : Sg} (h : Ra t d1 B E i m1 m2) : Rb (t + 1) d1 B E i m1 m2 := by
  obtain ⟨f, q, p, ms, a, w, hs, hc, x⟩ := h
  exact ⟨f, q, p, ms, a, w, hs, hc.b, x⟩
/-- those who are meant answer: the bit time is 14 behind the telegram's end -/
theorem ans_step {t d1 av e : Nat} {B E : Option Nat} (he : E = some e) (hT : t + 1 = e + 14) (hd1 : d1 < 50) {i : Nat} {m1 m2 : Sg} (hav : av < 65536) (a1 : cAim m1 = nI av) (a2 : mAim m2 = nI av) (hg : m1 4 5 = m2 145 5) (hr : m1 2 13 = m2 128 31) (h : Ra t d1 B E i m1 m2) : Rb (t + 1) d1 B E i (cBegS m1 i) (mAnsS m2 i) := by
  obtain ⟨f, q, p, ms, a, w, hs, hc, x1, x2, x3⟩ := h
  have hmp : ms = p := x3.elim id (fun y => by omega)
  subst hmp
  have han : a = none := by
    rcases a with _ | k
    · rfl
    · obtain ⟨k1, e', he', hte⟩ := hc.2.1 k rfl
      rw [he] at he'; cases he'; omega
  subst han
  have hs9 := hs
  obtain ⟨hf, hq, e4, e5, e132, hQ, hL, ⟨s1, s2, s3, s4, s5, s6, a9, ha9, s7⟩, ⟨p1, p2, p3, p4⟩, hB, ⟨w1, w2, w3⟩⟩ := hs
  have hw : ¬ 0 ≤ enc w ↔ m1 (8 + 15 * i) 8 = 0 := by
    rcases w with _ | u
    · exact ⟨fun _ => w2 rfl, fun _ => by decide⟩
    · obtain ⟨hu, e8, -⟩ := w3 u rfl
      constructor
      · intro x
        exact absurd ((nI_gel (n := 0) (by omega) (by decide)).mpr (Nat.zero_le _)) x
      · intro x; rw [e8] at x; exact absurd x (by decide)
  have hp : ¬ 0 ≤ enc ms ↔ m1 (8 + 15 * i) 6 = -1 := by
    rw [p1]
    rcases ms with _ | k
    · exact ⟨fun _ => rfl, fun _ => by decide⟩
    · have := p4 k rfl
      constructor
      · intro x
        exact absurd ((nI_gel (n := 0) (by omega) (by decide)).mpr (Nat.zero_le _)) x
      · intro x; exact absurd x (neg1_ne (n := k - 1) (by omega))
  have hM : cMeant m1 (8 + 15 * i) (cAim m1) (cGrp m1) ↔ mAnsC m2 i := by
    unfold cMeant mAnsC mMeant cGrp
    rw [p2, w1, hp, hw, a1, a2, hg, s1]
    have z : (0 : Int32) ≤ nI av := (nI_gel (n := 0) (by omega) (by decide)).mpr (Nat.zero_le _)
    have y : (nI av < 256) ↔ ¬ 256 ≤ nI av := by
      rw [nI_ltl (by omega) (by decide), nI_gel (by omega) (by decide)]; omega
    have g9 : ∀ (hv : nI av < 256), m1 (8 + 15 * i + 1) (nI av).toNatClampNeg = m2 130 (256 * i + (nI av).toNatClampNeg) := by
      intro hv
      rw [nI_clamp (by omega)]
      rw [nI_ltl (by omega) (by decide)] at hv
      exact s3 av hv
    by_cases c : m2 145 5 < 128
    · rw [if_pos c]
      constructor
      · rintro ⟨x, y, z | z⟩
        · exact ⟨y, x, Or.inl ⟨c, z.2⟩⟩
        · exact absurd rfl z.1
      · rintro ⟨x, y, z | z⟩
        · exact ⟨y, x, Or.inl ⟨rfl, z.2⟩⟩
        · exact absurd c z.1
    · rw [if_neg c]
      have i10 : ¬ (1 : Int32) = 0 := by decide
      constructor
      · rintro ⟨x, u, v | v⟩
        · exact absurd v.1 i10
        · exact ⟨u, x, Or.inr ⟨c, y.mp v.2.2.1, by rw [← g9 v.2.2.1]; exact v.2.2.2⟩⟩
      · rintro ⟨x, u, v | v⟩
        · exact absurd v.1 c
        · exact ⟨u, x, Or.inr ⟨i10, z, y.mpr v.2.1, by rw [g9 (y.mpr v.2.1)]; exact v.2.2⟩⟩
  have h1 := st_ansS hs9 hM hr
  have q133 : ∀ k, mAnsS m2 i 133 k = m2 133 k := by
    intro k
    unfold mAnsS
    split
    · rw [su_na (by decide), su_na (by decide)]
    · rfl
  have cb := (hc.b).cg (m2' := mAnsS m2 i) (fun c _ => (q133 _).symm)
  by_cases y : mAnsC m2 i
  · rw [if_pos y] at h1
    have hpn : ms = none := by
      rcases ms with _ | k
      · rfl
      · have := y.1
        rw [p2] at this
        exact absurd ((nI_gel (n := 0) (by have := p4 k rfl; omega) (by decide)).mpr (Nat.zero_le _)) this
    subst hpn
    refine ⟨f, q, none, none, some 0, w, h1, ⟨(fun k hk => by cases hk), fun k hk => ?_, cb.2.2⟩, fun _ => ⟨rfl, rfl⟩, (fun x => by cases x), Or.inl rfl⟩
    cases hk
    exact ⟨e, he, by omega⟩
  · rw [if_neg y] at h1
    refine ⟨f, q, ms, ms, none, w, h1, cb, x1, fun x => ?_, Or.inl rfl⟩
    have : cBegS m1 i = m1 := by unfold cBegS; rw [if_neg (fun z => y (hM.mp z))]
    rw [this]; exact x2 x
