theorem bitOf_01 : ∀ b, b < 256 → ∀ k, k < 13 → bitOf (nI b) k = 0 ∨ bitOf (nI b) k = 1 := by
  refine all256 ?_
  decide +kernel
def C1 (m2 : Sg) (i T d1 : Nat) (B E : Option Nat) (q : Nat) (p a w : Option Nat) : Prop :=
  (∀ k, p = some k → a = none ∧ w = none ∧ 0 < q ∧ (∀ n y, EV (qx m2 i 0) n y → k + 3 ≤ 13 * (n + 7)) ∧ (k = 0 ∧ 50 ≤ d1 ∨ 1 ≤ k ∧ ∃ b, B = some b ∧ T = b + k)) ∧
  (∀ k, a = some k → ∃ e, E = some e ∧ T = e + 14 + k) ∧
  (∀ u, w = some u → u < T ∧ T ≤ u + 28 ∧ 0 < q)
def R1 (T d1 : Nat) (B E : Option Nat) (i : Nat) (m1 m2 : Sg) : Prop := ∃ f q p a w, ST m1 m2 i f q p p (adv a) a w ∧ C1 m2 i T d1 B E q p a w ∧ (p ≠ none → m1 (8 + 15 * i) 7 = mSaid m2 i)
def vm (m2 : Sg) (i : Nat) : Int32 := if mZero m2 i then 0 else 1
theorem sv_vm {m1 m2 : Sg} {i f q : Nat} {cs ms ca a w : Option Nat} (h : ST m1 m2 i f q cs ms ca a w) (hx : a ≠ none → ms = none) (hk : ∀ k, ms = some k → 0 < q ∧ ∀ n y, EV (qx m2 i 0) n y → k + 3 ≤ 13 * (n + 7)) : SV m2 i a ms = vm m2 i := by
  obtain ⟨hf, hq, e4, e5, e132, hQ, hL, hS, ⟨p1, p2, p3, p4⟩, ⟨b1, b2, b3, b4, b5⟩, hW⟩ := h
  unfold vm mZero
  rw [p2, b2]
  rcases a with _ | k
  · have a0 : enc none < 0 := by decide
    rcases ms with _ | p
    · rw [if_neg (fun x => x.elim (fun y => y.1 a0) (fun y => y.1 a0))]; rfl
    · have hp := p4 p rfl
      have e : ¬ enc (some p) < 0 := by rw [enc_some, nI_ltl (by omega) (by decide)]; exact Nat.not_lt_zero _
      obtain ⟨hq0, hn⟩ := hk p rfl
      obtain ⟨n, y, ev, -⟩ := hQ 0 hq0
      obtain ⟨b, hb, eb⟩ := ev.byte (i := p / 13) (by omega)
      have es : mSaid m2 i = bitOf (nI b) (p % 13) := by rw [mSaid_t (by omega) p2, eb]
      show mSaid m2 i = _
      rcases bitOf_01 b hb (p % 13) (by omega) with z | z
      · rw [if_pos (Or.inl ⟨e, by rw [es]; exact z⟩), es, z]
      · rw [if_neg, es, z]
        rintro (⟨-, x⟩ | ⟨x, -⟩)
        · rw [es, z] at x; exact absurd x (by decide)
        · exact x a0
  · have := hx (Option.some_ne_none k)
    subst this
    have hk11 := b4 k rfl
    have e : ¬ enc (some k) < 0 := by rw [enc_some, nI_ltl (by omega) (by decide)]; exact Nat.not_lt_zero _
    obtain ⟨-, b, hb, eb⟩ := b5 (Or.inr (Option.some_ne_none k))
    rw [enc_some, nI_clamp (by omega), eb]
    show bitOf (m2 136 i) k = _
    rw [eb]
    have a0 : enc none < 0 := by decide
    have e' : ¬ nI k < 0 := e
    rcases bitOf_01 b hb k (by omega) with z | z
    · rw [if_pos (Or.inr ⟨e', z⟩), z]
    · rw [if_neg, z]
      rintro (⟨x, -⟩ | ⟨-, x⟩)
      · exact x a0
      · rw [z] at x; exact absurd x (by decide)
theorem next_step {T d1 : Nat} {B E : Option Nat} {i : Nat} {m1 m2 : Sg} (e6 : m1 0 6 = nI d1) (h : Rb T d1 B E i m1 m2) : R1 T d1 B E i (cNx m1 i) m2 ∧ cNV m1 i = vm m2 i := by
  obtain ⟨f, q, p, ms, a, w, hs, ⟨c1, c2, c3⟩, x1, x2, x3⟩ := h
  have e133 : BgC m1 (8 + 15 * i) ↔ BgI d1 m1 (8 + 15 * i) := by unfold BgC BgI; rw [e6]
  have hk : ∀ k, ms = some k → a = none ∧ w = none ∧ 0 < q ∧ (∀ n y, EV (qx m2 i 0) n y → k + 3 ≤ 13 * (n + 7)) ∧ (k = 0 ∧ 50 ≤ d1 ∨ 1 ≤ k ∧ ∃ b, B = some b ∧ T = b + k) := by
    intro k hk
    rcases x3 with rfl | ⟨rfl, z2, z3, z4, z5⟩
    · obtain ⟨y1, y2, y3, y4, y5, y6⟩ := c1 k hk
      exact ⟨y2, y3, y4, y5, Or.inr ⟨y1, y6⟩⟩
    · rw [hk] at z2
      cases z2
      refine ⟨?_, z4, z3, fun n y ev => by omega, Or.inl ⟨rfl, z5⟩⟩
      rcases a with _ | k
      · rfl
      · have := (x1 (Option.some_ne_none k)).2; rw [hk] at this; cases this
  have hk2 : ∀ k, ms = some k → 0 < q ∧ ∀ n y, EV (qx m2 i 0) n y → k + 3 ≤ 13 * (n + 7) := fun k h => ⟨(hk k h).2.2.1, (hk k h).2.2.2.1⟩
  have hn := st_next hs (fun ha => ⟨by rw [(x1 ha).1]; rfl, (x1 ha).2⟩) (fun ha => by rw [x2 ha]; exact nxt_cg e133.symm _) hk2
  obtain ⟨n1, n2, n3⟩ := hn
  have hv := sv_vm hs (fun ha => (x1 ha).2) hk2
  refine ⟨⟨f, q, ms, a, w, n1, ⟨hk, c2, c3⟩, fun hp => ?_⟩, n3.trans hv⟩
  rcases ms with _ | k
  · exact absurd rfl hp
  · have ha := (hk k rfl).1
    subst ha
    exact n2 rfl
