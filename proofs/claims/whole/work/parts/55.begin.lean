theorem lt_need {d d1 : Nat} (hd : d < 2147483648) (hd1 : d1 < 2147483648) (h : d1 = d ∨ (53 ≤ d1 ∧ 53 ≤ d)) {N : Int32} (hN : N = 53 ∨ N = 50) : nI d < N ↔ nI d1 < N := by
  rcases h with rfl | ⟨h1, h2⟩
  · exact Iff.rfl
  · have e53 : (OfNat.ofNat 53 : Nat) = 53 := rfl
    have e50 : (OfNat.ofNat 50 : Nat) = 50 := rfl
    rcases hN with rfl | rfl
    · rw [nI_ltl hd (by decide), nI_ltl hd1 (by decide)]; omega
    · rw [nI_ltl hd (by decide), nI_ltl hd1 (by decide)]; omega
theorem bg_iff {m1 m2 : Sg} {i f q : Nat} {ca ma w : Option Nat} (h : ST m1 m2 i f q none none ca ma w) {d d1 : Nat} (hd : d < 2147483648) (hd1 : d1 < 2147483648) (hi : d1 = d ∨ (53 ≤ d1 ∧ 53 ≤ d)) (e2 : m2 128 2 = nI d) (e6 : m1 0 6 = nI d1) : mBegC m2 i ↔ BgC m1 (8 + 15 * i) := by
  obtain ⟨hf, hq, e4, e5, e132, hQ, hL, hS, ⟨p1, p2, -, -⟩, hB, ⟨w1, w2, w3⟩⟩ := h
  unfold mBegC BgC
  rw [p2, e132, e5, w1, e2, e6]
  have n0 : ¬ 0 ≤ enc none := by decide
  have hw : ¬ 0 ≤ enc w ↔ m1 (8 + 15 * i) 8 = 0 := by
    rcases w with _ | u
    · exact ⟨fun _ => w2 rfl, fun _ => n0⟩
    · obtain ⟨hu, e8, -⟩ := w3 u rfl
      constructor
      · intro x
        exact absurd ((nI_gel (n := 0) (by omega) (by decide)).mpr (Nat.zero_le _)) x
      · intro x; rw [e8] at x; exact absurd x (by decide)
  have need : 0 < q → (if ¬ m2 133 (36 * i) < 2 ∧ m2 133 (36 * i + 5) = 0 then (53 : Int32) else 50) = cIdle m1 (cHead m1 (8 + 15 * i)) := by
    intro hq0
    obtain ⟨n, y, ev, ⟨t1, t2, t3, t4⟩, -⟩ := hQ 0 hq0
    rw [show (f + 0) % 6 = f by omega] at t1 t2 t3 t4
    have eH : cHead m1 (8 + 15 * i) = 8 + 15 * i + 3 + 2 * f := by unfold cHead; rw [e4, nI_clamp (by omega)]
    unfold cIdle
    rw [eH, t2, t3, qx0' m2, qx0 m2]
  have hN : cIdle m1 (cHead m1 (8 + 15 * i)) = 53 ∨ cIdle m1 (cHead m1 (8 + 15 * i)) = 50 := by
    unfold cIdle
    split
    · exact Or.inl rfl
    · exact Or.inr rfl
  have hq' : ¬ nI q ≤ 0 ↔ 0 < q := by
    rw [nI_lel (n := 0) (by omega) (by decide)]
    have e0 : (OfNat.ofNat 0 : Nat) = 0 := rfl
    omega
  constructor
  · rintro ⟨-, x2, x3, x4⟩
    have hq0 := hq'.mp x2
    rw [need hq0] at x4
    exact ⟨x2, hw.mp x3, fun x => x4 ((lt_need hd hd1 hi hN).mpr x)⟩
  · rintro ⟨x2, x3, x4⟩
    have hq0 := hq'.mp x2
    refine ⟨n0, x2, hw.mpr x3, ?_⟩
    rw [need hq0]
    exact fun x => x4 ((lt_need hd hd1 hi hN).mp x)
/-- a station while the bit time begins: the reference has begun, the class not yet -/
def Ra (t : Nat) (B E : Option Nat) (i : Nat) (m1 m2 : Sg) : Prop := ∃ f q p ms a w, ST m1 m2 i f q (prd p) ms a a w ∧ CD m2 i t B E q p a w ∧ (a ≠ none → p = none ∧ ms = none) ∧ (ms = p ∨ p = none ∧ ms = some 0 ∧ 0 < q ∧ w = none) 
theorem ev_y {x : Nat → Int32} {n y n' y' : Nat} (h : EV x n y) (h' : EV x n' y') : n = n' ∧ y = y' := by
  have h5 : nI y = nI y' := h.2.2.2.2.2.2.symm.trans h'.2.2.2.2.2.2
  have hn : nI (n + 7) = nI (n' + 7) := h.size.symm.trans h'.size
  have a1 := h.2.2.2.1
  have a2 := h'.2.2.2.1
  have a3 := h.2.2.2.2.2.1
  have a4 := h'.2.2.2.2.2.1
  have b1 := (nI_eq (by omega) (by omega)).mp h5
  have b2 := (nI_eq (by omega) (by omega)).mp hn
  exact ⟨by omega, b1⟩
theorem st_y3 {m1 m2 : Sg} {i f q : Nat} {cs ms ca ma : Option Nat} (h : ST m1 m2 i f q cs ms ca ma none) (hq : 0 < q) {n y : Nat} (ev : EV (qx m2 i 0) n y) : y ≤ 3 := by
  obtain ⟨n', y', ev', -, hy⟩ := h.2.2.2.2.2.1 0 hq
  obtain ⟨-, rfl⟩ := ev_y ev ev'
  exact hy.elim id (fun q => absurd rfl q.2)
