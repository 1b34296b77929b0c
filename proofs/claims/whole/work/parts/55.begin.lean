theorem lt_need {d d1 : Nat} (hd : d < 2147483648) (hd1 : d1 < 2147483648) (h : d1 = d ∨ (53 ≤ d1 ∧ 53 ≤ d)) {N : Int32} (hN : N = 53 ∨ N = 50) : nI d < N ↔ nI d1 < N := by
  rcases h with rfl | ⟨h1, h2⟩
  · exact Iff.rfl
  · have e53 : (OfNat.ofNat 53 : Nat) = 53 := rfl
    have e50 : (OfNat.ofNat 50 : Nat) = 50 := rfl
    rcases hN with rfl | rfl
    · rw [nI_ltl hd (by decide), nI_ltl hd1 (by decide)]; omega
    · rw [nI_ltl hd (by decide), nI_ltl hd1 (by decide)]; omega
theorem bg_iff {m1 m2 : Sg} {i f q : Nat} {ca ma w : Option Nat} (h : ST m1 m2 i f q none none ca ma w) {d d1 : Nat} (hd : d < 2147483648) (hd1 : d1 < 2147483648) (hi : d1 = d ∨ (53 ≤ d1 ∧ 53 ≤ d)) (e2 : m2 128 2 = nI d) (e6 : m1 0 6 = nI d1) : mBegC m2 i ↔ BgC m1 (8 + 15 * i) := by
  obtain ⟨hf, hq, e4, e5, e132, hQ, hL, hS, ⟨p1, p2, -, -⟩, hB, ⟨w1, w2, w3⟩⟩ := h
  unfold mBegC BgC
  rw [p2, e132, e5, w1, e2, e6]
  have n0 : ¬ 0 ≤ enc none := by decide
  have hw : ¬ 0 ≤ enc w ↔ m1 (8 + 15 * i) 8 = 0 := by
    rcases w with _ | u
    · exact ⟨fun _ => w2 rfl, fun _ => n0⟩
    · obtain ⟨hu, e8, -⟩ := w3 u rfl
      constructor
      · intro x
        exact absurd ((nI_gel (n := 0) (by omega) (by decide)).mpr (Nat.zero_le _)) x
      · intro x; rw [e8] at x; exact absurd x (by decide)
  have need : 0 < q → (if ¬ m2 133 (36 * i) < 2 ∧ m2 133 (36 * i + 5) = 0 then (53 : Int32) else 50) = cIdle m1 (cHead m1 (8 + 15 * i)) := by
    intro hq0
    obtain ⟨n, y, ev, ⟨t1, t2, t3, t4⟩, -⟩ := hQ 0 hq0
    rw [show (f + 0) % 6 = f by omega] at t1 t2 t3 t4
    have eH : cHead m1 (8 + 15 * i) = 8 + 15 * i + 3 + 2 * f := by unfold cHead; rw [e4, nI_clamp (by omega)]
    unfold cIdle
    rw [eH, t2, t3, qx0' m2, qx0 m2]
  have hN : cIdle m1 (cHead m1 (8 + 15 * i)) = 53 ∨ cIdle m1 (cHead m1 (8 + 15 * i)) = 50 := by
    unfold cIdle
    split
    · exact Or.inl rfl
    · exact Or.inr rfl
  have hq' : ¬ nI q ≤ 0 ↔ 0 < q := by
    rw [nI_lel (n := 0) (by omega) (by decide)]
    have e0 : (OfNat.ofNat 0 : Nat) = 0 := rfl
    omega
  constructor
  · rintro ⟨-, x2, x3, x4⟩
    have hq0 := hq'.mp x2
    rw [need hq0] at x4
    exact ⟨x2, hw.mp x3, fun x => x4 ((lt_need hd hd1 hi hN).mpr x)⟩
  · rintro ⟨x2, x3, x4⟩
    have hq0 := hq'.mp x2
    refine ⟨n0, x2, hw.mpr x3, ?_⟩
    rw [need hq0]
    exact fun x => x4 ((lt_need hd hd1 hi hN).mp x)
abbrev BgI (d1 : Nat) (m1 : Sg) (A : Nat) : Prop := ¬ m1 A 5 ≤ 0 ∧ m1 A 8 = 0 ∧ ¬ nI d1 < cIdle m1 (cHead m1 A)
/-- a station while the bit time begins: the reference has begun, the class not yet -/
def Ra (t d1 : Nat) (B E : Option Nat) (i : Nat) (m1 m2 : Sg) : Prop := ∃ f q p ms a w, ST m1 m2 i f q (prd p) ms a a w ∧ CD m2 i t B E q p a w ∧ (a ≠ none → p = none ∧ ms = none) ∧ (a = none → ms = nxt (BgI d1 m1 (8 + 15 * i)) (prd p)) ∧ (ms = p ∨ p = none ∧ ms = some 0 ∧ 0 < q ∧ w = none ∧ 50 ≤ d1)
theorem nxt_cg {b b' : Prop} [Decidable b] [Decidable b'] (h : b ↔ b') (o : Option Nat) : nxt b o = nxt b' o := by
  rcases o with _ | c
  · show (if b then some 0 else none) = (if b' then some 0 else none)
    by_cases x : b
    · rw [if_pos x, if_pos (h.mp x)]
    · rw [if_neg x, if_neg (fun y => x (h.mpr y))]
  · rfl
theorem BgI.cg {d1 : Nat} {m1 m1' : Sg} {i f : Nat} (hf : f < 6) (e4 : m1 (8 + 15 * i) 4 = nI f) (h1 : CAg i m1 m1') : BgI d1 m1 (8 + 15 * i) ↔ BgI d1 m1' (8 + 15 * i) := by
  have eH : cHead m1 (8 + 15 * i) = 8 + 15 * i + 3 + 2 * f := by unfold cHead; rw [e4, nI_clamp (by omega)]
  have eH' : cHead m1' (8 + 15 * i) = 8 + 15 * i + 3 + 2 * f := by unfold cHead; rw [← h1 _ _ (by omega) (by omega), e4, nI_clamp (by omega)]
  unfold BgI cIdle
  rw [eH, eH', h1 _ 5 (by omega) (by omega), h1 _ 8 (by omega) (by omega), h1 _ 2 (by omega) (by omega), h1 _ 3 (by omega) (by omega)]
theorem Ra.cg {t d1 : Nat} {B E : Option Nat} (i : Nat) (m1 m2 m1' m2' : Sg) (h1 : CAg i m1 m1') (h2 : MAg i m2 m2') (h : Ra t d1 B E i m1 m2) : Ra t d1 B E i m1' m2' := by
  obtain ⟨f, q, p, ms, a, w, hs, hc, x1, x2, x3⟩ := h
  refine ⟨f, q, p, ms, a, w, hs.cg h1 h2, hc.cg h2, x1, fun ha => ?_, x3⟩
  rw [x2 ha]
  exact nxt_cg (BgI.cg hs.1 hs.2.2.1 h1) _
theorem begS_step {t d d1 : Nat} {B E : Option Nat} (hd : d < 2147483648) (hd1 : d1 < 2147483648) (hi : d1 = d ∨ (53 ≤ d1 ∧ 53 ≤ d)) (hE : ∀ e, E = some e → d + e ≤ t + 10) {i : Nat} {m1 m2 : Sg} (e2 : m2 128 2 = nI d) (e6 : m1 0 6 = nI d1) (h : R0 t B E i m1 m2) : Ra t d1 B E i m1 (mBegS m2 i) := by
  obtain ⟨f, q, p, a, w, hs, hc⟩ := h
  have hs1 := st_begS hs
  have hm : ∀ j, mBegS m2 i 133 j = m2 133 j := fun j => by
    unfold mBegS
    split
    · exact su_na (by decide)
    · rfl
  have hc1 : CD (mBegS m2 i) i t B E q p a w := by
    obtain ⟨h1, h3, h4⟩ := hc
    refine ⟨fun k hk => ?_, h3, h4⟩
    obtain ⟨x1, x2, x3, x4, x5, x6⟩ := h1 k hk
    exact ⟨x1, x2, x3, x4, fun n y ev => x5 n y (ev.cg (fun c _ => hm _)), x6⟩
  have e133 : BgC m1 (8 + 15 * i) ↔ BgI d1 m1 (8 + 15 * i) := by unfold BgC BgI; rw [e6]
  rcases p with _ | k
  · have hb := bg_iff hs hd hd1 hi e2 e6
    have han : a ≠ none → ¬ mBegC m2 i := by
      intro ha hx
      rcases a with _ | k
      · exact ha rfl
      · obtain ⟨k1, e, he, hte⟩ := hc.2.1 k rfl
        have hk11 := hs.2.2.2.2.2.2.2.2.2.1.2.2.1 k rfl
        have := hE e he
        have h50 := hx.2.2.2
        rw [e2] at h50
        have e53 : (OfNat.ofNat 53 : Nat) = 53 := rfl
        have e50 : (OfNat.ofNat 50 : Nat) = 50 := rfl
        apply h50
        split
        · rw [nI_ltl hd (by decide)]; omega
        · rw [nI_ltl hd (by decide)]; omega
    refine ⟨f, q, none, _, a, w, hs1, hc1, fun ha => ⟨rfl, if_neg (han ha)⟩, fun _ => ?_, ?_⟩
    · show _ = (if BgI d1 m1 (8 + 15 * i) then some 0 else none)
      by_cases x : mBegC m2 i
      · rw [if_pos x, if_pos (e133.mp (hb.mp x))]
      · rw [if_neg x, if_neg (fun y => x (hb.mpr (e133.mpr y)))]
    · by_cases x : mBegC m2 i
      · have e132 := hs.2.2.2.2.1
        have e137 := hs.2.2.2.2.2.2.2.2.2.2.1
        refine Or.inr ⟨rfl, if_pos x, ?_, ?_, ?_⟩
        · have := x.2.1
          rw [e132, nI_lel (n := 0) (by have := hs.2.1; omega) (by decide)] at this
          have e0 : (OfNat.ofNat 0 : Nat) = 0 := rfl
          omega
        · have := x.2.2.1
          rw [e137] at this
          rcases w with _ | u
          · rfl
          · exact absurd ((nI_gel (n := 0) (by have := hs.2.2.2.2.2.2.2.2.2.2.2.2 u rfl; omega) (by decide)).mpr (Nat.zero_le _)) this
        · have h50 := x.2.2.2
          rw [e2] at h50
          have e53 : (OfNat.ofNat 53 : Nat) = 53 := rfl
          have e50 : (OfNat.ofNat 50 : Nat) = 50 := rfl
          have : 50 ≤ d := by
            revert h50
            split
            · rw [nI_ltl hd (by decide)]; omega
            · rw [nI_ltl hd (by decide)]; omega
          omega
      · exact Or.inl (if_neg x)
  · have hx : ¬ mBegC m2 i := by
      intro x
      have e134 := hs.2.2.2.2.2.2.2.2.1.2.1
      have hk9 := hs.2.2.2.2.2.2.2.2.1.2.2.2 k rfl
      have := x.1
      rw [e134] at this
      exact this ((nI_gel (n := 0) (by omega) (by decide)).mpr (Nat.zero_le _))
    rw [if_neg hx] at hs1
    obtain ⟨k1, ha, hw, -⟩ := hc.1 k rfl
    refine ⟨f, q, some k, some k, a, w, hs1, hc1, fun q => absurd ha q, fun _ => ?_, Or.inl rfl⟩
    show some k = some (k - 1 + 1)
    rw [Nat.sub_add_cancel k1]
theorem ev_y {x : Nat → Int32} {n y n' y' : Nat} (h : EV x n y) (h' : EV x n' y') : n = n' ∧ y = y' := by
  have h5 : nI y = nI y' := h.2.2.2.2.2.2.symm.trans h'.2.2.2.2.2.2
  have hn : nI (n + 7) = nI (n' + 7) := h.size.symm.trans h'.size
  have a1 := h.2.2.2.1
  have a2 := h'.2.2.2.1
  have a3 := h.2.2.2.2.2.1
  have a4 := h'.2.2.2.2.2.1
  have b1 := (nI_eq (by omega) (by omega)).mp h5
  have b2 := (nI_eq (by omega) (by omega)).mp hn
  exact ⟨by omega, b1⟩
theorem st_y3 {m1 m2 : Sg} {i f q : Nat} {cs ms ca ma : Option Nat} (h : ST m1 m2 i f q cs ms ca ma none) (hq : 0 < q) {n y : Nat} (ev : EV (qx m2 i 0) n y) : y ≤ 3 := by
  obtain ⟨n', y', ev', -, hy⟩ := h.2.2.2.2.2.1 0 hq
  obtain ⟨-, rfl⟩ := ev_y ev ev'
  exact hy.elim id (fun q => absurd rfl q.2)
