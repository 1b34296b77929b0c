theorem GE.rf {m1 m2 : Sg} : GE m1 m2 m1 m2 := ⟨fun _ _ _ => rfl, fun _ _ _ => rfl⟩
theorem GE.tr {m1 m2 x1 x2 y1 y2 : Sg} (h : GE m1 m2 x1 x2) (h2 : GE x1 x2 y1 y2) : GE m1 m2 y1 y2 := ⟨fun a j q => (h2.1 a j q).trans (h.1 a j q), fun a j q => (h2.2 a j q).trans (h.2 a j q)⟩
theorem due_iff {m1 m2 : Sg} {T : Nat} (hT : T < 200000) (h : ET m1 m2) (t1 : m1 0 5 = nI T) (t2 : m2 128 1 = nI T) : cDue m1 ↔ mDue m2 := by
  obtain ⟨x1, x2, x3, x4, x5, x6⟩ := h
  unfold cDue mDue
  rw [t1, t2, x4]
  by_cases c : m2 128 28 = 0
  · rw [x5 c]
    constructor
    · rintro ⟨y, -⟩
      have := congrArg Int32.toInt y
      rw [nI_toInt (by omega)] at this
      have e : ((-1000 : Int32) + 14).toInt = -986 := by decide
      omega
    · rintro ⟨y, -⟩; exact absurd c y
  · rw [x6 c]
    exact ⟨fun y => ⟨c, y.2, y.1⟩, fun y => ⟨y.2.2, y.2.1⟩⟩
theorem Eof_some {m : Sg} {e : Nat} (h : m 128 28 = 1) (e1 : m 128 29 = nI e) (he : e < 2147483648) : Eof m = some e := by
  unfold Eof; rw [if_neg (by rw [h]; decide), e1, nI_clamp he]
theorem tl_idle {m : Sg} {t d D : Nat} (h : EH m t d D) (ht : t ≤ 100000) : ∀ e, Eof m = some e → d + e ≤ t + 10 := by
  intro e he
  obtain ⟨b, c, l, hb, hl9, hc, e23, e25, e24, h22, hy, hp, htl⟩ := h
  rcases htl with h | ⟨h, e', n, e1, e2, h8, h9, h10, h11, -⟩
  · unfold Eof at he; rw [if_pos h] at he; cases he
  · rw [Eof_some h e1 (by omega)] at he
    cases he; exact h11
