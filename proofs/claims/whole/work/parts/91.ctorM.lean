def iniM (k j : Nat) : Int32 := if k = 129 then nI j else if k = 134 ∨ k = 135 ∨ k = 137 then -1 else 0
def MI (X Y : Mm) (q T : Nat) (f : Nat → Int32) : Prop := xn Y = 129 + q ∧ xc Y = xc X + q ∧ xs Y = xs X + T ∧ (∀ k, k < 128 → RowEq X Y k) ∧ xk Y 128 = 4 ∧ xl Y 128 = 0 ∧ (∀ k, 129 ≤ k → k < 129 + q → xk Y k = shk k ∧ xl Y k = shl k ∧ ∀ j, j < shl k → xm Y k j = iniM k j) ∧ (∀ j b, shr 128 j = some b → b < 129 + q → xr Y 128 j = some b) ∧ xm Y 128 = f
theorem mi_put {X Y : Mm} {q T j : Nat} {f : Nat → Int32} {v : Int32} (h : MI X Y q T f) : MI X (xsm Y 128 j v) q T (upd f j v) := by
  obtain ⟨h1, h2, h3, h4, h5, h6, h7, h8, h9⟩ := h
  have r : ∀ k, k ≠ 128 → RowEq Y (xsm Y 128 j v) k := fun k hk => ⟨rfl, rfl, rfl, by rw [xsm_m, if_neg hk]⟩
  refine ⟨h1, h2, h3, fun k hk => (h4 k hk).tr (r k (by omega)), h5, h6, fun k hk1 hk2 => ?_, h8, ?_⟩
  · rw [(r k (by omega)).1, (r k (by omega)).2.1, (r k (by omega)).2.2.2]; exact h7 k hk1 hk2
  · rw [xsm_m, if_pos rfl, h9]
/-- the array that comes next, with its cells as they are at the start -/
theorem mi_add {X Y Z : Mm} {q T j N : Nat} {f : Nat → Int32} (h : MI X Y q T f) (hr : shr 128 j = some (129 + q)) (z1 : xn Z = xn Y + 1) (z2 : xc Z = xc Y + 1) (z3 : xs Z = xs Y + N) (z4 : ∀ k, k < xn Y → k ≠ 128 → RowEq Y Z k) (z5 : xk Z 128 = xk Y 128) (z6 : xl Z 128 = xl Y 128) (z7 : xm Z 128 = xm Y 128) (z8 : xr Z 128 j = some (xn Y)) (z9 : ∀ i, i ≠ j → xr Z 128 i = xr Y 128 i) (z10 : xk Z (xn Y) = shk (129 + q)) (z11 : xl Z (xn Y) = shl (129 + q)) (z12 : ∀ t, t < shl (129 + q) → xm Z (xn Y) t = iniM (129 + q) t) : MI X Z (q + 1) (T + N) f := by
  obtain ⟨h1, h2, h3, h4, h5, h6, h7, h8, h9⟩ := h
  rw [h1] at z8 z10 z11 z12
  refine ⟨by omega, by omega, by omega, fun k hk => (h4 k hk).tr (z4 k (by omega) (by omega)), z5.trans h5, z6.trans h6, fun k hk1 hk2 => ?_, fun i b hb hb2 => ?_, z7.trans h9⟩
  · by_cases c : k = 129 + q
    · subst c; exact ⟨z10, z11, z12⟩
    · have r := z4 k (by omega) (by omega)
      rw [r.1, r.2.1, r.2.2.2]; exact h7 k hk1 (by omega)
  · by_cases c : i = j
    · subst c; rw [hr] at hb; cases hb; exact z8
    · rw [z9 i c]
      refine h8 i b hb ?_
      by_cases d : b = 129 + q
      · exfalso
        subst d
        apply c
        unfold shr at hb hr
        simp only [show ¬ (128 : Nat) < 8 by decide, show ¬ (128 : Nat) < 128 by decide, if_false] at hb hr
        revert hb hr
        clear z8 z9 z10 z11 z12 z1 z2 z3 z4 z5 z6 z7 h1 h2 h3 h4 h5 h6 h7 h8 h9 hb2
        intro hb hr
        split at hb <;> split at hr <;> (try split at hb) <;> (try split at hr) <;> (simp at hb hr) <;> omega
      · omega
