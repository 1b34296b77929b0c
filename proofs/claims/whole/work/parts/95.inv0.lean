theorem shr_hi {k j : Nat} (h : 129 ≤ k) : shr k j = none := by
  unfold shr
  rw [if_neg (by omega), if_neg (by omega)]
  split
  · omega
  · rfl
theorem st_start {Y : Mm} {i : Nat} (hi : i < 8) (h : StI Y (8 + 15 * i) (nI i)) (ha : ∀ k, 129 ≤ k → k < 146 → ∀ j, j < shl k → xm Y k j = iniM k j) : R0 0 none none i (xm Y) (xm Y) := by
  obtain ⟨⟨-, -, -, -, -, -, -, -, ⟨c2, c3, c4, c5, c6, c7, c8, c9, c10, c11, c12, c13, c14⟩, cg⟩, h2⟩ := h
  have n1 : ∀ k, (k = 131 ∨ k = 132 ∨ k = 138 ∨ k = 139 ∨ k = 140) → xm Y k i = 0 := by
    intro k hk
    rw [ha k (by omega) (by omega) i (by rcases hk with rfl | rfl | rfl | rfl | rfl <;> exact hi)]
    unfold iniM; rw [if_neg (by omega), if_neg (by omega)]
  have n2 : ∀ k, (k = 134 ∨ k = 135 ∨ k = 137) → xm Y k i = -1 := by
    intro k hk
    rw [ha k (by omega) (by omega) i (by rcases hk with rfl | rfl | rfl <;> exact hi)]
    unfold iniM; rw [if_neg (by omega), if_pos hk]
  have n129 : xm Y 129 i = nI i := by rw [ha 129 (by decide) (by decide) i hi]; rfl
  have n130 : ∀ g, g < 256 → xm Y 130 (256 * i + g) = 0 := by
    intro g hg
    rw [ha 130 (by decide) (by decide) (256 * i + g) (by show _ < 2048; omega)]; rfl
  have z0 : (0 : Int32) = nI 0 := rfl
  refine ⟨0, 0, none, none, none, ⟨by decide, by decide, c4, c5, n1 _ (by decide), fun j hj => absurd hj (Nat.not_lt_zero j), ⟨fun j hj => ⟨8, by decide, by decide, (h2 j hj).2.2.2.2.1⟩, fun j k hj hk => ⟨0, by decide, (h2 j hj).2.2.2.2.2.2.2.2.2 k⟩, fun k => Or.inl (cg k)⟩, ⟨c2.trans n129.symm, ?_, fun g hg => ?_, ?_, ?_, ?_, ⟨i, by omega, n129⟩⟩, ⟨c6, n2 _ (by decide), (by rintro k hk; cases hk), (by rintro k hk; cases hk)⟩, ⟨c10, n2 _ (by decide), (by rintro k hk; cases hk), (by rintro k hk; cases hk), fun q => q.elim (fun q => absurd rfl q) (fun q => absurd rfl q)⟩, ⟨n2 _ (by decide), fun _ => c8, (by rintro u hu; cases hu)⟩⟩, ⟨(by rintro k hk; cases hk), (by rintro k hk; cases hk), (by rintro u hu; cases hu)⟩⟩
  · rw [c3, n1 _ (by decide)]
  · rw [cg g, n130 g hg]
  · rw [c12, n1 _ (by decide)]
  · rw [c13, n1 _ (by decide)]
  · rw [c14, n1 _ (by decide)]
theorem inv0 {Y : Mm} (hB : BuL Y 8) (hn : xn Y = 148) (k1 : xk Y 128 = 4) (k2 : xl Y 128 = 0) (ha : ∀ k, 129 ≤ k → k < 146 → xk Y k = shk k ∧ xl Y k = shl k ∧ ∀ j, j < shl k → xm Y k j = iniM k j) (hr : ∀ j b, shr 128 j = some b → b < 146 → xr Y 128 j = some b) (hm : xm Y 128 = upd (upd (fun _ => 0) 2 1000000) 33 (-1)) (a1 : xk Y 146 = 14) (a2 : xl Y 146 = 1) (a3 : xk Y 147 = 15) (a4 : xl Y 147 = 1) (hc : xc Y ≤ 2000) (hs : xs Y ≤ 100000) : Inv Y 0 := by
  obtain ⟨s1, s2⟩ := hB.sh
  have hS : Sh Y := by
    refine ⟨hn, fun k hk => ?_, fun k hk => ?_, fun k j hk _ hj => ?_⟩
    · rcases (show k < 128 ∨ k = 128 ∨ (129 ≤ k ∧ k < 146) ∨ k = 146 ∨ k = 147 by omega) with h | rfl | h | rfl | rfl
      · exact (s1 k h).1
      · exact k1
      · exact (ha k h.1 h.2).1
      · exact a1
      · exact a3
    · rcases (show k < 128 ∨ k = 128 ∨ (129 ≤ k ∧ k < 146) ∨ k = 146 ∨ k = 147 by omega) with h | rfl | h | rfl | rfl
      · exact (s1 k h).2
      · exact k2
      · exact (ha k h.1 h.2).2.1
      · exact a2
      · exact a4
    · rcases (show k < 128 ∨ k = 128 ∨ 129 ≤ k by omega) with h | rfl | h
      · exact s2 k j h hj
      · cases e : shr 128 j with
        | none => exact absurd e hj
        | some b =>
          refine hr j b e ?_
          revert e
          unfold shr
          simp only [show ¬ (128 : Nat) < 8 by decide, show ¬ (128 : Nat) < 128 by decide, if_false]
          intro e
          split at e <;> (try split at e) <;> (simp at e) <;> omega
      · rw [shr_hi h] at hj; exact absurd rfl hj
  have m128 : ∀ j, j ≠ 2 → j ≠ 33 → xm Y 128 j = 0 := fun j h1 h2 => by rw [hm, upd_at, if_neg h2, upd_at, if_neg h1]
  have m33 : xm Y 128 33 = -1 := by rw [hm, upd_at, if_pos rfl]
  have m2 : xm Y 128 2 = nI 1000000 := by rw [hm, upd_at, if_neg (by decide), upd_at, if_pos rfl]; rfl
  have arr : ∀ k j, (k = 141 ∨ k = 142 ∨ k = 144 ∨ k = 131) → j < shl k → xm Y k j = 0 := by
    intro k j hk hj
    rw [(ha k (by omega) (by omega)).2.2 j hj]
    unfold iniM; rw [if_neg (by omega), if_neg (by omega)]
  have hB' := hB
  obtain ⟨-, -, -, -, -, -, -, -, -, ⟨-, -, -, -, -, -, -, -, -, -, -, ⟨e3, e4, e5, e6, e7, e8, e9, e10, e11, e12, e13, e14, e15⟩, e16, e17, e18⟩, -, -, b6, -, -, b7, b03, b05, b06, bst⟩ := hB'
  have z0 : (0 : Int32) = nI 0 := rfl
  have ct : ctF (xm Y 141) 2048 = 0 := ctF_zero _ (fun k hk => arr 141 k (by decide) hk)
  have eB : Bof (xm Y) = none := if_pos (m128 18 (by decide) (by decide))
  have eE : Eof (xm Y) = none := if_pos (m128 28 (by decide) (by decide))
  have hEH : EH (xm Y) 0 1000000 0 := ⟨0, 0, 0, Nat.le_refl _, Nat.le_refl _, by decide, m128 23 (by decide) (by decide), m128 25 (by decide) (by decide), m128 24 (by decide) (by decide), Or.inl (m128 22 (by decide) (by decide)), fun k hk => absurd hk (Nat.not_lt_zero k), Or.inl (m128 18 (by decide) (by decide)), Or.inl (m128 28 (by decide) (by decide))⟩
  have q : ∀ j, j ≠ 2 → j ≠ 33 → (0 : Int32) = xm Y 128 j := fun j h1 h2 => (m128 j h1 h2).symm
  have vac : ∀ c j, c < 2147483648 → (j ≠ 2 ∧ j ≠ 33) → xm Y 128 j = nI c → c = 0 := fun c j hc hj e => by
    rw [m128 j hj.1 hj.2, z0] at e
    exact ((nI_eq (by decide) hc).mp e).symm
  have hER : ER (xm Y) (xm Y) := by
    refine ⟨e3.trans (q 18 (by decide) (by decide)), fun h => absurd (m128 18 (by decide) (by decide)) h, fun h => ?_, ⟨⟨e7.trans (q 25 (by decide) (by decide)), e8.trans (q 22 (by decide) (by decide)), e9.trans (q 23 (by decide) (by decide)), e10.trans (q 24 (by decide) (by decide))⟩, ⟨e11.trans (q 30 (by decide) (by decide)), e13.trans (q 31 (by decide) (by decide)), e14.trans m33.symm, e15.trans (q 32 (by decide) (by decide)), fun _ => e12, fun h => absurd (m128 28 (by decide) (by decide)) h⟩, ⟨?_, ?_, ?_, ?_, ?_⟩, fun n hn en k hk => ?_⟩, fun c hc ec k hk => ?_⟩
    · rw [m128 18 (by decide) (by decide)] at h; exact absurd h (by decide)
    · rw [e18, arr 144 0 (by decide) (by decide)]
    · rw [e18, arr 144 1 (by decide) (by decide)]
    · rw [e18, arr 144 2 (by decide) (by decide)]
    · rw [e18, arr 144 3 (by decide) (by decide)]
    · rw [e18, arr 144 4 (by decide) (by decide)]
    · have := vac n 30 (by omega) (by decide) en; omega
    · have := vac c 25 hc (by decide) ec; omega
  refine ⟨hS, by omega, by omega, 0, 1000000, 53, 0, ⟨hEH, hER, by decide, m128 1 (by decide) (by decide), b05, by decide, m2, by decide, b06, Or.inr ⟨by decide, by decide⟩, ?_, ?_, fun k hk => ?_, fun k hk => ?_, fun i hi => ?_⟩, ?_, ?_, fun i hi => Or.inl (arr 131 i (by decide) hi), fun _ => ⟨m128 30 (by decide) (by decide), m33⟩⟩
  · rw [b03, m128 16 (by decide) (by decide)]
  · rw [ct, m128 16 (by decide) (by decide)]; rfl
  · rw [b6, arr 141 k (by decide) hk]
  · rw [b7, arr 142 k (by decide) hk]
  · rw [eB, eE]; exact st_start hi (bst i hi) (fun k h1 h2 => (ha k h1 h2).2.2)
  · rw [ct]; exact Nat.le_refl _
  · rw [ct]; decide
