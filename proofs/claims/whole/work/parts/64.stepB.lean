/-! the bit time: what the stations send, and the line -/
theorem ST.rg {m1 m2 : Sg} {i f q : Nat} {cs ms ca ma w : Option Nat} (h : ST m1 m2 i f q cs ms ca ma w) : RgS m2 i := by
  obtain ⟨-, -, -, -, -, -, -, -, ⟨p1, p2, p3, p4⟩, ⟨b1, b2, b3, b4, b5⟩, -⟩ := h
  refine ⟨fun x => ?_, fun x => ?_⟩
  · rw [p2] at x
    rcases ms with _ | k
    · exact absurd (show enc none < 0 by decide) x
    · exact ⟨k, p4 k rfl, p2⟩
  · rw [b2] at x
    rcases ma with _ | k
    · exact absurd (show enc none < 0 by decide) x
    · exact ⟨k, by have := b4 k rfl; omega, b2⟩
theorem stepB {m1 m2 : Sg} {t d d1 D : Nat} (h : RR m1 m2 t d d1 D) (ht : t + 1 ≤ 100000) (hD : D ≤ 512) : (∀ i, i < 8 → R1 (t + 1) d1 (Bof m2) (Eof m2) i (cS3 m1) (mS2 m2)) ∧ cLv (cS2 m1) 8 = mLv (mS2 m2) 1 8 ∧ GE (cS1 m1) (mS1 m2) (cS3 m1) (mS2 m2) ∧ (∀ i, i < 8 → CSt (cS2 m1) (8 + 15 * i)) ∧ ∀ i, i < 8 → RgS (mS2 m2) i := by
  obtain ⟨hA, hG⟩ := stepA h ht hD
  obtain ⟨-, -, -, -, -, -, -, -, ed1, -⟩ := h
  have e6 : cS2 m1 0 6 = nI d1 := by
    rw [hG.1 0 6 (by omega), ← ed1]; exact su_nj (by decide)
  have e6i : ∀ i, itr cNx (cS2 m1) i 0 6 = nI d1 := fun i => by rw [locC_itr locC_nx _ (by omega)]; exact e6
  have L := lift (P := fun i x1 x2 => Rb (t + 1) d1 (Bof m2) (Eof m2) i x1 x2) (Q := R1 (t + 1) d1 (Bof m2) (Eof m2)) (f := cNx) (g := idS) (m1 := cS2 m1) (m2 := mS2 m2) Rb.cg R1.cg (fun i x1 x2 _ _ a j q => locC_nx x1 i a j q) loc_id (fun i x1 x2 hi hG' hP => (next_step (show x1 0 6 = nI d1 by rw [hG'.1 0 6 (by omega)]; exact e6) hP).1) hA
  obtain ⟨L1, L2, L3⟩ := L
  rw [itr_id] at L1 L3
  refine ⟨L1, lv_c (fun i hi => ?_) 8 (Nat.le_refl _), hG.tr L3, fun i hi => ?_, fun i hi => ?_⟩
  · have := L2 i hi
    rw [itr_id] at this
    exact (next_step (e6i i) this).2
  · obtain ⟨f, q, p, ms, a, w, hs, -⟩ := hA i hi
    exact hs.ok
  · obtain ⟨f, q, p, ms, a, w, hs, -⟩ := hA i hi
    exact hs.rg
theorem CAg.of {i : Nat} {m m' : Sg} (hi : i < 8) (h : ∀ a j, 8 ≤ a → a < 128 → m' a j = m a j) : CAg i m m' := fun a j x y => (h a j (by omega) (by omega)).symm
theorem MAg.of {i : Nat} {m m' : Sg} (hi : i < 8) (h : ∀ a j, stn a j ≠ 99 → m' a j = m a j) : MAg i m m' := fun a j x => (h a j (by omega)).symm
/-- the line of the bit time, and the disturbance that is used up -/
def Ds (m1 m2 : Sg) : Prop := m1 0 3 = m2 128 16 ∧ m2 128 16 = nI (ctF (m2 141) 2048) ∧ ∀ k, k < 2048 → m1 6 k = m2 141 k
theorem stepC {m1 m2 : Sg} {t d d1 D : Nat} (h : RR m1 m2 t d d1 D) (ht : t + 1 ≤ 100000) (hD : D ≤ 512) : (∀ i, i < 8 → R1 (t + 1) d1 (Bof m2) (Eof m2) i (cS4 m1) (mS3 m2)) ∧ cLn m1 = mLn m2 ∧ (mLn m2 = 0 ∨ mLn m2 = 1) ∧ (∀ i, i < 8 → vm (mS3 m2) i = 0 → mLn m2 = 0) ∧ Ds (cS4 m1) (mS3 m2) ∧ (∃ D', (D' = D ∧ (mLn m2 = 0 → mLv (mS3 m2) 1 8 = 0) ∨ D' = D + 1) ∧ D' + ctF (mS3 m2 141) 2048 = D + ctF (m2 141) 2048) ∧ (∀ a j, ¬ (8 ≤ a ∧ a < 128) → ¬ (a = 0 ∧ (j = 3 ∨ j = 5)) → a ≠ 6 → cS4 m1 a j = m1 a j) ∧ cS4 m1 0 5 = nI (t + 1) ∧ (∀ a j, stn a j = 99 → ¬ (a = 128 ∧ (j = 1 ∨ j = 16)) → a ≠ 141 → mS3 m2 a j = m2 a j) ∧ mS3 m2 128 1 = nI (t + 1) := by
  obtain ⟨hR, hL, hG, -, -⟩ := stepB h ht hD
  obtain ⟨hEH, hER, ht0, t2, t1, hd, ed, hd1, ed1, hdd, e3, e16, e6, e7, -⟩ := h
  have n1 : cS3 m1 0 5 = nI (t + 1) := by rw [hG.1 0 5 (by omega)]; unfold cS1; rw [su_at, t1]; exact nI_al t 1
  have n2 : mS2 m2 128 1 = nI (t + 1) := by rw [hG.2 128 1 rfl]; unfold mS1; rw [su_at, t2]; exact nI_al t 1
  have o1 : ∀ a j, ¬ (8 ≤ a ∧ a < 128) → ¬ (a = 0 ∧ j = 5) → cS3 m1 a j = m1 a j := fun a j x q => (hG.1 a j x).trans (su_ne q)
  have o2 : ∀ a j, stn a j = 99 → ¬ (a = 128 ∧ j = 1) → mS2 m2 a j = m2 a j := fun a j x q => (hG.2 a j x).trans (su_ne q)
  have j1 : cDix (cS3 m1) = (t + 1) % 2048 := by unfold cDix; rw [n1, nI_clamp (by omega)]
  have j2 : mDix (mS2 m2) = (t + 1) % 2048 := by unfold mDix; rw [n2, nI_clamp (by omega)]
  have hj : (t + 1) % 2048 < 2048 := Nat.mod_lt _ (by decide)
  have c141 : ∀ k, mS2 m2 141 k = m2 141 k := fun k => o2 141 k rfl (by omega)
  have z1 : cS3 m1 6 ((t + 1) % 2048) = m2 141 ((t + 1) % 2048) := (o1 _ _ (by omega) (by omega)).trans (e6 _ hj)
  have z2 : mS2 m2 141 ((t + 1) % 2048) = m2 141 ((t + 1) % 2048) := c141 _
  have s16 : mS2 m2 128 16 = m2 128 16 := o2 _ _ rfl (by decide)
  have s03 : cS3 m1 0 3 = m1 0 3 := o1 _ _ (by omega) (by decide)
  unfold cLn mLn mS3 cS4 cTakeS mLineM mLine0
  rw [j1, j2, z1, z2]
  have lvE : ∀ u v, mLv (su (su (mS2 m2) 128 16 u) 141 ((t + 1) % 2048) 0) v 8 = mLv (mS2 m2) v 8 := fun u v => mLv_cg (fun a j q => by rw [su_na (by omega), su_na (by omega)]) v 8
  have f2 : ∀ u, ∀ a j, ¬ (a = 128 ∧ j = 16) → a ≠ 141 → su (su (mS2 m2) 128 16 u) 141 ((t + 1) % 2048) 0 a j = mS2 m2 a j := fun u a j q r => by rw [su_na r, su_ne q]
  have g2 : ∀ u i, i < 8 → MAg i (mS2 m2) (su (su (mS2 m2) 128 16 u) 141 ((t + 1) % 2048) 0) := fun u i hi => MAg.of hi (fun a j x => by
    rw [su_na (fun q => x (by rw [q]; rfl)), su_na (fun q => x (by rw [q]; rfl))])
  by_cases c : m2 141 ((t + 1) % 2048) = 0
  · rw [if_pos c, if_pos c, if_pos c, if_pos c, lvE]
    have ek : ∀ k, su (su (mS2 m2) 128 16 (mS2 m2 128 16 - 0)) 141 ((t + 1) % 2048) 0 141 k = m2 141 k := by
      intro k
      by_cases q : k = (t + 1) % 2048
      · subst q; rw [su_at, c]
      · rw [su_nj q, su_na (by decide)]; exact c141 k
    have e160 : su (su (mS2 m2) 128 16 (mS2 m2 128 16 - 0)) 141 ((t + 1) % 2048) 0 128 16 = m2 128 16 := by
      rw [su_na (by decide), su_at, s16]; exact Int32.sub_zero _
    have ect : ctF (su (su (mS2 m2) 128 16 (mS2 m2 128 16 - 0)) 141 ((t + 1) % 2048) 0 141) 2048 = ctF (m2 141) 2048 := ctF_cg _ (fun k _ => ek k)
    refine ⟨fun i hi => R1.cg i _ _ _ _ CAg.rf (g2 _ i hi) (hR i hi), hL, lv_01 _ (Or.inr rfl) 8, fun i hi hv => ?_, ⟨?_, ?_, ?_⟩, ⟨D, Or.inl ⟨rfl, id⟩, by rw [ect]⟩, fun a j x y z => o1 a j x (by omega), n1, fun a j x y z => ?_, ?_⟩
    · have hz := vm_zero hv
      rw [← lvE (mS2 m2 128 16 - 0) 1]
      exact lv_z _ _ hz 8 hi
    · rw [e160, s03, e3]
    · rw [e160, ect, e16]
    · intro k hk; rw [ek, o1 _ _ (by omega) (by omega)]; exact e6 k hk
    · rw [f2 _ _ _ (by omega) z]; exact o2 a j x (by omega)
    · rw [f2 _ _ _ (by omega) (by omega)]; exact n2
  · rw [if_neg c, if_neg c, if_neg c, if_neg c, lvE, lv_0]
    have ek : ∀ k, k ≠ (t + 1) % 2048 → su (su (mS2 m2) 128 16 (mS2 m2 128 16 - 1)) 141 ((t + 1) % 2048) 0 141 k = m2 141 k := by
      intro k q
      rw [su_nj q, su_na (by decide)]; exact c141 k
    have ek0 : su (su (mS2 m2) 128 16 (mS2 m2 128 16 - 1)) 141 ((t + 1) % 2048) 0 141 ((t + 1) % 2048) = 0 := su_at _ _ _ _
    have ect := ctF_clr (g := su (su (mS2 m2) 128 16 (mS2 m2 128 16 - 1)) 141 ((t + 1) % 2048) 0 141) c ek0 2048 hj ek
    have e160 : su (su (mS2 m2) 128 16 (mS2 m2 128 16 - 1)) 141 ((t + 1) % 2048) 0 128 16 = m2 128 16 - 1 := by
      rw [su_na (by decide), su_at, s16]
    refine ⟨fun i hi => R1.cg i _ _ _ _ (CAg.of hi (fun a j x y => ?_)) (g2 _ i hi) (hR i hi), rfl, Or.inl rfl, fun _ _ _ => rfl, ⟨?_, ?_, ?_⟩, ⟨D + 1, Or.inr rfl, ?_⟩, fun a j x y z => ?_, ?_, fun a j x y z => ?_, ?_⟩
    · rw [su_na (by omega), su_na (by omega)]
    · rw [e160, su_at, s03, e3]
    · rw [e160, e16, nI_sl (show 1 ≤ ctF (m2 141) 2048 by omega)]
      exact congrArg nI (show ctF (m2 141) 2048 - 1 = _ by omega)
    · intro k hk
      rw [su_na (by decide)]
      by_cases q : k = (t + 1) % 2048
      · subst q; rw [su_at, ek0]
      · rw [su_nj q, ek k q, o1 _ _ (by omega) (by omega)]; exact e6 k hk
    · omega
    · rw [su_ne (by omega), su_na z]; exact o1 a j x (by omega)
    · rw [su_nj (by decide), su_na (by decide)]; exact n1
    · rw [f2 _ _ _ (by omega) z]; exact o2 a j x (by omega)
    · rw [f2 _ _ _ (by omega) (by omega)]; exact n2
