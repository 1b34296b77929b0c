theorem QR.fr {m1 m1' m2 m2' : Sg} {i A f q : Nat} {w : Option Nat} (h : QR m1 m2 i A f q w) (hf : f < 6) (h1 : ∀ a k, A + 3 ≤ a → a < A + 15 → m1' a k = m1 a k) (h2 : ∀ k, m2' 133 k = m2 133 k) : QR m1' m2' i A f q w := by
  intro j hj
  obtain ⟨n, y, ev, te, hy⟩ := h j hj
  have e : ∀ c, c < 6 → qx m2 i j c = qx m2' i j c := fun c _ => (h2 _).symm
  have hm : (f + j) % 6 < 6 := Nat.mod_lt _ (by decide)
  exact ⟨n, y, ev.cg e, te.cg e (fun k => (h1 _ _ (by omega) (by omega)).symm) (fun k => (h1 _ _ (by omega) (by omega)).symm), hy⟩
theorem SLn.fr {m1 m1' : Sg} {A : Nat} (h : SLn m1 A) (h1 : ∀ a k, A < a → a < A + 15 → m1' a k = m1 a k) : SLn m1' A := by
  obtain ⟨a, b, c⟩ := h
  refine ⟨fun j hj => ?_, fun j k hj hk => ?_, fun k => ?_⟩
  · rw [h1 _ _ (by omega) (by omega)]; exact a j hj
  · rw [h1 _ _ (by omega) (by omega)]; exact b j k hj hk
  · rw [h1 _ _ (by omega) (by omega)]; exact c k
theorem SS.fr {m1 m1' m2 m2' : Sg} {i A : Nat} (h : SS m1 m2 i A) (h1 : ∀ c, c < 4 ∨ 12 ≤ c → m1' A c = m1 A c) (hg : ∀ k, m1' (A + 1) k = m1 (A + 1) k) (h2 : ∀ a k, a < 132 ∨ 137 < a → m2' a k = m2 a k) : SS m1' m2' i A := by
  unfold SS at h ⊢
  rw [h1 2 (by omega), h1 3 (by omega), h1 12 (by omega), h1 13 (by omega), h1 14 (by omega), h2 129 i (by omega), h2 131 i (by omega), h2 138 i (by omega), h2 139 i (by omega), h2 140 i (by omega)]
  obtain ⟨a, b, c, d⟩ := h
  refine ⟨a, b, fun g hg' => ?_, d⟩
  rw [hg, h2 _ _ (by omega)]; exact c g hg'
/-- a change of what moves in a bit time: 6..11 of the class, 134..137 of the reference -/
theorem ST.upd {m1 m1' m2 m2' : Sg} {i f q : Nat} {cs ms ca ma w cs' ms' ca' ma' : Option Nat} (h : ST m1 m2 i f q cs ms ca ma w) (h1 : ∀ a k, ¬ (a = 8 + 15 * i ∧ (k = 6 ∨ k = 7 ∨ k = 10 ∨ k = 11)) → m1' a k = m1 a k) (h2 : ∀ a k, ¬ (a = 134 ∨ a = 135 ∨ a = 136) → m2' a k = m2 a k) (hP : SP m1' m2' i (8 + 15 * i) cs' ms') (hB : SB m1' m2' i (8 + 15 * i) ca' ma') : ST m1' m2' i f q cs' ms' ca' ma' w := by
  obtain ⟨hf, hq, e4, e5, e6, hQ, hL, hS, -, -, hW⟩ := h
  refine ⟨hf, hq, ?_, ?_, ?_, hQ.fr hf (fun a k x y => h1 _ _ (by omega)) (fun k => h2 _ _ (by omega)), hL.fr (fun a k x y => h1 _ _ (by omega)), hS.fr (fun c hc => h1 _ _ (by omega)) (fun k => h1 _ _ (by omega)) (fun a k x => h2 _ _ (by omega)), hP, hB, ?_⟩
  · rw [h1 _ _ (by omega)]; exact e4
  · rw [h1 _ _ (by omega)]; exact e5
  · rw [h2 _ _ (by omega)]; exact e6
  · unfold SW at hW ⊢
    rw [h1 _ 8 (by omega), h1 _ 9 (by omega), h2 137 i (by omega)]; exact hW
theorem st_begS {m1 m2 : Sg} {i f q : Nat} {cs ms ca ma w : Option Nat} (h : ST m1 m2 i f q cs ms ca ma w) : ST m1 (mBegS m2 i) i f q cs (if mBegC m2 i then some 0 else ms) ca ma w := by
  unfold mBegS
  by_cases c : mBegC m2 i
  · rw [if_pos c, if_pos c]
    have h' := h
    obtain ⟨-, -, -, -, -, -, -, -, ⟨p1, p2, p3, p4⟩, ⟨b1, b2, b3⟩, -⟩ := h
    refine h'.upd (fun _ _ _ => rfl) (fun a k x => su_na (by omega)) ⟨p1, su_at _ _ _ _, p3, ?_⟩ ?_
    · rintro k hk; cases hk; decide
    · unfold SB
      rw [su_na (show (135 : Nat) ≠ 134 by decide), su_na (show (136 : Nat) ≠ 134 by decide)]
      exact ⟨b1, b2, b3⟩
  · rw [if_neg c, if_neg c]; exact h
theorem cAnsV_of {m1 m2 : Sg} {i : Nat} (e : m1 (8 + 15 * i) 3 = m2 131 i) {r : Int32} (er : r = m2 128 31) : cAnsV m1 (8 + 15 * i) r = mAnsV m2 i := by
  unfold cAnsV mAnsV; rw [e, er]
theorem mAnsV_b (m : Sg) (i : Nat) : ∃ b, b < 256 ∧ mAnsV m i = nI b := by
  unfold mAnsV
  split
  · exact ⟨12, by decide, rfl⟩
  · split
    · exact ⟨204, by decide, rfl⟩
    · exact ⟨192, by decide, rfl⟩
abbrev mAnsC (m : Sg) (s : Nat) : Prop := ¬ 0 ≤ m 134 s ∧ ¬ 0 ≤ m 137 s ∧ mMeant m s
theorem st_ansS {m1 m2 : Sg} {i f q : Nat} {cs ms ca ma w : Option Nat} (h : ST m1 m2 i f q cs ms ca ma w) (hM : cMeant m1 (8 + 15 * i) (cAim m1) (cGrp m1) ↔ mAnsC m2 i) (hr : m1 2 13 = m2 128 31) : ST (cBegS m1 i) (mAnsS m2 i) i f q cs ms (if mAnsC m2 i then some 0 else ca) (if mAnsC m2 i then some 0 else ma) w := by
  unfold cBegS mAnsS
  by_cases c : mAnsC m2 i
  · rw [if_pos c, if_pos c, if_pos (hM.mpr c), if_pos (show mAnsC m2 i from c)]
    have h' := h
    obtain ⟨-, -, -, -, -, -, -, hS, ⟨p1, p2, p3⟩, ⟨b1, b2, b3⟩, -⟩ := h
    have eV := cAnsV_of (r := m1 2 13) hS.2.1 hr
    refine h'.upd (fun a k x => ?_) (fun a k x => ?_) ⟨?_, ?_, p3⟩ ?_
    · rw [su_ne (by omega), su_ne (by omega)]
    · rw [su_ne (by omega), su_ne (by omega)]
    · rw [su_nj (by decide), su_nj (by decide)]; exact p1
    · rw [su_na (by decide), su_na (by decide)]; exact p2
    · refine ⟨?_, ?_, ?_, ?_, ?_⟩
      · rw [su_nj (by decide), su_at]; rfl
      · rw [su_na (by decide), su_at]; rfl
      · rintro k hk; cases hk; decide
      · rintro k hk; cases hk; decide
      · intro _
        rw [su_at, su_at, eV]
        exact ⟨rfl, mAnsV_b m2 i⟩
  · rw [if_neg c, if_neg c, if_neg (fun q => c (hM.mp q)), if_neg (show ¬ mAnsC m2 i from c)]; exact h
