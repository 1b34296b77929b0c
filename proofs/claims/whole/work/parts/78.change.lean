/-! what a call changes, and the relation behind it -/
theorem stn_in {a j s : Nat} (hs : s < 8) (h : stn a j = s) : 129 ≤ a ∧ a ≤ 140 := by
  by_cases c : 129 ≤ a ∧ a ≤ 140
  · exact c
  · exfalso
    have e99 : stn a j = 99 := by
      unfold stn
      split <;> first | omega | rfl
    omega
theorem RR.st {m m' : Sg} {t d d1 D s : Nat} (hs : s < 8) (h : RR m m t d d1 D) (e1 : ∀ a j, a < 128 → ¬ (8 + 15 * s ≤ a ∧ a < 8 + 15 * s + 15) → m' a j = m a j) (e2 : ∀ a j, 128 ≤ a → a < 146 → stn a j ≠ s → ¬ (a = 128 ∧ j = 0) → m' a j = m a j) (h0 : R0 t (Bof m) (Eof m) s m' m') : RR m' m' t d d1 D := by
  obtain ⟨hEH, hER, ht0, t2, t1, hd, ed, hd1, ed1, hdd, e3, e16, e6, e7, hR⟩ := h
  have s99 : ¬ (99 : Nat) = s := by omega
  have k2 : ∀ j, 18 ≤ j → m' 128 j = m 128 j := fun j hj => e2 _ _ (by decide) (by decide) s99 (by omega)
  have k8 : ∀ j, ¬ j = 0 → m' 128 j = m 128 j := fun j hj => e2 _ _ (by decide) (by decide) s99 (by omega)
  have k9 : ∀ a j, 141 ≤ a → a ≤ 145 → m' a j = m a j := fun a j x y => e2 _ _ (by omega) (by omega) (fun q => by have := stn_in hs q; omega) (by omega)
  have k3 : ∀ a j, 143 ≤ a → a ≤ 145 → m' a j = m a j := fun a j x y => k9 a j (by omega) y
  have k1 : ∀ a j, a < 8 → m' a j = m a j := fun a j x => e1 _ _ (by omega) (by omega)
  refine ⟨hEH.fr k2 k3, hER.fr (fun a j x y => k1 _ _ (by omega)) k2 k3, ht0, ?_, ?_, hd, ?_, hd1, ?_, hdd, ?_, ?_, fun k hk => ?_, fun k hk => ?_, fun i hi => ?_⟩
  · rw [k8 _ (by decide)]; exact t2
  · rw [k1 _ _ (by decide)]; exact t1
  · rw [k8 _ (by decide)]; exact ed
  · rw [k1 _ _ (by decide)]; exact ed1
  · rw [k1 _ _ (by decide), k8 _ (by decide)]; exact e3
  · rw [k8 _ (by decide), e16]
    exact congrArg nI (ctF_cg _ (fun k _ => (k9 _ _ (by decide) (by decide)).symm))
  · rw [k1 _ _ (by decide), k9 _ _ (by decide) (by decide)]; exact e6 k hk
  · rw [k1 _ _ (by decide), k9 _ _ (by decide) (by decide)]; exact e7 k hk
  · rw [Bof_cg k2, Eof_cg' k2]
    by_cases c : i = s
    · subst c; exact h0
    · refine R0.cg i _ _ _ _ (fun a j x y => (e1 _ _ (by omega) (by omega)).symm) (fun a j x => ?_) (hR i hi)
      have := stn_in hi x
      exact (e2 _ _ (by omega) (by omega) (by omega) (by omega)).symm
theorem ST.ss {m m' : Sg} {i f q : Nat} {cs ms ca ma w : Option Nat} (h : ST m m i f q cs ms ca ma w) (o1 : ∀ c, 4 ≤ c → c ≤ 11 → m' (8 + 15 * i) c = m (8 + 15 * i) c) (o2 : ∀ a k, 8 + 15 * i + 3 ≤ a → a < 8 + 15 * i + 15 → m' a k = m a k) (o3 : ∀ k, m' 133 k = m 133 k) (o4 : ∀ a, a = 132 ∨ 134 ≤ a ∧ a ≤ 137 → m' a i = m a i) (hL : ∀ k, m' (8 + 15 * i + 1) k = 0 ∨ m' (8 + 15 * i + 1) k = 1) (hS : SS m' m' i (8 + 15 * i)) : ST m' m' i f q cs ms ca ma w := by
  obtain ⟨hf, hq, e4, e5, e132, hQ, ⟨l1, l2, l3⟩, -, hP, hB, hW⟩ := h
  refine ⟨hf, hq, ?_, ?_, ?_, hQ.fr hf o2 o3, ⟨fun j hj => ?_, fun j k hj hk => ?_, hL⟩, hS, ?_, ?_, ?_⟩
  · rw [o1 _ (by decide) (by decide)]; exact e4
  · rw [o1 _ (by decide) (by decide)]; exact e5
  · rw [o4 _ (by decide)]; exact e132
  · rw [o2 _ _ (by omega) (by omega)]; exact l1 j hj
  · rw [o2 _ _ (by omega) (by omega)]; exact l2 j k hj hk
  · unfold SP at hP ⊢
    rw [o1 _ (by decide) (by decide), o4 _ (by decide)]; exact hP
  · unfold SB at hB ⊢
    rw [o1 _ (by decide) (by decide), o1 11 (by decide) (by decide), o4 _ (by decide), o4 136 (by decide)]; exact hB
  · unfold SW at hW ⊢
    rw [o1 _ (by decide) (by decide), o1 9 (by decide) (by decide), o4 _ (by decide)]; exact hW
theorem CD.q {m m' : Sg} {i t : Nat} {B E : Option Nat} {q : Nat} {p a w : Option Nat} (h : CD m i t B E q p a w) (o3 : ∀ k, m' 133 k = m 133 k) : CD m' i t B E q p a w := by
  obtain ⟨h1, h3, h4⟩ := h
  refine ⟨fun k hk => ?_, h3, h4⟩
  obtain ⟨x1, x2, x3, x4, x5, x6⟩ := h1 k hk
  exact ⟨x1, x2, x3, x4, fun n y ev => x5 n y (ev.cg (fun c _ => o3 _)), x6⟩
theorem R0.ss {m m' : Sg} {t i : Nat} {B E : Option Nat} (h : R0 t B E i m m) (o1 : ∀ c, 4 ≤ c → c ≤ 11 → m' (8 + 15 * i) c = m (8 + 15 * i) c) (o2 : ∀ a k, 8 + 15 * i + 3 ≤ a → a < 8 + 15 * i + 15 → m' a k = m a k) (o4 : ∀ a k, 132 ≤ a → a ≤ 137 → m' a k = m a k) (hL : ∀ k, m' (8 + 15 * i + 1) k = 0 ∨ m' (8 + 15 * i + 1) k = 1) (hS : SS m m i (8 + 15 * i) → SS m' m' i (8 + 15 * i)) : R0 t B E i m' m' := by
  obtain ⟨f, q, p, a, w, hs, hc⟩ := h
  exact ⟨f, q, p, a, w, hs.ss o1 o2 (fun k => o4 _ _ (by decide) (by decide)) (fun a x => o4 _ _ (by omega) (by omega)) hL (hS hs.2.2.2.2.2.2.2.1), hc.q (fun k => o4 _ _ (by decide) (by decide))⟩
theorem RR.r0 {m : Sg} {t d d1 D : Nat} (h : RR m m t d d1 D) {i : Nat} (hi : i < 8) : R0 t (Bof m) (Eof m) i m m := h.2.2.2.2.2.2.2.2.2.2.2.2.2.2 i hi
theorem R0.l3 {m : Sg} {t i : Nat} {B E : Option Nat} (h : R0 t B E i m m) (k : Nat) : m (8 + 15 * i + 1) k = 0 ∨ m (8 + 15 * i + 1) k = 1 := by
  obtain ⟨f, q, p, a, w, hs, hc⟩ := h
  exact hs.2.2.2.2.2.2.1.2.2 k
theorem R0.s {m : Sg} {t i : Nat} {B E : Option Nat} (h : R0 t B E i m m) : SS m m i (8 + 15 * i) := by
  obtain ⟨f, q, p, a, w, hs, hc⟩ := h
  exact hs.2.2.2.2.2.2.2.1
/-- address -/
theorem rr_addr {m m' : Sg} {t d d1 D s a : Nat} (hs : s < 8) (h : RR m m t d d1 D) (ha : a < 65536) (x1 : m' (8 + 15 * s) 2 = nI a) (x2 : m' 129 s = nI a) (o1 : ∀ b j, b < 128 → ¬ (b = 8 + 15 * s ∧ j = 2) → m' b j = m b j) (o2 : ∀ b j, 128 ≤ b → b < 146 → ¬ (b = 129 ∧ j = s) → ¬ (b = 128 ∧ j = 0) → m' b j = m b j) : RR m' m' t d d1 D := by
  refine RR.st hs h (fun b j x y => o1 _ _ x (by omega)) (fun b j x y z u => o2 _ _ x y (fun q => z (by rw [q.1, q.2]; rfl)) u) ?_
  refine (h.r0 hs).ss (fun c x y => o1 _ _ (by omega) (by omega)) (fun b k x y => o1 _ _ (by omega) (by omega)) (fun b k x y => o2 _ _ (by omega) (by omega) (by omega) (by omega)) (fun k => ?_) (fun hS => ?_)
  · rw [o1 _ _ (by omega) (by omega)]; exact (h.r0 hs).l3 k
  · obtain ⟨s1, s2, s3, s4, s5, s6, s7⟩ := hS
    refine ⟨x1.trans x2.symm, ?_, fun g hg => ?_, ?_, ?_, ?_, ⟨a, ha, x2⟩⟩
    · rw [o1 _ _ (by omega) (by omega), o2 _ _ (by omega) (by omega) (by omega) (by omega)]; exact s2
    · rw [o1 _ _ (by omega) (by omega), o2 _ _ (by omega) (by omega) (by omega) (by omega)]; exact s3 g hg
    · rw [o1 _ _ (by omega) (by omega), o2 _ _ (by omega) (by omega) (by omega) (by omega)]; exact s4
    · rw [o1 _ _ (by omega) (by omega), o2 _ _ (by omega) (by omega) (by omega) (by omega)]; exact s5
    · rw [o1 _ _ (by omega) (by omega), o2 _ _ (by omega) (by omega) (by omega) (by omega)]; exact s6
/-- listen -/
theorem rr_list {m m' : Sg} {t d d1 D s g : Nat} {b : Int32} (hs : s < 8) (h : RR m m t d d1 D) (hg : g < 256) (hb : b = 0 ∨ b = 1) (x1 : m' (8 + 15 * s + 1) g = b) (x2 : m' 130 (256 * s + g) = b) (o1 : ∀ c j, c < 128 → ¬ (c = 8 + 15 * s + 1 ∧ j = g) → m' c j = m c j) (o2 : ∀ c j, 128 ≤ c → c < 146 → ¬ (c = 130 ∧ j = 256 * s + g) → ¬ (c = 128 ∧ j = 0) → m' c j = m c j) : RR m' m' t d d1 D := by
  refine RR.st hs h (fun c j x y => o1 _ _ x (by omega)) (fun c j x y z u => o2 _ _ x y (fun q => z (by rw [q.1, q.2]; exact stn130 hg)) u) ?_
  refine (h.r0 hs).ss (fun c x y => o1 _ _ (by omega) (by omega)) (fun b k x y => o1 _ _ (by omega) (by omega)) (fun b k x y => o2 _ _ (by omega) (by omega) (by omega) (by omega)) (fun k => ?_) (fun hS => ?_)
  · by_cases c : k = g
    · rw [c, x1]; exact hb
    · rw [o1 _ _ (by omega) (by omega)]; exact (h.r0 hs).l3 k
  · obtain ⟨s1, s2, s3, s4, s5, s6, a, ha, s7⟩ := hS
    refine ⟨?_, ?_, fun k hk => ?_, ?_, ?_, ?_, ⟨a, ha, ?_⟩⟩
    · rw [o1 _ _ (by omega) (by omega), o2 _ _ (by omega) (by omega) (by omega) (by omega)]; exact s1
    · rw [o1 _ _ (by omega) (by omega), o2 _ _ (by omega) (by omega) (by omega) (by omega)]; exact s2
    · by_cases c : k = g
      · rw [c, x1, x2]
      · rw [o1 _ _ (by omega) (by omega), o2 _ _ (by omega) (by omega) (by omega) (by omega)]; exact s3 k hk
    · rw [o1 _ _ (by omega) (by omega), o2 _ _ (by omega) (by omega) (by omega) (by omega)]; exact s4
    · rw [o1 _ _ (by omega) (by omega), o2 _ _ (by omega) (by omega) (by omega) (by omega)]; exact s5
    · rw [o1 _ _ (by omega) (by omega), o2 _ _ (by omega) (by omega) (by omega) (by omega)]; exact s6
    · rw [o2 _ _ (by omega) (by omega) (by omega) (by omega)]; exact s7
/-- busy -/
theorem rr_busy {m m' : Sg} {t d d1 D s : Nat} {b : Int32} (hs : s < 8) (h : RR m m t d d1 D) (x1 : m' (8 + 15 * s) 3 = b) (x2 : m' 131 s = b) (o1 : ∀ c j, c < 128 → ¬ (c = 8 + 15 * s ∧ j = 3) → m' c j = m c j) (o2 : ∀ c j, 128 ≤ c → c < 146 → ¬ (c = 131 ∧ j = s) → ¬ (c = 128 ∧ j = 0) → m' c j = m c j) : RR m' m' t d d1 D := by
  refine RR.st hs h (fun c j x y => o1 _ _ x (by omega)) (fun c j x y z u => o2 _ _ x y (fun q => z (by rw [q.1, q.2]; rfl)) u) ?_
  refine (h.r0 hs).ss (fun c x y => o1 _ _ (by omega) (by omega)) (fun b k x y => o1 _ _ (by omega) (by omega)) (fun b k x y => o2 _ _ (by omega) (by omega) (by omega) (by omega)) (fun k => ?_) (fun hS => ?_)
  · rw [o1 _ _ (by omega) (by omega)]; exact (h.r0 hs).l3 k
  · obtain ⟨s1, s2, s3, s4, s5, s6, a, ha, s7⟩ := hS
    refine ⟨?_, x1.trans x2.symm, fun k hk => ?_, ?_, ?_, ?_, ⟨a, ha, ?_⟩⟩
    · rw [o1 _ _ (by omega) (by omega), o2 _ _ (by omega) (by omega) (by omega) (by omega)]; exact s1
    · rw [o1 _ _ (by omega) (by omega), o2 _ _ (by omega) (by omega) (by omega) (by omega)]; exact s3 k hk
    · rw [o1 _ _ (by omega) (by omega), o2 _ _ (by omega) (by omega) (by omega) (by omega)]; exact s4
    · rw [o1 _ _ (by omega) (by omega), o2 _ _ (by omega) (by omega) (by omega) (by omega)]; exact s5
    · rw [o1 _ _ (by omega) (by omega), o2 _ _ (by omega) (by omega) (by omega) (by omega)]; exact s6
    · rw [o2 _ _ (by omega) (by omega) (by omega) (by omega)]; exact s7
/-- disturb -/
theorem rr_dist {m m' : Sg} {t d d1 D j : Nat} (hj : j < 2048) (h : RR m m t d d1 D) (h0 : m 141 j = 0) (x1 : m' 6 j = 1) (x2 : m' 141 j = 1) (x3 : m' 0 3 = m 0 3 + 1) (x4 : m' 128 16 = m 128 16 + 1) (o1 : ∀ c k, c < 128 → ¬ (c = 6 ∧ k = j) → ¬ (c = 0 ∧ k = 3) → m' c k = m c k) (o2 : ∀ c k, 128 ≤ c → c < 146 → ¬ (c = 141 ∧ k = j) → ¬ (c = 128 ∧ (k = 0 ∨ k = 16)) → m' c k = m c k) : RR m' m' t d d1 D ∧ ctF (m' 141) 2048 = ctF (m 141) 2048 + 1 := by
  have hct : ctF (m' 141) 2048 = ctF (m 141) 2048 + 1 := ctF_set h0 (by rw [x2]; decide) 2048 hj (fun k hk => o2 _ _ (by decide) (by decide) (by omega) (by omega))
  obtain ⟨hEH, hER, ht0, t2, t1, hd, ed, hd1, ed1, hdd, e3, e16, e6, e7, hR⟩ := h
  have k2 : ∀ k, 18 ≤ k → m' 128 k = m 128 k := fun k hk => o2 _ _ (by decide) (by decide) (by omega) (by omega)
  have k3 : ∀ a k, 143 ≤ a → a ≤ 145 → m' a k = m a k := fun a k x y => o2 _ _ (by omega) (by omega) (by omega) (by omega)
  refine ⟨⟨hEH.fr k2 k3, hER.fr (fun a j x y => o1 _ _ (by omega) (by omega) (by omega)) k2 k3, ht0, ?_, ?_, hd, ?_, hd1, ?_, hdd, ?_, ?_, fun k hk => ?_, fun k hk => ?_, fun i hi => ?_⟩, hct⟩
  · rw [o2 _ _ (by decide) (by decide) (by omega) (by decide)]; exact t2
  · rw [o1 _ _ (by decide) (by omega) (by decide)]; exact t1
  · rw [o2 _ _ (by decide) (by decide) (by omega) (by decide)]; exact ed
  · rw [o1 _ _ (by decide) (by omega) (by decide)]; exact ed1
  · rw [x3, x4, e3]
  · rw [x4, e16, hct]; exact nI_al _ 1
  · by_cases c : k = j
    · rw [c, x1, x2]
    · rw [o1 _ _ (by decide) (by omega) (by omega), o2 _ _ (by decide) (by decide) (by omega) (by omega)]; exact e6 k hk
  · rw [o1 _ _ (by decide) (by omega) (by omega), o2 _ _ (by decide) (by decide) (by omega) (by omega)]; exact e7 k hk
  · rw [Bof_cg k2, Eof_cg' k2]
    refine R0.cg i _ _ _ _ (fun a j x y => (o1 _ _ (by omega) (by omega) (by omega)).symm) (fun a j x => ?_) (hR i hi)
    have := stn_in hi x
    exact (o2 _ _ (by omega) (by omega) (by omega) (by omega)).symm
