/-! one station: the class's cells of m1 against the reference's cells of m2 -/
def enc : Option Nat → Int32
  | none => -1
  | some p => nI p
def SLn (m1 : Sg) (A : Nat) : Prop := (∀ j, j < 6 → ∃ L, 8 ≤ L ∧ L ≤ 21 ∧ m1 (A + 3 + 2 * j) 1 = nI L) ∧ (∀ j k, j < 6 → k < 21 → ∃ b, b < 256 ∧ m1 (A + 3 + 2 * j + 1) k = nI b) ∧ (∀ k, m1 (A + 1) k = 0 ∨ m1 (A + 1) k = 1)
def SS (m1 m2 : Sg) (i A : Nat) : Prop := m1 A 2 = m2 129 i ∧ m1 A 3 = m2 131 i ∧ (∀ g, g < 256 → m1 (A + 1) g = m2 130 (256 * i + g)) ∧ m1 A 12 = m2 138 i ∧ m1 A 13 = m2 139 i ∧ m1 A 14 = m2 140 i ∧ (∃ a, a < 65536 ∧ m2 129 i = nI a)
def QR (m1 m2 : Sg) (i A f q : Nat) (w : Option Nat) : Prop := ∀ j, j < q → ∃ n y, EV (qx m2 i j) n y ∧ TE m1 (A + 3 + 2 * ((f + j) % 6)) (qx m2 i j) n ∧ (y ≤ 3 ∨ j = 0 ∧ w ≠ none)
def SW (m1 m2 : Sg) (i A : Nat) (w : Option Nat) : Prop := m2 137 i = enc w ∧ (w = none → m1 A 8 = 0) ∧ (∀ u, w = some u → u < 200000 ∧ m1 A 8 = 1 ∧ m1 A 9 = nI (u + 28))
def SB (m1 m2 : Sg) (i A : Nat) (ca ma : Option Nat) : Prop := m1 A 10 = enc ca ∧ m2 135 i = enc ma ∧ (∀ k, ca = some k → k < 11) ∧ (∀ k, ma = some k → k < 11) ∧ (ca ≠ none ∨ ma ≠ none → m1 A 11 = m2 136 i ∧ ∃ b, b < 256 ∧ m2 136 i = nI b)
def SP (m1 m2 : Sg) (i A : Nat) (cs ms : Option Nat) : Prop := m1 A 6 = enc cs ∧ m2 134 i = enc ms ∧ (∀ k, cs = some k → k < 272) ∧ (∀ k, ms = some k → k < 273)
def ST (m1 m2 : Sg) (i f q : Nat) (cs ms ca ma w : Option Nat) : Prop := f < 6 ∧ q ≤ 6 ∧ m1 (8 + 15 * i) 4 = nI f ∧ m1 (8 + 15 * i) 5 = nI q ∧ m2 132 i = nI q ∧ QR m1 m2 i (8 + 15 * i) f q w ∧ SLn m1 (8 + 15 * i) ∧ SS m1 m2 i (8 + 15 * i) ∧ SP m1 m2 i (8 + 15 * i) cs ms ∧ SB m1 m2 i (8 + 15 * i) ca ma ∧ SW m1 m2 i (8 + 15 * i) w
def CAg (i : Nat) (m m' : Sg) : Prop := ∀ a j, 8 + 15 * i ≤ a → a < 8 + 15 * i + 15 → m a j = m' a j
def MAg (i : Nat) (m m' : Sg) : Prop := ∀ a j, stn a j = i → m a j = m' a j
theorem qx_cg {i j : Nat} {m m' : Sg} (h : MAg i m m') (hj : j < 6) {c : Nat} (hc : c < 6) : qx m i j c = qx m' i j c := by
  unfold qx
  rw [Nat.add_assoc]
  exact h _ _ (stn133 (by omega))
theorem tP_cg {x x' : Nat → Int32} (h : ∀ c, c < 6 → x c = x' c) (k : Nat) : tP x k = tP x' k := by
  unfold tP
  rw [h 0 (by decide), h 1 (by decide), h 2 (by decide), h 3 (by decide), h 4 (by decide), h 5 (by decide)]
theorem tC_cg {x x' : Nat → Int32} (h : ∀ c, c < 6 → x c = x' c) (k : Nat) : tC x k = tC x' k := by
  induction k with
  | zero => rfl
  | succ k ih => show _ ^^^ _ = _ ^^^ _; rw [ih, tP_cg h]
theorem tB_cg {x x' : Nat → Int32} (h : ∀ c, c < 6 → x c = x' c) (k : Nat) : tB x k = tB x' k := by
  unfold tB tS
  rw [tC_cg h, tP_cg h, h 3 (by decide)]
theorem EV.cg {x x' : Nat → Int32} {n y : Nat} (e : EV x n y) (h : ∀ c, c < 6 → x c = x' c) : EV x' n y := by
  unfold EV at e ⊢
  rw [← h 0 (by decide), ← h 1 (by decide), ← h 2 (by decide), ← h 3 (by decide), ← h 4 (by decide), ← h 5 (by decide)]
  exact e
theorem TE.cg {m m' : Sg} {T n : Nat} {x x' : Nat → Int32} (t : TE m T x n) (h : ∀ c, c < 6 → x c = x' c) (hm : ∀ k, m T k = m' T k) (hb : ∀ k, m (T + 1) k = m' (T + 1) k) : TE m' T x' n := by
  obtain ⟨t1, t2, t3, t4⟩ := t
  refine ⟨?_, ?_, ?_, ?_⟩
  · rw [← hm]; exact t1
  · rw [← hm, ← h 0 (by decide)]; exact t2
  · rw [← hm, ← h 5 (by decide)]; exact t3
  · intro k hk; rw [← hb, ← tB_cg h]; exact t4 k hk
theorem QR.cg {m1 m1' m2 m2' : Sg} {i f q : Nat} {w : Option Nat} (h : QR m1 m2 i (8 + 15 * i) f q w) (hf : f < 6) (hq : q ≤ 6) (h1 : CAg i m1 m1') (h2 : MAg i m2 m2') : QR m1' m2' i (8 + 15 * i) f q w := by
  intro j hj
  obtain ⟨n, y, ev, te, hy⟩ := h j hj
  have e : ∀ c, c < 6 → qx m2 i j c = qx m2' i j c := fun c hc => qx_cg h2 (by omega) hc
  have hm : (f + j) % 6 < 6 := Nat.mod_lt _ (by decide)
  exact ⟨n, y, ev.cg e, te.cg e (fun k => h1 _ _ (by omega) (by omega)) (fun k => h1 _ _ (by omega) (by omega)), hy⟩
theorem SLn.cg {m1 m1' : Sg} {i : Nat} (h : SLn m1 (8 + 15 * i)) (h1 : CAg i m1 m1') : SLn m1' (8 + 15 * i) := by
  obtain ⟨a, b, c⟩ := h
  refine ⟨fun j hj => ?_, fun j k hj hk => ?_, fun k => ?_⟩
  · rw [← h1 _ _ (by omega) (by omega)]; exact a j hj
  · rw [← h1 _ _ (by omega) (by omega)]; exact b j k hj hk
  · rw [← h1 _ _ (by omega) (by omega)]; exact c k
theorem SS.cg {m1 m1' m2 m2' : Sg} {i : Nat} (h : SS m1 m2 i (8 + 15 * i)) (h1 : CAg i m1 m1') (h2 : MAg i m2 m2') : SS m1' m2' i (8 + 15 * i) := by
  unfold SS at h ⊢
  rw [← h1 _ 2 (by omega) (by omega), ← h1 _ 3 (by omega) (by omega), ← h1 _ 12 (by omega) (by omega), ← h1 _ 13 (by omega) (by omega), ← h1 _ 14 (by omega) (by omega), ← h2 129 i rfl, ← h2 131 i rfl, ← h2 138 i rfl, ← h2 139 i rfl, ← h2 140 i rfl]
  obtain ⟨a, b, c, d⟩ := h
  refine ⟨a, b, fun g hg => ?_, d⟩
  rw [← h1 _ _ (by omega) (by omega), ← h2 _ _ (stn130 hg)]; exact c g hg
theorem SP.cg {m1 m1' m2 m2' : Sg} {i : Nat} {cs ms : Option Nat} (h : SP m1 m2 i (8 + 15 * i) cs ms) (h1 : CAg i m1 m1') (h2 : MAg i m2 m2') : SP m1' m2' i (8 + 15 * i) cs ms := by
  unfold SP at h ⊢
  rw [← h1 _ 6 (by omega) (by omega), ← h2 134 i rfl]; exact h
theorem SB.cg {m1 m1' m2 m2' : Sg} {i : Nat} {ca ma : Option Nat} (h : SB m1 m2 i (8 + 15 * i) ca ma) (h1 : CAg i m1 m1') (h2 : MAg i m2 m2') : SB m1' m2' i (8 + 15 * i) ca ma := by
  unfold SB at h ⊢
  rw [← h1 _ 10 (by omega) (by omega), ← h1 _ 11 (by omega) (by omega), ← h2 135 i rfl, ← h2 136 i rfl]; exact h
theorem SW.cg {m1 m1' m2 m2' : Sg} {i : Nat} {w : Option Nat} (h : SW m1 m2 i (8 + 15 * i) w) (h1 : CAg i m1 m1') (h2 : MAg i m2 m2') : SW m1' m2' i (8 + 15 * i) w := by
  unfold SW at h ⊢
  rw [← h1 _ 8 (by omega) (by omega), ← h1 _ 9 (by omega) (by omega), ← h2 137 i rfl]; exact h
theorem ST.cg {m1 m1' m2 m2' : Sg} {i f q : Nat} {cs ms ca ma w : Option Nat} (h : ST m1 m2 i f q cs ms ca ma w) (h1 : CAg i m1 m1') (h2 : MAg i m2 m2') : ST m1' m2' i f q cs ms ca ma w := by
  obtain ⟨hf, hq, e4, e5, e6, hQ, hL, hS, hP, hB, hW⟩ := h
  exact ⟨hf, hq, by rw [← h1 _ 4 (by omega) (by omega)]; exact e4, by rw [← h1 _ 5 (by omega) (by omega)]; exact e5, by rw [← h2 132 i rfl]; exact e6, hQ.cg hf hq h1 h2, hL.cg h1, hS.cg h1 h2, hP.cg h1 h2, hB.cg h1 h2, hW.cg h1 h2⟩
theorem CAg.rf {i : Nat} {m : Sg} : CAg i m m := fun _ _ _ _ => rfl
theorem MAg.rf {i : Nat} {m : Sg} : MAg i m m := fun _ _ _ => rfl
theorem enc_inj {a b : Option Nat} (ha : ∀ k, a = some k → k < 2147483648) (hb : ∀ k, b = some k → k < 2147483648) (h : enc a = enc b) : a = b := by
  rcases a with _ | a <;> rcases b with _ | b
  · rfl
  · exact absurd h.symm (neg1_ne (hb b rfl))
  · exact absurd h (neg1_ne (ha a rfl))
  · rw [(nI_eq (ha a rfl) (hb b rfl)).mp h]
theorem enc_neg {a : Option Nat} (ha : ∀ k, a = some k → k < 2147483648) : enc a < 0 ↔ a = none := by
  rcases a with _ | a
  · exact ⟨fun _ => rfl, fun _ => by show (-1 : Int32) < 0; decide⟩
  · refine ⟨fun h => ?_, fun h => by cases h⟩
    exact absurd ((nI_ltl (n := 0) (ha a rfl) (by decide)).mp h) (Nat.not_lt_zero _)
theorem enc_nonneg {a : Option Nat} (ha : ∀ k, a = some k → k < 2147483648) : 0 ≤ enc a ↔ a ≠ none := by
  rcases a with _ | a
  · exact ⟨fun h => absurd h (by show ¬ (0 : Int32) ≤ -1; decide), fun h => absurd rfl h⟩
  · exact ⟨fun _ => Option.some_ne_none a, fun _ => (nI_gel (n := 0) (ha a rfl) (by decide)).mpr (Nat.zero_le _)⟩
/-- what makes the class's station steps run without fault -/
theorem ST.ok {m1 m2 : Sg} {i f q : Nat} {cs ms ca ma w : Option Nat} (h : ST m1 m2 i f q cs ms ca ma w) : CSt m1 (8 + 15 * i) := by
  obtain ⟨hf, hq, e4, e5, e6, hQ, ⟨l1, l2, l3⟩, hS, ⟨p1, p2, p3, p4⟩, ⟨b1, b2, b3, b4, b5⟩, hW⟩ := h
  refine ⟨⟨f, hf, e4⟩, ?_, ?_, l1, l2, l3⟩
  · rcases cs with _ | c
    · exact Or.inl p1
    · exact Or.inr ⟨c, p3 c rfl, p1⟩
  · rcases ca with _ | c
    · exact Or.inl b1
    · obtain ⟨q1, b, hb, q2⟩ := b5 (Or.inl (Option.some_ne_none c))
      exact Or.inr ⟨c, b3 c rfl, b1, b, hb, q1.trans q2⟩
