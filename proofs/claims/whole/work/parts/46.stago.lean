abbrev goStop (ln : Int32) (m2 : Sg) (i : Nat) : Prop := ln = 0 ∧ mSaid m2 i = 1
abbrev goLast (m2 : Sg) (i k : Nat) : Prop := nI k = 13 * mSize m2 i - 3
def goP (ln : Int32) (m2 : Sg) (i : Nat) : Option Nat → Option Nat
  | none => none
  | some k => if goStop ln m2 i then none else if goLast m2 i k then none else some (k + 1)
def goW (ln : Int32) (m2 : Sg) (i T : Nat) (w : Option Nat) : Option Nat → Option Nat
  | none => w
  | some k => if goStop ln m2 i then w else if goLast m2 i k then some T else w
def prd (o : Option Nat) : Option Nat := o.map (fun k => k - 1)
theorem mSaid_go1 {m m' : Sg} {i : Nat} (h : ∀ b k, ¬ (b = 135 ∧ k = i) → m' b k = m b k) : mSaid m' i = mSaid m i ∧ mSize m' i = mSize m i := by
  have e : ∀ c, c < 6 → qx m' i 0 c = qx m i 0 c := fun c _ => h _ _ (by omega)
  have e4 : m' 134 i = m 134 i := h _ _ (by omega)
  constructor
  · unfold mSaid
    rw [e4, mByte_t, mByte_t, tB_cg e]
  · rw [mSize_t, mSize_t]; unfold tS; rw [e 3 (by decide)]
theorem st_go {m1 m2 : Sg} {i f q T : Nat} {p a w : Option Nat} {ln : Int32} (h : ST m1 m2 i f q p p (adv a) a w) (h7 : p ≠ none → m1 (8 + 15 * i) 7 = mSaid m2 i) (hk : ∀ k, p = some k → w = none ∧ 0 < q ∧ ∀ n y, EV (qx m2 i 0) n y → y ≤ 3 ∧ k + 3 ≤ 13 * (n + 7)) (hT : T < 200000) (t1 : m1 0 5 = nI T) (t2 : m2 128 1 = nI T) : ST (cSeeS ln m1 i) (mGo ln m2 i) i f q (prd (goP ln m2 i p)) (goP ln m2 i p) (adv a) (adv a) (goW ln m2 i T w p) := by
  have h9 := st_go1 h
  have b4 := h.2.2.2.2.2.2.2.2.2.1
  obtain ⟨g1, g2⟩ := m_go1 b4.2.1 b4.2.2.2.1
  obtain ⟨es, ez⟩ := mSaid_go1 g2
  have eg : ∀ k, m2 133 k = mGo1 m2 i 133 k := fun k => (g2 _ _ (by omega)).symm
  have eT : mGo1 m2 i 128 1 = nI T := (g2 _ _ (by omega)).trans t2
  unfold mGo mGo2 cSeeS cSee
  have p2 := h9.2.2.2.2.2.2.2.2.1.2.1
  have p1 := h9.2.2.2.2.2.2.2.2.1.1
  have p4 := h9.2.2.2.2.2.2.2.2.1.2.2.2
  rcases p with _ | k
  · rw [if_pos (show m1 (8 + 15 * i) 6 = -1 from p1), if_neg (show ¬ 0 ≤ mGo1 m2 i 134 i by rw [p2]; decide)]
    exact h9
  · have hk273 := p4 k rfl
    obtain ⟨rfl, hq0, hn⟩ := hk k rfl
    have h7 := h7 (Option.some_ne_none k)
    have e6 : m1 (8 + 15 * i) 6 = nI k := p1
    have e34 : mGo1 m2 i 134 i = nI k := p2
    rw [if_neg (show ¬ m1 (8 + 15 * i) 6 = -1 by rw [e6]; exact neg1_ne (by omega)), if_pos (show 0 ≤ mGo1 m2 i 134 i by rw [e34]; exact (nI_gel (n := 0) (by omega) (by decide)).mpr (Nat.zero_le _))]
    rw [es, ez, h7]
    by_cases c : goStop ln m2 i
    · have eP : goP ln m2 i (some k) = none := if_pos c
      have eW : goW ln m2 i T none (some k) = none := if_pos c
      rw [eP, eW, if_pos (show mSaid m2 i = 1 ∧ ln = 0 from ⟨c.2, c.1⟩), if_pos (show ln = 0 ∧ mSaid m2 i = 1 from c)]
      exact st_stop h9
    · rw [if_neg (show ¬ (mSaid m2 i = 1 ∧ ln = 0) from fun q => c ⟨q.2, q.1⟩), if_neg (show ¬ (ln = 0 ∧ mSaid m2 i = 1) from c)]
      obtain ⟨n, y, ev, te, -⟩ := h9.2.2.2.2.2.1 0 hq0
      rw [show (f + 0) % 6 = f by have := h9.1; omega] at te
      have ev2 : EV (qx m2 i 0) n y := ev.cg (fun c _ => (eg _).symm)
      obtain ⟨hy, hk3⟩ := hn n y ev2
      have hn9 := ev.2.2.2.1
      have eH : cHead m1 (8 + 15 * i) = 8 + 15 * i + 3 + 2 * f := by unfold cHead; rw [h9.2.2.1, nI_clamp (by have := h9.1; omega)]
      have e13 : 13 * mSize m2 i - 3 = nI (13 * (n + 7) - 3) := by
        rw [mSize_t, ev2.size, nI_ml]; exact nI_sl (by omega)
      have eL : (m1 (8 + 15 * i + 3 + 2 * f) 1).toNatClampNeg = n + 7 := by rw [te.1, nI_clamp (by omega)]
      rw [e34, e6, eH, eL, nI_al]
      by_cases d : goLast m2 i k
      · have eP : goP ln m2 i (some k) = none := by show (if _ then none else _) = _; rw [if_neg c, if_pos d]
        have eW : goW ln m2 i T none (some k) = some T := by show (if _ then none else _) = _; rw [if_neg c, if_pos d]
        have dk : k = 13 * (n + 7) - 3 := (nI_eq (by omega) (by omega)).mp (by rw [← e13]; exact d)
        rw [eP, eW, if_neg (by rw [nI_ltI (by omega) (by omega)]; omega), if_pos (show nI k = 13 * mSize m2 i - 3 from d), t1, eT]
        exact st_said h9 hq0 ev te hy hT
      · have eP : goP ln m2 i (some k) = some (k + 1) := by show (if _ then none else _) = _; rw [if_neg c, if_neg d]
        have eW : goW ln m2 i T none (some k) = none := by show (if _ then none else _) = _; rw [if_neg c, if_neg d]
        have dk : k ≠ 13 * (n + 7) - 3 := fun q => d (by show nI k = _; rw [e13, q])
        rw [eP, eW, if_pos (by rw [nI_ltI (by omega) (by omega)]; omega), if_neg (show ¬ nI k = 13 * mSize m2 i - 3 from d)]
        refine h9.upd (fun _ _ _ => rfl) (fun a k x => su_na (by omega)) ⟨p1, ?_, ?_, ?_⟩ ?_
        · rw [su_at]; rfl
        · rintro k' hk'; cases hk'; show k + 1 - 1 < 272; omega
        · rintro k' hk'; cases hk'; omega
        · have hB := h9.2.2.2.2.2.2.2.2.2.1
          unfold SB at hB ⊢
          rw [su_na (show (135 : Nat) ≠ 134 by decide), su_na (show (136 : Nat) ≠ 134 by decide)]
          exact hB
