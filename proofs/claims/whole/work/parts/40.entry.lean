/-! an entry of a queue: six numbers, and the bytes they make -/
def tP (x : Nat → Int32) (i : Nat) : Int32 := match i with
  | 0 => 176 + 4 * x 0 - (if x 5 ≤ 0 then 0 else 32)
  | 1 => x 1 / 256
  | 2 => x 1 - x 1 / 256 * 256
  | 3 => x 2 / 256
  | 4 => x 2 - x 2 / 256 * 256
  | 5 => x 3
  | i => (x 4 + nI i - 6) - (x 4 + nI i - 6) / 256 * 256
def tC (x : Nat → Int32) : Nat → Int32
  | 0 => 255
  | k + 1 => tC x k ^^^ tP x k
def tS (x : Nat → Int32) : Int32 := 8 + (x 3 - x 3 / 128 * 128)
def tB (x : Nat → Int32) (i : Nat) : Int32 := if tS x ≤ nI (i + 1) then tC x i else tP x i
def qx (m : Sg) (i j : Nat) : Nat → Int32 := fun c => m 133 (36 * i + 6 * j + c)
theorem qx0 (m : Sg) (i c : Nat) : m 133 (36 * i + c) = qx m i 0 c := by unfold qx; rw [Nat.mul_zero, Nat.add_zero]
theorem qx0' (m : Sg) (i : Nat) : m 133 (36 * i) = qx m i 0 0 := qx0 m i 0
theorem mPlain_t (m : Sg) (i k : Nat) : mPlain m i k = tP (qx m i 0) k := by
  unfold mPlain tP
  rw [qx0' m]
  split <;> simp only [qx0 m]
theorem mChk_t (m : Sg) (i k : Nat) : mChk m i k = tC (qx m i 0) k := by
  induction k with
  | zero => rfl
  | succ k ih => show _ ^^^ _ = _ ^^^ _; rw [ih, mPlain_t]
theorem mSize_t (m : Sg) (i : Nat) : mSize m i = tS (qx m i 0) := by unfold mSize tS; rw [qx0 m]
theorem mByte_t (m : Sg) (i k : Nat) : mByte m i k = tB (qx m i 0) k := by unfold mByte tB; rw [mSize_t, mChk_t, mPlain_t]
/-- a good entry of length n + 7 that was said y times -/
def EV (x : Nat → Int32) (n y : Nat) : Prop := (∃ p, p < 4 ∧ x 0 = nI p) ∧ (∃ s, s < 65536 ∧ x 1 = nI s) ∧ (∃ a, a < 65536 ∧ x 2 = nI a) ∧ (1 ≤ n ∧ n ≤ 14 ∧ ∃ g, g < 2 ∧ x 3 = nI (128 * g + (n - 1))) ∧ (∃ b, b < 256 ∧ x 4 = nI b) ∧ y ≤ 4 ∧ x 5 = nI y
theorem EV.size {x : Nat → Int32} {n y : Nat} (h : EV x n y) : tS x = nI (n + 7) := by
  obtain ⟨-, -, -, ⟨h1, h2, g, hg, e3⟩, -⟩ := h
  unfold tS
  rw [e3, nI_rl (by omega) (by decide) (by decide), show (128 * g + (n - 1)) % 128 = n - 1 by omega]
  have := nI_add 8 (n - 1)
  rw [show 8 + (n - 1) = n + 7 by omega] at this
  exact this
theorem EV.plain {x : Nat → Int32} {n y : Nat} (h : EV x n y) {i : Nat} (hi : i < 1000) : ∃ b, b < 256 ∧ tP x i = nI b := by
  obtain ⟨⟨p, hp, e0⟩, ⟨s, hs, e1⟩, ⟨a, ha, e2⟩, ⟨h1, h2, g, hg, e3⟩, ⟨b, hb, e4⟩, hy, e5⟩ := h
  unfold tP
  split
  · rw [e0, e5]
    have e : (176 : Int32) + 4 * nI p = nI (176 + 4 * p) := by rw [nI_ml]; exact nI_add 176 (4 * p)
    rw [e]
    by_cases c : nI y ≤ 0
    · rw [if_pos c]; exact ⟨176 + 4 * p, by omega, by have := nI_sl (a := 176 + 4 * p) (n := 0) (Nat.zero_le _); exact this⟩
    · rw [if_neg c]; exact ⟨176 + 4 * p - 32, by omega, nI_sl (by omega)⟩
  · exact ⟨s / 256, by omega, by rw [e1]; exact nI_dl (by omega) (by decide) (by decide)⟩
  · exact ⟨s % 256, by omega, by rw [e1]; exact nI_rl (by omega) (by decide) (by decide)⟩
  · exact ⟨a / 256, by omega, by rw [e2]; exact nI_dl (by omega) (by decide) (by decide)⟩
  · exact ⟨a % 256, by omega, by rw [e2]; exact nI_rl (by omega) (by decide) (by decide)⟩
  · exact ⟨128 * g + (n - 1), by omega, e3⟩
  · rename_i a0 a1 a2 a3 a4 a5
    have b0 : ¬ i = 0 := a0
    have b1 : ¬ i = 1 := a1
    have b2 : ¬ i = 2 := a2
    have b3 : ¬ i = 3 := a3
    have b4 : ¬ i = 4 := a4
    have b5 : ¬ i = 5 := a5
    have h6 : 6 ≤ i := by omega
    refine ⟨(b + i - 6) % 256, by omega, ?_⟩
    rw [e4, nI_add, nI_sl (by omega)]
    exact nI_rl (by omega) (by decide) (by decide)
theorem nI_xor (a b : Nat) : nI a ^^^ nI b = nI (a ^^^ b) := by
  show Int32.ofNat a ^^^ Int32.ofNat b = Int32.ofNat (a ^^^ b)
  apply Int32.toBitVec_inj.mp
  show BitVec.ofNat 32 a ^^^ BitVec.ofNat 32 b = BitVec.ofNat 32 (a ^^^ b)
  rw [BitVec.ofNat_xor]
theorem xor256 {a b : Nat} (ha : a < 256) (hb : b < 256) : a ^^^ b < 256 := Nat.xor_lt_two_pow (n := 8) ha hb
theorem EV.chk {x : Nat → Int32} {n y : Nat} (h : EV x n y) {i : Nat} (hi : i < 1000) : ∃ b, b < 256 ∧ tC x i = nI b := by
  induction i with
  | zero => exact ⟨255, by decide, rfl⟩
  | succ i ih =>
    obtain ⟨c, hc, ec⟩ := ih (by omega)
    obtain ⟨b, hb, eb⟩ := h.plain (i := i) (by omega)
    exact ⟨c ^^^ b, xor256 hc hb, by show tC x i ^^^ tP x i = _; rw [ec, eb, nI_xor]⟩
theorem EV.byte {x : Nat → Int32} {n y : Nat} (h : EV x n y) {i : Nat} (hi : i < 1000) : ∃ b, b < 256 ∧ tB x i = nI b := by
  unfold tB
  split
  · exact h.chk hi
  · exact h.plain hi
/-- a telegram of the class that is this entry -/
def TE (m : Sg) (T : Nat) (x : Nat → Int32) (n : Nat) : Prop := m T 1 = nI (n + 7) ∧ m T 2 = x 0 ∧ m T 3 = x 5 ∧ ∀ k, k < n + 7 → m (T + 1) k = tB x k
