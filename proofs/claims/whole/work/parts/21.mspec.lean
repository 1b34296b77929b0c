/-! the reference as functions on memories -/
def itr (f : Sg → Nat → Sg) (m : Sg) : Nat → Sg
  | 0 => m
  | n + 1 => f (itr f m n) n
theorem nI_of_ge {x : Int32} (h : 0 ≤ x) : ∃ n : Nat, n < 2147483648 ∧ x = nI n ∧ x.toNatClampNeg = n := by
  obtain ⟨j, hj, e⟩ := nI_of (x := x) (fun q => by rw [Int32.lt_iff_toInt_lt] at q; rw [Int32.le_iff_toInt_le] at h; omega)
  exact ⟨j, hj, e, by rw [e]; exact nI_clamp hj⟩
def par8 (b : Int32) : Nat → Int32
  | 0 => 0
  | n + 1 => par8 b n ^^^ ((b >>> (nI n &&& 31)) &&& 1)
def bitOf (b : Int32) (k : Nat) : Int32 := if k = 0 then 0 else if 9 ≤ k then (if k = 9 then par8 b 8 else 1) else (b >>> ((nI k - 1) &&& 31)) &&& 1
def mSize (m : Sg) (s : Nat) : Int32 := 8 + (m 133 (36 * s + 3) - m 133 (36 * s + 3) / 128 * 128)
def mPlain (m : Sg) (s i : Nat) : Int32 := match i with
  | 0 => 176 + 4 * m 133 (36 * s) - (if m 133 (36 * s + 5) ≤ 0 then 0 else 32)
  | 1 => m 133 (36 * s + 1) / 256
  | 2 => m 133 (36 * s + 1) - m 133 (36 * s + 1) / 256 * 256
  | 3 => m 133 (36 * s + 2) / 256
  | 4 => m 133 (36 * s + 2) - m 133 (36 * s + 2) / 256 * 256
  | 5 => m 133 (36 * s + 3)
  | i => (m 133 (36 * s + 4) + nI i - 6) - (m 133 (36 * s + 4) + nI i - 6) / 256 * 256
def mChk (m : Sg) (s : Nat) : Nat → Int32
  | 0 => 255
  | k + 1 => mChk m s k ^^^ mPlain m s k
def mByte (m : Sg) (s i : Nat) : Int32 := if mSize m s ≤ nI (i + 1) then mChk m s i else mPlain m s i
def mSaid (m : Sg) (s : Nat) : Int32 := if (m 134 s).toNatClampNeg % 13 ≤ 10 then bitOf (mByte m s ((m 134 s).toNatClampNeg / 13)) ((m 134 s).toNatClampNeg % 13) else 1
abbrev mBegC (m : Sg) (s : Nat) : Prop := ¬ 0 ≤ m 134 s ∧ ¬ m 132 s ≤ 0 ∧ ¬ 0 ≤ m 137 s ∧ ¬ m 128 2 < (if ¬ m 133 (36 * s) < 2 ∧ m 133 (36 * s + 5) = 0 then 53 else 50)
def mBegS (m : Sg) (s : Nat) : Sg := if mBegC m s then su m 134 s 0 else m
abbrev mDue (m : Sg) : Prop := ¬ m 128 28 = 0 ∧ m 128 32 = 0 ∧ m 128 1 = m 128 29 + 14
def mAim (m : Sg) : Int32 := 256 * m 145 3 + m 145 4
abbrev mMeant (m : Sg) (s : Nat) : Prop := (m 145 5 < 128 ∧ m 129 s = mAim m) ∨ (¬ m 145 5 < 128 ∧ ¬ 256 ≤ mAim m ∧ ¬ m 130 (256 * s + (mAim m).toNatClampNeg) = 0)
def mAnsV (m : Sg) (s : Nat) : Int32 := if m 128 31 = 0 then 12 else if m 131 s = 0 then 204 else 192
def mAnsS (m : Sg) (s : Nat) : Sg := if ¬ 0 ≤ m 134 s ∧ ¬ 0 ≤ m 137 s ∧ mMeant m s then su (su m 135 s 0) 136 s (mAnsV m s) else m
def mBegin (m : Sg) : Sg := if mDue (itr mBegS m 8) then itr mAnsS (itr mBegS m 8) 8 else itr mBegS m 8
theorem kk {k : Kk} {l : List (Nat × Value)} {X : Mm} {m m' : Sg} (e : m = m') (h : k l [] (xw X m)) : k l [] (xw X m') := e ▸ h
