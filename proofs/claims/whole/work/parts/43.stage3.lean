def adv : Option Nat → Option Nat
  | none => none
  | some k => if k < 10 then some (k + 1) else none
theorem adv_lt {k : Nat} (h : k < 10) : adv (some k) = some (k + 1) := if_pos h
theorem adv_ge {k : Nat} (h : ¬ k < 10) : adv (some k) = none := if_neg h
def SV (m2 : Sg) (i : Nat) (a ms : Option Nat) : Int32 := match a with
  | some k => bitOf (m2 136 i) k
  | none => match ms with
    | none => 1
    | some _ => mSaid m2 i
abbrev BgC (m1 : Sg) (A : Nat) : Prop := ¬ m1 A 5 ≤ 0 ∧ m1 A 8 = 0 ∧ ¬ m1 0 6 < cIdle m1 (cHead m1 A)
def nxt (b : Prop) [Decidable b] : Option Nat → Option Nat
  | some c => some (c + 1)
  | none => if b then some 0 else none
theorem bitOf_hi (v : Int32) {k : Nat} (h : 10 ≤ k) : bitOf v k = 1 := by
  unfold bitOf; rw [if_neg (by omega), if_pos (by omega), if_neg (by omega)]
theorem mSaid_t {m2 : Sg} {i p : Nat} (hp : p < 2147483648) (e : m2 134 i = nI p) : mSaid m2 i = bitOf (tB (qx m2 i 0) (p / 13)) (p % 13) := by
  unfold mSaid
  rw [e, nI_clamp hp, mByte_t]
  by_cases c : p % 13 ≤ 10
  · rw [if_pos c]
  · rw [if_neg c, bitOf_hi _ (by omega)]
theorem nI_zero : nI 0 = 0 := rfl
theorem st_next {m1 m2 : Sg} {i f q : Nat} {cs ms a w : Option Nat} (h : ST m1 m2 i f q cs ms a a w) (hx : a ≠ none → cs = none ∧ ms = none) (hc : a = none → ms = nxt (BgC m1 (8 + 15 * i)) cs) (hk : ∀ k, ms = some k → 0 < q ∧ ∀ n y, EV (qx m2 i 0) n y → k + 3 ≤ 13 * (n + 7)) : ST (cNx m1 i) m2 i f q ms ms (adv a) a w ∧ (a = none → cNx m1 i (8 + 15 * i) 7 = SV m2 i a ms) ∧ cNV m1 i = SV m2 i a ms := by
  have h' := h
  obtain ⟨hf, hq, e4, e5, e6, hQ, hL, hS, ⟨p1, p2, p3, p4⟩, ⟨b1, b2, b3, b4, b5⟩, hW⟩ := h
  unfold cNx cNV cNextS cNextV
  have hms : ∀ k, ms = some k → k < 272 := by
    intro k ek
    obtain ⟨hq0, hn⟩ := hk k ek
    obtain ⟨n, y, ev, te, -⟩ := hQ 0 hq0
    have := hn n y ev
    have := ev.2.2.2.1
    omega
  rcases a with _ | k
  · have e10 : m1 (8 + 15 * i) 10 = -1 := b1
    rw [if_pos e10, if_pos e10]
    have hc := hc rfl
    have key : cSay m1 (8 + 15 * i) (m1 0 6) (8 + 15 * i) 6 = enc ms ∧ ∀ a k, ¬ (a = 8 + 15 * i ∧ k = 6) → cSay m1 (8 + 15 * i) (m1 0 6) a k = m1 a k := by
      unfold cSay
      rcases cs with _ | c
      · have e6 : m1 (8 + 15 * i) 6 = -1 := p1
        rw [if_pos e6]
        by_cases d : BgC m1 (8 + 15 * i)
        · rw [if_pos (show _ ∧ _ ∧ _ from d)]
          have : ms = some 0 := by rw [hc]; exact if_pos d
          subst this
          exact ⟨su_at _ _ _ _, fun a k x => su_ne x⟩
        · rw [if_neg (show ¬ (_ ∧ _ ∧ _) from d)]
          have : ms = none := by rw [hc]; exact if_neg d
          subst this
          exact ⟨e6, fun a k x => rfl⟩
      · have e6 : m1 (8 + 15 * i) 6 = nI c := p1
        have hc9 := p3 c rfl
        rw [if_neg (by rw [e6]; exact neg1_ne (by omega))]
        have : ms = some (c + 1) := hc
        subst this
        refine ⟨?_, fun a k x => su_ne x⟩
        rw [su_at, e6]; exact nI_al c 1
    generalize cSay m1 (8 + 15 * i) (m1 0 6) = m' at key ⊢
    obtain ⟨k6, ko⟩ := key
    have hsent : cSent m' (8 + 15 * i) = SV m2 i none ms := by
      unfold cSent
      rw [k6]
      rcases ms with _ | p
      · rw [if_pos (show enc none = -1 from rfl)]; rfl
      · have hp := hms p rfl
        obtain ⟨hq0, hn⟩ := hk p rfl
        obtain ⟨n, y, ev, ⟨t1, t2, t3, t4⟩, -⟩ := hQ 0 hq0
        have hn := hn n y ev
        have e : enc (some p) = nI p := rfl
        have eT : cHead m' (8 + 15 * i) = 8 + 15 * i + 3 + 2 * ((f + 0) % 6) := by
          unfold cHead; rw [ko _ _ (by omega), e4, nI_clamp (by omega)]; omega
        rw [e, if_neg (neg1_ne (by omega)), nI_clamp (by omega)]
        unfold cLine
        rw [eT, ko _ _ (by omega), t4 (p / 13) (by omega)]
        exact (mSaid_t (by omega) p2).symm
    refine ⟨?_, fun _ => ?_, hsent⟩
    · refine h'.upd (fun a k x => ?_) (fun _ _ _ => rfl) ⟨?_, p2, hms, p4⟩ ?_
      · rw [su_ne (by omega), ko _ _ (by omega)]
      · rw [su_nj (by decide)]; exact k6
      · refine ⟨?_, b2, (by rintro k hk; cases hk), b4, (fun q => q.elim (fun q => absurd rfl q) (fun q => absurd rfl q))⟩
        rw [su_nj (by decide), ko _ _ (by omega)]; exact e10
    · rw [su_at]; exact hsent
  · obtain ⟨rfl, rfl⟩ := hx (Option.some_ne_none k)
    have hk11 := b3 k rfl
    have e10 : m1 (8 + 15 * i) 10 = nI k := b1
    have n10 : ¬ m1 (8 + 15 * i) 10 = -1 := by rw [e10]; exact neg1_ne (by omega)
    obtain ⟨q1, b, hb, q2⟩ := b5 (Or.inl (Option.some_ne_none k))
    rw [if_neg n10, if_neg n10]
    refine ⟨?_, fun q => absurd q (Option.some_ne_none k), ?_⟩
    · unfold cAnsN
      refine h'.upd (fun a k x => su_ne (by omega)) (fun _ _ _ => rfl) ⟨?_, p2, p3, p4⟩ ?_
      · rw [su_nj (by decide)]; exact p1
      · refine ⟨?_, b2, ?_, b4, ?_⟩
        · rw [su_at, e10]
          by_cases d : k < 10
          · rw [if_pos (by rw [nI_al, nI_ltl (by omega) (by decide)]; exact Nat.succ_lt_succ d)]
            rw [adv_lt d]; exact nI_al k 1
          · rw [if_neg (by rw [nI_al, nI_ltl (by omega) (by decide)]; exact fun q => d (Nat.lt_of_succ_lt_succ q))]
            rw [adv_ge d]; rfl
        · intro k' hk'
          by_cases d : k < 10
          · rw [adv_lt d] at hk'; cases hk'; omega
          · rw [adv_ge d] at hk'; cases hk'
        · intro _; rw [su_nj (by decide)]; exact ⟨q1, b, hb, q2⟩
    · rw [e10, nI_clamp (by omega), q1]; rfl
