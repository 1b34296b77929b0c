/-! the pure part: memories as functions, the shape behind the constructors -/
abbrev Sg : Type := Nat → Nat → Int32
def su (m : Sg) (a j : Nat) (v : Int32) : Sg := fun b i => if b = a ∧ i = j then v else m b i
def xw (X : Mm) (m : Sg) : Mm := xmk (xn X) (xc X) (xs X) (xk X) (xl X) m (xr X) (xL X) (xD X)
theorem xsm_w (X : Mm) (a j : Nat) (v : Int32) : xsm X a j v = xw X (su (xm X) a j v) := by
  have e : (fun b => if b = a then upd (xm X b) j v else xm X b) = su (xm X) a j v := by
    funext b i
    by_cases hb : b = a
    · by_cases hi : i = j
      · simp [su, upd, hb, hi]
      · simp [su, upd, hb, hi]
    · simp [su, hb]
  show xmk _ _ _ _ _ (fun b => if b = a then upd (xm X b) j v else xm X b) _ _ _ = _
  rw [e]
  rfl
theorem xw_n (X : Mm) (m : Sg) : xn (xw X m) = xn X := rfl
theorem xw_k (X : Mm) (m : Sg) : xk (xw X m) = xk X := rfl
theorem xw_l (X : Mm) (m : Sg) : xl (xw X m) = xl X := rfl
theorem xw_r (X : Mm) (m : Sg) : xr (xw X m) = xr X := rfl
theorem xw_m (X : Mm) (m : Sg) : xm (xw X m) = m := rfl
theorem xw_w (X : Mm) (m m' : Sg) : xw (xw X m) m' = xw X m' := rfl
theorem xw_self (X : Mm) : xw X (xm X) = X := rfl
theorem su_at (m : Sg) (a j : Nat) (v : Int32) : su m a j v a j = v := by simp [su]
theorem su_ne {m : Sg} {a j b i : Nat} {v : Int32} (h : ¬ (b = a ∧ i = j)) : su m a j v b i = m b i := by simp only [su, if_neg h]
theorem su_nj {m : Sg} {a j b i : Nat} {v : Int32} (h : i ≠ j) : su m a j v b i = m b i := su_ne (fun q => h q.2)
theorem su_na {m : Sg} {a j b i : Nat} {v : Int32} (h : b ≠ a) : su m a j v b i = m b i := su_ne (fun q => h q.1)
-- the shape: kinds, lengths, references of the cells 0 .. 147
def shk (k : Nat) : Nat :=
  if k < 8 then (match k with | 0 => 3 | 1 => 12 | 2 => 0 | 6 => 11 | _ => 10)
  else if k < 128 then (match (k - 8) % 15 with | 0 => 1 | 1 => 11 | 2 => 13 | q => if q % 2 = 1 then 2 else 10)
  else match k with | 128 => 4 | 130 => 11 | 131 => 11 | 141 => 11 | 146 => 14 | 147 => 15 | _ => 10
def shl (k : Nat) : Nat :=
  if k < 8 then (match k with | 1 => 8 | 3 => 600 | 4 => 600 | 5 => 5 | 6 => 2048 | 7 => 64 | _ => 0)
  else if k < 128 then (match (k - 8) % 15 with | 0 => 0 | 1 => 256 | 2 => 6 | q => if q % 2 = 1 then 0 else 21)
  else match k with | 128 => 0 | 130 => 2048 | 133 => 288 | 141 => 2048 | 142 => 64 | 143 => 8000 | 144 => 5 | 145 => 8000 | 146 => 1 | 147 => 1 | _ => 8
def shr (k j : Nat) : Option Nat :=
  if k < 8 then (match k, j with | 0, 0 => some 1 | 0, 1 => some 2 | 0, 2 => some 6 | 0, 4 => some 7 | 1, j => if j < 8 then some (8 + 15 * j) else none | 2, 0 => some 3 | 2, 1 => some 4 | 2, 2 => some 5 | _, _ => none)
  else if k < 128 then (match (k - 8) % 15, j with | 0, 0 => some (k + 1) | 0, 1 => some (k + 2) | 2, j => if j < 6 then some (k + 1 + 2 * j) else none | q, 0 => if q % 2 = 1 ∧ 3 ≤ q then some (k + 1) else none | _, _ => none)
  else match k with | 128 => (if 3 ≤ j ∧ j ≤ 15 then some (126 + j) else match j with | 17 => some 142 | 26 => some 143 | 27 => some 144 | 34 => some 145 | _ => none) | _ => none
def Sh (X : Mm) : Prop := xn X = 148 ∧ (∀ k, k < 148 → xk X k = shk k) ∧ (∀ k, k < 148 → xl X k = shl k) ∧ ∀ k j, k < 148 → j < 16 ∨ k = 128 → shr k j ≠ none → xr X k j = shr k j
theorem Sh.w {X : Mm} (h : Sh X) (m : Sg) : Sh (xw X m) := h
theorem sh_k {X : Mm} (h : Sh X) {k v : Nat} (hk : k < 148) (e : shk k = v) : xk X k = v := (h.2.1 k hk).trans e
theorem sh_l {X : Mm} (h : Sh X) {k v : Nat} (hk : k < 148) (e : shl k = v) : xl X k = v := (h.2.2.1 k hk).trans e
theorem sh_r {X : Mm} (h : Sh X) {k j v : Nat} (hk : k < 148) (hj : j < 16 ∨ k = 128) (e : shr k j = some v) : xr X k j = some v := (h.2.2.2 k j hk hj (by rw [e]; exact Option.some_ne_none v)).trans e
theorem shM {X : Mm} (hS : Sh X) : xn X = 148 ∧ xk X 128 = 4 ∧ xr X 128 3 = some 129 ∧ xr X 128 4 = some 130 ∧ xr X 128 5 = some 131 ∧ xr X 128 6 = some 132 ∧ xr X 128 7 = some 133 ∧ xr X 128 8 = some 134 ∧ xr X 128 9 = some 135 ∧ xr X 128 10 = some 136 ∧ xr X 128 11 = some 137 ∧ xr X 128 12 = some 138 ∧ xr X 128 13 = some 139 ∧ xr X 128 14 = some 140 ∧ xr X 128 15 = some 141 ∧ xr X 128 17 = some 142 ∧ xr X 128 26 = some 143 ∧ xr X 128 27 = some 144 ∧ xr X 128 34 = some 145 ∧ xk X 129 = 10 ∧ xl X 129 = 8 ∧ xk X 130 = 11 ∧ xl X 130 = 2048 ∧ xk X 131 = 11 ∧ xl X 131 = 8 ∧ xk X 132 = 10 ∧ xl X 132 = 8 ∧ xk X 133 = 10 ∧ xl X 133 = 288 ∧ xk X 134 = 10 ∧ xl X 134 = 8 ∧ xk X 135 = 10 ∧ xl X 135 = 8 ∧ xk X 136 = 10 ∧ xl X 136 = 8 ∧ xk X 137 = 10 ∧ xl X 137 = 8 ∧ xk X 138 = 10 ∧ xl X 138 = 8 ∧ xk X 139 = 10 ∧ xl X 139 = 8 ∧ xk X 140 = 10 ∧ xl X 140 = 8 ∧ xk X 141 = 11 ∧ xl X 141 = 2048 ∧ xk X 142 = 10 ∧ xl X 142 = 64 ∧ xk X 143 = 10 ∧ xl X 143 = 8000 ∧ xk X 144 = 10 ∧ xl X 144 = 5 ∧ xk X 145 = 10 ∧ xl X 145 = 8000 := ⟨hS.1, sh_k hS (by decide) rfl, sh_r hS (by decide) (by decide) rfl, sh_r hS (by decide) (by decide) rfl, sh_r hS (by decide) (by decide) rfl, sh_r hS (by decide) (by decide) rfl, sh_r hS (by decide) (by decide) rfl, sh_r hS (by decide) (by decide) rfl, sh_r hS (by decide) (by decide) rfl, sh_r hS (by decide) (by decide) rfl, sh_r hS (by decide) (by decide) rfl, sh_r hS (by decide) (by decide) rfl, sh_r hS (by decide) (by decide) rfl, sh_r hS (by decide) (by decide) rfl, sh_r hS (by decide) (by decide) rfl, sh_r hS (by decide) (by decide) rfl, sh_r hS (by decide) (by decide) rfl, sh_r hS (by decide) (by decide) rfl, sh_r hS (by decide) (by decide) rfl, sh_k hS (by decide) rfl, sh_l hS (by decide) rfl, sh_k hS (by decide) rfl, sh_l hS (by decide) rfl, sh_k hS (by decide) rfl, sh_l hS (by decide) rfl, sh_k hS (by decide) rfl, sh_l hS (by decide) rfl, sh_k hS (by decide) rfl, sh_l hS (by decide) rfl, sh_k hS (by decide) rfl, sh_l hS (by decide) rfl, sh_k hS (by decide) rfl, sh_l hS (by decide) rfl, sh_k hS (by decide) rfl, sh_l hS (by decide) rfl, sh_k hS (by decide) rfl, sh_l hS (by decide) rfl, sh_k hS (by decide) rfl, sh_l hS (by decide) rfl, sh_k hS (by decide) rfl, sh_l hS (by decide) rfl, sh_k hS (by decide) rfl, sh_l hS (by decide) rfl, sh_k hS (by decide) rfl, sh_l hS (by decide) rfl, sh_k hS (by decide) rfl, sh_l hS (by decide) rfl, sh_k hS (by decide) rfl, sh_l hS (by decide) rfl, sh_k hS (by decide) rfl, sh_l hS (by decide) rfl, sh_k hS (by decide) rfl, sh_l hS (by decide) rfl⟩
theorem shC {X : Mm} (hS : Sh X) : xn X = 148 ∧ xk X 0 = 3 ∧ xk X 1 = 12 ∧ xk X 2 = 0 ∧ xk X 6 = 11 ∧ xk X 3 = 10 ∧ xk X 4 = 10 ∧ xk X 5 = 10 ∧ xk X 7 = 10 ∧ xl X 1 = 8 ∧ xl X 3 = 600 ∧ xl X 4 = 600 ∧ xl X 5 = 5 ∧ xl X 6 = 2048 ∧ xl X 7 = 64 ∧ xr X 0 0 = some 1 ∧ xr X 0 1 = some 2 ∧ xr X 0 2 = some 6 ∧ xr X 0 4 = some 7 ∧ xr X 2 0 = some 3 ∧ xr X 2 1 = some 4 ∧ xr X 2 2 = some 5 := ⟨hS.1, sh_k hS (by decide) rfl, sh_k hS (by decide) rfl, sh_k hS (by decide) rfl, sh_k hS (by decide) rfl, sh_k hS (by decide) rfl, sh_k hS (by decide) rfl, sh_k hS (by decide) rfl, sh_k hS (by decide) rfl, sh_l hS (by decide) rfl, sh_l hS (by decide) rfl, sh_l hS (by decide) rfl, sh_l hS (by decide) rfl, sh_l hS (by decide) rfl, sh_l hS (by decide) rfl, sh_r hS (by decide) (by decide) rfl, sh_r hS (by decide) (by decide) rfl, sh_r hS (by decide) (by decide) rfl, sh_r hS (by decide) (by decide) rfl, sh_r hS (by decide) (by decide) rfl, sh_r hS (by decide) (by decide) rfl, sh_r hS (by decide) (by decide) rfl⟩
theorem i_for {ks : List Nat} {F : Kk → Kk} {N : Nat} (Lf : Nat → List (Nat × Value)) (P : Nat → Mm → Prop) {l : List (Nat × Value)} {X : Mm} (hl : pickl ks l = Lf 0) (h0 : P 0 X)
    (hs : ∀ (i : Nat) (Y : Mm) (k : Kk), i < N → P i Y → (∀ l Z, pickl ks l = Lf (i + 1) → P (i + 1) Z → k l [] Z) → F k (Lf i) [] Y) (he : ∀ (Y : Mm) (k : Kk), P N Y → F k (Lf N) [] Y) : i_loop ks F l [] X := by
  refine ⟨fun n l st Y => ∃ i, n = N - i ∧ i ≤ N ∧ l = Lf i ∧ st = [] ∧ P i Y, ⟨N, 0, rfl, Nat.zero_le _, hl, rfl, h0⟩, ?_⟩
  rintro n l st Y ⟨i, rfl, hi, rfl, rfl, hP⟩
  by_cases hlt : i < N
  · exact hs i Y _ hlt hP (fun l Z h1 h2 => ⟨N - (i + 1), by omega, i + 1, rfl, by omega, h1, rfl, h2⟩)
  · have : i = N := by omega
    subst this
    exact he Y _ hP
-- whole numbers
theorem nI_lit (n : Nat) : (no_index (OfNat.ofNat n) : Int32) = nI (OfNat.ofNat n) := rfl
theorem nI_al (a n : Nat) : nI a + (no_index (OfNat.ofNat n) : Int32) = nI (a + (OfNat.ofNat n : Nat)) := nI_add a n
theorem nI_ml (a n : Nat) : (no_index (OfNat.ofNat n) : Int32) * nI a = nI ((OfNat.ofNat n : Nat) * a) := pk_mul n a
theorem nI_gel {a n : Nat} (ha : a < 2147483648) (hn : (OfNat.ofNat n : Nat) < 2147483648) : ((no_index (OfNat.ofNat n) : Int32) ≤ nI a) ↔ (OfNat.ofNat n : Nat) ≤ a := nI_leI hn ha
theorem nI_lel {a n : Nat} (ha : a < 2147483648) (hn : (OfNat.ofNat n : Nat) < 2147483648) : (nI a ≤ (no_index (OfNat.ofNat n) : Int32)) ↔ a ≤ (OfNat.ofNat n : Nat) := nI_leI ha hn
theorem nI_ltl {a n : Nat} (ha : a < 2147483648) (hn : (OfNat.ofNat n : Nat) < 2147483648) : (nI a < (no_index (OfNat.ofNat n) : Int32)) ↔ a < (OfNat.ofNat n : Nat) := nI_ltI ha hn
theorem nI_gtl {a n : Nat} (ha : a < 2147483648) (hn : (OfNat.ofNat n : Nat) < 2147483648) : ((no_index (OfNat.ofNat n) : Int32) < nI a) ↔ (OfNat.ofNat n : Nat) < a := nI_ltI hn ha
theorem nI_eql {a n : Nat} (ha : a < 2147483648) (hn : (OfNat.ofNat n : Nat) < 2147483648) : (nI a = (no_index (OfNat.ofNat n) : Int32)) ↔ a = (OfNat.ofNat n : Nat) := nI_eq ha hn
theorem nI_cl {n : Nat} (h : n < 2147483648) : (nI n).toNatClampNeg = n := nI_clamp h
theorem nI_in' {n N : Nat} (hN : n < 2147483648) : vp_in (nI n) N ↔ n < N := by
  rw [vp_in_iff, nI_toInt hN]; omega
theorem lit_cl {n : Nat} (h : (OfNat.ofNat n : Nat) < 2147483648) : (no_index (OfNat.ofNat n) : Int32).toNatClampNeg = (OfNat.ofNat n : Nat) := nI_clamp h
theorem lit_in {n N : Nat} (hN : (OfNat.ofNat n : Nat) < 2147483648) : vp_in (no_index (OfNat.ofNat n) : Int32) N ↔ (OfNat.ofNat n : Nat) < N := nI_in' hN
theorem tI_i {x y : Int32} : x.toInt = y.toInt ↔ x = y := Int32.toInt_inj
theorem i_10 : ((1 : Int32) = 0) = False := by decide
theorem i_01 : ((0 : Int32) = 1) = False := by decide
theorem nI_dl {a n : Nat} (ha : a < 2147483648) (h0 : 0 < (OfNat.ofNat n : Nat)) (hn : (OfNat.ofNat n : Nat) < 2147483648) : nI a / (no_index (OfNat.ofNat n) : Int32) = nI (a / (OfNat.ofNat n : Nat)) := pk_div ha h0 hn
theorem nI_rl {a n : Nat} (ha : a < 2147483648) (h0 : 0 < (OfNat.ofNat n : Nat)) (hn : (OfNat.ofNat n : Nat) < 2147483648) : nI a - nI a / (no_index (OfNat.ofNat n) : Int32) * (no_index (OfNat.ofNat n) : Int32) = nI (a % (OfNat.ofNat n : Nat)) := pk_rem ha h0 hn
theorem nI_sl {a n : Nat} (h : (OfNat.ofNat n : Nat) ≤ a) : nI a - (no_index (OfNat.ofNat n) : Int32) = nI (a - (OfNat.ofNat n : Nat)) := pk_sub h
theorem i_nz2 : ((2 : Int32) = 0) = False := by decide
theorem i_nz13 : ((13 : Int32) = 0) = False := by decide
theorem i_nz64 : ((64 : Int32) = 0) = False := by decide
theorem i_nz128 : ((128 : Int32) = 0) = False := by decide
theorem i_nz256 : ((256 : Int32) = 0) = False := by decide
theorem i_nz2048 : ((2048 : Int32) = 0) = False := by decide
theorem e_tsw_in {ks : List Kk} {kd k9 : Kk} {l : List (Nat × Value)} {r : List Value} {X : Mm} {j : Nat} (hj : j < 2147483648) (e : ks[j]? = some k9) : i_tsw 0 ks kd l (.int (nI j) :: r) X = k9 l r X := by
  have hl : j < ks.length := (List.getElem?_eq_some_iff.mp e).1
  unfold i_tsw
  simp only [nI_toInt hj]
  rw [if_neg (by omega)]
  have e9 : ((j : Int) - 0).toNat = j := by omega
  rw [e9, e]
theorem e_tsw_out {ks : List Kk} {kd : Kk} {l : List (Nat × Value)} {r : List Value} {X : Mm} {j : Nat} (hj : j < 2147483648) (h : ks.length ≤ j) : i_tsw 0 ks kd l (.int (nI j) :: r) X = kd l r X := by
  unfold i_tsw
  simp only [nI_toInt hj]
  rw [if_pos (by omega)]
theorem nI_rl2 {a n : Nat} (ha : a < 2147483648) (h0 : 0 < (OfNat.ofNat n : Nat)) (hn : (OfNat.ofNat n : Nat) < 2147483648) : nI a - nI (a / (no_index (OfNat.ofNat n) : Nat)) * (no_index (OfNat.ofNat n) : Int32) = nI (a % (OfNat.ofNat n : Nat)) := by
  have := pk_rem ha h0 hn
  rw [pk_div ha h0 hn] at this
  exact this
theorem su_app (m : Sg) (a j : Nat) (v : Int32) (b i : Nat) : su m a j v b i = (if b = a ∧ i = j then v else m b i) := rfl
