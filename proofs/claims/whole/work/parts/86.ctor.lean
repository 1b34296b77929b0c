/-! the constructors -/
theorem e_obj {k : Kk} {l : List (Nat × Value)} {X : Mm} (o : Nat) : i_obj k l [.ref o] X = k l [] X := rfl
theorem e_new (c : Nat) (X0 : Mm) (mc ms : Nat) {k : Kk} {l : List (Nat × Value)} {st : List Value} {X : Mm} : i_new c X0 mc ms k l st X = (okl (xn X) l ∧ oks (xn X) st ∧ xn X < 900 ∧ xc X + 1 ≤ xc X0 + mc ∧ xs X + nf c ≤ xs X0 + ms ∧ k l (.ref (xn X) :: st) (xnew X c 0 (nf c))) := rfl
theorem e_newa (kd : Nat) (X0 : Mm) (mc ms : Nat) {k : Kk} {l : List (Nat × Value)} {r : List Value} {X : Mm} (n : Int32) : i_newa kd X0 mc ms k l (.int n :: r) X = (okl (xn X) l ∧ oks (xn X) r ∧ xn X < 900 ∧ ¬ n < 0 ∧ n.toNatClampNeg ≤ 10000 ∧ xc X + 1 ≤ xc X0 + mc ∧ xs X + n.toNatClampNeg ≤ xs X0 + ms ∧ k l (.ref (xn X) :: r) (xnew X kd n.toNatClampNeg n.toNatClampNeg)) := rfl
theorem e_newq (kd : Nat) (X0 : Mm) (mc ms : Nat) {k : Kk} {l : List (Nat × Value)} {r : List Value} {X : Mm} (n : Int32) : i_newq kd X0 mc ms k l (.int n :: r) X = (okl (xn X) l ∧ oks (xn X) r ∧ xn X < 900 ∧ ¬ n < 0 ∧ n.toNatClampNeg ≤ 10000 ∧ xc X + 1 ≤ xc X0 + mc ∧ xs X + n.toNatClampNeg ≤ xs X0 + ms ∧ k l (.ref (xn X) :: r) (xnew X kd n.toNatClampNeg n.toNatClampNeg)) := rfl
theorem e_callI0 {k : Kk} {l : List (Nat × Value)} {r : List Value} {X X0 : Mm} {mc ms mc1 ms1 : Nat} (w : Wp) (o : Nat) : i_callI 0 X0 mc ms mc1 ms1 w k l (.ref o :: r) X = (okl (xn X) l ∧ oks (xn X) r ∧ cats r ∧ xc X + mc1 ≤ xc X0 + mc ∧ xs X + ms1 ≤ xs X0 + ms ∧ w [.ref o] X (kont k l r)) := propext ⟨fun h => h.2, fun h => ⟨rfl, h⟩⟩
theorem e_callI1 {k : Kk} {l : List (Nat × Value)} {r : List Value} {X X0 : Mm} {mc ms mc1 ms1 : Nat} (w : Wp) (o : Nat) (v : Value) : i_callI 1 X0 mc ms mc1 ms1 w k l (v :: .ref o :: r) X = (okl (xn X) l ∧ oks (xn X) r ∧ cats r ∧ xc X + mc1 ≤ xc X0 + mc ∧ xs X + ms1 ≤ xs X0 + ms ∧ w [.ref o, v] X (kont k l r)) := propext ⟨fun h => h.2, fun h => ⟨rfl, h⟩⟩
theorem okl_n (n : Nat) : okl n [] = True := rfl
theorem okl_r (n i o : Nat) (l : List (Nat × Value)) : okl n ((i, .ref o) :: l) = ((o < n ∨ o = 999) ∧ okl n l) := rfl
theorem okl_i (n i : Nat) (v : Int32) (l : List (Nat × Value)) : okl n ((i, .int v) :: l) = okl n l := propext ⟨fun h => h.2, fun h => ⟨trivial, h⟩⟩
theorem oks_n (n : Nat) : oks n [] = True := rfl
theorem oks_r (n o : Nat) (l : List Value) : oks n (.ref o :: l) = ((o < n ∨ o = 999) ∧ oks n l) := rfl
theorem oks_i (n : Nat) (v : Int32) (l : List Value) : oks n (.int v :: l) = oks n l := propext ⟨fun h => h.2, fun h => ⟨trivial, h⟩⟩
/-- the memory, part by part, behind each kind of change -/
theorem xnew_n (X : Mm) (c l s : Nat) : xn (xnew X c l s) = xn X + 1 := rfl
theorem xnew_c (X : Mm) (c l s : Nat) : xc (xnew X c l s) = xc X + 1 := rfl
theorem xnew_s (X : Mm) (c l s : Nat) : xs (xnew X c l s) = xs X + s := rfl
theorem xnew_k (X : Mm) (c l s k : Nat) : xk (xnew X c l s) k = if k = xn X then c else xk X k := rfl
theorem xnew_l (X : Mm) (c l s k : Nat) : xl (xnew X c l s) k = if k = xn X then l else xl X k := rfl
theorem xnew_m (X : Mm) (c l s k : Nat) : xm (xnew X c l s) k = if k = xn X then (fun _ => 0) else xm X k := rfl
theorem xnew_r (X : Mm) (c l s k : Nat) : xr (xnew X c l s) k = if k = xn X then (fun _ => none) else xr X k := rfl
theorem xsr_n (X : Mm) (a j : Nat) (v : Option Nat) : xn (xsr X a j v) = xn X := rfl
theorem xsr_c (X : Mm) (a j : Nat) (v : Option Nat) : xc (xsr X a j v) = xc X := rfl
theorem xsr_s (X : Mm) (a j : Nat) (v : Option Nat) : xs (xsr X a j v) = xs X := rfl
theorem xsr_k (X : Mm) (a j : Nat) (v : Option Nat) : xk (xsr X a j v) = xk X := rfl
theorem xsr_l (X : Mm) (a j : Nat) (v : Option Nat) : xl (xsr X a j v) = xl X := rfl
theorem xsr_m (X : Mm) (a j : Nat) (v : Option Nat) : xm (xsr X a j v) = xm X := rfl
theorem xsr_r (X : Mm) (a j : Nat) (v : Option Nat) (k : Nat) : xr (xsr X a j v) k = if k = a then va_up (xr X k) j v else xr X k := rfl
theorem xsm_n (X : Mm) (a j : Nat) (v : Int32) : xn (xsm X a j v) = xn X := rfl
theorem xsm_c (X : Mm) (a j : Nat) (v : Int32) : xc (xsm X a j v) = xc X := rfl
theorem xsm_s (X : Mm) (a j : Nat) (v : Int32) : xs (xsm X a j v) = xs X := rfl
theorem xsm_k (X : Mm) (a j : Nat) (v : Int32) : xk (xsm X a j v) = xk X := rfl
theorem xsm_l (X : Mm) (a j : Nat) (v : Int32) : xl (xsm X a j v) = xl X := rfl
theorem xsm_r (X : Mm) (a j : Nat) (v : Int32) : xr (xsm X a j v) = xr X := rfl
theorem xsm_m (X : Mm) (a j : Nat) (v : Int32) (k : Nat) : xm (xsm X a j v) k = if k = a then upd (xm X k) j v else xm X k := rfl
theorem vup_at {α : Type} (f : Nat → α) (k : Nat) (v : α) (i : Nat) : va_up f k v i = if i = k then v else f i := rfl
theorem upd_at (f : Nat → Int32) (k : Nat) (v : Int32) (i : Nat) : upd f k v i = if i = k then v else f i := rfl
def RowEq (X X' : Mm) (k : Nat) : Prop := xk X' k = xk X k ∧ xl X' k = xl X k ∧ xr X' k = xr X k ∧ xm X' k = xm X k
theorem RowEq.tr {X X' X9 : Mm} {k : Nat} (h : RowEq X X' k) (h2 : RowEq X' X9 k) : RowEq X X9 k := ⟨h2.1.trans h.1, h2.2.1.trans h.2.1, h2.2.2.1.trans h.2.2.1, h2.2.2.2.trans h.2.2.2⟩
theorem i_T {X : Mm} {o : Nat} (ho : o < xn X) (hk : xk X o = 2) (hn : xn X < 900) {post : Option Value → Mm → Prop} (h : ∀ X', xn X' = xn X + 1 → xc X' = xc X + 1 → xs X' = xs X + 21 → (∀ k, k < xn X → k ≠ o → RowEq X X' k) → xk X' o = 2 → xl X' o = xl X o → xr X' o 0 = some (xn X) → xm X' o 1 = 8 → xm X' o 2 = 0 → xm X' o 3 = 0 → xk X' (xn X) = 10 → xl X' (xn X) = 21 → (∀ j, xm X' (xn X) j = 0) → post none X') : w_T_init [.ref o] X post := by
  have hne : ¬ o = xn X := by omega
  have l0 : lk [(0, Value.ref o)] 0 = some (.ref o) := rfl
  simp (disch := omega) only [w_T_init, e_b_T_init_0, e_wp, asz, lv_args, Value.category, e_aload, l0, e_obj, e_push, e_newa, okl_r, okl_n, oks_r, oks_n, e_putR, e_putI, e_vret, e_bp, xnew_n, xnew_k, xnew_c, xnew_s, xsr_n, xsr_k, xsm_n, xsm_k, true_and, and_true, if_neg hne, hk]
  refine ⟨by decide, Or.inl ho, Or.inl ho, hn, by decide, by decide, Nat.le_refl _, Nat.le_refl _, by omega, by omega, by omega, by omega, by omega, h _ rfl rfl rfl (fun k hk1 hk2 => ?_) ?_ ?_ ?_ ?_ ?_ ?_ ?_ ?_ ?_⟩
  · have hk3 : ¬ k = xn X := by omega
    refine ⟨?_, ?_, ?_, ?_⟩
    · rw [xb_k, xsm_k, xsm_k, xsm_k, xsr_k, xnew_k, if_neg hk3]
    · rw [xb_l, xsm_l, xsm_l, xsm_l, xsr_l, xnew_l, if_neg hk3]
    · rw [xb_r, xsm_r, xsm_r, xsm_r, xsr_r, if_neg hk2, xnew_r, if_neg hk3]
    · rw [xb_m, xsm_m, if_neg hk2, xsm_m, if_neg hk2, xsm_m, if_neg hk2, xsr_m, xnew_m, if_neg hk3]
  · rw [xb_k, xsm_k, xsm_k, xsm_k, xsr_k, xnew_k, if_neg hne]; exact hk
  · rw [xb_l, xsm_l, xsm_l, xsm_l, xsr_l, xnew_l, if_neg hne]
  · rw [xb_r, xsm_r, xsm_r, xsm_r, xsr_r, if_pos rfl, vup_at, if_pos rfl]
  · rw [xb_m]; simp [xsm_m, upd_at]
  · rw [xb_m]; simp [xsm_m, upd_at]
  · rw [xb_m]; simp [xsm_m, upd_at]
  · rw [xb_k, xsm_k, xsm_k, xsm_k, xsr_k, xnew_k, if_pos rfl]
  · rw [xb_l, xsm_l, xsm_l, xsm_l, xsr_l, xnew_l, if_pos rfl]; rfl
  · intro j
    have hne2 : ¬ xn X = o := fun q => hne q.symm
    rw [xb_m, xsm_m, if_neg hne2, xsm_m, if_neg hne2, xsm_m, if_neg hne2, xsr_m, xnew_m, if_pos rfl]
