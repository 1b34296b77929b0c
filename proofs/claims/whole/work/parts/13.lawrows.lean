/-! rows for the law: longs and doubles in arrays, the script, calls of helpers, the end -/
section LawRows
variable {Z : Zt} {cc : ByteArray} {nL lv : Nat} {own : String} {pc : Nat} {k : Kk} {X0 : Mm} {mc ms : Nat} {post : Option Value → Mm → Prop}
theorem Hw.sL {X : Mm} {ad : Nat → Nat} {H H1 : Heap} {locs locs1 : List Loc} {cells slots a j : Nat} {v : Int64} (h : Hw Z X ad H locs cells slots)
    (hP : va_P (zE Z).1 vcl (wl (zE Z).2 ad (xsL X a j v)) H1) (hD : va_D (zA Z) (wl (zE Z).2 ad (xsL X a j v))) (hS : va_S (zA Z) (zs Z).heap H1 locs1) : Hw Z (xsL X a j v) ad H1 locs1 cells slots :=
  ⟨h.1, h.2.1, h.2.2.1, h.2.2.2.1, h.2.2.2.2.1, h.2.2.2.2.2.1, h.2.2.2.2.2.2.1, h.2.2.2.2.2.2.2.1, hP, hD, hS⟩
theorem Hw.sD {X : Mm} {ad : Nat → Nat} {H H1 : Heap} {locs locs1 : List Loc} {cells slots a j : Nat} {v : UInt64} (h : Hw Z X ad H locs cells slots)
    (hP : va_P (zE Z).1 vcl (wl (zE Z).2 ad (xsD X a j v)) H1) (hD : va_D (zA Z) (wl (zE Z).2 ad (xsD X a j v))) (hS : va_S (zA Z) (zs Z).heap H1 locs1) : Hw Z (xsD X a j v) ad H1 locs1 cells slots :=
  ⟨h.1, h.2.1, h.2.2.1, h.2.2.2.1, h.2.2.2.2.1, h.2.2.2.2.2.1, h.2.2.2.2.2.2.1, h.2.2.2.2.2.2.2.1, hP, hD, hS⟩
theorem cnt_14 {cy : Nat → ClassId} {ad : Nat → Nat} {X : Mm} {a : Nat} (hka : xk X a = 14) : cnt cy ad X a = .inl (cy 4, xl X a, .inr (.inl (xL X a))) := by unfold cnt; rw [hka, if_neg (by decide), if_neg (by decide), if_neg (by decide), if_neg (by decide), if_pos rfl]
theorem cnt_15 {cy : Nat → ClassId} {ad : Nat → Nat} {X : Mm} {a : Nat} (hka : xk X a = 15) : cnt cy ad X a = .inl (cy 5, xl X a, .inr (.inr (.inr (.inl (xD X a))))) := by unfold cnt; rw [hka, if_neg (by decide), if_neg (by decide), if_neg (by decide), if_neg (by decide), if_neg (by decide), if_pos rfl]
theorem wl_sL {cy : Nat → ClassId} {ad : Nat → Nat} {X : Mm} {a i : Nat} {v : Int64} (hka : xk X a = 14) : (wl cy ad X).set a (ad a, .inl (cy 4, xl X a, .inr (.inl (vp_updL (xL X a) i v)))) = wl cy ad (xsL X a i v) := by
  refine wl_set (X := X) (X' := xsL X a i v) rfl ?_ cnt_sL
  have e : xL (xsL X a i v) a = vp_updL (xL X a) i v := by show (if a = a then vp_updL (xL X a) i v else xL X a) = _; rw [if_pos rfl]
  rw [cnt_14 (show xk (xsL X a i v) a = 14 from hka), e]
  rfl
theorem wl_sD {cy : Nat → ClassId} {ad : Nat → Nat} {X : Mm} {a i : Nat} {v : UInt64} (hka : xk X a = 15) : (wl cy ad X).set a (ad a, .inl (cy 5, xl X a, .inr (.inr (.inr (.inl (vf_upd (xD X a) i v)))))) = wl cy ad (xsD X a i v) := by
  refine wl_set (X := X) (X' := xsD X a i v) rfl ?_ cnt_sD
  have e : xD (xsD X a i v) a = vf_upd (xD X a) i v := by show (if a = a then vf_upd (xD X a) i v else xD X a) = _; rw [if_pos rfl]
  rw [cnt_15 (show xk (xsD X a i v) a = 15 from hka), e]
  rfl
def i_lald (k : Kk) : Kk := fun l st X => match st with
  | .int i :: .ref a :: r => a < xn X ∧ xk X a = 14 ∧ vp_in i (xl X a) ∧ k l (.long (xL X a i.toNatClampNeg) :: r) X
  | _ => False
def i_dald (k : Kk) : Kk := fun l st X => match st with
  | .int i :: .ref a :: r => a < xn X ∧ xk X a = 15 ∧ vp_in i (xl X a) ∧ k l (.double (xD X a i.toNatClampNeg) :: r) X
  | _ => False
def i_last (k : Kk) : Kk := fun l st X => match st with
  | .long v :: .int i :: .ref a :: r => a < xn X ∧ xk X a = 14 ∧ vp_in i (xl X a) ∧ k l r (xsL X a i.toNatClampNeg v)
  | _ => False
def i_dast (k : Kk) : Kk := fun l st X => match st with
  | .double v :: .int i :: .ref a :: r => a < xn X ∧ xk X a = 15 ∧ vp_in i (xl X a) ∧ k l r (xsD X a i.toNatClampNeg v)
  | _ => False
def i_lcmp (k : Kk) : Kk := fun l st X => match st with
  | .long y :: .long x :: r => k l (.int (lg_cmp x y) :: r) X
  | _ => False
theorem s_lald (g : Good Z cc nL own lv) (d : decode cc pc = .ok (.laload, 1)) (h : Snd Z nL (pc + 1) k) : Snd Z nL pc (i_lald k) := by
  intro l st X hk ad H locs ls cells slots hw hl
  unfold i_lald at hk
  split at hk
  · next i a r =>
    obtain ⟨ha, hka, hi, hk⟩ := hk
    exact va_lald g.hx g.hb g.hK hw.P a 4 (n := xl X a) (f := xL X a) (by rw [wl_get ha, cnt_14 hka]) rfl hi d (h _ _ _ hk ad H locs ls cells slots hw hl)
  · exact hk.elim
theorem s_dald (g : Good Z cc nL own lv) (d : decode cc pc = .ok (.daload, 1)) (h : Snd Z nL (pc + 1) k) : Snd Z nL pc (i_dald k) := by
  intro l st X hk ad H locs ls cells slots hw hl
  unfold i_dald at hk
  split at hk
  · next i a r =>
    obtain ⟨ha, hka, hi, hk⟩ := hk
    exact va_dald g.hx g.hb g.hK hw.P a 5 (n := xl X a) (f := xD X a) (by rw [wl_get ha, cnt_15 hka]) rfl hi d (h _ _ _ hk ad H locs ls cells slots hw hl)
  · exact hk.elim
theorem s_last (g : Good Z cc nL own lv) (d : decode cc pc = .ok (.lastore, 1)) (h : Snd Z nL (pc + 1) k) : Snd Z nL pc (i_last k) := by
  intro l st X hk ad H locs ls cells slots hw hl
  unfold i_last at hk
  split at hk
  · next v i a r =>
    obtain ⟨ha, hka, hi, hk⟩ := hk
    refine va_last g.hx g.hb g.hK hw.P hw.D hw.S a 4 (n := xl X a) (f := xL X a) (by rw [wl_get ha, cnt_14 hka]) rfl hi d ?_
    intro H1 locs1 hP hD hS
    rw [wl_sL hka] at hP hD
    exact h _ _ _ hk ad H1 locs1 ls cells slots (hw.sL hP hD hS) hl
  · exact hk.elim
theorem s_dast (g : Good Z cc nL own lv) (d : decode cc pc = .ok (.dastore, 1)) (h : Snd Z nL (pc + 1) k) : Snd Z nL pc (i_dast k) := by
  intro l st X hk ad H locs ls cells slots hw hl
  unfold i_dast at hk
  split at hk
  · next v i a r =>
    obtain ⟨ha, hka, hi, hk⟩ := hk
    refine va_dast g.hx g.hb g.hK hw.P hw.D hw.S a 5 (n := xl X a) (f := xD X a) (by rw [wl_get ha, cnt_15 hka]) rfl hi d ?_
    intro H1 locs1 hP hD hS
    rw [wl_sD hka] at hP hD
    exact h _ _ _ hk ad H1 locs1 ls cells slots (hw.sD hP hD hS) hl
  · exact hk.elim
theorem s_lcmp (g : Good Z cc nL own lv) (d : decode cc pc = .ok (.lcmp, 1)) (h : Snd Z nL (pc + 1) k) : Snd Z nL pc (i_lcmp k) := by
  intro l st X hk ad H locs ls cells slots hw hl
  unfold i_lcmp at hk
  split at hk
  · exact W.lcmp g.hx g.hb d (h _ _ _ hk ad H locs ls cells slots hw hl)
  · exact hk.elim
-- calls of helpers (room 1, 6), from the law
def i_callH (n : Nat) (X0 : Mm) (mc ms : Nat) (w : Wp) (k : Kk) : Kk := fun l st X => (st.take n).length = n ∧ ((st.drop n).map (fun v => v.category)).sum ≤ 8 ∧ xc X + 1 ≤ xc X0 + mc ∧ xs X + 6 ≤ xs X0 + ms ∧ w (st.take n).reverse X (fun r X' => xn X' = xn X → k l (r.toList ++ st.drop n) X')
/-- the law's own frame: what its fixed things are -/
def LawZ (Z : Zt) (X0 : Mm) (mc ms : Nat) : Prop := zc0 Z = xc X0 ∧ zs0 Z = xs X0 ∧ zn0 Z = xn X0 ∧ zcm Z = xc X0 + mc ∧ zsm Z = xs X0 + ms ∧ zfl Z = false ∧ XOk (zA Z) (zs Z) (zs Z).heap
theorem s_callH (g : Good Z cc nL own lv) (hq : LawZ Z X0 mc ms) {n i lvy maxL : Nat} {y : MethodName} {cy : ByteArray} {ret : Option FieldType} {hh : List (Nat × Nat × Nat × Nat)} {w : Wp} (hM : MetH (zl Z) y cy maxL ret hh lvy 1 6 w) (hT : GoodIn GL (va_wsS own i y (wsh y cy maxL ret hh)))
    (hd : y.cls ≠ "java/lang/invoke/MethodHandle" ∧ y.cls ≠ "java/lang/invoke/VarHandle" ∧ (parseMethodDescriptor y.desc).map (fun d => d.parameters.length) = some n) (hlv : lvy + 1 ≤ lv) (hm : maxL ≤ 17)
    (d : decode cc pc = .ok (.invokestatic i, 3)) (h : Snd Z nL (pc + 3) k) : Snd Z nL pc (i_callH n X0 mc ms w k) := by
  intro l st X hk ad H locs ls cells slots hw hl
  unfold i_callH at hk
  obtain ⟨hn, hcat, hcx, hsx, hk⟩ := hk
  have hfr := g.hfr
  have hlo := g.hlo
  have hcm := g.hcm
  have hsm := g.hsm
  obtain ⟨q1, q2, q3, q4, q5, q6, hXO⟩ := hq
  obtain ⟨z1, z2, z3, z4, -⟩ := id hw
  rw [take_rev (n := n) (st := st)]
  have hA : ∀ q, va_A (wl (zE Z).2 ad X) H.size q → zA Z q := by
    intro q hq
    rcases hq with ⟨i, e, hq⟩ | hq
    · exact hw.D.2 i _ hq
    · exact g.hA q (Nat.le_trans hw.S.1 hq)
  have hr := vx_runSW (As := (st.take n).reverse.map (conc ad)) (rest := (st.drop n).map (conc ad)) (g := F0 (zm Z) pc ls (((st.take n).reverse.map (conc ad)).reverse ++ (st.drop n).map (conc ad))) (locs := locs) (cells := cells) (slots := slots) (e := ze Z) (p := zp Z) (below := zb Z) (meth := zM Z) (R := zR Z) (H := H)
    ⟨g.hx, g.hb, g.hml, g.hown, g.hG⟩ (hM (zE Z) ad H.size X (st.take n).reverse (fun r X' => xn X' = xn X → k l (r.toList ++ st.drop n) X')) (vx_cwSW n g.hG hT rfl rfl rfl hd ⟨Nat.le_trans hlv hfr, by show 8 + (maxL + 11) + 36 * lvy ≤ _; omega⟩)
    ⟨pcxT_blind, fun U hU hW => ⟨pre_of g hw hk (fun U hW => nl_warm hW g.hN) U hU hW, hXO.go hW (by rw [hU]; exact hw.S.2.1) hA⟩⟩ rfl (by rw [List.length_map, List.length_reverse]; exact hn) hl.1 rfl (lv_room (by rw [cat_map]; exact hcat)) d ⟨by omega, by omega⟩
  intro T1 hT1 Xs
  obtain ⟨v, s0, t, T', L, h0, X', hL, e1, e2, ⟨r, X1, ad1, hv, hp, hWF, hn1, had, hfl, hc9, hs9, hP1, hD1, hF⟩, go⟩ := hr T1 hT1 Xs
  obtain ⟨hn2, rfl⟩ := hfl rfl
  cases hv
  have hS1 : va_S (zA Z) (zs Z).heap T'.heap (locs ++ L) := by
    obtain ⟨y1, y2⟩ := hF
    rw [h0] at y1 y2
    refine ⟨Nat.le_trans hw.S.1 (by rw [e1]; exact y1), fun q p1 p2 => ?_, fun q hq => ?_⟩
    · rw [e1, y2 q (Nat.lt_of_lt_of_le p1 hw.S.1) (fun z => p2 (hA q z))]
      exact hw.S.2.1 q p1 p2
    · rcases List.mem_append.mp hq with hq | hq
      · exact hw.S.2.2 q hq
      · exact hA _ (hL q hq)
  have hw1 : Hw Z X1 ad1 T'.heap (locs ++ L) (cells + 1) (slots + 6) := by
    obtain ⟨h1, h2, h3, h4, h5, h6, h7, h8, h9, h10, h11⟩ := hw
    refine ⟨by omega, by omega, by omega, by omega, by omega, h6, fun q => ⟨hn2.trans (h7 q).1, (h7 q).2⟩, hWF, by rw [e1]; exact hP1, hD1.weaken (fun _ _ _ q => hA _ q), hS1⟩
  obtain ⟨t2, a1, b1⟩ := h l (r.toList ++ st.drop n) X1 (hp hn2) ad1 T'.heap (locs ++ L) ls (cells + 1) (slots + 6) hw1 hl T' rfl X'
  refine ⟨t2, go t2 ?_, b1⟩
  have e3 : (r.map (conc ad1)).toList ++ (st.drop n).map (conc ad1) = (r.toList ++ st.drop n).map (conc ad1) := by rw [opt_map, List.map_append]
  show Steps _ _ _ (T'.setTop (F0 (zm Z) (pc + 3) ls ((r.map (conc ad1)).toList ++ (st.drop n).map (conc ad1)))) t2
  rw [e3]
  exact a1
theorem gin_H {i : Nat} {y : MethodName} {cy : ByteArray} {maxL : Nat} {ret : Option FieldType} {hh : List (Nat × Nat × Nat × Nat)} (h1 : Cond.methodLink own i y ∈ GL) (h2 : Cond.static y ∈ GL) (h4 : Cond.initialized y.cls ∈ GL) (h5 : Cond.codeWith y cy maxL ret hh ∈ GL) : GoodIn GL (va_wsS own i y (wsh y cy maxL ret hh)) := gin_of (fun w hw => by
  unfold va_wsS at hw
  rcases List.mem_append.mp hw with hw | hw
  · simp only [List.mem_cons, List.not_mem_nil, or_false] at hw
    rcases hw with rfl | rfl | rfl
    · exact h1
    · exact h2
    · exact h4
  · rcases List.mem_cons.mp hw with rfl | hw
    · exact h5
    · exact hw)
-- the script: the law's argument, at the abstract address 999
def i_sld (L : Nat) (xsv : Nat → Int32) (k : Kk) : Kk := fun l st X => match st with
  | .int i :: .ref a :: r => a = 999 ∧ vp_in i L ∧ k l (.int (xsv i.toNatClampNeg) :: r) X
  | _ => False
def i_slen (L : Nat) (k : Kk) : Kk := fun l st X => match st with
  | .ref a :: r => a = 999 ∧ k l (.int (Int32.ofNat L) :: r) X
  | _ => False
theorem s_sld (g : Good Z cc nL own lv) {b L : Nat} {xsv : Nat → Int32} (hX : va_X b L xsv (zs Z) (zs Z).heap) (hb : b < (zs Z).heap.size) (hbA : ¬ zA Z b) (hb9 : zad Z 999 = b) (d : decode cc pc = .ok (.iaload, 1)) (h : Snd Z nL (pc + 1) k) : Snd Z nL pc (i_sld L xsv k) := by
  intro l st X hk ad H locs ls cells slots hw hl
  unfold i_sld at hk
  split at hk
  · next i a r =>
    obtain ⟨ha, hi, hk⟩ := hk
    subst ha
    have e : ad 999 = b := by rw [← hb9]; exact hw.2.2.2.2.2.1 999 (Or.inr rfl)
    show W _ _ _ _ _ _ _ _ _ _ _ _ _ _ _ (F0 _ _ _ (.int i :: .ref (ad 999) :: r.map (conc ad)))
    rw [e]
    exact va_sld g.hx g.hb hX hb hbA hw.S hi d (h _ _ _ hk ad H locs ls cells slots hw hl)
  · exact hk.elim
theorem s_slen (g : Good Z cc nL own lv) {b L : Nat} {xsv : Nat → Int32} (hX : va_X b L xsv (zs Z) (zs Z).heap) (hb : b < (zs Z).heap.size) (hbA : ¬ zA Z b) (hb9 : zad Z 999 = b) (d : decode cc pc = .ok (.arraylength, 1)) (h : Snd Z nL (pc + 1) k) : Snd Z nL pc (i_slen L k) := by
  intro l st X hk ad H locs ls cells slots hw hl
  unfold i_slen at hk
  split at hk
  · next a r =>
    obtain ⟨ha, hk⟩ := hk
    subst ha
    have e : ad 999 = b := by rw [← hb9]; exact hw.2.2.2.2.2.1 999 (Or.inr rfl)
    show W _ _ _ _ _ _ _ _ _ _ _ _ _ _ _ (F0 _ _ _ (.ref (ad 999) :: r.map (conc ad)))
    rw [e]
    exact va_slen g.hx g.hb hX hb hbA hw.S d (h _ _ _ hk ad H locs ls cells slots hw hl)
  · exact hk.elim
end LawRows
