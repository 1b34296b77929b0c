/-! rows for constructors -/
section NewRows
variable {Z : Zt} {cc : ByteArray} {nL lv : Nat} {own : String} {pc : Nat} {k : Kk} {X0 : Mm} {mc ms : Nat} {post : Option Value → Mm → Prop}
def okv (n : Nat) (v : Value) : Prop := match v with
  | .ref k => k < n ∨ k = 999
  | _ => True
def okl (n : Nat) : List (Nat × Value) → Prop
  | [] => True
  | q :: l => okv n q.2 ∧ okl n l
def oks (n : Nat) : List Value → Prop
  | [] => True
  | v :: l => okv n v ∧ oks n l
theorem conc_ok {ad ad1 : Nat → Nat} {n : Nat} (h : ∀ k, (k < n ∨ k = 999) → ad1 k = ad k) {v : Value} (hv : okv n v) : conc ad1 v = conc ad v := by
  cases v with
  | ref k => show Value.ref (ad1 k) = Value.ref (ad k); rw [h k hv]
  | _ => rfl
theorem oks_map {ad ad1 : Nat → Nat} {n : Nat} (h : ∀ k, (k < n ∨ k = 999) → ad1 k = ad k) : ∀ {st : List Value}, oks n st → st.map (conc ad1) = st.map (conc ad)
  | [], _ => rfl
  | v :: l, hv => by show conc ad1 v :: l.map (conc ad1) = conc ad v :: l.map (conc ad); rw [conc_ok h hv.1, oks_map h hv.2]
theorem okl_map {ad ad1 : Nat → Nat} {n : Nat} (h : ∀ k, (k < n ∨ k = 999) → ad1 k = ad k) : ∀ {l : List (Nat × Value)}, okl n l → l.map (cq ad1) = l.map (cq ad)
  | [], _ => rfl
  | q :: l, hv => by
    show (q.1, conc ad1 q.2) :: l.map (cq ad1) = (q.1, conc ad q.2) :: l.map (cq ad)
    rw [conc_ok h hv.1, okl_map h hv.2]
theorem cnt_ext {cy : Nat → ClassId} {ad ad1 : Nat → Nat} {X X1 : Mm} {k : Nat} (e1 : xk X1 k = xk X k) (e2 : xl X1 k = xl X k) (e3 : xm X1 k = xm X k) (e4 : ∀ j, (xr X1 k j).map ad1 = (xr X k j).map ad) (e5 : xL X1 k = xL X k) (e6 : xD X1 k = xD X k) : cnt cy ad1 X1 k = cnt cy ad X k := by
  have e7 : (fun j => (xr X1 k j).map ad1) = (fun j => (xr X k j).map ad) := funext e4
  unfold cnt vfld
  rw [e1, e2, e3, e5, e6, e7]
  simp only [e4]
theorem up_ag {ad : Nat → Nat} {n q : Nat} (hn : n < 900) : ∀ k, (k < n ∨ k = 999) → va_up ad n q k = ad k := fun k hk => va_up_ne _ _ (by omega)
theorem wl_new {cy : Nat → ClassId} {ad : Nat → Nat} {X : Mm} {kd len sl q : Nat} (hw : WFx X) (hn : xn X < 900) : wl cy (va_up ad (xn X) q) (xnew X kd len sl) = wl cy ad X ++ [(q, cnt cy (va_up ad (xn X) q) (xnew X kd len sl) (xn X))] := by
  show (List.range (xn X + 1)).map _ = _
  rw [List.range_succ, List.map_append]
  congr 1
  · apply List.map_congr_left
    intro k hk
    have hk := List.mem_range.mp hk
    have hne : k ≠ xn X := by omega
    have e : cnt cy (va_up ad (xn X) q) (xnew X kd len sl) k = cnt cy ad X k := by
      refine cnt_ext (va_up_ne _ _ hne) (va_up_ne _ _ hne) (va_up_ne _ _ hne) (fun j => ?_) (va_up_ne _ _ hne) (va_up_ne _ _ hne)
      have e9 : xr (xnew X kd len sl) k j = xr X k j := by show va_up (xr X) (xn X) (fun _ => none) k j = _; rw [va_up_ne _ _ hne]
      rw [e9]
      cases hx : xr X k j with
      | none => rfl
      | some i =>
        have := hw k j i hx
        show some (va_up ad (xn X) q i) = some (ad i)
        rw [va_up_ne _ _ (by omega)]
    show (va_up ad (xn X) q k, _) = _
    rw [e, va_up_ne _ _ hne]
  · show [(va_up ad (xn X) q (xn X), _)] = _
    rw [va_up_self]
theorem wf_new {X : Mm} {kd len sl : Nat} (hw : WFx X) : WFx (xnew X kd len sl) := by
  intro k j i h
  have h : va_up (xr X) (xn X) (fun _ => none) k j = some i := h
  show i < xn X + 1
  by_cases hk : k = xn X
  · rw [hk, va_up_self] at h; cases h
  · rw [va_up_ne _ _ hk] at h; have := hw k j i h; omega
theorem Hw.new {X : Mm} {ad : Nat → Nat} {H H1 : Heap} {locs locs1 : List Loc} {cells slots kd len sl q : Nat} {e : va_E} (h : Hw Z X ad H locs cells slots) (hfl : zfl Z = false) (hn : xn X < 900) (hc : xc X + 1 ≤ zcm Z) (hs : xs X + sl ≤ zsm Z) (he : cnt (zE Z).2 (va_up ad (xn X) q) (xnew X kd len sl) (xn X) = e)
    (hP : va_P (zE Z).1 vcl (wl (zE Z).2 ad X ++ [(q, e)]) H1) (hD : va_D (zA Z) (wl (zE Z).2 ad X ++ [(q, e)])) (hS : va_S (zA Z) (zs Z).heap H1 locs1) : Hw Z (xnew X kd len sl) (va_up ad (xn X) q) H1 locs1 (cells + 1) (slots + sl) := by
  obtain ⟨h1, h2, h3, h4, h5, h6, h7, h8, h9, h10, h11⟩ := h
  subst he
  rw [← wl_new h8 hn] at hP hD
  refine ⟨?_, ?_, hc, hs, ?_, ?_, ?_, wf_new h8, hP, hD, hS⟩
  · show cells + 1 + zc0 Z = xc X + 1; omega
  · show slots + sl + zs0 Z = xs X + sl; omega
  · show zn0 Z ≤ xn X + 1; omega
  · intro k hk; rw [up_ag hn k (by omega)]; exact h6 k hk
  · intro h; rw [hfl] at h; cases h
def RetN (Z : Zt) (X0 : Mm) (mc ms : Nat) : Prop := zc0 Z = xc X0 ∧ zs0 Z = xs X0 ∧ zcm Z = xc X0 + mc ∧ zsm Z = xs X0 + ms ∧ zfl Z = false
theorem RetZ.N (h : RetZ Z false X0 mc ms post) : RetN Z X0 mc ms := ⟨h.1, h.2.1, h.2.2.2.1, h.2.2.2.2.1, h.2.2.2.2.2.1⟩
def i_new (c : Nat) (X0 : Mm) (mc ms : Nat) (k : Kk) : Kk := fun l st X => okl (xn X) l ∧ oks (xn X) st ∧ xn X < 900 ∧ xc X + 1 ≤ xc X0 + mc ∧ xs X + nf c ≤ xs X0 + ms ∧ k l (.ref (xn X) :: st) (xnew X c 0 (nf c))
def i_newa (kd : Nat) (X0 : Mm) (mc ms : Nat) (k : Kk) : Kk := fun l st X => match st with
  | .int n :: r => okl (xn X) l ∧ oks (xn X) r ∧ xn X < 900 ∧ ¬ n < 0 ∧ n.toNatClampNeg ≤ 10000 ∧ xc X + 1 ≤ xc X0 + mc ∧ xs X + n.toNatClampNeg ≤ xs X0 + ms ∧ k l (.ref (xn X) :: r) (xnew X kd n.toNatClampNeg n.toNatClampNeg)
  | _ => False
theorem cnt_newO {cy : Nat → ClassId} {ad : Nat → Nat} {X : Mm} {c len sl : Nat} (hc : c < 10) : cnt cy ad (xnew X c len sl) (xn X) = .inr (c, vfld c ad (fun _ => 0) (fun _ => none)) := by
  have e : xk (xnew X c len sl) (xn X) = c := va_up_self _ _ _
  rw [cnt_obj e hc, show xm (xnew X c len sl) (xn X) = fun _ => 0 from va_up_self _ _ _, show xr (xnew X c len sl) (xn X) = fun _ => none from va_up_self _ _ _]
theorem s_new (g : Good Z cc nL own lv) (hq : RetN Z X0 mc ms) {c i N : Nat} {C : String} {T : u_T} {ty0 : Nat → FieldType} (hc : clsOk c C T N ty0) (hdf : ∀ j, j < N → defaultValue (ty0 j) = if isR c j = true then .null else .int 0) (w1 : Cond.classLink own i C ∈ GL) (w2 : Cond.instantiable C N ∈ GL) (w3 : Cond.initialized C ∈ GL)
    (d : decode cc pc = .ok (.new i, 3)) (h : Snd Z nL (pc + 3) k) : Snd Z nL pc (i_new c X0 mc ms k) := by
  intro l st X ⟨hkl, hks, hn, hcx, hsx, hk⟩ ad H locs ls cells slots hw hl
  obtain ⟨h1, h2, h3, h4, h5, -⟩ := hc
  obtain ⟨q1, q2, q3, q4, q5⟩ := hq
  have hcm := g.hcm
  have hsm := g.hsm
  obtain ⟨z1, z2, -⟩ := id hw
  refine va_new (ci := c) (fs := vfld c ad (fun _ => 0) (fun _ => none)) g.hx g.hb g.hG h2 ty0 h5 g.hown (g.hG _ w1) (g.hG _ w2) (g.hG _ w3) g.hK hw.P hw.D hw.S g.hA h1 (fun j hj => ?_) (by omega) (by omega) d (fun q H1 hP hD hS => ?_)
  · rw [hdf j hj]
    show _ = (vfld c ad (fun _ => 0) (fun _ => none)).getD j .null
    rw [List.getD_eq_getElem?_getD, vfld_at (by rw [h3]; exact hj)]
    by_cases hr : isR c j = true
    · rw [if_pos hr]; simp [hr, va_rf]
    · rw [if_neg hr]; simp [hr]
  · have e : vfld c ad (fun _ => 0) (fun _ => none) = vfld c (va_up ad (xn X) q) (fun _ => 0) (fun _ => none) := by unfold vfld; rfl
    have hw1 := hw.new (kd := c) (len := 0) (sl := N) q5 hn (by omega) (by omega) (cnt_newO h4) (by rw [← e]; exact hP) (by rw [← e]; exact hD) hS
    have e2 : st.map (conc (va_up ad (xn X) q)) = st.map (conc ad) := oks_map (up_ag hn) hks
    have e3 : l.map (cq (va_up ad (xn X) q)) = l.map (cq ad) := okl_map (up_ag hn) hkl
    rw [h3] at hk
    have := h _ _ _ hk (va_up ad (xn X) q) H1 locs ls (cells + 1) (slots + N) hw1 (by rw [e3]; exact hl)
    rw [List.map_cons, e2] at this
    rw [show conc (va_up ad (xn X) q) (Value.ref (xn X)) = Value.ref q by show Value.ref (va_up ad (xn X) q (xn X)) = _; rw [va_up_self]] at this
    exact this
/-- the class of an array that is made is the one the tables have -/
theorem cy_of (g : Good Z cc nL own lv) {i : Nat} {ty : FieldType} {cA : ClassId} (hi : (vtys (zE Z).2)[i]? = some ((zE Z).2 i, ty)) (hK : va_K (zE Z).1 vcl (vtys (zE Z).2 ++ [(cA, ty)]) (zs Z)) : cA = (zE Z).2 i := by
  have h1 := (g.hK.2 i _ hi).2
  have h2 := (hK.2 (vtys (zE Z).2).length (cA, ty) (by rw [List.getElem?_append_right (Nat.le_refl _), Nat.sub_self]; rfl)).2
  cases ty with
  | object C =>
    obtain ⟨k1, c1, -, -, -, e1⟩ := h1
    obtain ⟨k2, c2, -, -, -, e2⟩ := h2
    exact Option.some.inj (e2.symm.trans e1)
  | _ => exact Option.some.inj (h2.symm.trans h1)
theorem cnt_new10 {cy : Nat → ClassId} {ad : Nat → Nat} {X : Mm} {len sl : Nat} : cnt cy ad (xnew X 10 len sl) (xn X) = .inl (cy 0, len, .inl (fun _ => 0)) := by
  have e : xk (xnew X 10 len sl) (xn X) = 10 := va_up_self _ _ _
  rw [cnt_10 e, show xl (xnew X 10 len sl) (xn X) = len from va_up_self _ _ _, show xm (xnew X 10 len sl) (xn X) = fun _ => 0 from va_up_self _ _ _]
theorem s_newa10 (g : Good Z cc nL own lv) (hq : RetN Z X0 mc ms) (w : Cond.arrayClass .int ∈ GL) (d : decode cc pc = .ok (.newarray .int, 2)) (h : Snd Z nL (pc + 2) k) : Snd Z nL pc (i_newa 10 X0 mc ms k) := by
  intro l st X hk ad H locs ls cells slots hw hl
  unfold i_newa at hk
  split at hk
  · next n r =>
    obtain ⟨hkl, hks, hn, hn0, hn1, hcx, hsx, hk⟩ := hk
    obtain ⟨q1, q2, q3, q4, q5⟩ := hq
    have hcm := g.hcm
    have hsm := g.hsm
    obtain ⟨z1, z2, -⟩ := id hw
    refine va_newa (atype := .int) (ty := .int) (a0 := (n.toNatClampNeg, .inl (fun _ => 0))) g.hx g.hb (g.hG _ w) rfl g.hK hw.P hw.D hw.S g.hA (fun cA => rfl) hn0 rfl (by show n.toNatClampNeg * 4 ≤ _; omega) (by omega) (by omega) d (fun q cA H1 hK1 hP hD hS => ?_)
    have e9 := cy_of g (i := 0) (ty := .int) rfl hK1
    rw [e9] at hP hD
    have hw1 := hw.new (kd := 10) (len := n.toNatClampNeg) (sl := n.toNatClampNeg) q5 hn (by omega) (by omega) cnt_new10 hP hD hS
    have e2 : r.map (conc (va_up ad (xn X) q)) = r.map (conc ad) := oks_map (up_ag hn) hks
    have e3 : l.map (cq (va_up ad (xn X) q)) = l.map (cq ad) := okl_map (up_ag hn) hkl
    have := h _ _ _ hk (va_up ad (xn X) q) H1 locs ls (cells + 1) (slots + n.toNatClampNeg) hw1 (by rw [e3]; exact hl)
    rw [List.map_cons, e2] at this
    rw [show conc (va_up ad (xn X) q) (Value.ref (xn X)) = Value.ref q by show Value.ref (va_up ad (xn X) q (xn X)) = _; rw [va_up_self]] at this
    exact this
  · exact hk.elim
theorem cnt_new11 {cy : Nat → ClassId} {ad : Nat → Nat} {X : Mm} {len sl : Nat} : cnt cy ad (xnew X 11 len sl) (xn X) = .inl (cy 1, len, .inl (fun _ => 0)) := by
  have e : xk (xnew X 11 len sl) (xn X) = 11 := va_up_self _ _ _
  rw [cnt_11 e, show xl (xnew X 11 len sl) (xn X) = len from va_up_self _ _ _, show xm (xnew X 11 len sl) (xn X) = fun _ => 0 from va_up_self _ _ _]
theorem s_newa11 (g : Good Z cc nL own lv) (hq : RetN Z X0 mc ms) (w : Cond.arrayClass .boolean ∈ GL) (d : decode cc pc = .ok (.newarray .boolean, 2)) (h : Snd Z nL (pc + 2) k) : Snd Z nL pc (i_newa 11 X0 mc ms k) := by
  intro l st X hk ad H locs ls cells slots hw hl
  unfold i_newa at hk
  split at hk
  · next n r =>
    obtain ⟨hkl, hks, hn, hn0, hn1, hcx, hsx, hk⟩ := hk
    obtain ⟨q1, q2, q3, q4, q5⟩ := hq
    have hcm := g.hcm
    have hsm := g.hsm
    obtain ⟨z1, z2, -⟩ := id hw
    refine va_newa (atype := .boolean) (ty := .boolean) (a0 := (n.toNatClampNeg, .inl (fun _ => 0))) g.hx g.hb (g.hG _ w) rfl g.hK hw.P hw.D hw.S g.hA (fun cA => rfl) hn0 rfl (by show n.toNatClampNeg * 1 ≤ _; omega) (by omega) (by omega) d (fun q cA H1 hK1 hP hD hS => ?_)
    have e9 := cy_of g (i := 1) (ty := .boolean) rfl hK1
    rw [e9] at hP hD
    have hw1 := hw.new (kd := 11) (len := n.toNatClampNeg) (sl := n.toNatClampNeg) q5 hn (by omega) (by omega) cnt_new11 hP hD hS
    have e2 : r.map (conc (va_up ad (xn X) q)) = r.map (conc ad) := oks_map (up_ag hn) hks
    have e3 : l.map (cq (va_up ad (xn X) q)) = l.map (cq ad) := okl_map (up_ag hn) hkl
    have := h _ _ _ hk (va_up ad (xn X) q) H1 locs ls (cells + 1) (slots + n.toNatClampNeg) hw1 (by rw [e3]; exact hl)
    rw [List.map_cons, e2] at this
    rw [show conc (va_up ad (xn X) q) (Value.ref (xn X)) = Value.ref q by show Value.ref (va_up ad (xn X) q (xn X)) = _; rw [va_up_self]] at this
    exact this
  · exact hk.elim
theorem cnt_new14 {cy : Nat → ClassId} {ad : Nat → Nat} {X : Mm} {len sl : Nat} : cnt cy ad (xnew X 14 len sl) (xn X) = .inl (cy 4, len, .inr (.inl (fun _ => 0))) := by
  have e : xk (xnew X 14 len sl) (xn X) = 14 := va_up_self _ _ _
  rw [cnt_14 e, show xl (xnew X 14 len sl) (xn X) = len from va_up_self _ _ _, show xL (xnew X 14 len sl) (xn X) = fun _ => 0 from va_up_self _ _ _]
theorem s_newa14 (g : Good Z cc nL own lv) (hq : RetN Z X0 mc ms) (w : Cond.arrayClass .long ∈ GL) (d : decode cc pc = .ok (.newarray .long, 2)) (h : Snd Z nL (pc + 2) k) : Snd Z nL pc (i_newa 14 X0 mc ms k) := by
  intro l st X hk ad H locs ls cells slots hw hl
  unfold i_newa at hk
  split at hk
  · next n r =>
    obtain ⟨hkl, hks, hn, hn0, hn1, hcx, hsx, hk⟩ := hk
    obtain ⟨q1, q2, q3, q4, q5⟩ := hq
    have hcm := g.hcm
    have hsm := g.hsm
    obtain ⟨z1, z2, -⟩ := id hw
    refine va_newa (atype := .long) (ty := .long) (a0 := (n.toNatClampNeg, .inr (.inl (fun _ => 0)))) g.hx g.hb (g.hG _ w) rfl g.hK hw.P hw.D hw.S g.hA (fun cA => rfl) hn0 rfl (by show n.toNatClampNeg * 8 ≤ _; omega) (by omega) (by omega) d (fun q cA H1 hK1 hP hD hS => ?_)
    have e9 := cy_of g (i := 4) (ty := .long) rfl hK1
    rw [e9] at hP hD
    have hw1 := hw.new (kd := 14) (len := n.toNatClampNeg) (sl := n.toNatClampNeg) q5 hn (by omega) (by omega) cnt_new14 hP hD hS
    have e2 : r.map (conc (va_up ad (xn X) q)) = r.map (conc ad) := oks_map (up_ag hn) hks
    have e3 : l.map (cq (va_up ad (xn X) q)) = l.map (cq ad) := okl_map (up_ag hn) hkl
    have := h _ _ _ hk (va_up ad (xn X) q) H1 locs ls (cells + 1) (slots + n.toNatClampNeg) hw1 (by rw [e3]; exact hl)
    rw [List.map_cons, e2] at this
    rw [show conc (va_up ad (xn X) q) (Value.ref (xn X)) = Value.ref q by show Value.ref (va_up ad (xn X) q (xn X)) = _; rw [va_up_self]] at this
    exact this
  · exact hk.elim
theorem cnt_new15 {cy : Nat → ClassId} {ad : Nat → Nat} {X : Mm} {len sl : Nat} : cnt cy ad (xnew X 15 len sl) (xn X) = .inl (cy 5, len, .inr (.inr (.inr (.inl (fun _ => 0))))) := by
  have e : xk (xnew X 15 len sl) (xn X) = 15 := va_up_self _ _ _
  rw [cnt_15 e, show xl (xnew X 15 len sl) (xn X) = len from va_up_self _ _ _, show xD (xnew X 15 len sl) (xn X) = fun _ => 0 from va_up_self _ _ _]
theorem s_newa15 (g : Good Z cc nL own lv) (hq : RetN Z X0 mc ms) (w : Cond.arrayClass .double ∈ GL) (d : decode cc pc = .ok (.newarray .double, 2)) (h : Snd Z nL (pc + 2) k) : Snd Z nL pc (i_newa 15 X0 mc ms k) := by
  intro l st X hk ad H locs ls cells slots hw hl
  unfold i_newa at hk
  split at hk
  · next n r =>
    obtain ⟨hkl, hks, hn, hn0, hn1, hcx, hsx, hk⟩ := hk
    obtain ⟨q1, q2, q3, q4, q5⟩ := hq
    have hcm := g.hcm
    have hsm := g.hsm
    obtain ⟨z1, z2, -⟩ := id hw
    refine va_newa (atype := .double) (ty := .double) (a0 := (n.toNatClampNeg, .inr (.inr (.inr (.inl (fun _ => 0)))))) g.hx g.hb (g.hG _ w) rfl g.hK hw.P hw.D hw.S g.hA (fun cA => rfl) hn0 rfl (by show n.toNatClampNeg * 8 ≤ _; omega) (by omega) (by omega) d (fun q cA H1 hK1 hP hD hS => ?_)
    have e9 := cy_of g (i := 5) (ty := .double) rfl hK1
    rw [e9] at hP hD
    have hw1 := hw.new (kd := 15) (len := n.toNatClampNeg) (sl := n.toNatClampNeg) q5 hn (by omega) (by omega) cnt_new15 hP hD hS
    have e2 : r.map (conc (va_up ad (xn X) q)) = r.map (conc ad) := oks_map (up_ag hn) hks
    have e3 : l.map (cq (va_up ad (xn X) q)) = l.map (cq ad) := okl_map (up_ag hn) hkl
    have := h _ _ _ hk (va_up ad (xn X) q) H1 locs ls (cells + 1) (slots + n.toNatClampNeg) hw1 (by rw [e3]; exact hl)
    rw [List.map_cons, e2] at this
    rw [show conc (va_up ad (xn X) q) (Value.ref (xn X)) = Value.ref q by show Value.ref (va_up ad (xn X) q (xn X)) = _; rw [va_up_self]] at this
    exact this
  · exact hk.elim
def i_newq (kd : Nat) (X0 : Mm) (mc ms : Nat) (k : Kk) : Kk := fun l st X => match st with
  | .int n :: r => okl (xn X) l ∧ oks (xn X) r ∧ xn X < 900 ∧ ¬ n < 0 ∧ n.toNatClampNeg ≤ 10000 ∧ xc X + 1 ≤ xc X0 + mc ∧ xs X + n.toNatClampNeg ≤ xs X0 + ms ∧ k l (.ref (xn X) :: r) (xnew X kd n.toNatClampNeg n.toNatClampNeg)
  | _ => False
theorem cnt_new12 {cy : Nat → ClassId} {ad : Nat → Nat} {X : Mm} {len sl : Nat} : cnt cy ad (xnew X 12 len sl) (xn X) = .inl (cy 2, len, .inr (.inr (.inr (.inr (fun _ => none))))) := by
  have e : xk (xnew X 12 len sl) (xn X) = 12 := va_up_self _ _ _
  rw [cnt_12 e, show xl (xnew X 12 len sl) (xn X) = len from va_up_self _ _ _, show xr (xnew X 12 len sl) (xn X) = fun _ => none from va_up_self _ _ _]
  rfl
theorem s_newq12 (g : Good Z cc nL own lv) (hq : RetN Z X0 mc ms) {i : Nat} (w : Cond.classLink own i "BusTelegrams$Station" ∈ GL) (ho : va_AO "BusTelegrams$Station" (zs Z)) (d : decode cc pc = .ok (.anewarray i, 3)) (h : Snd Z nL (pc + 3) k) : Snd Z nL pc (i_newq 12 X0 mc ms k) := by
  intro l st X hk ad H locs ls cells slots hw hl
  unfold i_newq at hk
  split at hk
  · next n r =>
    obtain ⟨hkl, hks, hn, hn0, hn1, hcx, hsx, hk⟩ := hk
    obtain ⟨q1, q2, q3, q4, q5⟩ := hq
    have hcm := g.hcm
    have hsm := g.hsm
    obtain ⟨z1, z2, -⟩ := id hw
    refine va_newq g.hx g.hb g.hown (g.hG _ w) ho g.hK hw.P hw.D hw.S g.hA hn0 rfl (by omega) (by omega) (by omega) d (fun q cA H1 hK1 hP hD hS => ?_)
    have e9 := cy_of g (i := 2) (ty := .object "BusTelegrams$Station") rfl hK1
    rw [e9] at hP hD
    have hw1 := hw.new (kd := 12) (len := n.toNatClampNeg) (sl := n.toNatClampNeg) q5 hn (by omega) (by omega) cnt_new12 hP hD hS
    have e2 : r.map (conc (va_up ad (xn X) q)) = r.map (conc ad) := oks_map (up_ag hn) hks
    have e3 : l.map (cq (va_up ad (xn X) q)) = l.map (cq ad) := okl_map (up_ag hn) hkl
    have := h _ _ _ hk (va_up ad (xn X) q) H1 locs ls (cells + 1) (slots + n.toNatClampNeg) hw1 (by rw [e3]; exact hl)
    rw [List.map_cons, e2] at this
    rw [show conc (va_up ad (xn X) q) (Value.ref (xn X)) = Value.ref q by show Value.ref (va_up ad (xn X) q (xn X)) = _; rw [va_up_self]] at this
    exact this
  · exact hk.elim
theorem cnt_new13 {cy : Nat → ClassId} {ad : Nat → Nat} {X : Mm} {len sl : Nat} : cnt cy ad (xnew X 13 len sl) (xn X) = .inl (cy 3, len, .inr (.inr (.inr (.inr (fun _ => none))))) := by
  have e : xk (xnew X 13 len sl) (xn X) = 13 := va_up_self _ _ _
  rw [cnt_13 e, show xl (xnew X 13 len sl) (xn X) = len from va_up_self _ _ _, show xr (xnew X 13 len sl) (xn X) = fun _ => none from va_up_self _ _ _]
  rfl
theorem s_newq13 (g : Good Z cc nL own lv) (hq : RetN Z X0 mc ms) {i : Nat} (w : Cond.classLink own i "BusTelegrams$Telegram" ∈ GL) (ho : va_AO "BusTelegrams$Telegram" (zs Z)) (d : decode cc pc = .ok (.anewarray i, 3)) (h : Snd Z nL (pc + 3) k) : Snd Z nL pc (i_newq 13 X0 mc ms k) := by
  intro l st X hk ad H locs ls cells slots hw hl
  unfold i_newq at hk
  split at hk
  · next n r =>
    obtain ⟨hkl, hks, hn, hn0, hn1, hcx, hsx, hk⟩ := hk
    obtain ⟨q1, q2, q3, q4, q5⟩ := hq
    have hcm := g.hcm
    have hsm := g.hsm
    obtain ⟨z1, z2, -⟩ := id hw
    refine va_newq g.hx g.hb g.hown (g.hG _ w) ho g.hK hw.P hw.D hw.S g.hA hn0 rfl (by omega) (by omega) (by omega) d (fun q cA H1 hK1 hP hD hS => ?_)
    have e9 := cy_of g (i := 3) (ty := .object "BusTelegrams$Telegram") rfl hK1
    rw [e9] at hP hD
    have hw1 := hw.new (kd := 13) (len := n.toNatClampNeg) (sl := n.toNatClampNeg) q5 hn (by omega) (by omega) cnt_new13 hP hD hS
    have e2 : r.map (conc (va_up ad (xn X) q)) = r.map (conc ad) := oks_map (up_ag hn) hks
    have e3 : l.map (cq (va_up ad (xn X) q)) = l.map (cq ad) := okl_map (up_ag hn) hkl
    have := h _ _ _ hk (va_up ad (xn X) q) H1 locs ls (cells + 1) (slots + n.toNatClampNeg) hw1 (by rw [e3]; exact hl)
    rw [List.map_cons, e2] at this
    rw [show conc (va_up ad (xn X) q) (Value.ref (xn X)) = Value.ref q by show Value.ref (va_up ad (xn X) q (xn X)) = _; rw [va_up_self]] at this
    exact this
  · exact hk.elim
def i_aast (kd c : Nat) (k : Kk) : Kk := fun l st X => match st with
  | .ref b :: .int i :: .ref a :: r => a < xn X ∧ xk X a = kd ∧ vp_in i (xl X a) ∧ b < xn X ∧ xk X b = c ∧ k l r (xsr X a i.toNatClampNeg (some b))
  | _ => False
theorem wf_sr {X : Mm} {a j b : Nat} (hw : WFx X) (hb : b < xn X) : WFx (xsr X a j (some b)) := by
  intro k i x h
  show x < xn X
  have h : (if k = a then va_up (xr X k) j (some b) else xr X k) i = some x := h
  by_cases hk : k = a
  · rw [if_pos hk] at h
    by_cases hi : i = j
    · rw [hi, va_up_self] at h; cases h; exact hb
    · rw [va_up_ne _ _ hi] at h; exact hw k i x h
  · rw [if_neg hk] at h; exact hw k i x h
theorem Hw.sr {X : Mm} {ad : Nat → Nat} {H H1 : Heap} {locs locs1 : List Loc} {cells slots a j b : Nat} (h : Hw Z X ad H locs cells slots) (hb : b < xn X)
    (hP : va_P (zE Z).1 vcl (wl (zE Z).2 ad (xsr X a j (some b))) H1) (hD : va_D (zA Z) (wl (zE Z).2 ad (xsr X a j (some b)))) (hS : va_S (zA Z) (zs Z).heap H1 locs1) : Hw Z (xsr X a j (some b)) ad H1 locs1 cells slots :=
  ⟨h.1, h.2.1, h.2.2.1, h.2.2.2.1, h.2.2.2.2.1, h.2.2.2.2.2.1, h.2.2.2.2.2.2.1, wf_sr h.W hb, hP, hD, hS⟩
theorem s_aast12 (g : Good Z cc nL own lv) (d : decode cc pc = .ok (.aastore, 1)) (h : Snd Z nL (pc + 1) k) : Snd Z nL pc (i_aast 12 1 k) := by
  intro l st X hk ad H locs ls cells slots hw hl
  unfold i_aast at hk
  split at hk
  · next b i a r =>
    obtain ⟨ha, hka, hi, hb, hkb, hk⟩ := hk
    refine va_astq g.hx g.hb g.hK hw.P hw.D hw.S a 2 b 1 (r := ("BusTelegrams$Station", TX1, 15)) (n := xl X a) (f := fun j => (xr X a j).map ad) (v := ad b) (vs := vfld 1 ad (xm X b) (xr X b)) (by rw [wl_get ha, cnt_12 hka]) rfl (by rw [wl_get hb, cnt_obj hkb (by decide)]) rfl hi d ?_
    intro H1 locs1 hP hD hS
    have e : (wl (zE Z).2 ad X).set a (ad a, .inl ((zE Z).2 2, xl X a, .inr (.inr (.inr (.inr (va_up (fun j => (xr X a j).map ad) i.toNatClampNeg (some (ad b)))))))) = wl (zE Z).2 ad (xsr X a i.toNatClampNeg (some b)) := by
      refine wl_set (X := X) (X' := xsr X a i.toNatClampNeg (some b)) rfl ?_ cnt_sr
      rw [cnt_12 (show xk (xsr X a i.toNatClampNeg (some b)) a = 12 from hka)]
      have e : xr (xsr X a i.toNatClampNeg (some b)) a = va_up (xr X a) i.toNatClampNeg (some b) := by show (if a = a then va_up (xr X a) i.toNatClampNeg (some b) else xr X a) = _; rw [if_pos rfl]
      rw [e]
      have e8 : (fun j => (va_up (xr X a) i.toNatClampNeg (some b) j).map ad) = va_up (fun j => (xr X a j).map ad) i.toNatClampNeg (some (ad b)) := by
        funext j
        by_cases hj : j = i.toNatClampNeg
        · rw [hj, va_up_self, va_up_self]; rfl
        · rw [va_up_ne _ _ hj, va_up_ne _ _ hj]
      rw [e8]
      rfl
    rw [e] at hP hD
    exact h _ _ _ hk ad H1 locs1 ls cells slots (hw.sr hb hP hD hS) hl
  · exact hk.elim
theorem s_aast13 (g : Good Z cc nL own lv) (d : decode cc pc = .ok (.aastore, 1)) (h : Snd Z nL (pc + 1) k) : Snd Z nL pc (i_aast 13 2 k) := by
  intro l st X hk ad H locs ls cells slots hw hl
  unfold i_aast at hk
  split at hk
  · next b i a r =>
    obtain ⟨ha, hka, hi, hb, hkb, hk⟩ := hk
    refine va_astq g.hx g.hb g.hK hw.P hw.D hw.S a 3 b 2 (r := ("BusTelegrams$Telegram", TX2, 4)) (n := xl X a) (f := fun j => (xr X a j).map ad) (v := ad b) (vs := vfld 2 ad (xm X b) (xr X b)) (by rw [wl_get ha, cnt_13 hka]) rfl (by rw [wl_get hb, cnt_obj hkb (by decide)]) rfl hi d ?_
    intro H1 locs1 hP hD hS
    have e : (wl (zE Z).2 ad X).set a (ad a, .inl ((zE Z).2 3, xl X a, .inr (.inr (.inr (.inr (va_up (fun j => (xr X a j).map ad) i.toNatClampNeg (some (ad b)))))))) = wl (zE Z).2 ad (xsr X a i.toNatClampNeg (some b)) := by
      refine wl_set (X := X) (X' := xsr X a i.toNatClampNeg (some b)) rfl ?_ cnt_sr
      rw [cnt_13 (show xk (xsr X a i.toNatClampNeg (some b)) a = 13 from hka)]
      have e : xr (xsr X a i.toNatClampNeg (some b)) a = va_up (xr X a) i.toNatClampNeg (some b) := by show (if a = a then va_up (xr X a) i.toNatClampNeg (some b) else xr X a) = _; rw [if_pos rfl]
      rw [e]
      have e8 : (fun j => (va_up (xr X a) i.toNatClampNeg (some b) j).map ad) = va_up (fun j => (xr X a j).map ad) i.toNatClampNeg (some (ad b)) := by
        funext j
        by_cases hj : j = i.toNatClampNeg
        · rw [hj, va_up_self, va_up_self]; rfl
        · rw [va_up_ne _ _ hj, va_up_ne _ _ hj]
      rw [e8]
      rfl
    rw [e] at hP hD
    exact h _ _ _ hk ad H1 locs1 ls cells slots (hw.sr hb hP hD hS) hl
  · exact hk.elim
theorem s_putR (g : Good Z cc nL own lv) (hin : (zM Z).name = "<init>") {c j i : Nat} {C : String} {T : u_T} {N : Nat} {ty0 : Nat → FieldType} (hc : clsOk c C T N ty0) (hj : j < N) (hr : isR c j = true) (hfin : (T j).2.2.2 = true) (hown : (T j).1 = own) (w : Cond.fieldLink own i C (T j).2.1 (T j).2.2.1 ∈ GL) (hd : (T j).1 = C) {ty : FieldType} (hty : ty0 j = ty) (hrt : ∀ a : Nat, narrow ty (.ref a) = .ref a ∧ fits ty (.ref a) = true)
    (d : decode cc pc = .ok (.putfield i, 3)) (h : Snd Z nL (pc + 3) k) : Snd Z nL pc (i_putR c j k) := by
  intro l st X hk ad H locs ls cells slots hw hl
  obtain ⟨h1, h2, h3, h4, h5, h6⟩ := hc
  unfold i_putR at hk
  split at hk
  · next b a r =>
    obtain ⟨ha, hka, hb, hk⟩ := hk
    refine va_putF g.hx g.hb g.hG h2 ty0 h5 h6 g.hown g.hK hw.P hw.D hw.S a (fs := vfld c ad (xm X a) (xr X a)) (by rw [wl_get ha, cnt_obj hka h4]) h1 j hj (g.hG _ w) (fun x hx => by rw [hd] at hx; exact hx) hfin hin hown (ty := ty) (v := .ref (ad b)) (by rw [h5 j hj, hty]) (hrt _).1 (hrt _).2 (by rw [vfld_len, h3]; exact hj) d ?_
    intro H1 locs1 hP hD hS
    have e : (wl (zE Z).2 ad X).set a (ad a, .inr (c, (vfld c ad (xm X a) (xr X a)).set j (.ref (ad b)))) = wl (zE Z).2 ad (xsr X a j (some b)) := by
      refine wl_set (X := X) (X' := xsr X a j (some b)) rfl ?_ cnt_sr
      rw [cnt_obj (show xk (xsr X a j (some b)) a = c from hka) h4, vfld_setR (by rw [h3]; exact hj) hr]
      have e : xr (xsr X a j (some b)) a = va_up (xr X a) j (some b) := by show (if a = a then va_up (xr X a) j (some b) else xr X a) = _; rw [if_pos rfl]
      rw [e]
      rfl
    rw [e] at hP hD
    exact h _ _ _ hk ad H1 locs1 ls cells slots (hw.sr hb hP hD hS) hl
  · exact hk.elim
def i_obj (k : Kk) : Kk := fun l st X => match st with
  | [.ref _] => k l [] X
  | _ => False
theorem s_obj (g : Good Z cc nL own lv) (hlv : 1 ≤ lv) {i : Nat} (w1 : Cond.methodLink own i objectInit ∈ GL) (w2 : Cond.instanceMethod objectInit ∈ GL) (w3 : Cond.code objectInit ⟨#[0xb1]⟩ 1 none ∈ GL) (d : decode cc pc = .ok (.invokespecial i, 3)) (h : Snd Z nL (pc + 3) k) : Snd Z nL pc (i_obj k) := by
  intro l st X hk ad H locs ls cells slots hw hl
  unfold i_obj at hk
  split at hk
  · next a =>
    have hfr := g.hfr
    have hlo := g.hlo
    refine W.objInit g.hx g.hb g.hown (g.hG _ w1) (g.hG _ w2) (g.hG _ w3) rfl (by rw [g.hml]; exact hl.1) rfl d (by omega) (by show _ ≤ _; simp [JFrame.monitorRoom]; omega) ?_
    exact W.eq (g2 := F0 (zm Z) (pc + 3) ls []) rfl (h _ _ _ hk ad H locs ls cells slots hw hl)
  · exact hk.elim
def AO2 (U : State) : Prop := va_AO "BusTelegrams$Station" U ∧ va_AO "BusTelegrams$Telegram" U
theorem AO2.moved {u U : State} (hvm : u.vm.Alike U.vm) (h : AO2 u) : AO2 U := ⟨va_AO.moved hvm h.1, va_AO.moved hvm h.2⟩
def PcxN (E : va_G × (Nat → ClassId)) (ad : Nat → Nat) (sz : Nat) (X : Mm) (a : List Value) (pre : Prop) : Array Value → State → Prop := fun v U => Pcx E ad sz X a pre v U ∧ AO2 U
theorem pcxN_blind {E : va_G × (Nat → ClassId)} {ad : Nat → Nat} {sz : Nat} {X : Mm} {a : List Value} {pre : Prop} : FrameBlind (PcxN E ad sz X a pre) := by
  intro b U g mk ⟨h, h8⟩
  exact ⟨pcx_blind b U g mk h, AO2.moved (u := U) (U := U.calling g mk b) (Vm.Alike.refl U.vm) h8⟩
/-- constructors -/
def MetN (l : Launch) (y : MethodName) (cc : ByteArray) (maxL : Nat) (lv mc ms : Nat) (w : Wp) : Prop :=
  ∀ (E : va_G × (Nat → ClassId)) (ad : Nat → Nat) (sz : Nat) (X : Mm) (a : List Value) (post : Option Value → Mm → Prop), Met l y (wsx y cc maxL none) (rmx lv mc ms) (PcxN E ad sz X a (w a X post)) (Qcx false E ad X mc ms (va_A (wl E.2 ad X) sz) post) mc ms (va_A (wl E.2 ad X) sz)
theorem metN_of {l : Launch} {y : MethodName} {cy : ByteArray} {maxL : Nat} {lv mc ms : Nat} {b : Mm → (Option Value → Mm → Prop) → Kk} (hy : plainFor y = true)
    (body : ∀ (Z : Zt) (X0 : Mm) (post : Option Value → Mm → Prop), zl Z = l → Good Z cy maxL y.cls lv → RetZ Z false X0 mc ms post → (zM Z).sig.returnType = none → (zM Z).name = y.name → AO2 (zs Z) → Snd Z maxL 0 (b X0 post)) : MetN l y cy maxL lv mc ms (wpOf maxL b) := by
  intro E ad sz X a post
  refine va_MetF (cc := cy) (maxL := maxL) (ret := none) hy rfl ?_
  intro p e s m args below meth c s₁ B hml hv
  obtain ⟨⟨rfl, hsz, ⟨hasz, hwp⟩, hWF, hP, hK, hD0, hN⟩, hao⟩ := hv
  subst hsz
  have hl := lv_entry (a.map (conc ad)) (n := maxL) (by rw [lg_sl_conc]; exact Nat.le_trans (asz_le a) hasz)
  rw [lg_entry_eq]
  generalize (lg_sl (a.map (conc ad)) ++ List.replicate (maxL - (lg_sl (a.map (conc ad))).length) Slot.unset).toArray = ls at hl ⊢
  rw [args_conc] at hl
  have hts := atoms_spec (ws := wsx y cy maxL none) B.pre
  have g : Good ((p, l, e, rmx lv mc ms, s, m, (a.map (conc ad)).toArray, below, meth, c, E, va_A (wl E.2 ad X) s.heap.size, (xc X, xs X, xn X, ad, xc X + mc, xs X + ms, false), MQ below (Qcx false E ad X mc ms (va_A (wl E.2 ad X) s.heap.size) post) (a.map (conc ad)).toArray s mc ms (va_A (wl E.2 ad X) s.heap.size)) : Zt) cy maxL y.cls lv :=
    ⟨B.exec, B.bytes, hml, findClass_of_methodNamed B.named, fun w hw => hts w (List.mem_cons_of_mem _ hw), hN, hK, fun q h => Or.inr h, B.notSynchronized, Nat.le_refl _, Nat.le_refl _, Nat.le_refl _, Nat.le_refl _⟩
  exact body _ X post rfl g ⟨rfl, rfl, rfl, rfl, rfl, rfl, Or.inl rfl⟩ B.returns (name_of_methodNamed B.named B.method).1 hao (lv_args 0 a) [] X hwp ad s.heap [] ls 0 0
    ⟨Nat.zero_add _, Nat.zero_add _, Nat.le_add_right _ _, Nat.le_add_right _ _, Nat.le_refl _, fun _ _ => rfl, fun _ => ⟨rfl, rfl⟩, hWF, hP, hD0.self, va_S.rf⟩ hl
-- calls of constructors
def i_callI (n : Nat) (X0 : Mm) (mc ms mc1 ms1 : Nat) (w : Wp) (k : Kk) : Kk := fun l st X => (st.take n).length = n ∧ (match st.drop n with
  | .ref o :: rest => okl (xn X) l ∧ oks (xn X) rest ∧ (rest.map (fun v => v.category)).sum ≤ 8 ∧ xc X + mc1 ≤ xc X0 + mc ∧ xs X + ms1 ≤ xs X0 + ms ∧ w (.ref o :: (st.take n).reverse) X (fun r X' => k l (r.toList ++ rest) X')
  | _ => False)
theorem s_ranI {y9 : Array Value} {X : Mm} {ad : Nat → Nat} {H : Heap} {locs : List Loc} {ls : Array Slot} {cells slots mc1 ms1 : Nat} {l : List (Nat × Value)} {st0 : List Value} {rest : List Value} (h : Snd Z nL (pc + 3) k) (g : Good Z cc nL own lv) (hq : RetN Z X0 mc ms) (hw : Hw Z X ad H locs cells slots) (hl : lv_has ls nL (l.map (cq ad))) (hkl : okl (xn X) l) (hks : oks (xn X) rest) (hcx : xc X + mc1 ≤ xc X0 + mc) (hsx : xs X + ms1 ≤ xs X0 + ms)
    (hr : va_Run (zp Z) (zl Z) (ze Z) (zR Z) (zs Z) (zm Z) (za Z) (zb Z) (zM Z) (zc Z) H locs cells slots mc1 ms1 (F0 (zm Z) pc ls st0) (rest.map (conc ad)) (Qcx false (zE Z) ad X mc1 ms1 (va_A (wl (zE Z).2 ad X) H.size) (fun r X' => k l (r.toList ++ rest) X') y9) (va_A (wl (zE Z).2 ad X) H.size)) :
    Ww Z H locs cells slots (F0 (zm Z) pc ls st0) := by
  intro T hT Xs
  obtain ⟨v, s0, t, T', L, h0, X', hL, e1, e2, ⟨r, X1, ad1, hv, hp, hWF, hn1, had, hfl, hc1, hs1, hP1, hD1, hF⟩, go⟩ := hr T hT Xs
  obtain ⟨q1, q2, q3, q4, q5⟩ := hq
  cases hv
  have hA : ∀ q, va_A (wl (zE Z).2 ad X) H.size q → zA Z q := by
    intro q hq
    rcases hq with ⟨i, e, hq⟩ | hq
    · exact hw.D.2 i _ hq
    · exact g.hA q (Nat.le_trans hw.S.1 hq)
  have hS1 : va_S (zA Z) (zs Z).heap T'.heap (locs ++ L) := by
    obtain ⟨z1, z2⟩ := hF
    rw [h0] at z1 z2
    refine ⟨Nat.le_trans hw.S.1 (by rw [e1]; exact z1), fun q q1 q2 => ?_, fun q hq => ?_⟩
    · rw [e1, z2 q (Nat.lt_of_lt_of_le q1 hw.S.1) (fun z => q2 (hA q z))]
      exact hw.S.2.1 q q1 q2
    · rcases List.mem_append.mp hq with hq | hq
      · exact hw.S.2.2 q hq
      · exact hA _ (hL q hq)
  have hw1 : Hw Z X1 ad1 T'.heap (locs ++ L) (cells + mc1) (slots + ms1) := by
    obtain ⟨h1, h2, h3, h4, h5, h6, h7, h8, h9, h10, h11⟩ := hw
    refine ⟨by omega, by omega, by omega, by omega, by omega, fun k hk => ?_, fun q => ?_, hWF, by rw [e1]; exact hP1, hD1.weaken (fun _ _ _ q => hA _ q), hS1⟩
    · rw [had k (by omega)]; exact h6 k hk
    · rw [q5] at q; cases q
  have e3 : rest.map (conc ad1) = rest.map (conc ad) := oks_map had hks
  have e4 : l.map (cq ad1) = l.map (cq ad) := okl_map had hkl
  obtain ⟨t2, a1, b1⟩ := h l (r.toList ++ rest) X1 hp ad1 T'.heap (locs ++ L) ls (cells + mc1) (slots + ms1) hw1 (by rw [e4]; exact hl) T' rfl X'
  refine ⟨t2, go t2 ?_, b1⟩
  have e5 : (r.map (conc ad1)).toList ++ rest.map (conc ad) = (r.toList ++ rest).map (conc ad1) := by rw [opt_map, List.map_append, e3]
  show Steps _ _ _ (T'.setTop (F0 (zm Z) (pc + 3) ls ((r.map (conc ad1)).toList ++ rest.map (conc ad)))) t2
  rw [e5]
  exact a1
theorem s_callI (g : Good Z cc nL own lv) (hq : RetN Z X0 mc ms) {n i lvy maxL mc1 ms1 : Nat} {y : MethodName} {cy : ByteArray} {w : Wp} (hao : AO2 (zs Z)) (hM : MetN (zl Z) y cy maxL lvy mc1 ms1 w) (h1 : Cond.methodLink own i y ∈ GL) (h2 : Cond.instanceMethod y ∈ GL) (h4 : Cond.initialized y.cls ∈ GL) (h5 : Cond.code y cy maxL none ∈ GL)
    (hd : y.cls ≠ "java/lang/invoke/MethodHandle" ∧ y.cls ≠ "java/lang/invoke/VarHandle" ∧ (parseMethodDescriptor y.desc).map (fun d => d.parameters.length) = some n) (hy : y.name = "<init>") (hlv : lvy + 1 ≤ lv) (hm : maxL ≤ 17)
    (d : decode cc pc = .ok (.invokespecial i, 3)) (h : Snd Z nL (pc + 3) k) : Snd Z nL pc (i_callI n X0 mc ms mc1 ms1 w k) := by
  intro l st X hk ad H locs ls cells slots hw hl
  unfold i_callI at hk
  obtain ⟨hn, hk⟩ := hk
  split at hk
  · next o rest e =>
    obtain ⟨hkl, hks, hcat, hcx, hsx, hk⟩ := hk
    have hfr := g.hfr
    have hlo := g.hlo
    have hcm := g.hcm
    have hsm := g.hsm
    obtain ⟨q1, q2, q3, q4, q5⟩ := id hq
    obtain ⟨z1, z2, z3, z4, -⟩ := id hw
    have hst : st.map (conc ad) = ((st.take n).reverse.map (conc ad)).reverse ++ .ref (ad o) :: rest.map (conc ad) := by
      rw [take_rev (n := n), e]; rfl
    rw [hst]
    refine s_ranI h g hq hw hl hkl hks hcx hsx (va_runI (As := (st.take n).reverse.map (conc ad)) (rest := rest.map (conc ad)) (b := ad o) ⟨g.hx, g.hb, g.hml, g.hown, g.hG⟩ (hM (zE Z) ad H.size X (.ref o :: (st.take n).reverse) (fun r X' => k l (r.toList ++ rest) X')) (cwI n g.hG (gin_x h5) rfl rfl rfl (g.hG _ h4) (g.hG _ h1) (g.hG _ h2) hy hd ⟨Nat.le_trans hlv hfr, by show 8 + (maxL + 11) + 36 * lvy ≤ _; omega⟩) ⟨pcxN_blind, fun U hU hW => ⟨pre_of g hw hk (fun U hW => nl_warm hW g.hN) U hU hW, AO2.moved hW.alike hao⟩⟩ rfl (by rw [List.length_map, List.length_reverse]; exact hn) hl.1 rfl (lv_room (by rw [cat_map]; exact hcat)) d ⟨by omega, by omega⟩)
  · exact hk.elim
theorem s_callIN (g : Good Z cc nL own lv) (hq : RetN Z X0 mc ms) {n i lvy maxL mc1 ms1 : Nat} {host : String} {y : MethodName} {cy : ByteArray} {w : Wp} (hao : AO2 (zs Z)) (hM : MetN (zl Z) y cy maxL lvy mc1 ms1 w) (hN : Cond.methodLinkNest own i y host ∈ NL) (h2 : Cond.instanceMethod y ∈ GL) (h4 : Cond.initialized y.cls ∈ GL) (h5 : Cond.code y cy maxL none ∈ GL)
    (hd : y.cls ≠ "java/lang/invoke/MethodHandle" ∧ y.cls ≠ "java/lang/invoke/VarHandle" ∧ (parseMethodDescriptor y.desc).map (fun d => d.parameters.length) = some n) (hy : y.name = "<init>") (hlv : lvy + 1 ≤ lv) (hm : maxL ≤ 17)
    (d : decode cc pc = .ok (.invokespecial i, 3)) (h : Snd Z nL (pc + 3) k) : Snd Z nL pc (i_callI n X0 mc ms mc1 ms1 w k) := by
  intro l st X hk ad H locs ls cells slots hw hl
  unfold i_callI at hk
  obtain ⟨hn, hk⟩ := hk
  split at hk
  · next o rest e =>
    obtain ⟨hkl, hks, hcat, hcx, hsx, hk⟩ := hk
    have hfr := g.hfr
    have hlo := g.hlo
    have hcm := g.hcm
    have hsm := g.hsm
    obtain ⟨q1, q2, q3, q4, q5⟩ := id hq
    obtain ⟨z1, z2, z3, z4, -⟩ := id hw
    have hst : st.map (conc ad) = ((st.take n).reverse.map (conc ad)).reverse ++ .ref (ad o) :: rest.map (conc ad) := by
      rw [take_rev (n := n), e]; rfl
    rw [hst]
    refine s_ranI h g hq hw hl hkl hks hcx hsx (va_runIN (As := (st.take n).reverse.map (conc ad)) (rest := rest.map (conc ad)) (b := ad o) ⟨g.hx, g.hb, g.hml, g.hown, g.hG⟩ (hM (zE Z) ad H.size X (.ref o :: (st.take n).reverse) (fun r X' => k l (r.toList ++ rest) X')) ⟨va_cnB n g.hG (gin_x h5) rfl rfl rfl (g.hN _ hN) (g.hG _ h4) hd ⟨Nat.le_trans hlv hfr, by show 8 + (maxL + 11) + 36 * lvy ≤ _; omega⟩, hy, g.hG _ h2⟩ ⟨pcxN_blind, fun U hU hW => ⟨pre_of g hw hk (fun U hW => nl_warm hW g.hN) U hU hW, AO2.moved hW.alike hao⟩⟩ rfl (by rw [List.length_map, List.length_reverse]; exact hn) hl.1 rfl (lv_room (by rw [cat_map]; exact hcat)) d ⟨by omega, by omega⟩)
  · exact hk.elim
end NewRows
