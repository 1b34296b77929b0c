/-! contracts, calls, returns -/
abbrev Wp : Type := List Value → Mm → (Option Value → Mm → Prop) → Prop
theorem nl_tab : ∀ w ∈ NL, w.onTables = true := by decide +kernel
theorem nl_eq {U V : State} (h : U.vm = V.vm) (hN : ∀ w ∈ NL, va_Nw w U) : ∀ w ∈ NL, va_Nw w V := fun w hw => va_tabs (nl_tab w hw) h (hN w hw)
def NO (U : State) : Prop := (∀ w ∈ NL, va_Nw w U) ∧ va_AO RX1 U ∧ va_AO RX2 U
def Pcx (E : va_G × (Nat → ClassId)) (ad : Nat → Nat) (sz : Nat) (X : Mm) (a : List Value) (pre : Prop) : Array Value → State → Prop :=
  va_Pc (a.map (conc ad)) (fun U => U.heap.size = sz ∧ pre ∧ WFx X ∧ va_P E.1 vcl (wl E.2 ad X) U.heap ∧ va_K E.1 vcl (vtys E.2) U ∧ va_D (fun _ => True) (wl E.2 ad X) ∧ ∀ w ∈ NL, va_Nw w U)
def Qcx (fl : Bool) (E : va_G × (Nat → ClassId)) (ad : Nat → Nat) (X : Mm) (mc ms : Nat) (A : Nat → Prop) (post : Option Value → Mm → Prop) : Array Value → State → Outcome → State → Prop := fun _ st o t =>
  ∃ (r : Option Value) (X' : Mm) (ad' : Nat → Nat), o = .returned (r.map (conc ad')) ∧ post r X' ∧ WFx X' ∧ xn X ≤ xn X' ∧ (∀ k, (k < xn X ∨ k = 999) → ad' k = ad k) ∧ (fl = true → xn X' = xn X ∧ ad' = ad) ∧ xc X' = xc X + mc ∧ xs X' = xs X + ms ∧ va_P E.1 vcl (wl E.2 ad' X') t.heap ∧ va_D A (wl E.2 ad' X') ∧ va_F A st t
abbrev rmx (lv mc ms : Nat) : Room := { frames := lv, cells := mc, slots := ms, locals := 36 * lv }
abbrev wsx (y : MethodName) (cc : ByteArray) (maxL : Nat) (ret : Option FieldType) : List Cond := Cond.code y cc maxL ret :: GL
def MetS (l : Launch) (y : MethodName) (cc : ByteArray) (maxL : Nat) (ret : Option FieldType) (fl : Bool) (lv mc ms : Nat) (w : Wp) : Prop :=
  ∀ (E : va_G × (Nat → ClassId)) (ad : Nat → Nat) (sz : Nat) (X : Mm) (a : List Value) (post : Option Value → Mm → Prop), Met l y (wsx y cc maxL ret) (rmx lv mc ms) (Pcx E ad sz X a (w a X post)) (Qcx fl E ad X mc ms (va_A (wl E.2 ad X) sz) post) mc ms (va_A (wl E.2 ad X) sz)
theorem pcx_blind {E : va_G × (Nat → ClassId)} {ad : Nat → Nat} {sz : Nat} {X : Mm} {a : List Value} {pre : Prop} : FrameBlind (Pcx E ad sz X a pre) := by
  intro b U g mk ⟨h0, h1, h2, h3, h4, h5, h6, h7⟩
  exact ⟨h0, h1, h2, h3, h4, va_K.moved (u := U) (U := U.calling g mk b) (Vm.Alike.refl U.vm) h5, h6, nl_eq (U := U) (V := U.calling g mk b) rfl h7⟩
def RetZ (Z : Zt) (fl : Bool) (X0 : Mm) (mc ms : Nat) (post : Option Value → Mm → Prop) : Prop :=
  zc0 Z = xc X0 ∧ zs0 Z = xs X0 ∧ zn0 Z = xn X0 ∧ zcm Z = xc X0 + mc ∧ zsm Z = xs X0 + ms ∧ zfl Z = fl ∧
  (zQ Z = MQ (zb Z) (Qcx fl (zE Z) (zad Z) X0 mc ms (zA Z) post) (za Z) (zs Z) mc ms (zA Z) ∨ ∃ XC, zQ Z = vx_MQ (zb Z) (Qcx fl (zE Z) (zad Z) X0 mc ms (zA Z) post) XC (za Z) (zs Z) mc ms (zA Z))
section CallRows
variable {Z : Zt} {cc : ByteArray} {nL lv : Nat} {own : String} {pc : Nat} {k : Kk} {fl : Bool} {X0 : Mm} {mc ms : Nat} {post : Option Value → Mm → Prop}
theorem wl_bump {cy : Nat → ClassId} {ad : Nat → Nat} {X : Mm} {c s : Nat} : wl cy ad (xbump X c s) = wl cy ad X := rfl
theorem q_of {X : Mm} {ad : Nat → Nat} {H : Heap} {locs : List Loc} {cells slots : Nat} (hw : Hw Z X ad H locs cells slots) (hq : RetZ Z fl X0 mc ms post) {r : Option Value} (hp : post r (xbump X (xc X0 + mc) (xs X0 + ms))) {t : State} (ht : t.heap = H) (a : Array Value) :
    Qcx fl (zE Z) (zad Z) X0 mc ms (zA Z) post a (zs Z) (.returned (r.map (conc ad))) t := by
  obtain ⟨q1, q2, q3, q4, q5, q6, -⟩ := hq
  obtain ⟨h1, h2, h3, h4, h5, h6, h7, h8, h9, h10, h11⟩ := hw
  refine ⟨r, xbump X (xc X0 + mc) (xs X0 + ms), ad, rfl, hp, h8, ?_, ?_, ?_, rfl, rfl, ?_, h10, h11.F ht⟩
  · rw [← q3]; exact h5
  · rw [← q3]; exact h6
  · intro hf; rw [← q3]; exact h7 (q6.trans hf)
  · rw [ht]; exact h9
theorem qq_of {H : Heap} {locs : List Loc} {cells slots : Nat} {pc : Nat} {ls : Array Slot} {st : List Value} (hq : RetZ Z fl X0 mc ms post)
    (h : W (zp Z) (zl Z) (ze Z) (zR Z) (zs Z) (zm Z) (za Z) (zb Z) (zM Z) (zc Z) H locs cells slots (MQ (zb Z) (Qcx fl (zE Z) (zad Z) X0 mc ms (zA Z) post) (za Z) (zs Z) mc ms (zA Z)) (F0 (zm Z) pc ls st)) : Ww Z H locs cells slots (F0 (zm Z) pc ls st) := by
  rcases hq.2.2.2.2.2.2 with e | ⟨XC, e⟩
  · show W _ _ _ _ _ _ _ _ _ _ _ _ _ _ (zQ Z) _
    rw [e]; exact h
  · show W _ _ _ _ _ _ _ _ _ _ _ _ _ _ (zQ Z) _
    rw [e]; exact vx_ret h
def i_iret (post : Option Value → Mm → Prop) : Kk := fun _ st X => match st with
  | [.int v] => post (some (.int v)) X
  | _ => False
def i_zret (post : Option Value → Mm → Prop) : Kk := fun _ st X => match st with
  | [.int v] => (v = 0 ∨ v = 1) ∧ post (some (.int v)) X
  | _ => False
def i_aret (post : Option Value → Mm → Prop) : Kk := fun _ st X => match st with
  | [.ref v] => post (some (.ref v)) X
  | _ => False
def i_dret (post : Option Value → Mm → Prop) : Kk := fun _ st X => match st with
  | [.double v] => post (some (.double v)) X
  | _ => False
def i_vret (post : Option Value → Mm → Prop) : Kk := fun _ st X => match st with
  | [] => post none X
  | _ => False
abbrev bp (post : Option Value → Mm → Prop) (c s : Nat) : Option Value → Mm → Prop := fun r X => post r (xbump X c s)
theorem hcell {X : Mm} {ad : Nat → Nat} {H : Heap} {locs : List Loc} {cells slots : Nat} (hw : Hw Z X ad H locs cells slots) (hq : RetZ Z fl X0 mc ms post) : cells ≤ mc ∧ slots ≤ ms := by
  obtain ⟨q1, q2, q3, q4, q5, -⟩ := hq
  obtain ⟨h1, h2, h3, h4, -⟩ := hw
  omega
theorem s_iret (g : Good Z cc nL own lv) (hq : RetZ Z fl X0 mc ms post) (hr : (zM Z).sig.returnType = some .int) (d : decode cc pc = .ok (.ireturn, 1)) : Snd Z nL pc (i_iret (bp post (xc X0 + mc) (xs X0 + ms))) := by
  intro l st X hk ad H locs ls cells slots hw hl
  unfold i_iret at hk
  split at hk
  · next v =>
    refine qq_of hq ?_
    refine W.widen (hcell hw hq).1 (hcell hw hq).2 ?_
    exact W.iret g.hx g.hb hr (fun t ht hW => q_of hw hq (r := some (.int v)) hk ht _) hw.S.2.2 d g.hlk
  · exact hk.elim
theorem s_zret (g : Good Z cc nL own lv) (hq : RetZ Z fl X0 mc ms post) (hr : (zM Z).sig.returnType = some .boolean) (d : decode cc pc = .ok (.ireturn, 1)) : Snd Z nL pc (i_zret (bp post (xc X0 + mc) (xs X0 + ms))) := by
  intro l st X hk ad H locs ls cells slots hw hl
  unfold i_zret at hk
  split at hk
  · next v =>
    refine qq_of hq ?_
    refine W.widen (hcell hw hq).1 (hcell hw hq).2 ?_
    exact W.zret g.hx g.hb hr (by rcases hk.1 with rfl | rfl <;> rfl) (fun t ht hW => q_of hw hq (r := some (.int v)) hk.2 ht _) hw.S.2.2 d g.hlk
  · exact hk.elim
theorem s_aret (g : Good Z cc nL own lv) (hq : RetZ Z fl X0 mc ms post) {C : String} (hr : (zM Z).sig.returnType = some (.object C)) (d : decode cc pc = .ok (.areturn, 1)) : Snd Z nL pc (i_aret (bp post (xc X0 + mc) (xs X0 + ms))) := by
  intro l st X hk ad H locs ls cells slots hw hl
  unfold i_aret at hk
  split at hk
  · next v =>
    refine qq_of hq ?_
    refine W.widen (hcell hw hq).1 (hcell hw hq).2 ?_
    exact W.aret g.hx g.hb hr (Or.inl ⟨_, rfl⟩) (Or.inr ⟨_, rfl⟩) (fun t ht hW => q_of hw hq (r := some (.ref v)) hk ht _) hw.S.2.2 d g.hlk
  · exact hk.elim
theorem s_dret (g : Good Z cc nL own lv) (hq : RetZ Z fl X0 mc ms post) (hr : (zM Z).sig.returnType = some .double) (d : decode cc pc = .ok (.dreturn, 1)) : Snd Z nL pc (i_dret (bp post (xc X0 + mc) (xs X0 + ms))) := by
  intro l st X hk ad H locs ls cells slots hw hl
  unfold i_dret at hk
  split at hk
  · next v =>
    refine qq_of hq ?_
    refine W.widen (hcell hw hq).1 (hcell hw hq).2 ?_
    exact W.dret g.hx g.hb hr (fun t ht hW => q_of hw hq (r := some (.double v)) hk ht _) hw.S.2.2 d g.hlk
  · exact hk.elim
theorem s_vret (g : Good Z cc nL own lv) (hq : RetZ Z fl X0 mc ms post) (hr : (zM Z).sig.returnType = none) (d : decode cc pc = .ok (.return_, 1)) : Snd Z nL pc (i_vret (bp post (xc X0 + mc) (xs X0 + ms))) := by
  intro l st X hk ad H locs ls cells slots hw hl
  unfold i_vret at hk
  split at hk
  · refine qq_of hq ?_
    refine W.widen (hcell hw hq).1 (hcell hw hq).2 ?_
    exact W.vret g.hx g.hb hr (fun t ht hW => q_of hw hq (r := none) hk ht _) hw.S.2.2 d g.hlk
  · exact hk.elim
-- a plain method (no room): what it ends with is what its continuation gets
theorem s_plain (hq : RetZ Z true X0 0 0 post) {kk : (Option Value → Mm → Prop) → Kk} (hkk : ∀ (p q : Option Value → Mm → Prop) (l : List (Nat × Value)) (st : List Value) (X : Mm), (∀ r, p r X → q r X) → kk p l st X → kk q l st X) (h : Snd Z nL pc (kk (bp post (xc X0 + 0) (xs X0 + 0)))) : Snd Z nL pc (kk post) := by
  intro l st X hk ad H locs ls cells slots hw hl
  refine h l st X (hkk _ _ _ _ _ (fun r hr => ?_) hk) ad H locs ls cells slots hw hl
  obtain ⟨q1, q2, q3, q4, q5, -⟩ := hq
  obtain ⟨h1, h2, h3, h4, -⟩ := hw
  have e1 : xc X0 + 0 = xc X := by omega
  have e2 : xs X0 + 0 = xs X := by omega
  show post r (xbump X (xc X0 + 0) (xs X0 + 0))
  rw [e1, e2]
  exact hr
theorem i_iret_mono (p q : Option Value → Mm → Prop) (l : List (Nat × Value)) (st : List Value) (X : Mm) (h : ∀ r, p r X → q r X) (hk : i_iret p l st X) : i_iret q l st X := by
  unfold i_iret at *; split at hk
  · exact h _ hk
  · exact hk.elim
theorem i_zret_mono (p q : Option Value → Mm → Prop) (l : List (Nat × Value)) (st : List Value) (X : Mm) (h : ∀ r, p r X → q r X) (hk : i_zret p l st X) : i_zret q l st X := by
  unfold i_zret at *; split at hk
  · exact ⟨hk.1, h _ hk.2⟩
  · exact hk.elim
theorem i_aret_mono (p q : Option Value → Mm → Prop) (l : List (Nat × Value)) (st : List Value) (X : Mm) (h : ∀ r, p r X → q r X) (hk : i_aret p l st X) : i_aret q l st X := by
  unfold i_aret at *; split at hk
  · exact h _ hk
  · exact hk.elim
theorem i_dret_mono (p q : Option Value → Mm → Prop) (l : List (Nat × Value)) (st : List Value) (X : Mm) (h : ∀ r, p r X → q r X) (hk : i_dret p l st X) : i_dret q l st X := by
  unfold i_dret at *; split at hk
  · exact h _ hk
  · exact hk.elim
theorem i_vret_mono (p q : Option Value → Mm → Prop) (l : List (Nat × Value)) (st : List Value) (X : Mm) (h : ∀ r, p r X → q r X) (hk : i_vret p l st X) : i_vret q l st X := by
  unfold i_vret at *; split at hk
  · exact h _ hk
  · exact hk.elim
theorem s_iret0 (g : Good Z cc nL own lv) (hq : RetZ Z true X0 0 0 post) (hr : (zM Z).sig.returnType = some .int) (d : decode cc pc = .ok (.ireturn, 1)) : Snd Z nL pc (i_iret post) := s_plain hq i_iret_mono (s_iret g hq hr d)
theorem s_zret0 (g : Good Z cc nL own lv) (hq : RetZ Z true X0 0 0 post) (hr : (zM Z).sig.returnType = some .boolean) (d : decode cc pc = .ok (.ireturn, 1)) : Snd Z nL pc (i_zret post) := s_plain hq i_zret_mono (s_zret g hq hr d)
theorem s_aret0 (g : Good Z cc nL own lv) (hq : RetZ Z true X0 0 0 post) {C : String} (hr : (zM Z).sig.returnType = some (.object C)) (d : decode cc pc = .ok (.areturn, 1)) : Snd Z nL pc (i_aret post) := s_plain hq i_aret_mono (s_aret g hq hr d)
theorem s_dret0 (g : Good Z cc nL own lv) (hq : RetZ Z true X0 0 0 post) (hr : (zM Z).sig.returnType = some .double) (d : decode cc pc = .ok (.dreturn, 1)) : Snd Z nL pc (i_dret post) := s_plain hq i_dret_mono (s_dret g hq hr d)
theorem s_vret0 (g : Good Z cc nL own lv) (hq : RetZ Z true X0 0 0 post) (hr : (zM Z).sig.returnType = none) (d : decode cc pc = .ok (.return_, 1)) : Snd Z nL pc (i_vret post) := s_plain hq i_vret_mono (s_vret g hq hr d)
-- calls of plain methods
def i_callS (n : Nat) (w : Wp) (k : Kk) : Kk := fun l st X => (st.take n).length = n ∧ ((st.drop n).map (fun v => v.category)).sum ≤ 8 ∧ w (st.take n).reverse X (fun r X' => k l (r.toList ++ st.drop n) X')
def i_callV (n c : Nat) (w : Wp) (k : Kk) : Kk := fun l st X => (st.take n).length = n ∧ (match st.drop n with
  | .ref o :: rest => o < xn X ∧ xk X o = c ∧ (rest.map (fun v => v.category)).sum ≤ 8 ∧ w (.ref o :: (st.take n).reverse) X (fun r X' => k l (r.toList ++ rest) X')
  | _ => False)
theorem cat_map (ad : Nat → Nat) (r : List Value) : ((r.map (conc ad)).map (fun v => v.category)) = r.map (fun v => v.category) := by
  rw [List.map_map]
  apply List.map_congr_left
  intro v _
  exact conc_cat ad v
theorem opt_map (ad : Nat → Nat) (r : Option Value) : (r.map (conc ad)).toList = r.toList.map (conc ad) := by cases r <;> rfl
/-- behind a call of a plain method -/
theorem s_ran {y9 : Array Value} {X : Mm} {ad : Nat → Nat} {H : Heap} {locs : List Loc} {ls : Array Slot} {cells slots : Nat} {l : List (Nat × Value)} {st0 : List Value} {rest : List Value} (h : Snd Z nL (pc + 3) k) (g : Good Z cc nL own lv) (hw : Hw Z X ad H locs cells slots) (hl : lv_has ls nL (l.map (cq ad)))
    (hr : va_Run (zp Z) (zl Z) (ze Z) (zR Z) (zs Z) (zm Z) (za Z) (zb Z) (zM Z) (zc Z) H locs cells slots 0 0 (F0 (zm Z) pc ls st0) (rest.map (conc ad)) (Qcx true (zE Z) ad X 0 0 (va_A (wl (zE Z).2 ad X) H.size) (fun r X' => k l (r.toList ++ rest) X') y9) (va_A (wl (zE Z).2 ad X) H.size)) :
    Ww Z H locs cells slots (F0 (zm Z) pc ls st0) := by
  intro T hT Xs
  obtain ⟨v, s0, t, T', L, h0, X', hL, e1, e2, ⟨r, X1, ad1, hv, hp, hWF, hn1, had, hfl, hc1, hs1, hP1, hD1, hF⟩, go⟩ := hr T hT Xs
  obtain ⟨hn2, rfl⟩ := hfl rfl
  cases hv
  have hA : ∀ q, va_A (wl (zE Z).2 ad1 X) H.size q → zA Z q := by
    intro q hq
    rcases hq with ⟨i, e, hq⟩ | hq
    · exact hw.D.2 i _ hq
    · exact g.hA q (Nat.le_trans hw.S.1 hq)
  have hS1 : va_S (zA Z) (zs Z).heap T'.heap (locs ++ L) := by
    obtain ⟨z1, z2⟩ := hF
    rw [h0] at z1 z2
    refine ⟨Nat.le_trans hw.S.1 (by rw [e1]; exact z1), fun q q1 q2 => ?_, fun q hq => ?_⟩
    · rw [e1, z2 q (Nat.lt_of_lt_of_le q1 hw.S.1) (fun z => q2 (hA q z))]
      exact hw.S.2.1 q q1 q2
    · rcases List.mem_append.mp hq with hq | hq
      · exact hw.S.2.2 q hq
      · exact hA _ (hL q hq)
  have hw1 : Hw Z X1 ad1 T'.heap (locs ++ L) (cells + 0) (slots + 0) := by
    obtain ⟨h1, h2, h3, h4, h5, h6, h7, h8, h9, h10, h11⟩ := hw
    refine ⟨by omega, by omega, by omega, by omega, by omega, h6, fun q => ⟨hn2.trans (h7 q).1, (h7 q).2⟩, hWF, by rw [e1]; exact hP1, hD1.weaken (fun _ _ _ q => hA _ q), hS1⟩
  obtain ⟨t2, a1, b1⟩ := h l (r.toList ++ rest) X1 hp ad1 T'.heap (locs ++ L) ls (cells + 0) (slots + 0) hw1 hl T' rfl X'
  refine ⟨t2, go t2 ?_, b1⟩
  have e3 : (r.map (conc ad1)).toList ++ rest.map (conc ad1) = (r.toList ++ rest).map (conc ad1) := by rw [opt_map, List.map_append]
  show Steps _ _ _ (T'.setTop (F0 (zm Z) (pc + 3) ls ((r.map (conc ad1)).toList ++ rest.map (conc ad1)))) t2
  rw [e3]
  exact a1
theorem pre_of {X : Mm} {ad : Nat → Nat} {H : Heap} {locs : List Loc} {cells slots : Nat} {a : List Value} {pre : Prop} (g : Good Z cc nL own lv) (hw : Hw Z X ad H locs cells slots) (hp : pre) (hnw : ∀ U : State, (zs Z).WarmedH U.vm → ∀ w ∈ NL, va_Nw w U) : ∀ U : State, U.heap = H → (zs Z).WarmedH U.vm → Pcx (zE Z) ad H.size X a pre (a.map (conc ad)).toArray U :=
  fun U hU hW => ⟨rfl, by rw [hU], hp, hw.W, by rw [hU]; exact hw.P, va_K.moved hW.alike g.hK, hw.D.weaken (fun _ _ _ _ => trivial), hnw U hW⟩
end CallRows
