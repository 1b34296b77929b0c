/-! THE ABSTRACT MACHINE: memory with numbered cells, continuations, and one law an instruction (W out of a continuation) -/
abbrev Mm : Type := Nat × Nat × Nat × (Nat → Nat) × (Nat → Nat) × (Nat → Nat → Int32) × (Nat → Nat → Option Nat) × (Nat → Nat → Int64) × (Nat → Nat → UInt64)
def xn (X : Mm) : Nat := X.1
def xc (X : Mm) : Nat := X.2.1
def xs (X : Mm) : Nat := X.2.2.1
def xk (X : Mm) : Nat → Nat := X.2.2.2.1
def xl (X : Mm) : Nat → Nat := X.2.2.2.2.1
def xm (X : Mm) : Nat → Nat → Int32 := X.2.2.2.2.2.1
def xr (X : Mm) : Nat → Nat → Option Nat := X.2.2.2.2.2.2.1
def xL (X : Mm) : Nat → Nat → Int64 := X.2.2.2.2.2.2.2.1
def xD (X : Mm) : Nat → Nat → UInt64 := X.2.2.2.2.2.2.2.2
def xmk (n c s : Nat) (k l : Nat → Nat) (m : Nat → Nat → Int32) (r : Nat → Nat → Option Nat) (L : Nat → Nat → Int64) (D : Nat → Nat → UInt64) : Mm := (n, c, s, k, l, m, r, L, D)
def xsm (X : Mm) (a j : Nat) (v : Int32) : Mm := xmk (xn X) (xc X) (xs X) (xk X) (xl X) (fun b => if b = a then upd (xm X b) j v else xm X b) (xr X) (xL X) (xD X)
def xsr (X : Mm) (a j : Nat) (v : Option Nat) : Mm := xmk (xn X) (xc X) (xs X) (xk X) (xl X) (xm X) (fun b => if b = a then va_up (xr X b) j v else xr X b) (xL X) (xD X)
def xsL (X : Mm) (a j : Nat) (v : Int64) : Mm := xmk (xn X) (xc X) (xs X) (xk X) (xl X) (xm X) (xr X) (fun b => if b = a then vp_updL (xL X b) j v else xL X b) (xD X)
def xsD (X : Mm) (a j : Nat) (v : UInt64) : Mm := xmk (xn X) (xc X) (xs X) (xk X) (xl X) (xm X) (xr X) (xL X) (fun b => if b = a then vf_upd (xD X b) j v else xD X b)
def xbump (X : Mm) (c s : Nat) : Mm := xmk (xn X) c s (xk X) (xl X) (xm X) (xr X) (xL X) (xD X)
def xnew (X : Mm) (kd len slots : Nat) : Mm := xmk (xn X + 1) (xc X + 1) (xs X + slots) (va_up (xk X) (xn X) kd) (va_up (xl X) (xn X) len) (va_up (xm X) (xn X) (fun _ => 0)) (va_up (xr X) (xn X) (fun _ => none)) (va_up (xL X) (xn X) (fun _ => 0)) (va_up (xD X) (xn X) (fun _ => 0))
def WFx (X : Mm) : Prop := ∀ k j i, xr X k j = some i → i < xn X
def conc (ad : Nat → Nat) (v : Value) : Value := match v with
  | .ref k => .ref (ad k)
  | w => w
def cq (ad : Nat → Nat) (q : Nat × Value) : Nat × Value := (q.1, conc ad q.2)
def vfld (c : Nat) (ad : Nat → Nat) (M : Nat → Int32) (Rf : Nat → Option Nat) : List Value := (List.range (nf c)).map (fun j => if isR c j = true then va_rf ((Rf j).map ad) else .int (M j))
def cnt (cy : Nat → ClassId) (ad : Nat → Nat) (X : Mm) (k : Nat) : va_E :=
  if xk X k = 10 then .inl (cy 0, xl X k, .inl (xm X k))
  else if xk X k = 11 then .inl (cy 1, xl X k, .inl (xm X k))
  else if xk X k = 12 then .inl (cy 2, xl X k, .inr (.inr (.inr (.inr (fun j => (xr X k j).map ad)))))
  else if xk X k = 13 then .inl (cy 3, xl X k, .inr (.inr (.inr (.inr (fun j => (xr X k j).map ad)))))
  else if xk X k = 14 then .inl (cy 4, xl X k, .inr (.inl (xL X k)))
  else if xk X k = 15 then .inl (cy 5, xl X k, .inr (.inr (.inr (.inl (xD X k)))))
  else .inr (xk X k, vfld (xk X k) ad (xm X k) (xr X k))
def wl (cy : Nat → ClassId) (ad : Nat → Nat) (X : Mm) : va_W := (List.range (xn X)).map (fun k => (ad k, cnt cy ad X k))
abbrev vtys (cy : Nat → ClassId) : List (ClassId × FieldType) := [(cy 0, .int), (cy 1, .boolean), (cy 2, .object RX1), (cy 3, .object RX2), (cy 4, .long), (cy 5, .double)]
theorem wl_get {cy : Nat → ClassId} {ad : Nat → Nat} {X : Mm} {k : Nat} (h : k < xn X) : (wl cy ad X)[k]? = some (ad k, cnt cy ad X k) := by
  simp [wl, h]
theorem wl_set {cy : Nat → ClassId} {ad : Nat → Nat} {X X' : Mm} {k : Nat} {e : va_E} (hn : xn X' = xn X) (he : cnt cy ad X' k = e) (ho : ∀ j, j ≠ k → cnt cy ad X' j = cnt cy ad X j) : (wl cy ad X).set k (ad k, e) = wl cy ad X' := by
  apply List.ext_getElem?
  intro i
  subst he
  by_cases hi : i < xn X
  · by_cases hk : i = k
    · subst hk
      rw [List.getElem?_set_self (by simpa [wl] using hi), wl_get (by rw [hn]; exact hi)]
    · rw [List.getElem?_set_ne (Ne.symm hk), wl_get hi, wl_get (by rw [hn]; exact hi), ho i hk]
  · rw [List.getElem?_eq_none (by simp [wl]; omega), List.getElem?_eq_none (by simp [wl, hn]; omega)]
theorem cnt_sm {cy : Nat → ClassId} {ad : Nat → Nat} {X : Mm} {a j : Nat} {v : Int32} : ∀ i, i ≠ a → cnt cy ad (xsm X a j v) i = cnt cy ad X i := by
  intro i h
  have e : xm (xsm X a j v) i = xm X i := by show (if i = a then upd (xm X i) j v else xm X i) = _; rw [if_neg h]
  unfold cnt
  rw [e]
  rfl
theorem cnt_sL {cy : Nat → ClassId} {ad : Nat → Nat} {X : Mm} {a j : Nat} {v : Int64} : ∀ i, i ≠ a → cnt cy ad (xsL X a j v) i = cnt cy ad X i := by
  intro i h
  have e : xL (xsL X a j v) i = xL X i := by show (if i = a then vp_updL (xL X i) j v else xL X i) = _; rw [if_neg h]
  unfold cnt
  rw [e]
  rfl
theorem cnt_sD {cy : Nat → ClassId} {ad : Nat → Nat} {X : Mm} {a j : Nat} {v : UInt64} : ∀ i, i ≠ a → cnt cy ad (xsD X a j v) i = cnt cy ad X i := by
  intro i h
  have e : xD (xsD X a j v) i = xD X i := by show (if i = a then vf_upd (xD X i) j v else xD X i) = _; rw [if_neg h]
  unfold cnt
  rw [e]
  rfl
theorem cnt_sr {cy : Nat → ClassId} {ad : Nat → Nat} {X : Mm} {a j : Nat} {v : Option Nat} : ∀ i, i ≠ a → cnt cy ad (xsr X a j v) i = cnt cy ad X i := by
  intro i h
  have e : xr (xsr X a j v) i = xr X i := by show (if i = a then va_up (xr X i) j v else xr X i) = _; rw [if_neg h]
  unfold cnt
  rw [e]
  rfl
theorem cnt_obj {cy : Nat → ClassId} {ad : Nat → Nat} {X : Mm} {k c : Nat} (h : xk X k = c) (hc : c < 10) : cnt cy ad X k = .inr (c, vfld c ad (xm X k) (xr X k)) := by
  unfold cnt
  rw [h]
  repeat rw [if_neg (by omega)]
theorem vfld_at {c : Nat} {ad : Nat → Nat} {M : Nat → Int32} {Rf : Nat → Option Nat} {j : Nat} (hj : j < nf c) : (vfld c ad M Rf)[j]? = some (if isR c j = true then va_rf ((Rf j).map ad) else .int (M j)) := by
  simp [vfld, hj]
theorem vfld_len {c : Nat} {ad : Nat → Nat} {M : Nat → Int32} {Rf : Nat → Option Nat} : (vfld c ad M Rf).length = nf c := by simp [vfld]
theorem vfld_setI {c : Nat} {ad : Nat → Nat} {M : Nat → Int32} {Rf : Nat → Option Nat} {j : Nat} {v : Int32} (hj : j < nf c) (hr : isR c j = false) : (vfld c ad M Rf).set j (.int v) = vfld c ad (upd M j v) Rf := by
  apply List.ext_getElem?
  intro i
  by_cases hi : i < nf c
  · by_cases hk : i = j
    · subst hk
      rw [List.getElem?_set_self (by rw [vfld_len]; exact hi), vfld_at hi, hr]
      simp [upd]
    · rw [List.getElem?_set_ne (Ne.symm hk), vfld_at hi, vfld_at hi]
      simp [upd, hk]
  · rw [List.getElem?_eq_none (by rw [List.length_set, vfld_len]; omega), List.getElem?_eq_none (by rw [vfld_len]; omega)]
theorem vfld_setR {c : Nat} {ad : Nat → Nat} {M : Nat → Int32} {Rf : Nat → Option Nat} {j b : Nat} (hj : j < nf c) (hr : isR c j = true) : (vfld c ad M Rf).set j (.ref (ad b)) = vfld c ad M (va_up Rf j (some b)) := by
  apply List.ext_getElem?
  intro i
  by_cases hi : i < nf c
  · by_cases hk : i = j
    · subst hk
      rw [List.getElem?_set_self (by rw [vfld_len]; exact hi), vfld_at hi, hr]
      simp [va_up, va_rf]
    · rw [List.getElem?_set_ne (Ne.symm hk), vfld_at hi, vfld_at hi]
      simp [va_up, hk]
  · rw [List.getElem?_eq_none (by rw [List.length_set, vfld_len]; omega), List.getElem?_eq_none (by rw [vfld_len]; omega)]
-- the fixed things of a walk
abbrev Zt : Type := Program × Launch × Env × Room × State × MethodId × Array Value × List Frame × Method × Code × (va_G × (Nat → ClassId)) × (Nat → Prop) × (Nat × Nat × Nat × (Nat → Nat) × Nat × Nat × Bool) × (State → Prop)
def zp (Z : Zt) := Z.1
def zl (Z : Zt) := Z.2.1
def ze (Z : Zt) := Z.2.2.1
def zR (Z : Zt) := Z.2.2.2.1
def zs (Z : Zt) := Z.2.2.2.2.1
def zm (Z : Zt) := Z.2.2.2.2.2.1
def za (Z : Zt) := Z.2.2.2.2.2.2.1
def zb (Z : Zt) := Z.2.2.2.2.2.2.2.1
def zM (Z : Zt) := Z.2.2.2.2.2.2.2.2.1
def zc (Z : Zt) := Z.2.2.2.2.2.2.2.2.2.1
def zE (Z : Zt) := Z.2.2.2.2.2.2.2.2.2.2.1
def zA (Z : Zt) := Z.2.2.2.2.2.2.2.2.2.2.2.1
def zi (Z : Zt) := Z.2.2.2.2.2.2.2.2.2.2.2.2.1
def zQ (Z : Zt) := Z.2.2.2.2.2.2.2.2.2.2.2.2.2
def zc0 (Z : Zt) : Nat := (zi Z).1
def zs0 (Z : Zt) : Nat := (zi Z).2.1
def zn0 (Z : Zt) : Nat := (zi Z).2.2.1
def zad (Z : Zt) : Nat → Nat := (zi Z).2.2.2.1
def zcm (Z : Zt) : Nat := (zi Z).2.2.2.2.1
def zsm (Z : Zt) : Nat := (zi Z).2.2.2.2.2.1
def zfl (Z : Zt) : Bool := (zi Z).2.2.2.2.2.2
def Wd (Z : Zt) (ad : Nat → Nat) (X : Mm) (H : Heap) (locs : List Loc) : Prop := WFx X ∧ va_P (zE Z).1 vcl (wl (zE Z).2 ad X) H ∧ va_D (zA Z) (wl (zE Z).2 ad X) ∧ va_S (zA Z) (zs Z).heap H locs
def Hw (Z : Zt) (X : Mm) (ad : Nat → Nat) (H : Heap) (locs : List Loc) (cells slots : Nat) : Prop :=
  cells + zc0 Z = xc X ∧ slots + zs0 Z = xs X ∧ xc X ≤ zcm Z ∧ xs X ≤ zsm Z ∧ zn0 Z ≤ xn X ∧ (∀ k, (k < zn0 Z ∨ k = 999) → ad k = zad Z k) ∧ (zfl Z = true → xn X = zn0 Z ∧ ad = zad Z) ∧ Wd Z ad X H locs
abbrev Ww (Z : Zt) (H : Heap) (locs : List Loc) (cells slots : Nat) (g : JFrame) : Prop := W (zp Z) (zl Z) (ze Z) (zR Z) (zs Z) (zm Z) (za Z) (zb Z) (zM Z) (zc Z) H locs cells slots (zQ Z) g
def J (Z : Zt) (nL pc : Nat) (l : List (Nat × Value)) (st : List Value) (X : Mm) : Prop :=
  ∀ (ad : Nat → Nat) (H : Heap) (locs : List Loc) (ls : Array Slot) (cells slots : Nat), Hw Z X ad H locs cells slots → lv_has ls nL (l.map (cq ad)) → Ww Z H locs cells slots (F0 (zm Z) pc ls (st.map (conc ad)))
abbrev Kk : Type := List (Nat × Value) → List Value → Mm → Prop
def Snd (Z : Zt) (nL pc : Nat) (k : Kk) : Prop := ∀ l st X, k l st X → J Z nL pc l st X
def Good (Z : Zt) (cc : ByteArray) (nL : Nat) (own : String) (lv : Nat) : Prop :=
  (zp Z).tables.exec = Jvm.exec ∧ (zc Z).code = cc ∧ (zc Z).maxLocals = nL ∧ (zs Z).vm.findClass own = some (zm Z).cls ∧ (∀ w ∈ GL, w.before (za Z) (zs Z) = true) ∧ (∀ w ∈ NL, va_Nw w (zs Z)) ∧ va_K (zE Z).1 vcl (vtys (zE Z).2) (zs Z) ∧ (∀ q, (zs Z).heap.size ≤ q → zA Z q) ∧ (zM Z).locks = false ∧ lv ≤ (zR Z).frames ∧ 36 * lv ≤ (zR Z).locals ∧ zcm Z ≤ zc0 Z + (zR Z).cells ∧ zsm Z ≤ zs0 Z + (zR Z).slots
section GoodParts
variable {Z : Zt} {cc : ByteArray} {nL lv : Nat} {own : String}
theorem Good.hx (g : Good Z cc nL own lv) : (zp Z).tables.exec = Jvm.exec := g.1
theorem Good.hb (g : Good Z cc nL own lv) : (zc Z).code = cc := g.2.1
theorem Good.hml (g : Good Z cc nL own lv) : (zc Z).maxLocals = nL := g.2.2.1
theorem Good.hown (g : Good Z cc nL own lv) : (zs Z).vm.findClass own = some (zm Z).cls := g.2.2.2.1
theorem Good.hG (g : Good Z cc nL own lv) : ∀ w ∈ GL, w.before (za Z) (zs Z) = true := g.2.2.2.2.1
theorem Good.hN (g : Good Z cc nL own lv) : ∀ w ∈ NL, va_Nw w (zs Z) := g.2.2.2.2.2.1
theorem Good.hK (g : Good Z cc nL own lv) : va_K (zE Z).1 vcl (vtys (zE Z).2) (zs Z) := g.2.2.2.2.2.2.1
theorem Good.hA (g : Good Z cc nL own lv) : ∀ q, (zs Z).heap.size ≤ q → zA Z q := g.2.2.2.2.2.2.2.1
theorem Good.hlk (g : Good Z cc nL own lv) : (zM Z).locks = false := g.2.2.2.2.2.2.2.2.1
theorem Good.hfr (g : Good Z cc nL own lv) : lv ≤ (zR Z).frames := g.2.2.2.2.2.2.2.2.2.1
theorem Good.hlo (g : Good Z cc nL own lv) : 36 * lv ≤ (zR Z).locals := g.2.2.2.2.2.2.2.2.2.2.1
theorem Good.hcm (g : Good Z cc nL own lv) : zcm Z ≤ zc0 Z + (zR Z).cells := g.2.2.2.2.2.2.2.2.2.2.2.1
theorem Good.hsm (g : Good Z cc nL own lv) : zsm Z ≤ zs0 Z + (zR Z).slots := g.2.2.2.2.2.2.2.2.2.2.2.2
end GoodParts
-- locals: look up, store
def lk : List (Nat × Value) → Nat → Option Value
  | [], _ => none
  | (i, v) :: l, n => if i = n then some v else lk l n
theorem lk_mem {l : List (Nat × Value)} {n : Nat} {v : Value} (h : lk l n = some v) : (n, v) ∈ l := by
  induction l with
  | nil => cases h
  | cons q l ih =>
    obtain ⟨i, w⟩ := q
    simp only [lk] at h
    split at h
    · next e => cases h; subst e; exact List.mem_cons_self
    · exact List.mem_cons_of_mem _ (ih h)
theorem lk_has {ls : Array Slot} {nL : Nat} {l : List (Nat × Value)} {ad : Nat → Nat} {n : Nat} {v : Value} (h : lv_has ls nL (l.map (cq ad))) (e : lk l n = some v) : ls[n]? = some (.val (conc ad v)) :=
  h.2.2 (n, conc ad v) (List.mem_map.mpr ⟨(n, v), lk_mem e, rfl⟩)
def rm1 (l : List (Nat × Value)) (i : Nat) : List (Nat × Value) := l.filter (fun q => !(q.1 == i) && !(q.1 + 1 == i && q.2.category == 2))
def rm2 (l : List (Nat × Value)) (i : Nat) : List (Nat × Value) := l.filter (fun q => !(q.1 == i) && (!(q.1 == i + 1) && !(q.1 + 1 == i && q.2.category == 2)))
theorem conc_cat (ad : Nat → Nat) (v : Value) : (conc ad v).category = v.category := by cases v <;> rfl
theorem rm1_map (l : List (Nat × Value)) (i : Nat) (ad : Nat → Nat) : (l.map (cq ad)).filter (fun q => !(q.1 == i) && !(q.1 + 1 == i && q.2.category == 2)) = (rm1 l i).map (cq ad) := by
  unfold rm1
  rw [List.filter_map]
  congr 1
  apply List.filter_congr
  intro q _
  simp [Function.comp, cq, conc_cat]
theorem rm2_map (l : List (Nat × Value)) (i : Nat) (ad : Nat → Nat) : (l.map (cq ad)).filter (fun q => !(q.1 == i) && (!(q.1 == i + 1) && !(q.1 + 1 == i && q.2.category == 2))) = (rm2 l i).map (cq ad) := by
  unfold rm2
  rw [List.filter_map]
  congr 1
  apply List.filter_congr
  intro q _
  simp [Function.comp, cq, conc_cat]
def pickl (ks : List Nat) (l : List (Nat × Value)) : List (Nat × Value) := ks.filterMap (fun i => (lk l i).map (fun v => (i, v)))
theorem pickl_has {ls : Array Slot} {nL : Nat} {l : List (Nat × Value)} {ad : Nat → Nat} (ks : List Nat) (h : lv_has ls nL (l.map (cq ad))) : lv_has ls nL ((pickl ks l).map (cq ad)) := by
  refine ⟨h.1, h.2.1, fun q hq => ?_⟩
  obtain ⟨q0, h0, rfl⟩ := List.mem_map.mp hq
  obtain ⟨i, -, hi⟩ := List.mem_filterMap.mp h0
  cases e : lk l i with
  | none => rw [e] at hi; cases hi
  | some v =>
    rw [e] at hi
    cases hi
    exact lk_has h e
