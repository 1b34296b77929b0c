/-! fields, arrays -/
section HeapRows
variable {Z : Zt} {cc : ByteArray} {nL lv : Nat} {own : String} {pc : Nat} {k kt kf : Kk}
def clsOk (c : Nat) (C : String) (T : u_T) (N : Nat) (ty0 : Nat → FieldType) : Prop :=
  vcl[c]? = some (C, T, N) ∧ (∀ w ∈ u_ws C T N, w ∈ GL) ∧ nf c = N ∧ c < 10 ∧ (∀ k, k < N → parseFieldDescriptor (T k).2.2.1 = some (ty0 k)) ∧ (∀ a, a < N → ∀ b, b < N → a ≠ b → (T a).2.1 ≠ (T b).2.1)
theorem Hw.sm {X : Mm} {ad : Nat → Nat} {H H1 : Heap} {locs locs1 : List Loc} {cells slots a j : Nat} {v : Int32} (h : Hw Z X ad H locs cells slots)
    (hP : va_P (zE Z).1 vcl (wl (zE Z).2 ad (xsm X a j v)) H1) (hD : va_D (zA Z) (wl (zE Z).2 ad (xsm X a j v))) (hS : va_S (zA Z) (zs Z).heap H1 locs1) : Hw Z (xsm X a j v) ad H1 locs1 cells slots :=
  ⟨h.1, h.2.1, h.2.2.1, h.2.2.2.1, h.2.2.2.2.1, h.2.2.2.2.2.1, h.2.2.2.2.2.2.1, h.2.2.2.2.2.2.2.1, hP, hD, hS⟩
theorem Hw.P {X : Mm} {ad : Nat → Nat} {H : Heap} {locs : List Loc} {cells slots : Nat} (h : Hw Z X ad H locs cells slots) : va_P (zE Z).1 vcl (wl (zE Z).2 ad X) H := h.2.2.2.2.2.2.2.2.1
theorem Hw.D {X : Mm} {ad : Nat → Nat} {H : Heap} {locs : List Loc} {cells slots : Nat} (h : Hw Z X ad H locs cells slots) : va_D (zA Z) (wl (zE Z).2 ad X) := h.2.2.2.2.2.2.2.2.2.1
theorem Hw.S {X : Mm} {ad : Nat → Nat} {H : Heap} {locs : List Loc} {cells slots : Nat} (h : Hw Z X ad H locs cells slots) : va_S (zA Z) (zs Z).heap H locs := h.2.2.2.2.2.2.2.2.2.2
theorem Hw.W {X : Mm} {ad : Nat → Nat} {H : Heap} {locs : List Loc} {cells slots : Nat} (h : Hw Z X ad H locs cells slots) : WFx X := h.2.2.2.2.2.2.2.1
theorem s_getI (g : Good Z cc nL own lv) {c j i : Nat} {C : String} {T : u_T} {N : Nat} {ty0 : Nat → FieldType} (hc : clsOk c C T N ty0) (hj : j < N) (hr : isR c j = false) (w : Cond.fieldLink own i C (T j).2.1 (T j).2.2.1 ∈ GL) (hd : (T j).1 = C)
    (d : decode cc pc = .ok (.getfield i, 3)) (h : Snd Z nL (pc + 3) k) : Snd Z nL pc (i_getI c j k) := by
  intro l st X hk ad H locs ls cells slots hw hl
  obtain ⟨h1, h2, h3, h4, -, -⟩ := hc
  unfold i_getI at hk
  split at hk
  · next a r =>
    obtain ⟨ha, hka, hk⟩ := hk
    exact va_get g.hx g.hb g.hG h2 g.hown g.hK hw.P a (fs := vfld c ad (xm X a) (xr X a)) (by rw [wl_get ha, cnt_obj hka h4]) h1 j hj (g.hG _ w) (fun x hx => by rw [hd] at hx; exact hx)
      (v := .int (xm X a j)) (by rw [vfld_at (by rw [h3]; exact hj), hr]; rfl) d (h _ _ _ hk ad H locs ls cells slots hw hl)
  · exact hk.elim
theorem s_getIN (g : Good Z cc nL own lv) {c j i : Nat} {C host : String} {T : u_T} {N : Nat} {ty0 : Nat → FieldType} (hc : clsOk c C T N ty0) (hj : j < N) (hr : isR c j = false) (w : Cond.fieldLinkNest own i C (T j).2.1 (T j).2.2.1 host ∈ NL) (hd : (T j).1 = C)
    (d : decode cc pc = .ok (.getfield i, 3)) (h : Snd Z nL (pc + 3) k) : Snd Z nL pc (i_getI c j k) := by
  intro l st X hk ad H locs ls cells slots hw hl
  obtain ⟨h1, h2, h3, h4, -, -⟩ := hc
  unfold i_getI at hk
  split at hk
  · next a r =>
    obtain ⟨ha, hka, hk⟩ := hk
    exact va_getN g.hx g.hb g.hG h2 g.hown g.hK hw.P a (fs := vfld c ad (xm X a) (xr X a)) (by rw [wl_get ha, cnt_obj hka h4]) h1 j hj (va_Nw.use rfl (g.hN _ w)) (fun x hx => by rw [hd] at hx; exact hx)
      (v := .int (xm X a j)) (by rw [vfld_at (by rw [h3]; exact hj), hr]; rfl) d (h _ _ _ hk ad H locs ls cells slots hw hl)
  · exact hk.elim
theorem s_getR (g : Good Z cc nL own lv) {c j i : Nat} {C : String} {T : u_T} {N : Nat} {ty0 : Nat → FieldType} (hc : clsOk c C T N ty0) (hj : j < N) (hr : isR c j = true) (w : Cond.fieldLink own i C (T j).2.1 (T j).2.2.1 ∈ GL) (hd : (T j).1 = C)
    (d : decode cc pc = .ok (.getfield i, 3)) (h : Snd Z nL (pc + 3) k) : Snd Z nL pc (i_getR c j k) := by
  intro l st X hk ad H locs ls cells slots hw hl
  obtain ⟨h1, h2, h3, h4, -, -⟩ := hc
  unfold i_getR at hk
  split at hk
  · next a r =>
    obtain ⟨ha, hka, hk⟩ := hk
    split at hk
    · next b e =>
      exact va_get g.hx g.hb g.hG h2 g.hown g.hK hw.P a (fs := vfld c ad (xm X a) (xr X a)) (by rw [wl_get ha, cnt_obj hka h4]) h1 j hj (g.hG _ w) (fun x hx => by rw [hd] at hx; exact hx)
        (v := .ref (ad b)) (by rw [vfld_at (by rw [h3]; exact hj), hr, e]; rfl) d (h _ _ _ hk ad H locs ls cells slots hw hl)
    · exact hk.elim
  · exact hk.elim
theorem s_getRN (g : Good Z cc nL own lv) {c j i : Nat} {C host : String} {T : u_T} {N : Nat} {ty0 : Nat → FieldType} (hc : clsOk c C T N ty0) (hj : j < N) (hr : isR c j = true) (w : Cond.fieldLinkNest own i C (T j).2.1 (T j).2.2.1 host ∈ NL) (hd : (T j).1 = C)
    (d : decode cc pc = .ok (.getfield i, 3)) (h : Snd Z nL (pc + 3) k) : Snd Z nL pc (i_getR c j k) := by
  intro l st X hk ad H locs ls cells slots hw hl
  obtain ⟨h1, h2, h3, h4, -, -⟩ := hc
  unfold i_getR at hk
  split at hk
  · next a r =>
    obtain ⟨ha, hka, hk⟩ := hk
    split at hk
    · next b e =>
      exact va_getN g.hx g.hb g.hG h2 g.hown g.hK hw.P a (fs := vfld c ad (xm X a) (xr X a)) (by rw [wl_get ha, cnt_obj hka h4]) h1 j hj (va_Nw.use rfl (g.hN _ w)) (fun x hx => by rw [hd] at hx; exact hx)
        (v := .ref (ad b)) (by rw [vfld_at (by rw [h3]; exact hj), hr, e]; rfl) d (h _ _ _ hk ad H locs ls cells slots hw hl)
    · exact hk.elim
  · exact hk.elim
theorem wl_sm {cy : Nat → ClassId} {ad : Nat → Nat} {X : Mm} {a c j : Nat} {v : Int32} (hka : xk X a = c) (hc : c < 10) (hj : j < nf c) (hr : isR c j = false) : (wl cy ad X).set a (ad a, .inr (c, (vfld c ad (xm X a) (xr X a)).set j (.int v))) = wl cy ad (xsm X a j v) := by
  refine wl_set (X := X) (X' := xsm X a j v) rfl ?_ cnt_sm
  rw [cnt_obj (show xk (xsm X a j v) a = c from hka) hc, vfld_setI hj hr]
  have e : xm (xsm X a j v) a = upd (xm X a) j v := by show (if a = a then upd (xm X a) j v else xm X a) = _; rw [if_pos rfl]
  rw [e]
  rfl
theorem s_putI (g : Good Z cc nL own lv) {c j i : Nat} {C : String} {T : u_T} {N : Nat} {ty0 : Nat → FieldType} (hc : clsOk c C T N ty0) (hj : j < N) (hr : isR c j = false) (hfin : (T j).2.2.2 = false) (hty : (T j).2.2.1 = "I") (w : Cond.fieldLink own i C (T j).2.1 (T j).2.2.1 ∈ GL) (hd : (T j).1 = C)
    (d : decode cc pc = .ok (.putfield i, 3)) (h : Snd Z nL (pc + 3) k) : Snd Z nL pc (i_putI c j k) := by
  intro l st X hk ad H locs ls cells slots hw hl
  obtain ⟨h1, h2, h3, h4, h5, h6⟩ := hc
  unfold i_putI at hk
  split at hk
  · next v a r =>
    obtain ⟨ha, hka, hk⟩ := hk
    refine va_put g.hx g.hb g.hG h2 ty0 h5 h6 g.hown g.hK hw.P hw.D hw.S a (fs := vfld c ad (xm X a) (xr X a)) (by rw [wl_get ha, cnt_obj hka h4]) h1 j hj (g.hG _ w) (fun x hx => by rw [hd] at hx; exact hx) hfin (ty := .int) (v := .int v) (by rw [hty]; rfl) rfl rfl (by rw [vfld_len, h3]; exact hj) d ?_
    intro H1 locs1 hP hD hS
    rw [wl_sm hka h4 (by rw [h3]; exact hj) hr] at hP hD
    exact h _ _ _ hk ad H1 locs1 ls cells slots (hw.sm hP hD hS) hl
  · exact hk.elim
theorem s_putIN (g : Good Z cc nL own lv) {c j i : Nat} {C host : String} {T : u_T} {N : Nat} {ty0 : Nat → FieldType} (hc : clsOk c C T N ty0) (hj : j < N) (hr : isR c j = false) (hfin : (T j).2.2.2 = false) (hty : (T j).2.2.1 = "I") (w : Cond.fieldLinkNest own i C (T j).2.1 (T j).2.2.1 host ∈ NL) (hd : (T j).1 = C)
    (d : decode cc pc = .ok (.putfield i, 3)) (h : Snd Z nL (pc + 3) k) : Snd Z nL pc (i_putI c j k) := by
  intro l st X hk ad H locs ls cells slots hw hl
  obtain ⟨h1, h2, h3, h4, h5, h6⟩ := hc
  unfold i_putI at hk
  split at hk
  · next v a r =>
    obtain ⟨ha, hka, hk⟩ := hk
    refine va_putN g.hx g.hb g.hG h2 ty0 h5 h6 g.hown g.hK hw.P hw.D hw.S a (fs := vfld c ad (xm X a) (xr X a)) (by rw [wl_get ha, cnt_obj hka h4]) h1 j hj (va_Nw.use rfl (g.hN _ w)) (fun x hx => by rw [hd] at hx; exact hx) hfin (ty := .int) (v := .int v) (by rw [hty]; rfl) rfl rfl (by rw [vfld_len, h3]; exact hj) d ?_
    intro H1 locs1 hP hD hS
    rw [wl_sm hka h4 (by rw [h3]; exact hj) hr] at hP hD
    exact h _ _ _ hk ad H1 locs1 ls cells slots (hw.sm hP hD hS) hl
  · exact hk.elim
theorem s_putZ (g : Good Z cc nL own lv) {c j i : Nat} {C : String} {T : u_T} {N : Nat} {ty0 : Nat → FieldType} (hc : clsOk c C T N ty0) (hj : j < N) (hr : isR c j = false) (hfin : (T j).2.2.2 = false) (hty : (T j).2.2.1 = "Z") (w : Cond.fieldLink own i C (T j).2.1 (T j).2.2.1 ∈ GL) (hd : (T j).1 = C)
    (d : decode cc pc = .ok (.putfield i, 3)) (h : Snd Z nL (pc + 3) k) : Snd Z nL pc (i_putZ c j k) := by
  intro l st X hk ad H locs ls cells slots hw hl
  obtain ⟨h1, h2, h3, h4, h5, h6⟩ := hc
  unfold i_putZ at hk
  split at hk
  · next v a r =>
    obtain ⟨ha, hka, hv, hk⟩ := hk
    refine va_put g.hx g.hb g.hG h2 ty0 h5 h6 g.hown g.hK hw.P hw.D hw.S a (fs := vfld c ad (xm X a) (xr X a)) (by rw [wl_get ha, cnt_obj hka h4]) h1 j hj (g.hG _ w) (fun x hx => by rw [hd] at hx; exact hx) hfin (ty := .boolean) (v := .int v) (by rw [hty]; rfl) (by rcases hv with rfl | rfl <;> rfl) (by rcases hv with rfl | rfl <;> rfl) (by rw [vfld_len, h3]; exact hj) d ?_
    intro H1 locs1 hP hD hS
    rw [wl_sm hka h4 (by rw [h3]; exact hj) hr] at hP hD
    exact h _ _ _ hk ad H1 locs1 ls cells slots (hw.sm hP hD hS) hl
  · exact hk.elim
theorem s_putZN (g : Good Z cc nL own lv) {c j i : Nat} {C host : String} {T : u_T} {N : Nat} {ty0 : Nat → FieldType} (hc : clsOk c C T N ty0) (hj : j < N) (hr : isR c j = false) (hfin : (T j).2.2.2 = false) (hty : (T j).2.2.1 = "Z") (w : Cond.fieldLinkNest own i C (T j).2.1 (T j).2.2.1 host ∈ NL) (hd : (T j).1 = C)
    (d : decode cc pc = .ok (.putfield i, 3)) (h : Snd Z nL (pc + 3) k) : Snd Z nL pc (i_putZ c j k) := by
  intro l st X hk ad H locs ls cells slots hw hl
  obtain ⟨h1, h2, h3, h4, h5, h6⟩ := hc
  unfold i_putZ at hk
  split at hk
  · next v a r =>
    obtain ⟨ha, hka, hv, hk⟩ := hk
    refine va_putN g.hx g.hb g.hG h2 ty0 h5 h6 g.hown g.hK hw.P hw.D hw.S a (fs := vfld c ad (xm X a) (xr X a)) (by rw [wl_get ha, cnt_obj hka h4]) h1 j hj (va_Nw.use rfl (g.hN _ w)) (fun x hx => by rw [hd] at hx; exact hx) hfin (ty := .boolean) (v := .int v) (by rw [hty]; rfl) (by rcases hv with rfl | rfl <;> rfl) (by rcases hv with rfl | rfl <;> rfl) (by rw [vfld_len, h3]; exact hj) d ?_
    intro H1 locs1 hP hD hS
    rw [wl_sm hka h4 (by rw [h3]; exact hj) hr] at hP hD
    exact h _ _ _ hk ad H1 locs1 ls cells slots (hw.sm hP hD hS) hl
  · exact hk.elim
-- arrays
theorem wl_sa {cy : Nat → ClassId} {ad : Nat → Nat} {X : Mm} {a i : Nat} {v : Int32} (hka : xk X a = 10) : (wl cy ad X).set a (ad a, .inl (cy 0, xl X a, .inl (upd (xm X a) i v))) = wl cy ad (xsm X a i v) := by
  refine wl_set (X := X) (X' := xsm X a i v) rfl ?_ cnt_sm
  have e : xm (xsm X a i v) a = upd (xm X a) i v := by show (if a = a then upd (xm X a) i v else xm X a) = _; rw [if_pos rfl]
  unfold cnt
  rw [e, show xk (xsm X a i v) a = 10 from hka, if_pos rfl]
  rfl
theorem wl_sz {cy : Nat → ClassId} {ad : Nat → Nat} {X : Mm} {a i : Nat} {v : Int32} (hka : xk X a = 11) : (wl cy ad X).set a (ad a, .inl (cy 1, xl X a, .inl (upd (xm X a) i v))) = wl cy ad (xsm X a i v) := by
  refine wl_set (X := X) (X' := xsm X a i v) rfl ?_ cnt_sm
  have e : xm (xsm X a i v) a = upd (xm X a) i v := by show (if a = a then upd (xm X a) i v else xm X a) = _; rw [if_pos rfl]
  unfold cnt
  rw [e, show xk (xsm X a i v) a = 11 from hka, if_neg (by decide), if_pos rfl]
  rfl
theorem cnt_10 {cy : Nat → ClassId} {ad : Nat → Nat} {X : Mm} {a : Nat} (hka : xk X a = 10) : cnt cy ad X a = .inl (cy 0, xl X a, .inl (xm X a)) := by unfold cnt; rw [hka, if_pos rfl]
theorem cnt_11 {cy : Nat → ClassId} {ad : Nat → Nat} {X : Mm} {a : Nat} (hka : xk X a = 11) : cnt cy ad X a = .inl (cy 1, xl X a, .inl (xm X a)) := by unfold cnt; rw [hka, if_neg (by decide), if_pos rfl]
theorem cnt_12 {cy : Nat → ClassId} {ad : Nat → Nat} {X : Mm} {a : Nat} (hka : xk X a = 12) : cnt cy ad X a = .inl (cy 2, xl X a, .inr (.inr (.inr (.inr (fun j => (xr X a j).map ad))))) := by unfold cnt; rw [hka, if_neg (by decide), if_neg (by decide), if_pos rfl]
theorem cnt_13 {cy : Nat → ClassId} {ad : Nat → Nat} {X : Mm} {a : Nat} (hka : xk X a = 13) : cnt cy ad X a = .inl (cy 3, xl X a, .inr (.inr (.inr (.inr (fun j => (xr X a j).map ad))))) := by unfold cnt; rw [hka, if_neg (by decide), if_neg (by decide), if_neg (by decide), if_pos rfl]
theorem s_iald (g : Good Z cc nL own lv) (d : decode cc pc = .ok (.iaload, 1)) (h : Snd Z nL (pc + 1) k) : Snd Z nL pc (i_ald 10 k) := by
  intro l st X hk ad H locs ls cells slots hw hl
  unfold i_ald at hk
  split at hk
  · next i a r =>
    obtain ⟨ha, hka, hi, hk⟩ := hk
    exact va_iald g.hx g.hb g.hK hw.P a 0 (n := xl X a) (f := xm X a) (by rw [wl_get ha, cnt_10 hka]) rfl hi d (h _ _ _ hk ad H locs ls cells slots hw hl)
  · exact hk.elim
theorem s_zald (g : Good Z cc nL own lv) (d : decode cc pc = .ok (.baload, 1)) (h : Snd Z nL (pc + 1) k) : Snd Z nL pc (i_ald 11 k) := by
  intro l st X hk ad H locs ls cells slots hw hl
  unfold i_ald at hk
  split at hk
  · next i a r =>
    obtain ⟨ha, hka, hi, hk⟩ := hk
    exact va_zald g.hx g.hb g.hK hw.P a 1 (n := xl X a) (f := xm X a) (by rw [wl_get ha, cnt_11 hka]) rfl hi d (h _ _ _ hk ad H locs ls cells slots hw hl)
  · exact hk.elim
theorem s_iast (g : Good Z cc nL own lv) (d : decode cc pc = .ok (.iastore, 1)) (h : Snd Z nL (pc + 1) k) : Snd Z nL pc (i_ast k) := by
  intro l st X hk ad H locs ls cells slots hw hl
  unfold i_ast at hk
  split at hk
  · next v i a r =>
    obtain ⟨ha, hka, hi, hk⟩ := hk
    refine va_iast g.hx g.hb g.hK hw.P hw.D hw.S a 0 (n := xl X a) (f := xm X a) (by rw [wl_get ha, cnt_10 hka]) rfl hi d ?_
    intro H1 locs1 hP hD hS
    rw [wl_sa hka] at hP hD
    exact h _ _ _ hk ad H1 locs1 ls cells slots (hw.sm hP hD hS) hl
  · exact hk.elim
theorem nar_z {v : Int32} (h : v = 0 ∨ v = 1) : vp_nar .boolean v = v := by rcases h with rfl | rfl <;> rfl
theorem s_zast (g : Good Z cc nL own lv) (d : decode cc pc = .ok (.bastore, 1)) (h : Snd Z nL (pc + 1) k) : Snd Z nL pc (i_zst k) := by
  intro l st X hk ad H locs ls cells slots hw hl
  unfold i_zst at hk
  split at hk
  · next v i a r =>
    obtain ⟨ha, hka, hi, hv, hk⟩ := hk
    refine va_zast g.hx g.hb g.hK hw.P hw.D hw.S a 1 (n := xl X a) (f := xm X a) (by rw [wl_get ha, cnt_11 hka]) rfl hi d ?_
    intro H1 locs1 hP hD hS
    rw [nar_z hv, wl_sz hka] at hP hD
    exact h _ _ _ hk ad H1 locs1 ls cells slots (hw.sm hP hD hS) hl
  · exact hk.elim
theorem s_aald12 (g : Good Z cc nL own lv) (d : decode cc pc = .ok (.aaload, 1)) (h : Snd Z nL (pc + 1) k) : Snd Z nL pc (i_aald 12 k) := by
  intro l st X hk ad H locs ls cells slots hw hl
  unfold i_aald at hk
  split at hk
  · next i a r =>
    obtain ⟨ha, hka, hi, hk⟩ := hk
    split at hk
    · next b e =>
      refine va_aldq g.hx g.hb g.hK hw.P a 2 (n := xl X a) (f := fun j => (xr X a j).map ad) (by rw [wl_get ha, cnt_12 hka]) rfl hi d ?_
      rw [e]
      exact h _ _ _ hk ad H locs ls cells slots hw hl
    · exact hk.elim
  · exact hk.elim
theorem s_aald13 (g : Good Z cc nL own lv) (d : decode cc pc = .ok (.aaload, 1)) (h : Snd Z nL (pc + 1) k) : Snd Z nL pc (i_aald 13 k) := by
  intro l st X hk ad H locs ls cells slots hw hl
  unfold i_aald at hk
  split at hk
  · next i a r =>
    obtain ⟨ha, hka, hi, hk⟩ := hk
    split at hk
    · next b e =>
      refine va_aldq g.hx g.hb g.hK hw.P a 3 (n := xl X a) (f := fun j => (xr X a j).map ad) (by rw [wl_get ha, cnt_13 hka]) rfl hi d ?_
      rw [e]
      exact h _ _ _ hk ad H locs ls cells slots hw hl
    · exact hk.elim
  · exact hk.elim
theorem s_alen (g : Good Z cc nL own lv) (d : decode cc pc = .ok (.arraylength, 1)) (h : Snd Z nL (pc + 1) k) : Snd Z nL pc (i_alen k) := by
  intro l st X hk ad H locs ls cells slots hw hl
  unfold i_alen at hk
  split at hk
  · next a r =>
    obtain ⟨ha, hka, hk⟩ := hk
    exact va_alen g.hx g.hb g.hK hw.P a 0 (x := (xl X a, .inl (xm X a))) (by rw [wl_get ha, cnt_10 hka]) rfl rfl d (h _ _ _ hk ad H locs ls cells slots hw hl)
  · exact hk.elim
-- loops
def i_loop (ks : List Nat) (F : Kk → Kk) : Kk := fun l st X => ∃ I : Nat → Kk, (∃ n, I n (pickl ks l) st X) ∧ ∀ n l st X, I n l st X → F (fun l st X => ∃ j, j < n ∧ I j (pickl ks l) st X) l st X
theorem s_pick {ks : List Nat} (h : Snd Z nL pc k) : Snd Z nL pc (fun l st X => k (pickl ks l) st X) :=
  fun l st X hk ad H locs ls cells slots hw hl => h _ _ _ hk ad H locs ls cells slots hw (pickl_has ks hl)
theorem s_loop {ks : List Nat} {F : Kk → Kk} (h : ∀ k, Snd Z nL pc k → Snd Z nL pc (F k)) : Snd Z nL pc (i_loop ks F) := by
  intro l st X ⟨I, ⟨n, h0⟩, hs⟩
  have key : ∀ n, Snd Z nL pc (I n) := by
    intro n
    induction n using Nat.strongRecOn with
    | ind n ih =>
      intro l st X hI
      refine h _ ?_ l st X (hs n l st X hI)
      intro l1 st1 X1 ⟨j, hj, hI1⟩
      intro ad H locs ls cells slots hw hl
      exact ih j hj _ _ _ hI1 ad H locs ls cells slots hw (pickl_has ks hl)
  intro ad H locs ls cells slots hw hl
  exact key n _ _ _ h0 ad H locs ls cells slots hw (pickl_has ks hl)
end HeapRows
