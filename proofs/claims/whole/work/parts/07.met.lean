/-! calls by contract; contracts out of bodies; switches -/
section MetRows
variable {Z : Zt} {cc : ByteArray} {nL lv : Nat} {own : String} {pc : Nat} {k : Kk}
theorem gin_of {ws : List Cond} (h : ∀ w ∈ ws, w ∈ GL) : GoodIn GL ws := fun w hw => ⟨h w hw, good_of_word (gl_good (h w hw))⟩
theorem gin_x {y : MethodName} {cy : ByteArray} {maxL : Nat} {ret : Option FieldType} (h : Cond.code y cy maxL ret ∈ GL) : GoodIn GL (wsx y cy maxL ret) := gin_of (fun w hw => by
  rcases List.mem_cons.mp hw with rfl | hw
  · exact h
  · exact hw)
theorem gin_V {C : String} {i : Nat} {y : MethodName} {cy : ByteArray} {maxL : Nat} {ret : Option FieldType} (h1 : Cond.methodLink own i y ∈ GL) (h2 : Cond.instanceMethod y ∈ GL) (h3 : Cond.selects C y y ∈ GL) (h4 : Cond.initialized C ∈ GL) (h5 : Cond.code y cy maxL ret ∈ GL) : GoodIn GL (wsV own i C y (wsx y cy maxL ret)) := gin_of (fun w hw => by
  unfold wsV at hw
  rcases List.mem_append.mp hw with hw | hw
  · simp only [List.mem_cons, List.not_mem_nil, or_false] at hw
    rcases hw with rfl | rfl | rfl | rfl
    · exact h1
    · exact h2
    · exact h3
    · exact h4
  · exact (gin_x h5 w hw).1)
theorem gin_S {i : Nat} {y : MethodName} {cy : ByteArray} {maxL : Nat} {ret : Option FieldType} (h1 : Cond.methodLink own i y ∈ GL) (h2 : Cond.static y ∈ GL) (h4 : Cond.initialized y.cls ∈ GL) (h5 : Cond.code y cy maxL ret ∈ GL) : GoodIn GL (va_wsS own i y (wsx y cy maxL ret)) := gin_of (fun w hw => by
  unfold va_wsS at hw
  rcases List.mem_append.mp hw with hw | hw
  · simp only [List.mem_cons, List.not_mem_nil, or_false] at hw
    rcases hw with rfl | rfl | rfl
    · exact h1
    · exact h2
    · exact h4
  · exact (gin_x h5 w hw).1)
theorem take_rev {n : Nat} {st : List Value} (ad : Nat → Nat) : st.map (conc ad) = ((st.take n).reverse.map (conc ad)).reverse ++ (st.drop n).map (conc ad) := by
  rw [List.map_reverse, List.reverse_reverse, ← List.map_append, List.take_append_drop]
theorem s_callV (g : Good Z cc nL own lv) {n c i lvy maxL N : Nat} {C : String} {T : u_T} {y : MethodName} {cy : ByteArray} {ret : Option FieldType} {w : Wp} (hM : MetS (zl Z) y cy maxL ret true lvy 0 0 w) (hT : GoodIn GL (wsV own i C y (wsx y cy maxL ret)))
    (hd : y.cls = C ∧ y.cls ≠ "java/lang/invoke/MethodHandle" ∧ y.cls ≠ "java/lang/invoke/VarHandle" ∧ (parseMethodDescriptor y.desc).map (fun d => d.parameters.length) = some n) (hc : vcl[c]? = some (C, T, N)) (hc1 : c < 10) (hlv : lvy + 1 ≤ lv) (hm : maxL ≤ 17)
    (d : decode cc pc = .ok (.invokevirtual i, 3)) (h : Snd Z nL (pc + 3) k) : Snd Z nL pc (i_callV n c w k) := by
  intro l st X hk ad H locs ls cells slots hw hl
  unfold i_callV at hk
  obtain ⟨hn, hk⟩ := hk
  split at hk
  · next o rest e =>
    obtain ⟨ho, hko, hcat, hk⟩ := hk
    have hfr := g.hfr
    have hlo := g.hlo
    have hcm := g.hcm
    have hsm := g.hsm
    obtain ⟨z1, z2, z3, z4, -⟩ := id hw
    have hst : st.map (conc ad) = ((st.take n).reverse.map (conc ad)).reverse ++ .ref (ad o) :: rest.map (conc ad) := by
      rw [take_rev (n := n), e]; rfl
    rw [hst]
    refine s_ran h g hw hl (va_runV (As := (st.take n).reverse.map (conc ad)) (rest := rest.map (conc ad)) ⟨g.hx, g.hb, g.hml, g.hown, g.hG⟩ (hM (zE Z) ad H.size X (.ref o :: (st.take n).reverse) (fun r X' => k l (r.toList ++ rest) X')) (cwV n g.hG hT rfl rfl rfl hd ⟨Nat.le_trans hlv hfr, ?_⟩) ⟨pcx_blind, va_recv g.hK hw.P hc (fs := vfld c ad (xm X o) (xr X o)) (by rw [wl_get ho, cnt_obj hko hc1]), pre_of g hw hk (fun U hW => nl_warm hW g.hN)⟩ rfl (by rw [List.length_map, List.length_reverse]; exact hn) hl.1 rfl (lv_room (by rw [cat_map]; exact hcat)) d ⟨by omega, by omega⟩)
    show 8 + (maxL + 11) + 36 * lvy ≤ _
    omega
  · exact hk.elim
theorem s_callS (g : Good Z cc nL own lv) {n i lvy maxL : Nat} {y : MethodName} {cy : ByteArray} {ret : Option FieldType} {w : Wp} (hM : MetS (zl Z) y cy maxL ret true lvy 0 0 w) (hT : GoodIn GL (va_wsS own i y (wsx y cy maxL ret)))
    (hd : y.cls ≠ "java/lang/invoke/MethodHandle" ∧ y.cls ≠ "java/lang/invoke/VarHandle" ∧ (parseMethodDescriptor y.desc).map (fun d => d.parameters.length) = some n) (hlv : lvy + 1 ≤ lv) (hm : maxL ≤ 17)
    (d : decode cc pc = .ok (.invokestatic i, 3)) (h : Snd Z nL (pc + 3) k) : Snd Z nL pc (i_callS n w k) := by
  intro l st X hk ad H locs ls cells slots hw hl
  unfold i_callS at hk
  obtain ⟨hn, hcat, hk⟩ := hk
  have hfr := g.hfr
  have hlo := g.hlo
  have hcm := g.hcm
  have hsm := g.hsm
  obtain ⟨z1, z2, z3, z4, -⟩ := id hw
  rw [take_rev (n := n) (st := st)]
  refine s_ran h g hw hl (va_runS (As := (st.take n).reverse.map (conc ad)) (rest := (st.drop n).map (conc ad)) ⟨g.hx, g.hb, g.hml, g.hown, g.hG⟩ (hM (zE Z) ad H.size X (st.take n).reverse (fun r X' => k l (r.toList ++ st.drop n) X')) (va_cwS n g.hG hT rfl rfl rfl hd ⟨Nat.le_trans hlv hfr, ?_⟩) ⟨pcx_blind, pre_of g hw hk (fun U hW => nl_warm hW g.hN)⟩ rfl (by rw [List.length_map, List.length_reverse]; exact hn) hl.1 rfl (lv_room (by rw [cat_map]; exact hcat)) d ⟨by omega, by omega⟩)
  show 8 + (maxL + 11) + 36 * lvy ≤ _
  omega
theorem s_callSN (g : Good Z cc nL own lv) {n i lvy maxL : Nat} {host : String} {y : MethodName} {cy : ByteArray} {ret : Option FieldType} {w : Wp} (hM : MetS (zl Z) y cy maxL ret true lvy 0 0 w) (hN : Cond.methodLinkNest own i y host ∈ NL) (h1 : Cond.static y ∈ GL) (h2 : Cond.initialized y.cls ∈ GL) (h5 : Cond.code y cy maxL ret ∈ GL)
    (hd : y.cls ≠ "java/lang/invoke/MethodHandle" ∧ y.cls ≠ "java/lang/invoke/VarHandle" ∧ (parseMethodDescriptor y.desc).map (fun d => d.parameters.length) = some n) (hlv : lvy + 1 ≤ lv) (hm : maxL ≤ 17)
    (d : decode cc pc = .ok (.invokestatic i, 3)) (h : Snd Z nL (pc + 3) k) : Snd Z nL pc (i_callS n w k) := by
  intro l st X hk ad H locs ls cells slots hw hl
  unfold i_callS at hk
  obtain ⟨hn, hcat, hk⟩ := hk
  have hfr := g.hfr
  have hlo := g.hlo
  have hcm := g.hcm
  have hsm := g.hsm
  obtain ⟨z1, z2, z3, z4, -⟩ := id hw
  rw [take_rev (n := n) (st := st)]
  refine s_ran h g hw hl (va_runSN (As := (st.take n).reverse.map (conc ad)) (rest := (st.drop n).map (conc ad)) ⟨g.hx, g.hb, g.hml, g.hown, g.hG⟩ (hM (zE Z) ad H.size X (st.take n).reverse (fun r X' => k l (r.toList ++ st.drop n) X')) ⟨va_cnB n g.hG (gin_x h5) rfl rfl rfl (g.hN _ hN) (g.hG _ h2) hd ⟨Nat.le_trans hlv hfr, ?_⟩, g.hG _ h1, trivial⟩ ⟨pcx_blind, pre_of g hw hk (fun U hW => nl_warm hW g.hN)⟩ rfl (by rw [List.length_map, List.length_reverse]; exact hn) hl.1 rfl (lv_room (by rw [cat_map]; exact hcat)) d ⟨by omega, by omega⟩)
  show 8 + (maxL + 11) + 36 * lvy ≤ _
  omega
-- a contract out of a body
def asz : List Value → Nat
  | [] => 0
  | v :: vs => v.category + asz vs
theorem asz_le (vs : List Value) : (lg_sl vs).length ≤ asz vs := by
  induction vs with
  | nil => exact Nat.le_refl 0
  | cons v vs ih =>
    rcases lv_cat v with h | h
    · have e : (lg_sl (v :: vs)).length = 1 + (lg_sl vs).length := by simp [lg_sl, h]; omega
      rw [e]; show _ ≤ v.category + asz vs; omega
    · have e : (lg_sl (v :: vs)).length = 2 + (lg_sl vs).length := by simp [lg_sl, h]; omega
      rw [e]; show _ ≤ v.category + asz vs; omega
theorem lg_sl_conc (ad : Nat → Nat) (vs : List Value) : (lg_sl (vs.map (conc ad))).length = (lg_sl vs).length := by
  induction vs with
  | nil => rfl
  | cons v vs ih =>
    rcases lv_cat v with h | h
    · have h2 : (conc ad v).category = 1 := (conc_cat ad v).trans h
      simp [lg_sl, h, h2] at ih ⊢
      exact ih
    · have h2 : (conc ad v).category = 2 := (conc_cat ad v).trans h
      simp [lg_sl, h, h2] at ih ⊢
      exact ih
theorem args_conc (ad : Nat → Nat) (vs : List Value) : ∀ i, lv_args i (vs.map (conc ad)) = (lv_args i vs).map (cq ad) := by
  induction vs with
  | nil => intro i; rfl
  | cons v vs ih =>
    intro i
    show (i, conc ad v) :: lv_args (if (conc ad v).category = 2 then i + 2 else i + 1) (vs.map (conc ad)) = cq ad (i, v) :: (lv_args (if v.category = 2 then i + 2 else i + 1) vs).map (cq ad)
    rw [conc_cat, ih]
    rfl
def wpOf (maxL : Nat) (b : Mm → (Option Value → Mm → Prop) → Kk) : Wp := fun a X post => asz a ≤ maxL ∧ b X post (lv_args 0 a) [] X
theorem metS_of {l : Launch} {y : MethodName} {cy : ByteArray} {maxL : Nat} {ret : Option FieldType} {fl : Bool} {lv mc ms : Nat} {b : Mm → (Option Value → Mm → Prop) → Kk} (hy : plainFor y = true)
    (body : ∀ (Z : Zt) (X0 : Mm) (post : Option Value → Mm → Prop), zl Z = l → Good Z cy maxL y.cls lv → RetZ Z fl X0 mc ms post → (zM Z).sig.returnType = ret → (zM Z).name = y.name → Snd Z maxL 0 (b X0 post)) : MetS l y cy maxL ret fl lv mc ms (wpOf maxL b) := by
  intro E ad sz X a post
  refine va_MetF (cc := cy) (maxL := maxL) (ret := ret) hy rfl ?_
  intro p e s m args below meth c s₁ B hml hv
  obtain ⟨rfl, hsz, ⟨hasz, hwp⟩, hWF, hP, hK, hD0, hN⟩ := hv
  subst hsz
  have hl := lv_entry (a.map (conc ad)) (n := maxL) (by rw [lg_sl_conc]; exact Nat.le_trans (asz_le a) hasz)
  rw [lg_entry_eq]
  generalize (lg_sl (a.map (conc ad)) ++ List.replicate (maxL - (lg_sl (a.map (conc ad))).length) Slot.unset).toArray = ls at hl ⊢
  rw [args_conc] at hl
  have hts := atoms_spec (ws := wsx y cy maxL ret) B.pre
  have g : Good ((p, l, e, rmx lv mc ms, s, m, (a.map (conc ad)).toArray, below, meth, c, E, va_A (wl E.2 ad X) s.heap.size, (xc X, xs X, xn X, ad, xc X + mc, xs X + ms, fl), MQ below (Qcx fl E ad X mc ms (va_A (wl E.2 ad X) s.heap.size) post) (a.map (conc ad)).toArray s mc ms (va_A (wl E.2 ad X) s.heap.size)) : Zt) cy maxL y.cls lv :=
    ⟨B.exec, B.bytes, hml, findClass_of_methodNamed B.named, fun w hw => hts w (List.mem_cons_of_mem _ hw), hN, hK, fun q h => Or.inr h, B.notSynchronized, Nat.le_refl _, Nat.le_refl _, Nat.le_refl _, Nat.le_refl _⟩
  exact body _ X post rfl g ⟨rfl, rfl, rfl, rfl, rfl, rfl, Or.inl rfl⟩ B.returns (name_of_methodNamed B.named B.method).1 (lv_args 0 a) [] X hwp ad s.heap [] ls 0 0
    ⟨Nat.zero_add _, Nat.zero_add _, Nat.le_add_right _ _, Nat.le_add_right _ _, Nat.le_refl _, fun _ _ => rfl, fun _ => ⟨rfl, rfl⟩, hWF, hP, hD0.self, va_S.rf⟩ hl
-- switches
def i_tsw (lo : Int) (ks : List Kk) (kd : Kk) : Kk := fun l st X => match st with
  | .int x :: r => if x.toInt < lo ∨ lo + (ks.length : Int) - 1 < x.toInt then kd l r X else (match ks[(x.toInt - lo).toNat]? with
    | some k => k l r X
    | none => False)
  | _ => False
def Tsw (Z : Zt) (nL pc : Nat) (offs : List Int) (ks : List Kk) : Prop := ∀ (j : Nat) (k : Kk), ks[j]? = some k → ∃ (off : Int) (tgt : Nat), offs[j]? = some off ∧ (pc : Int) + off = (tgt : Int) ∧ Snd Z nL tgt k
theorem tsw_nil : Tsw Z nL pc [] [] := fun j k h => by simp at h
theorem tsw_cons {off : Int} {tgt : Nat} {offs : List Int} {ks : List Kk} (ht : (pc : Int) + off = (tgt : Int)) (h : Snd Z nL tgt k) (hr : Tsw Z nL pc offs ks) : Tsw Z nL pc (off :: offs) (k :: ks) := by
  intro j k9 hj
  cases j with
  | zero => cases hj; exact ⟨off, tgt, rfl, ht, h⟩
  | succ j => exact hr j k9 hj
theorem s_tsw (g : Good Z cc nL own lv) {dflt lo hi : Int} {offs : Array Int} {len tgt : Nat} {ks : List Kk} {kd : Kk} (d : decode cc pc = .ok (.tableswitch dflt lo hi offs, len)) (hhi : hi = lo + (ks.length : Int) - 1) (htd : (pc : Int) + dflt = (tgt : Int)) (hk : Tsw Z nL pc offs.toList ks) (hd : Snd Z nL tgt kd) : Snd Z nL pc (i_tsw lo ks kd) := by
  intro l st X h9 ad H locs ls cells slots hw hl
  unfold i_tsw at h9
  split at h9
  · next x r =>
    split at h9
    · next hc => exact lv_tableOut g.hx g.hb d (by rw [hhi]; exact hc) htd (hd _ _ _ h9 ad H locs ls cells slots hw hl)
    · next hc =>
      split at h9
      · next k e =>
        obtain ⟨off, tg, h1, h2, h3⟩ := hk _ _ e
        exact lv_tableIn g.hx g.hb d (fun z => hc (Or.inl z)) (fun z => hc (Or.inr (by rw [← hhi]; exact z))) (by rw [← Array.getElem?_toList]; exact h1) h2 (h3 _ _ _ h9 ad H locs ls cells slots hw hl)
      · exact h9.elim
  · exact h9.elim
end MetRows
