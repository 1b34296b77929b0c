/-! methods that throw, and their catching -/
def cIA : String := "java/lang/IllegalArgumentException"
def cIS : String := "java/lang/IllegalStateException"
def exn : Nat → String
  | 1 => "java/lang/IllegalArgumentException"
  | _ => "java/lang/IllegalStateException"
def supn : List String := ["java/lang/RuntimeException", "java/lang/Exception"]
def BL : List Cond := [.declares ⟨"java/lang/RuntimeException", "<init>", "(Ljava/lang/String;)V"⟩, .declares ⟨"java/lang/Exception", "<init>", "(Ljava/lang/String;)V"⟩, .declares ⟨"java/lang/Throwable", "<init>", "(Ljava/lang/String;)V"⟩, .castable "java/lang/IllegalArgumentException" "java/lang/IllegalArgumentException", .castable "java/lang/IllegalStateException" "java/lang/IllegalStateException"]
theorem bl_tab : ∀ w ∈ BL, w.onTables = true := by decide +kernel
theorem bl_eq {U V : State} (h : U.vm = V.vm) (hN : ∀ w ∈ BL, va_Nw w U) : ∀ w ∈ BL, va_Nw w V := fun w hw => va_tabs (bl_tab w hw) h (hN w hw)
theorem bl_warm {s U : State} (hW : s.WarmedH U.vm) (h : ∀ w ∈ BL, va_Nw w s) : ∀ w ∈ BL, va_Nw w U := by
  intro w hw
  simp only [BL, List.mem_cons, List.not_mem_nil, or_false] at hw
  rcases hw with rfl | rfl | rfl | rfl | rfl
  · exact va_Nw.warmD hW (h _ (by simp [BL]))
  · exact va_Nw.warmD hW (h _ (by simp [BL]))
  · exact va_Nw.warmD hW (h _ (by simp [BL]))
  · exact va_Nw.warmC hW (h _ (by simp [BL]))
  · exact va_Nw.warmC hW (h _ (by simp [BL]))
def SL : List (Nat × String) := [(50, "no such station or address"), (58, "no such station or group"), (63, "no such station"), (69, "no such station or priority"), (71, "the aim is no address or no group"), (73, "no such data"), (80, "the queue is full"), (100, "not so many bit times behind this one"), (102, "too many disturbances are to come"), (108, "not so many bit times at once"), (111, "too many bit times in all"), (116, "no such bit time is kept"), (121, "no such station or no such fact of it"), (126, "no such count"), (134, "the latest telegram has no such byte"), (158, "not two bytes")]
def XOk (A : Nat → Prop) (U : State) (H : Heap) : Prop := (∀ w ∈ BL, va_Nw w U) ∧ vx_Zq Bundle.tN "UNASSIGNED_STACK" Bundle.steD A U H ∧ vx_Zq Bundle.tN "SUPPRESSED_SENTINEL" Bundle.listD A U H ∧ (∀ q ∈ SL, ∃ a, vk_R "BusTelegrams" q.1 q.2 a U) ∧ va_Nc "java/lang/IllegalStateException" "java/lang/IllegalArgumentException" U
theorem XOk.go {A A1 : Nat → Prop} {s U : State} {H0 H : Heap} (h : XOk A s H0) (hW : s.WarmedH U.vm) (hk : ∀ q : Nat, q < H0.size → ¬ A q → H[q]? = H0[q]?) (hA : ∀ q, A1 q → A q) : XOk A1 U H :=
  ⟨bl_warm hW h.1, vx_Zq.narrow (vx_Zq.moved hW.alike (h.2.1.kept hk)) hA, vx_Zq.narrow (vx_Zq.moved hW.alike (h.2.2.1.kept hk)) hA, fun q hq => by obtain ⟨a, ha⟩ := h.2.2.2.1 q hq; exact ⟨a, ha.warm hW⟩, va_Nc.moved hW.alike h.2.2.2.2⟩
theorem XOk.same {A : Nat → Prop} {s U : State} {H : Heap} (h : XOk A s H) (hv : s.vm = U.vm) : XOk A U H :=
  ⟨bl_eq hv h.1, vx_Zq.moved (by rw [← hv]; exact Vm.Alike.refl _) h.2.1, vx_Zq.moved (by rw [← hv]; exact Vm.Alike.refl _) h.2.2.1, fun q hq => by obtain ⟨a, ha⟩ := h.2.2.2.1 q hq; exact ⟨a, vk_R.same hv.symm ha⟩, va_Nc.moved (by rw [← hv]; exact Vm.Alike.refl _) h.2.2.2.2⟩
abbrev WpT : Type := List Value → Mm → (Option Value → Mm → Prop) → (Nat → Mm → Prop) → Prop
def PcxT (E : va_G × (Nat → ClassId)) (ad : Nat → Nat) (sz : Nat) (X : Mm) (a : List Value) (pre : Prop) : Array Value → State → Prop := fun v U => Pcx E ad sz X a pre v U ∧ XOk (va_A (wl E.2 ad X) sz) U U.heap
theorem pcxT_blind {E : va_G × (Nat → ClassId)} {ad : Nat → Nat} {sz : Nat} {X : Mm} {a : List Value} {pre : Prop} : FrameBlind (PcxT E ad sz X a pre) := by
  intro b U g mk ⟨h, h8⟩
  exact ⟨pcx_blind b U g mk h, h8.same (s := U) (U := U.calling g mk b) rfl⟩
def Xcx (E : va_G × (Nat → ClassId)) (ad : Nat → Nat) (X : Mm) (mc ms : Nat) (A : Nat → Prop) (postX : Nat → Mm → Prop) : String → State → State → Prop := fun En st t =>
  ∃ (kd : Nat) (X' : Mm), En = exn kd ∧ postX kd X' ∧ WFx X' ∧ xn X' = xn X ∧ xc X' = xc X + mc ∧ xs X' = xs X + ms ∧ va_P E.1 vcl (wl E.2 ad X') t.heap ∧ va_D A (wl E.2 ad X') ∧ va_F A st t
def MetT (l : Launch) (y : MethodName) (cc : ByteArray) (maxL : Nat) (ret : Option FieldType) (lv mc ms : Nat) (w : WpT) : Prop :=
  ∀ (E : va_G × (Nat → ClassId)) (ad : Nat → Nat) (sz : Nat) (X : Mm) (a : List Value) (post : Option Value → Mm → Prop) (postX : Nat → Mm → Prop), vx_Met l y (wsx y cc maxL ret) (rmx lv mc ms) (PcxT E ad sz X a (w a X post postX)) (Qcx true E ad X mc ms (va_A (wl E.2 ad X) sz) post) (Xcx E ad X mc ms (va_A (wl E.2 ad X) sz) postX) mc ms (va_A (wl E.2 ad X) sz)
def RetT (Z : Zt) (X0 : Mm) (mc ms : Nat) (post : Option Value → Mm → Prop) (postX : Nat → Mm → Prop) : Prop :=
  zc0 Z = xc X0 ∧ zs0 Z = xs X0 ∧ zn0 Z = xn X0 ∧ zcm Z = xc X0 + mc ∧ zsm Z = xs X0 + ms ∧ zfl Z = true ∧ zQ Z = vx_MQ (zb Z) (Qcx true (zE Z) (zad Z) X0 mc ms (zA Z) post) (Xcx (zE Z) (zad Z) X0 mc ms (zA Z) postX) (za Z) (zs Z) mc ms (zA Z) ∧
  XOk (zA Z) (zs Z) (zs Z).heap ∧ (zl Z).stackTraces = false ∧ (∀ x ∈ (zc Z).exceptionTable.toList, False) ∧ mc ≤ (zR Z).cells ∧ ms ≤ (zR Z).slots
theorem RetT.Z {Z : Zt} {X0 : Mm} {mc ms : Nat} {post : Option Value → Mm → Prop} {postX : Nat → Mm → Prop} (h : RetT Z X0 mc ms post postX) : RetZ Z true X0 mc ms post :=
  ⟨h.1, h.2.1, h.2.2.1, h.2.2.2.1, h.2.2.2.2.1, h.2.2.2.2.2.1, Or.inr ⟨_, h.2.2.2.2.2.2.1⟩⟩
section ThrowRows
variable {Z : Zt} {cc : ByteArray} {nL lv : Nat} {own : String} {pc : Nat} {k : Kk} {X0 : Mm} {mc ms : Nat} {post : Option Value → Mm → Prop} {postX : Nat → Mm → Prop}
def i_throw (kd : Nat) (X0 : Mm) (mc ms : Nat) (postX : Nat → Mm → Prop) : Kk := fun _ st X => match st with
  | [] => xc X + 1 ≤ xc X0 + mc ∧ xs X + 6 ≤ xs X0 + ms ∧ postX kd (xbump X (xc X0 + mc) (xs X0 + ms))
  | _ => False
theorem s_throw (g : Good Z cc nL "BusTelegrams" lv) (hq : RetT Z X0 mc ms post postX) {kd ik is ic : Nat} {text : String} (hlv : 6 ≤ lv) (hS : (is, text) ∈ SL) (hk : Cond.classLink "BusTelegrams" ik (exn kd) ∈ GL) (hi : Cond.initialized (exn kd) ∈ GL)
    (hfit : Bundle.fit (exn kd) = true) (hG1 : ∀ w ∈ (vx_atS "BusTelegrams" ic (exn kd) supn).filter goodWord, w ∈ GL) (hG2 : ∀ w ∈ (vx_atS "BusTelegrams" ic (exn kd) supn).filter (fun w => !goodWord w), w ∈ BL) (hG3 : ∀ w ∈ Cond.classLink "BusTelegrams" ik (exn kd) :: Cond.initialized (exn kd) :: vx_atS "BusTelegrams" ic (exn kd) supn, vx_ot w = true)
    (d0 : decode cc pc = .ok (.new ik, 3)) (d3 : decode cc (pc + 3) = .ok (.dup, 1)) (d4 : decode cc (pc + 4) = .ok (.ldc is, 2)) (d6 : decode cc (pc + 6) = .ok (.invokespecial ic, 3)) (d9 : decode cc (pc + 9) = .ok (.athrow, 1)) : Snd Z nL pc (i_throw kd X0 mc ms postX) := by
  intro l st X hk9 ad H locs ls cells slots hw hl
  unfold i_throw at hk9
  split at hk9
  · obtain ⟨hc1, hs1, hp⟩ := hk9
    obtain ⟨q1, q2, q3, q4, q5, q6, hQ, ⟨hBL, hU, hN, hSL, -⟩, hst, htb, hmc, hms⟩ := hq
    obtain ⟨sa, hsa⟩ := hSL _ hS
    have hfr := g.hfr
    have hlo := g.hlo
    have hS5 := hw.S
    obtain ⟨h1, h2, h3, h4, h5, h6, h7, h8, h9, h10, h11⟩ := id hw
    show W _ _ _ _ _ _ _ _ _ _ _ _ _ _ (zQ Z) _
    rw [hQ]
    refine vx_throwS (names := supn) (text := text) (sa := sa) (A := zA Z) g.hx g.hb hst g.hown hfit (by decide +kernel) (g.hG _ hk) (g.hG _ hi) hsa (vx_hat (fun w hw => g.hG _ (hG1 w hw)) hG2 (fun w hw => va_Nw.use (bl_tab w hw) (hBL w hw))) hG3 hU hN hS5 (by rw [hl.1, g.hml]) d0 d3 d4 d6 d9 (fun x hx => (htb x hx).elim) ?_ ?_ ?_ ?_ g.hlk ?_ hS5.2.2 ?_ ?_
    · show 2 + 3 < _; omega
    · show 0 + (13 * (2 + 1) + 43) ≤ _; omega
    · omega
    · omega
    · intro t ht1 ht2 ht3
      have hkp : ∀ (i : Nat) (q : Nat × va_E), (wl (zE Z).2 ad X)[i]? = some q → t.heap[q.1]? = H[q.1]? := fun i q hq => ht3 q.1 (va_at.lt (h9 i q hq))
      obtain ⟨hn7, rfl⟩ := h7 q6
      refine ⟨kd, xbump X (xc X0 + mc) (xs X0 + ms), rfl, hp, h8, hn7.trans q3, rfl, rfl, h9.kept hkp, h10, ?_, fun q hq1 hq2 => ?_⟩
      · exact Nat.le_trans h11.1 ht2
      · rw [ht3 q (Nat.lt_of_lt_of_le hq1 h11.1)]; exact h11.2.1 q hq1 hq2
    · omega
    · omega
  · exact hk9.elim
def wpT (maxL : Nat) (b : Mm → (Option Value → Mm → Prop) → (Nat → Mm → Prop) → Kk) : WpT := fun a X post postX => asz a ≤ maxL ∧ b X post postX (lv_args 0 a) [] X
theorem metT_of {l : Launch} (hst : l.stackTraces = false) {y : MethodName} {cy : ByteArray} {maxL : Nat} {ret : Option FieldType} {lv mc ms : Nat} {b : Mm → (Option Value → Mm → Prop) → (Nat → Mm → Prop) → Kk} (hy : plainName y.cls = true)
    (body : ∀ (Z : Zt) (X0 : Mm) (post : Option Value → Mm → Prop) (postX : Nat → Mm → Prop), zl Z = l → Good Z cy maxL y.cls lv → RetT Z X0 mc ms post postX → (zM Z).sig.returnType = ret → Snd Z maxL 0 (b X0 post postX)) : MetT l y cy maxL ret lv mc ms (wpT maxL b) := by
  intro E ad sz X a post postX
  refine vx_ofW (cc := cy) (maxL := maxL) (ret := ret) hy rfl ?_
  intro p e s m args below meth c s₁ B hml htb hv
  obtain ⟨⟨rfl, hsz, ⟨hasz, hwp⟩, hWF, hP, hK, hD0, hN⟩, hXO⟩ := hv
  subst hsz
  have hl := lv_entry (a.map (conc ad)) (n := maxL) (by rw [lg_sl_conc]; exact Nat.le_trans (asz_le a) hasz)
  rw [lg_entry_eq]
  generalize (lg_sl (a.map (conc ad)) ++ List.replicate (maxL - (lg_sl (a.map (conc ad))).length) Slot.unset).toArray = ls at hl ⊢
  rw [args_conc] at hl
  have hts := atoms_spec (ws := wsx y cy maxL ret) B.pre
  have g : Good ((p, l, e, rmx lv mc ms, s, m, (a.map (conc ad)).toArray, below, meth, c, E, va_A (wl E.2 ad X) s.heap.size, (xc X, xs X, xn X, ad, xc X + mc, xs X + ms, true), vx_MQ below (Qcx true E ad X mc ms (va_A (wl E.2 ad X) s.heap.size) post) (Xcx E ad X mc ms (va_A (wl E.2 ad X) s.heap.size) postX) (a.map (conc ad)).toArray s mc ms (va_A (wl E.2 ad X) s.heap.size)) : Zt) cy maxL y.cls lv :=
    ⟨B.exec, B.bytes, hml, findClass_of_methodNamed B.named, fun w hw => hts w (List.mem_cons_of_mem _ hw), hN, hK, fun q h => Or.inr h, B.notSynchronized, Nat.le_refl _, Nat.le_refl _, Nat.le_refl _, Nat.le_refl _⟩
  exact body _ X post postX rfl g ⟨rfl, rfl, rfl, rfl, rfl, rfl, rfl, hXO, hst, htb, Nat.le_refl _, Nat.le_refl _⟩ B.returns (lv_args 0 a) [] X hwp ad s.heap [] ls 0 0
    ⟨Nat.zero_add _, Nat.zero_add _, Nat.le_add_right _ _, Nat.le_add_right _ _, Nat.le_refl _, fun _ _ => rfl, fun _ => ⟨rfl, rfl⟩, hWF, hP, hD0.self, va_S.rf⟩ hl
end ThrowRows
section HelpRows
variable {Z : Zt} {cc : ByteArray} {nL lv : Nat} {own : String} {pc : Nat} {k : Kk} {X0 : Mm} {mc ms : Nat} {post : Option Value → Mm → Prop}
def Hnd (Z : Zt) (nL pc kd : Nat) (kx : Kk) : Prop := ∀ (l : List (Nat × Value)) (X : Mm) (ad : Nat → Nat) (H : Heap) (locs : List Loc) (ls : Array Slot) (cells slots : Nat) (q : Addr) (ce : Cell) (rest : List Value), kx l [] X → Hw Z X ad H locs cells slots → lv_has ls nL (l.map (cq ad)) → H[q]? = some ce → ce.vm = .none → (zs Z).vm.findClass (exn kd) = some ce.cls →
  vx_W (zp Z) (zl Z) (ze Z) (zR Z) (zs Z) (zm Z) (za Z) (zb Z) (zM Z) (zc Z) H locs cells slots (zQ Z) (F0 (zm Z) pc ls rest) q
theorem hnd_F {kd : Nat} : Hnd Z nL pc kd (fun _ _ _ => False) := fun _ _ _ _ _ _ _ _ _ _ _ h => h.elim
/-- a handler begins with astore: the exception is put away -/
theorem has_forget {ls : Array Slot} {q : Nat × Value} {l : List (Nat × Value)} (h : lv_has ls nL (q :: l)) : lv_has ls nL l := ⟨h.1, h.2.1, fun x hx => h.2.2 x (List.mem_cons_of_mem _ hx)⟩
def i_drop (n : Nat) (k : Kk) : Kk := fun l st X => k (rm1 l n) st X
theorem hnd_put (g : Good Z cc nL own lv) {hp n : Nat} (hn : n < nL) (dd : (decode cc hp = .ok (.astore n, 2) ∧ Snd Z nL (hp + 2) k) ∨ (∃ q : Fin 4, decode cc hp = .ok (.astore_n q, 1) ∧ (q : Nat) = n ∧ Snd Z nL (hp + 1) k)) {l : List (Nat × Value)} {X : Mm} {ad : Nat → Nat} {H : Heap} {locs : List Loc} {ls : Array Slot} {cells slots : Nat} {q : Addr} (hk : i_drop n k l [] X) (hw : Hw Z X ad H locs cells slots) (hl : lv_has ls nL (l.map (cq ad))) : Ww Z H locs cells slots (F0 (zm Z) hp ls [.ref q]) := by
  rcases dd with ⟨d, h⟩ | ⟨q4, d, e4, h⟩
  · refine lv_astore (lv' := (n, Value.ref q) :: (rm1 l n).map (cq ad)) g.hx g.hb d hl hn (by rw [rm1_map]) (fun ls' hl' => ?_)
    exact h _ _ _ hk ad H locs ls' cells slots hw (has_forget hl')
  · refine lv_astore_n (lv' := (n, Value.ref q) :: (rm1 l n).map (cq ad)) g.hx g.hb d e4 hl hn (by rw [rm1_map]) (fun ls' hl' => ?_)
    exact h _ _ _ hk ad H locs ls' cells slots hw (has_forget hl')
theorem hnd_1 (g : Good Z cc nL own lv) (hB : ∀ w ∈ BL, va_Nw w (zs Z)) {s1 e1 hp t1 n : Nat} {hh : List (Nat × Nat × Nat × Nat)} (htab : (zc Z).exceptionTable.toList = tableOf ((s1, e1, hp, t1) :: hh)) (hcov : covers ⟨s1, e1, hp, t1⟩ pc = true) (h0 : t1 ≠ 0) (hl1 : Cond.classLink own t1 (exn 1) ∈ GL) (hn : n < nL)
    (dd : (decode cc hp = .ok (.astore n, 2) ∧ Snd Z nL (hp + 2) k) ∨ (∃ q : Fin 4, decode cc hp = .ok (.astore_n q, 1) ∧ (q : Nat) = n ∧ Snd Z nL (hp + 1) k)) : Hnd Z nL pc 1 (i_drop n k) := by
  intro l X ad H locs ls cells slots q ce rest hk hw hl hce hcv hcl
  exact vx_catch g.hown [] ⟨s1, e1, hp, t1⟩ (tableOf hh) htab (fun z hz => by cases hz) hcov h0 (g.hG _ hl1) (va_Nw.use (bl_tab _ (by decide +kernel)) (hB (.castable (exn 1) (exn 1)) (by decide +kernel))) hce hcv hcl (hnd_put g hn dd hk hw hl)
theorem hnd_2 (g : Good Z cc nL own lv) (hB : ∀ w ∈ BL, va_Nw w (zs Z)) (hNc : va_Nc (exn 2) (exn 1) (zs Z)) {s0 e0 p0 t0 s1 e1 hp t1 n : Nat} {hh : List (Nat × Nat × Nat × Nat)} (htab : (zc Z).exceptionTable.toList = tableOf ((s0, e0, p0, t0) :: (s1, e1, hp, t1) :: hh)) (h00 : t0 ≠ 0) (hl0 : Cond.classLink own t0 (exn 1) ∈ GL) (hcov : covers ⟨s1, e1, hp, t1⟩ pc = true) (h0 : t1 ≠ 0) (hl1 : Cond.classLink own t1 (exn 2) ∈ GL) (hn : n < nL)
    (dd : (decode cc hp = .ok (.astore n, 2) ∧ Snd Z nL (hp + 2) k) ∨ (∃ q : Fin 4, decode cc hp = .ok (.astore_n q, 1) ∧ (q : Nat) = n ∧ Snd Z nL (hp + 1) k)) : Hnd Z nL pc 2 (i_drop n k) := by
  intro l X ad H locs ls cells slots q ce rest hk hw hl hce hcv hcl
  refine vx_catch g.hown [⟨s0, e0, p0, t0⟩] ⟨s1, e1, hp, t1⟩ (tableOf hh) htab (fun z hz => ?_) hcov h0 (g.hG _ hl1) (va_Nw.use (bl_tab _ (by decide +kernel)) (hB (.castable (exn 2) (exn 2)) (by decide +kernel))) hce hcv hcl (hnd_put g hn dd hk hw hl)
  rcases List.mem_singleton.mp hz with rfl
  exact Or.inr ⟨h00, exn 1, g.hG _ hl0, hNc⟩
def i_callT (n c : Nat) (X0 : Mm) (mc ms : Nat) (w : WpT) (k : Kk) (kx : Nat → Kk) : Kk := fun l st X => (st.take n).length = n ∧ (match st.drop n with
  | .ref o :: rest => o < xn X ∧ xk X o = c ∧ (rest.map (fun v => v.category)).sum ≤ 8 ∧ xc X + 1 ≤ xc X0 + mc ∧ xs X + 6 ≤ xs X0 + ms ∧ w (.ref o :: (st.take n).reverse) X (fun r X' => k l (r.toList ++ rest) X') (fun kd X' => kx kd l [] X')
  | _ => False)
theorem s_callT (g : Good Z cc nL own lv) (hq : RetZ Z true X0 mc ms post) (hXO : XOk (zA Z) (zs Z) (zs Z).heap) {n c i lvy maxL N : Nat} {C : String} {T : u_T} {y : MethodName} {cy : ByteArray} {ret : Option FieldType} {w : WpT} {kx : Nat → Kk} (hM : MetT (zl Z) y cy maxL ret lvy 1 6 w) (hT : GoodIn GL (wsV own i C y (wsx y cy maxL ret)))
    (hd : y.cls = C ∧ y.cls ≠ "java/lang/invoke/MethodHandle" ∧ y.cls ≠ "java/lang/invoke/VarHandle" ∧ (parseMethodDescriptor y.desc).map (fun d => d.parameters.length) = some n) (hc : vcl[c]? = some (C, T, N)) (hc1 : c < 10) (hlv : lvy + 1 ≤ lv) (hm : maxL ≤ 17)
    (d : decode cc pc = .ok (.invokevirtual i, 3)) (h : Snd Z nL (pc + 3) k) (hh : ∀ kd, Hnd Z nL pc kd (kx kd)) : Snd Z nL pc (i_callT n c X0 mc ms w k kx) := by
  intro l st X hk ad H locs ls cells slots hw hl
  unfold i_callT at hk
  obtain ⟨hn, hk⟩ := hk
  split at hk
  · next o rest e =>
    obtain ⟨ho, hko, hcat, hcx, hsx, hk⟩ := hk
    have hfr := g.hfr
    have hlo := g.hlo
    have hcm := g.hcm
    have hsm := g.hsm
    obtain ⟨q1, q2, q3, q4, q5, q6, -⟩ := hq
    obtain ⟨z1, z2, z3, z4, -⟩ := id hw
    have hst : st.map (conc ad) = ((st.take n).reverse.map (conc ad)).reverse ++ .ref (ad o) :: rest.map (conc ad) := by
      rw [take_rev (n := n), e]; rfl
    rw [hst]
    have hA : ∀ q, va_A (wl (zE Z).2 ad X) H.size q → zA Z q := by
      intro q hq
      rcases hq with ⟨i, e, hq⟩ | hq
      · exact hw.D.2 i _ hq
      · exact g.hA q (Nat.le_trans hw.S.1 hq)
    have hr := vx_runV (As := (st.take n).reverse.map (conc ad)) (rest := rest.map (conc ad)) (g := F0 (zm Z) pc ls (((st.take n).reverse.map (conc ad)).reverse ++ .ref (ad o) :: rest.map (conc ad))) (locs := locs) (cells := cells) (slots := slots) (e := ze Z) (p := zp Z) (below := zb Z) (meth := zM Z) (R := zR Z) (H := H)
      ⟨g.hx, g.hb, g.hml, g.hown, g.hG⟩ (hM (zE Z) ad H.size X (.ref o :: (st.take n).reverse) (fun r X' => k l (r.toList ++ rest) X') (fun kd X' => kx kd l [] X')) (cwV n g.hG hT rfl rfl rfl hd ⟨Nat.le_trans hlv hfr, by show 8 + (maxL + 11) + 36 * lvy ≤ _; omega⟩)
      ⟨pcxT_blind, va_recv g.hK hw.P hc (fs := vfld c ad (xm X o) (xr X o)) (by rw [wl_get ho, cnt_obj hko hc1]), fun U hU hW => ⟨pre_of g hw hk (fun U hW => nl_warm hW g.hN) U hU hW, hXO.go hW (by rw [hU]; exact hw.S.2.1) hA⟩⟩ rfl (by rw [List.length_map, List.length_reverse]; exact hn) hl.1 rfl (lv_room (by rw [cat_map]; exact hcat)) d ⟨by omega, by omega⟩
    have hSk : ∀ (t T' : State) (L : List Loc) (st0 : State), st0.heap = H → T'.heap = t.heap → (∀ q ∈ L, va_A (wl (zE Z).2 ad X) H.size q.base) → va_F (va_A (wl (zE Z).2 ad X) H.size) st0 t → va_S (zA Z) (zs Z).heap T'.heap (locs ++ L) := by
      intro t T' L st0 h0 e1 hL hF
      obtain ⟨y1, y2⟩ := hF
      rw [h0] at y1 y2
      refine ⟨Nat.le_trans hw.S.1 (by rw [e1]; exact y1), fun q p1 p2 => ?_, fun q hq => ?_⟩
      · rw [e1, y2 q (Nat.lt_of_lt_of_le p1 hw.S.1) (fun z => p2 (hA q z))]
        exact hw.S.2.1 q p1 p2
      · rcases List.mem_append.mp hq with hq | hq
        · exact hw.S.2.2 q hq
        · exact hA _ (hL q hq)
    intro T1 hT1 Xs
    rcases hr T1 hT1 Xs with ⟨v, s0, t, T', L, h0, X', hL, e1, e2, ⟨r, X1, ad1, hv, hp, hWF, hn1, had, hfl, hc9, hs9, hP1, hD1, hF⟩, go⟩ | ⟨q, s0, t, T', L, En, ce, h0, X', hL, e1, e2, ⟨kd, X1, rfl, hp, hWF, hn2, hc9, hs9, hP1, hD1, hF⟩, hce, hcv, hcl, go⟩
    · obtain ⟨hn2, rfl⟩ := hfl rfl
      cases hv
      have hw1 : Hw Z X1 ad1 T'.heap (locs ++ L) (cells + 1) (slots + 6) := by
        obtain ⟨h1, h2, h3, h4, h5, h6, h7, h8, h9, h10, h11⟩ := hw
        refine ⟨by omega, by omega, by omega, by omega, by omega, h6, fun q => ⟨hn2.trans (h7 q).1, (h7 q).2⟩, hWF, by rw [e1]; exact hP1, hD1.weaken (fun _ _ _ q => hA _ q), hSk t T' L s0 h0 e1 hL hF⟩
      obtain ⟨t2, a1, b1⟩ := h l (r.toList ++ rest) X1 hp ad1 T'.heap (locs ++ L) ls (cells + 1) (slots + 6) hw1 hl T' rfl X'
      refine ⟨t2, go t2 ?_, b1⟩
      have e3 : (r.map (conc ad1)).toList ++ rest.map (conc ad1) = (r.toList ++ rest).map (conc ad1) := by rw [opt_map, List.map_append]
      show Steps _ _ _ (T'.setTop (F0 (zm Z) (pc + 3) ls ((r.map (conc ad1)).toList ++ rest.map (conc ad1)))) t2
      rw [e3]
      exact a1
    · have hw1 : Hw Z X1 ad T'.heap (locs ++ L) (cells + 1) (slots + 6) := by
        obtain ⟨h1, h2, h3, h4, h5, h6, h7, h8, h9, h10, h11⟩ := hw
        refine ⟨by omega, by omega, by omega, by omega, by omega, h6, fun q => ⟨hn2.trans (h7 q).1, (h7 q).2⟩, hWF, by rw [e1]; exact hP1, hD1.weaken (fun _ _ _ q => hA _ q), hSk t T' L s0 h0 e1 hL hF⟩
      obtain ⟨t2, a1, b1⟩ := hh kd l X1 ad T'.heap (locs ++ L) ls (cells + 1) (slots + 6) q ce (rest.map (conc ad)) hp hw1 hl (by rw [e1]; exact hce) hcv hcl T' rfl X'
      exact ⟨t2, go.trans a1, b1⟩
  · exact hk.elim
-- helpers: static methods of the law, with a table of handlers
abbrev wsh (y : MethodName) (cc : ByteArray) (maxL : Nat) (ret : Option FieldType) (hh : List (Nat × Nat × Nat × Nat)) : List Cond := Cond.codeWith y cc maxL ret hh :: GL
def MetH (l : Launch) (y : MethodName) (cc : ByteArray) (maxL : Nat) (ret : Option FieldType) (hh : List (Nat × Nat × Nat × Nat)) (lv mc ms : Nat) (w : Wp) : Prop :=
  ∀ (E : va_G × (Nat → ClassId)) (ad : Nat → Nat) (sz : Nat) (X : Mm) (a : List Value) (post : Option Value → Mm → Prop), Met l y (wsh y cc maxL ret hh) (rmx lv mc ms) (PcxT E ad sz X a (w a X post)) (Qcx true E ad X mc ms (va_A (wl E.2 ad X) sz) post) mc ms (va_A (wl E.2 ad X) sz)
theorem metH_of {l : Launch} {y : MethodName} {cy : ByteArray} {maxL : Nat} {ret : Option FieldType} {hh : List (Nat × Nat × Nat × Nat)} {lv mc ms : Nat} {b : Mm → (Option Value → Mm → Prop) → Kk} (hy : plainName y.cls = true)
    (body : ∀ (Z : Zt) (X0 : Mm) (post : Option Value → Mm → Prop), zl Z = l → Good Z cy maxL y.cls lv → RetZ Z true X0 mc ms post → XOk (zA Z) (zs Z) (zs Z).heap → (zc Z).exceptionTable.toList = tableOf hh → (zM Z).sig.returnType = ret → Snd Z maxL 0 (b X0 post)) : MetH l y cy maxL ret hh lv mc ms (wpOf maxL b) := by
  intro E ad sz X a post
  refine va_MetW (cc := cy) (maxL := maxL) (ret := ret) (hh := hh) hy rfl ?_
  intro p e s m args below meth c s₁ B hml hv
  obtain ⟨⟨rfl, hsz, ⟨hasz, hwp⟩, hWF, hP, hK, hD0, hN⟩, hXO⟩ := hv
  subst hsz
  have hl := lv_entry (a.map (conc ad)) (n := maxL) (by rw [lg_sl_conc]; exact Nat.le_trans (asz_le a) hasz)
  rw [lg_entry_eq]
  generalize (lg_sl (a.map (conc ad)) ++ List.replicate (maxL - (lg_sl (a.map (conc ad))).length) Slot.unset).toArray = ls at hl ⊢
  rw [args_conc] at hl
  have hts := atoms_spec (ws := wsh y cy maxL ret hh) B.pre
  have g : Good ((p, l, e, rmx lv mc ms, s, m, (a.map (conc ad)).toArray, below, meth, c, E, va_A (wl E.2 ad X) s.heap.size, (xc X, xs X, xn X, ad, xc X + mc, xs X + ms, true), MQ below (Qcx true E ad X mc ms (va_A (wl E.2 ad X) s.heap.size) post) (a.map (conc ad)).toArray s mc ms (va_A (wl E.2 ad X) s.heap.size)) : Zt) cy maxL y.cls lv :=
    ⟨B.exec, B.bytes, hml, findClass_of_methodNamed B.named, fun w hw => hts w (List.mem_cons_of_mem _ hw), hN, hK, fun q h => Or.inr h, B.notSynchronized, Nat.le_refl _, Nat.le_refl _, Nat.le_refl _, Nat.le_refl _⟩
  exact body _ X post rfl g ⟨rfl, rfl, rfl, rfl, rfl, rfl, Or.inl rfl⟩ hXO (vx_table (x := y) B (hts _ List.mem_cons_self)) B.returns (lv_args 0 a) [] X hwp ad s.heap [] ls 0 0
    ⟨Nat.zero_add _, Nat.zero_add _, Nat.le_add_right _ _, Nat.le_add_right _ _, Nat.le_refl _, fun _ _ => rfl, fun _ => ⟨rfl, rfl⟩, hWF, hP, hD0.self, va_S.rf⟩ hl
end HelpRows
