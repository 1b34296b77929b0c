/-! methods that throw, and their catching -/
def cIA : String := "java/lang/IllegalArgumentException"
def cIS : String := "java/lang/IllegalStateException"
def exn (kd : Nat) : String := if kd = 1 then "java/lang/IllegalArgumentException" else "java/lang/IllegalStateException"
def supn : List String := ["java/lang/RuntimeException", "java/lang/Exception"]
def BL : List Cond := [.declares ⟨"java/lang/RuntimeException", "<init>", "(Ljava/lang/String;)V"⟩, .declares ⟨"java/lang/Exception", "<init>", "(Ljava/lang/String;)V"⟩, .declares ⟨"java/lang/Throwable", "<init>", "(Ljava/lang/String;)V"⟩, .castable "java/lang/IllegalArgumentException" "java/lang/IllegalArgumentException", .castable "java/lang/IllegalStateException" "java/lang/IllegalStateException"]
theorem bl_tab : ∀ w ∈ BL, w.onTables = true := by decide +kernel
theorem bl_eq {U V : State} (h : U.vm = V.vm) (hN : ∀ w ∈ BL, va_Nw w U) : ∀ w ∈ BL, va_Nw w V := fun w hw => va_tabs (bl_tab w hw) h (hN w hw)
theorem bl_warm {s U : State} (hW : s.WarmedH U.vm) (h : ∀ w ∈ BL, va_Nw w s) : ∀ w ∈ BL, va_Nw w U := by
  intro w hw
  simp only [BL, List.mem_cons, List.not_mem_nil, or_false] at hw
  rcases hw with rfl | rfl | rfl | rfl | rfl
  · exact va_Nw.warmD hW (h _ (by simp [BL]))
  · exact va_Nw.warmD hW (h _ (by simp [BL]))
  · exact va_Nw.warmD hW (h _ (by simp [BL]))
  · exact va_Nw.warmC hW (h _ (by simp [BL]))
  · exact va_Nw.warmC hW (h _ (by simp [BL]))
def SL : List (Nat × String) := [(50, "no such station or address"), (58, "no such station or group"), (63, "no such station"), (69, "no such station or priority"), (71, "the aim is no address or no group"), (73, "no such data"), (80, "the queue is full"), (100, "not so many bit times behind this one"), (102, "too many disturbances are to come"), (108, "not so many bit times at once"), (111, "too many bit times in all"), (116, "no such bit time is kept"), (121, "no such station or no such fact of it"), (126, "no such count"), (134, "the latest telegram has no such byte"), (158, "not two bytes")]
def XOk (A : Nat → Prop) (U : State) (H : Heap) : Prop := (∀ w ∈ BL, va_Nw w U) ∧ vx_Zq Bundle.tN "UNASSIGNED_STACK" Bundle.steD A U H ∧ vx_Zq Bundle.tN "SUPPRESSED_SENTINEL" Bundle.listD A U H ∧ (∀ q ∈ SL, ∃ a, vk_R "BusTelegrams" q.1 q.2 a U) ∧ va_Nc "java/lang/IllegalStateException" "java/lang/IllegalArgumentException" U
theorem XOk.go {A A1 : Nat → Prop} {s U : State} {H0 H : Heap} (h : XOk A s H0) (hW : s.WarmedH U.vm) (hk : ∀ q : Nat, q < H0.size → ¬ A q → H[q]? = H0[q]?) (hA : ∀ q, A1 q → A q) : XOk A1 U H :=
  ⟨bl_warm hW h.1, vx_Zq.narrow (vx_Zq.moved hW.alike (h.2.1.kept hk)) hA, vx_Zq.narrow (vx_Zq.moved hW.alike (h.2.2.1.kept hk)) hA, fun q hq => by obtain ⟨a, ha⟩ := h.2.2.2.1 q hq; exact ⟨a, ha.warm hW⟩, va_Nc.moved hW.alike h.2.2.2.2⟩
theorem XOk.same {A : Nat → Prop} {s U : State} {H : Heap} (h : XOk A s H) (hv : s.vm = U.vm) : XOk A U H :=
  ⟨bl_eq hv h.1, vx_Zq.moved (by rw [← hv]; exact Vm.Alike.refl _) h.2.1, vx_Zq.moved (by rw [← hv]; exact Vm.Alike.refl _) h.2.2.1, fun q hq => by obtain ⟨a, ha⟩ := h.2.2.2.1 q hq; exact ⟨a, vk_R.same hv.symm ha⟩, va_Nc.moved (by rw [← hv]; exact Vm.Alike.refl _) h.2.2.2.2⟩
abbrev WpT : Type := List Value → Mm → (Option Value → Mm → Prop) → (Nat → Mm → Prop) → Prop
def PcxT (E : va_G × (Nat → ClassId)) (ad : Nat → Nat) (sz : Nat) (X : Mm) (a : List Value) (pre : Prop) : Array Value → State → Prop := fun v U => Pcx E ad sz X a pre v U ∧ XOk (va_A (wl E.2 ad X) sz) U U.heap
theorem pcxT_blind {E : va_G × (Nat → ClassId)} {ad : Nat → Nat} {sz : Nat} {X : Mm} {a : List Value} {pre : Prop} : FrameBlind (PcxT E ad sz X a pre) := by
  intro b U g mk ⟨h, h8⟩
  exact ⟨pcx_blind b U g mk h, h8.same (s := U) (U := U.calling g mk b) rfl⟩
def Xcx (E : va_G × (Nat → ClassId)) (ad : Nat → Nat) (X : Mm) (mc ms : Nat) (A : Nat → Prop) (postX : Nat → Mm → Prop) : String → State → State → Prop := fun En st t =>
  ∃ (kd : Nat) (X' : Mm), En = exn kd ∧ postX kd X' ∧ WFx X' ∧ xn X' = xn X ∧ xc X' = xc X + mc ∧ xs X' = xs X + ms ∧ va_P E.1 vcl (wl E.2 ad X') t.heap ∧ va_D A (wl E.2 ad X') ∧ va_F A st t
def MetT (l : Launch) (y : MethodName) (cc : ByteArray) (maxL : Nat) (ret : Option FieldType) (lv mc ms : Nat) (w : WpT) : Prop :=
  ∀ (E : va_G × (Nat → ClassId)) (ad : Nat → Nat) (sz : Nat) (X : Mm) (a : List Value) (post : Option Value → Mm → Prop) (postX : Nat → Mm → Prop), vx_Met l y (wsx y cc maxL ret) (rmx lv mc ms) (PcxT E ad sz X a (w a X post postX)) (Qcx true E ad X mc ms (va_A (wl E.2 ad X) sz) post) (Xcx E ad X mc ms (va_A (wl E.2 ad X) sz) postX) mc ms (va_A (wl E.2 ad X) sz)
def RetT (Z : Zt) (X0 : Mm) (mc ms : Nat) (post : Option Value → Mm → Prop) (postX : Nat → Mm → Prop) : Prop :=
  zc0 Z = xc X0 ∧ zs0 Z = xs X0 ∧ zn0 Z = xn X0 ∧ zcm Z = xc X0 + mc ∧ zsm Z = xs X0 + ms ∧ zfl Z = true ∧ zQ Z = vx_MQ (zb Z) (Qcx true (zE Z) (zad Z) X0 mc ms (zA Z) post) (Xcx (zE Z) (zad Z) X0 mc ms (zA Z) postX) (za Z) (zs Z) mc ms (zA Z) ∧
  XOk (zA Z) (zs Z) (zs Z).heap ∧ (zl Z).stackTraces = false ∧ (∀ x ∈ (zc Z).exceptionTable.toList, False) ∧ mc ≤ (zR Z).cells ∧ ms ≤ (zR Z).slots
theorem RetT.Z {Z : Zt} {X0 : Mm} {mc ms : Nat} {post : Option Value → Mm → Prop} {postX : Nat → Mm → Prop} (h : RetT Z X0 mc ms post postX) : RetZ Z true X0 mc ms post :=
  ⟨h.1, h.2.1, h.2.2.1, h.2.2.2.1, h.2.2.2.2.1, h.2.2.2.2.2.1, Or.inr ⟨_, h.2.2.2.2.2.2.1⟩⟩
section ThrowRows
variable {Z : Zt} {cc : ByteArray} {nL lv : Nat} {own : String} {pc : Nat} {k : Kk} {X0 : Mm} {mc ms : Nat} {post : Option Value → Mm → Prop} {postX : Nat → Mm → Prop}
def i_throw (kd : Nat) (X0 : Mm) (mc ms : Nat) (postX : Nat → Mm → Prop) : Kk := fun _ st X => match st with
  | [] => xc X + 1 ≤ xc X0 + mc ∧ xs X + 6 ≤ xs X0 + ms ∧ postX kd (xbump X (xc X0 + mc) (xs X0 + ms))
  | _ => False
theorem s_throw (g : Good Z cc nL "BusTelegrams" lv) (hq : RetT Z X0 mc ms post postX) {kd ik is ic : Nat} {text : String} (hlv : 6 ≤ lv) (hS : (is, text) ∈ SL) (hk : Cond.classLink "BusTelegrams" ik (exn kd) ∈ GL) (hi : Cond.initialized (exn kd) ∈ GL)
    (hfit : Bundle.fit (exn kd) = true) (hG1 : ∀ w ∈ (vx_atS "BusTelegrams" ic (exn kd) supn).filter goodWord, w ∈ GL) (hG2 : ∀ w ∈ (vx_atS "BusTelegrams" ic (exn kd) supn).filter (fun w => !goodWord w), w ∈ BL) (hG3 : ∀ w ∈ Cond.classLink "BusTelegrams" ik (exn kd) :: Cond.initialized (exn kd) :: vx_atS "BusTelegrams" ic (exn kd) supn, vx_ot w = true)
    (d0 : decode cc pc = .ok (.new ik, 3)) (d3 : decode cc (pc + 3) = .ok (.dup, 1)) (d4 : decode cc (pc + 4) = .ok (.ldc is, 2)) (d6 : decode cc (pc + 6) = .ok (.invokespecial ic, 3)) (d9 : decode cc (pc + 9) = .ok (.athrow, 1)) : Snd Z nL pc (i_throw kd X0 mc ms postX) := by
  intro l st X hk9 ad H locs ls cells slots hw hl
  unfold i_throw at hk9
  split at hk9
  · obtain ⟨hc1, hs1, hp⟩ := hk9
    obtain ⟨q1, q2, q3, q4, q5, q6, hQ, ⟨hBL, hU, hN, hSL, -⟩, hst, htb, hmc, hms⟩ := hq
    obtain ⟨sa, hsa⟩ := hSL _ hS
    have hfr := g.hfr
    have hlo := g.hlo
    have hS5 := hw.S
    obtain ⟨h1, h2, h3, h4, h5, h6, h7, h8, h9, h10, h11⟩ := id hw
    show W _ _ _ _ _ _ _ _ _ _ _ _ _ _ (zQ Z) _
    rw [hQ]
    refine vx_throwS (names := supn) (text := text) (sa := sa) (A := zA Z) g.hx g.hb hst g.hown hfit (by decide +kernel) (g.hG _ hk) (g.hG _ hi) hsa (vx_hat (fun w hw => g.hG _ (hG1 w hw)) hG2 (fun w hw => va_Nw.use (bl_tab w hw) (hBL w hw))) hG3 hU hN hS5 (by rw [hl.1, g.hml]) d0 d3 d4 d6 d9 (fun x hx => (htb x hx).elim) ?_ ?_ ?_ ?_ g.hlk ?_ hS5.2.2 ?_ ?_
    · show 2 + 3 < _; omega
    · show 0 + (13 * (2 + 1) + 43) ≤ _; omega
    · omega
    · omega
    · intro t ht1 ht2 ht3
      have hkp : ∀ (i : Nat) (q : Nat × va_E), (wl (zE Z).2 ad X)[i]? = some q → t.heap[q.1]? = H[q.1]? := fun i q hq => ht3 q.1 (va_at.lt (h9 i q hq))
      obtain ⟨hn7, rfl⟩ := h7 q6
      refine ⟨kd, xbump X (xc X0 + mc) (xs X0 + ms), rfl, hp, h8, hn7.trans q3, rfl, rfl, h9.kept hkp, h10, ?_, fun q hq1 hq2 => ?_⟩
      · exact Nat.le_trans h11.1 ht2
      · rw [ht3 q (Nat.lt_of_lt_of_le hq1 h11.1)]; exact h11.2.1 q hq1 hq2
    · omega
    · omega
  · exact hk9.elim
def wpT (maxL : Nat) (b : Mm → (Option Value → Mm → Prop) → (Nat → Mm → Prop) → Kk) : WpT := fun a X post postX => asz a ≤ maxL ∧ b X post postX (lv_args 0 a) [] X
theorem metT_of {l : Launch} (hst : l.stackTraces = false) {y : MethodName} {cy : ByteArray} {maxL : Nat} {ret : Option FieldType} {lv mc ms : Nat} {b : Mm → (Option Value → Mm → Prop) → (Nat → Mm → Prop) → Kk} (hy : plainName y.cls = true)
    (body : ∀ (Z : Zt) (X0 : Mm) (post : Option Value → Mm → Prop) (postX : Nat → Mm → Prop), zl Z = l → Good Z cy maxL y.cls lv → RetT Z X0 mc ms post postX → (zM Z).sig.returnType = ret → Snd Z maxL 0 (b X0 post postX)) : MetT l y cy maxL ret lv mc ms (wpT maxL b) := by
  intro E ad sz X a post postX
  refine vx_ofW (cc := cy) (maxL := maxL) (ret := ret) hy rfl ?_
  intro p e s m args below meth c s₁ B hml htb hv
  obtain ⟨⟨rfl, hsz, ⟨hasz, hwp⟩, hWF, hP, hK, hD0, hN⟩, hXO⟩ := hv
  subst hsz
  have hl := lv_entry (a.map (conc ad)) (n := maxL) (by rw [lg_sl_conc]; exact Nat.le_trans (asz_le a) hasz)
  rw [lg_entry_eq]
  generalize (lg_sl (a.map (conc ad)) ++ List.replicate (maxL - (lg_sl (a.map (conc ad))).length) Slot.unset).toArray = ls at hl ⊢
  rw [args_conc] at hl
  have hts := atoms_spec (ws := wsx y cy maxL ret) B.pre
  have g : Good ((p, l, e, rmx lv mc ms, s, m, (a.map (conc ad)).toArray, below, meth, c, E, va_A (wl E.2 ad X) s.heap.size, (xc X, xs X, xn X, ad, xc X + mc, xs X + ms, true), vx_MQ below (Qcx true E ad X mc ms (va_A (wl E.2 ad X) s.heap.size) post) (Xcx E ad X mc ms (va_A (wl E.2 ad X) s.heap.size) postX) (a.map (conc ad)).toArray s mc ms (va_A (wl E.2 ad X) s.heap.size)) : Zt) cy maxL y.cls lv :=
    ⟨B.exec, B.bytes, hml, findClass_of_methodNamed B.named, fun w hw => hts w (List.mem_cons_of_mem _ hw), hN, hK, fun q h => Or.inr h, B.notSynchronized, Nat.le_refl _, Nat.le_refl _, Nat.le_refl _, Nat.le_refl _⟩
  exact body _ X post postX rfl g ⟨rfl, rfl, rfl, rfl, rfl, rfl, rfl, hXO, hst, htb, Nat.le_refl _, Nat.le_refl _⟩ B.returns (lv_args 0 a) [] X hwp ad s.heap [] ls 0 0
    ⟨Nat.zero_add _, Nat.zero_add _, Nat.le_add_right _ _, Nat.le_add_right _ _, Nat.le_refl _, fun _ _ => rfl, fun _ => ⟨rfl, rfl⟩, hWF, hP, hD0.self, va_S.rf⟩ hl
end ThrowRows
