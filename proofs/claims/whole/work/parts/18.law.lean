/-! THE CLAIM OUT OF ONE WALK OF THE LAW'S BODY. Your part is whole_start (and what it stands on); all else here is the same for every law, but numbers. -/
def R_law : String := "BusTelegramsLaw"
def lw_P (b : Addr) (xs : List Int32) (args : Array Value) (s : State) : Prop := args = #[.ref b] ∧ s.IntsAt b xs ∧ xs.length ≤ 3584 ∧ (Jvm.Cond.and given_1 narrow_1).before args s = true
def lw_Q (_ : Array Value) (s : State) (o : Outcome) (t : State) : Prop := o = .returned (some (.int 1)) ∧ Framed s o t [] 601024 7293034
def lw_Z (below : List Frame) (a : Array Value) (s : State) : State → Prop := fun t => ∃ o, t.status = .running ∧ Ended t below o ∧ lw_Q a s o t
/-- the law's own end, with 1 on the stack, nothing written that was there before, its room as the claim has it -/
theorem lw_ret {p : Program} {l : Launch} {e : Env} {s : State} {m : MethodId} {below : List Frame} {meth : Method} {c : Code} {b : Nat} (hx : p.tables.exec = Jvm.exec) (hb : c.code = code) (hr : meth.sig.returnType = ret) (hlocks : meth.locks = false) {pc : Nat} {H : Heap} {ls : Array Slot} (hdg : decode code pc = .ok (.ireturn, 1)) : W p l e room_1 s m #[Value.ref b] below meth c H [] 601024 7293034 (lw_Z below #[Value.ref b] s) (F0 m pc ls [.int 1]) := by
  intro T hT X
  obtain ⟨fs, hret, hrun, hended, hW, hframe⟩ := X.leave (v := some (.int 1)) (hlocks := hlocks) (fun h => by rw [hr] at h; cases h)
  have hmeth' : T.vm.method? m = some meth := X.method'
  refine ⟨T.setFrames fs, ?_, .returned (some (.int 1)), hrun, hended, rfl, ⟨_, rfl⟩, hW, hframe⟩
  jvm_step X.here [X.here.top, hx, hb, hdg, hmeth', hr, ret, narrow_b1]
  (try refine ⟨rfl, ?_⟩); (try refine ⟨rfl, ?_⟩)
  first | (intro acts; rw [hret _ acts rfl rfl rfl]) | rw [hret _ _ rfl rfl rfl]
  exact Steps.refl _
/-- what holds at the law's entry: the machine, the code, the tables' words (any of lw_tbl by 'hts w (by decide +kernel)'), the script of L ints xs at the cell b, what the Statement gives of the start (any of its parts by flat_of_before) -/
def lw_At (p : Program) (s : State) (m : MethodId) (meth : Method) (c : Code) (b L : Nat) (xs : Nat → Int32) : Prop :=
  p.tables.exec = Jvm.exec ∧ c.code = code ∧ meth.sig.returnType = ret ∧ c.maxLocals = 9 ∧ s.vm.findClass R_law = some m.cls ∧ (∀ w ∈ lw_tbl, w.before #[Value.ref b] s = true) ∧ va_X b L xs s s.heap ∧ b < s.heap.size ∧ meth.locks = false ∧ (Jvm.Cond.and given_1 narrow_1).before #[Value.ref b] s = true

/-- the law's frame: its script at b, of L ints xsv -/
def LawX (Z : Zt) (b L : Nat) (xsv : Nat → Int32) (X0 : Mm) : Prop :=
  LawZ Z X0 601024 7293034 ∧ (zl Z).stackTraces = false ∧ AO2 (zs Z) ∧ va_X b L xsv (zs Z) (zs Z).heap ∧ b < (zs Z).heap.size ∧ zad Z 999 = b ∧ zA Z = (fun q : Nat => (zs Z).heap.size ≤ q) ∧ zR Z = room_1 ∧ za Z = #[Value.ref b] ∧ zQ Z = lw_Z (zb Z) #[Value.ref b] (zs Z) ∧ (zM Z).sig.returnType = ret
section LawXS
variable {Z : Zt} {b L : Nat} {xsv : Nat → Int32} {X0 : Mm}
theorem LawX.zz (h : LawX Z b L xsv X0) : LawZ Z X0 601024 7293034 := h.1
theorem LawX.nn (h : LawX Z b L xsv X0) : RetN Z X0 601024 7293034 := ⟨h.1.1, h.1.2.1, h.1.2.2.2.1, h.1.2.2.2.2.1, h.1.2.2.2.2.2.1⟩
theorem LawX.st (h : LawX Z b L xsv X0) : (zl Z).stackTraces = false := h.2.1
theorem LawX.ao (h : LawX Z b L xsv X0) : AO2 (zs Z) := h.2.2.1
theorem LawX.xx (h : LawX Z b L xsv X0) : va_X b L xsv (zs Z) (zs Z).heap := h.2.2.2.1
theorem LawX.bb (h : LawX Z b L xsv X0) : b < (zs Z).heap.size := h.2.2.2.2.1
theorem LawX.b9 (h : LawX Z b L xsv X0) : zad Z 999 = b := h.2.2.2.2.2.1
theorem LawX.nb (h : LawX Z b L xsv X0) : ¬ zA Z b := by rw [h.2.2.2.2.2.2.1]; exact Nat.not_le.mpr h.bb
def i_lret : Kk := fun _ st _ => match st with
  | [.int v] => v = 1
  | _ => False
theorem s_lret {nL lv pc : Nat} {own : String} (g : Good Z code nL own lv) (hz : LawX Z b L xsv X0) (d : decode code pc = .ok (.ireturn, 1)) : Snd Z nL pc i_lret := by
  intro l st X hk ad H locs ls cells slots hw hl
  unfold i_lret at hk
  split at hk
  · next v =>
    subst hk
    obtain ⟨⟨q1, q2, q3, q4, q5, q6, -⟩, -, -, -, -, -, hA, hR, ha, hQ, hr⟩ := hz
    have hS := hw.S
    obtain ⟨h1, h2, h3, h4, -⟩ := hw
    refine W.widen (k := 601024) (n := 7293034) (by omega) (by omega) ?_
    refine va_forget (fun q hq => ?_) ?_
    · have := hS.2.2 q hq
      rw [hA] at this
      exact this
    · show W _ _ _ (zR Z) _ _ (za Z) _ _ _ _ _ _ _ (zQ Z) _
      rw [hR, ha, hQ]
      exact lw_ret g.hx g.hb hr g.hlk d
  · exact hk.elim
end LawXS
/-! the law (by program) -/
theorem d_L_law_0 : decode code 0 = .ok (.new 8, 3) := by decide +kernel
theorem d_L_law_3 : decode code 3 = .ok (.dup, 1) := by decide +kernel
theorem d_L_law_4 : decode code 4 = .ok (.invokespecial 53, 3) := by decide +kernel
theorem d_L_law_7 : decode code 7 = .ok (.astore_n 1, 1) := by decide +kernel
theorem d_L_law_8 : decode code 8 = .ok (.new 54, 3) := by decide +kernel
theorem d_L_law_11 : decode code 11 = .ok (.dup, 1) := by decide +kernel
theorem d_L_law_12 : decode code 12 = .ok (.invokespecial 56, 3) := by decide +kernel
theorem d_L_law_15 : decode code 15 = .ok (.astore_n 2, 1) := by decide +kernel
theorem d_L_law_16 : decode code 16 = .ok (.iconst 1, 1) := by decide +kernel
theorem d_L_law_17 : decode code 17 = .ok (.newarray .long, 2) := by decide +kernel
theorem d_L_law_19 : decode code 19 = .ok (.astore_n 3, 1) := by decide +kernel
theorem d_L_law_20 : decode code 20 = .ok (.iconst 1, 1) := by decide +kernel
theorem d_L_law_21 : decode code 21 = .ok (.newarray .double, 2) := by decide +kernel
theorem d_L_law_23 : decode code 23 = .ok (.astore 4, 2) := by decide +kernel
theorem d_L_law_25 : decode code 25 = .ok (.iconst 0, 1) := by decide +kernel
theorem d_L_law_26 : decode code 26 = .ok (.istore 5, 2) := by decide +kernel
theorem d_L_law_28 : decode code 28 = .ok (.iload 5, 2) := by decide +kernel
theorem d_L_law_30 : decode code 30 = .ok (.aload_n 0, 1) := by decide +kernel
theorem d_L_law_31 : decode code 31 = .ok (.arraylength, 1) := by decide +kernel
theorem d_L_law_32 : decode code 32 = .ok (.bipush 7, 2) := by decide +kernel
theorem d_L_law_34 : decode code 34 = .ok (.isub, 1) := by decide +kernel
theorem d_L_law_35 : decode code 35 = .ok (.if_icmp .gt 959, 3) := by decide +kernel
theorem d_L_law_38 : decode code 38 = .ok (.aload_n 0, 1) := by decide +kernel
theorem d_L_law_39 : decode code 39 = .ok (.iload 5, 2) := by decide +kernel
theorem d_L_law_41 : decode code 41 = .ok (.iaload, 1) := by decide +kernel
theorem d_L_law_42 : decode code 42 = .ok (.bipush 15, 2) := by decide +kernel
theorem d_L_law_44 : decode code 44 = .ok (.iand, 1) := by decide +kernel
theorem d_L_law_45 : decode code 45 = .ok (.tableswitch 943 0 12 #[67, 135, 238, 329, 463, 526, 582, 638, 706, 762, 818, 831, 866], 67) := by decide +kernel
theorem d_L_law_112 : decode code 112 = .ok (.aload_n 1, 1) := by decide +kernel
theorem d_L_law_113 : decode code 113 = .ok (.aload_n 0, 1) := by decide +kernel
theorem d_L_law_114 : decode code 114 = .ok (.iload 5, 2) := by decide +kernel
theorem d_L_law_116 : decode code 116 = .ok (.iconst 1, 1) := by decide +kernel
theorem d_L_law_117 : decode code 117 = .ok (.iadd, 1) := by decide +kernel
theorem d_L_law_118 : decode code 118 = .ok (.iaload, 1) := by decide +kernel
theorem d_L_law_119 : decode code 119 = .ok (.aload_n 0, 1) := by decide +kernel
theorem d_L_law_120 : decode code 120 = .ok (.iload 5, 2) := by decide +kernel
theorem d_L_law_122 : decode code 122 = .ok (.iconst 2, 1) := by decide +kernel
theorem d_L_law_123 : decode code 123 = .ok (.iadd, 1) := by decide +kernel
theorem d_L_law_124 : decode code 124 = .ok (.iaload, 1) := by decide +kernel
theorem d_L_law_125 : decode code 125 = .ok (.aload_n 3, 1) := by decide +kernel
theorem d_L_law_126 : decode code 126 = .ok (.invokestatic 57, 3) := by decide +kernel
theorem d_L_law_129 : decode code 129 = .ok (.istore 6, 2) := by decide +kernel
theorem d_L_law_131 : decode code 131 = .ok (.aload_n 2, 1) := by decide +kernel
theorem d_L_law_132 : decode code 132 = .ok (.aload_n 0, 1) := by decide +kernel
theorem d_L_law_133 : decode code 133 = .ok (.iload 5, 2) := by decide +kernel
theorem d_L_law_135 : decode code 135 = .ok (.iconst 1, 1) := by decide +kernel
theorem d_L_law_136 : decode code 136 = .ok (.iadd, 1) := by decide +kernel
theorem d_L_law_137 : decode code 137 = .ok (.iaload, 1) := by decide +kernel
theorem d_L_law_138 : decode code 138 = .ok (.aload_n 0, 1) := by decide +kernel
theorem d_L_law_139 : decode code 139 = .ok (.iload 5, 2) := by decide +kernel
theorem d_L_law_141 : decode code 141 = .ok (.iconst 2, 1) := by decide +kernel
theorem d_L_law_142 : decode code 142 = .ok (.iadd, 1) := by decide +kernel
theorem d_L_law_143 : decode code 143 = .ok (.iaload, 1) := by decide +kernel
theorem d_L_law_144 : decode code 144 = .ok (.invokevirtual 62, 3) := by decide +kernel
theorem d_L_law_147 : decode code 147 = .ok (.istore 7, 2) := by decide +kernel
theorem d_L_law_149 : decode code 149 = .ok (.aload_n 2, 1) := by decide +kernel
theorem d_L_law_150 : decode code 150 = .ok (.invokevirtual 63, 3) := by decide +kernel
theorem d_L_law_153 : decode code 153 = .ok (.iload 6, 2) := by decide +kernel
theorem d_L_law_155 : decode code 155 = .ok (.if_icmp .eq 5, 3) := by decide +kernel
theorem d_L_law_158 : decode code 158 = .ok (.iconst 0, 1) := by decide +kernel
theorem d_L_law_159 : decode code 159 = .ok (.ireturn, 1) := by decide +kernel
theorem d_L_law_160 : decode code 160 = .ok (.iload 6, 2) := by decide +kernel
theorem d_L_law_162 : decode code 162 = .ok (.ifCond .ne 15, 3) := by decide +kernel
theorem d_L_law_165 : decode code 165 = .ok (.aload_n 3, 1) := by decide +kernel
theorem d_L_law_166 : decode code 166 = .ok (.iconst 0, 1) := by decide +kernel
theorem d_L_law_167 : decode code 167 = .ok (.laload, 1) := by decide +kernel
theorem d_L_law_168 : decode code 168 = .ok (.iload 7, 2) := by decide +kernel
theorem d_L_law_170 : decode code 170 = .ok (.i2l, 1) := by decide +kernel
theorem d_L_law_171 : decode code 171 = .ok (.lcmp, 1) := by decide +kernel
theorem d_L_law_172 : decode code 172 = .ok (.ifCond .eq 5, 3) := by decide +kernel
theorem d_L_law_175 : decode code 175 = .ok (.iconst 0, 1) := by decide +kernel
theorem d_L_law_176 : decode code 176 = .ok (.ireturn, 1) := by decide +kernel
theorem d_L_law_177 : decode code 177 = .ok (.goto 811, 3) := by decide +kernel
theorem d_L_law_180 : decode code 180 = .ok (.aload_n 1, 1) := by decide +kernel
theorem d_L_law_181 : decode code 181 = .ok (.aload_n 0, 1) := by decide +kernel
theorem d_L_law_182 : decode code 182 = .ok (.iload 5, 2) := by decide +kernel
theorem d_L_law_184 : decode code 184 = .ok (.iconst 1, 1) := by decide +kernel
theorem d_L_law_185 : decode code 185 = .ok (.iadd, 1) := by decide +kernel
theorem d_L_law_186 : decode code 186 = .ok (.iaload, 1) := by decide +kernel
theorem d_L_law_187 : decode code 187 = .ok (.aload_n 0, 1) := by decide +kernel
theorem d_L_law_188 : decode code 188 = .ok (.iload 5, 2) := by decide +kernel
theorem d_L_law_190 : decode code 190 = .ok (.iconst 2, 1) := by decide +kernel
theorem d_L_law_191 : decode code 191 = .ok (.iadd, 1) := by decide +kernel
theorem d_L_law_192 : decode code 192 = .ok (.iaload, 1) := by decide +kernel
theorem d_L_law_193 : decode code 193 = .ok (.aload_n 0, 1) := by decide +kernel
theorem d_L_law_194 : decode code 194 = .ok (.iload 5, 2) := by decide +kernel
theorem d_L_law_196 : decode code 196 = .ok (.iconst 3, 1) := by decide +kernel
theorem d_L_law_197 : decode code 197 = .ok (.iadd, 1) := by decide +kernel
theorem d_L_law_198 : decode code 198 = .ok (.iaload, 1) := by decide +kernel
theorem d_L_law_199 : decode code 199 = .ok (.ifCond .eq 7, 3) := by decide +kernel
theorem d_L_law_202 : decode code 202 = .ok (.iconst 1, 1) := by decide +kernel
theorem d_L_law_203 : decode code 203 = .ok (.goto 4, 3) := by decide +kernel
theorem d_L_law_206 : decode code 206 = .ok (.iconst 0, 1) := by decide +kernel
theorem d_L_law_207 : decode code 207 = .ok (.aload_n 3, 1) := by decide +kernel
theorem d_L_law_208 : decode code 208 = .ok (.invokestatic 67, 3) := by decide +kernel
theorem d_L_law_211 : decode code 211 = .ok (.istore 6, 2) := by decide +kernel
theorem d_L_law_213 : decode code 213 = .ok (.aload_n 2, 1) := by decide +kernel
theorem d_L_law_214 : decode code 214 = .ok (.aload_n 0, 1) := by decide +kernel
theorem d_L_law_215 : decode code 215 = .ok (.iload 5, 2) := by decide +kernel
theorem d_L_law_217 : decode code 217 = .ok (.iconst 1, 1) := by decide +kernel
theorem d_L_law_218 : decode code 218 = .ok (.iadd, 1) := by decide +kernel
theorem d_L_law_219 : decode code 219 = .ok (.iaload, 1) := by decide +kernel
theorem d_L_law_220 : decode code 220 = .ok (.aload_n 0, 1) := by decide +kernel
theorem d_L_law_221 : decode code 221 = .ok (.iload 5, 2) := by decide +kernel
theorem d_L_law_223 : decode code 223 = .ok (.iconst 2, 1) := by decide +kernel
theorem d_L_law_224 : decode code 224 = .ok (.iadd, 1) := by decide +kernel
theorem d_L_law_225 : decode code 225 = .ok (.iaload, 1) := by decide +kernel
theorem d_L_law_226 : decode code 226 = .ok (.aload_n 0, 1) := by decide +kernel
theorem d_L_law_227 : decode code 227 = .ok (.iload 5, 2) := by decide +kernel
theorem d_L_law_229 : decode code 229 = .ok (.iconst 3, 1) := by decide +kernel
theorem d_L_law_230 : decode code 230 = .ok (.iadd, 1) := by decide +kernel
theorem d_L_law_231 : decode code 231 = .ok (.iaload, 1) := by decide +kernel
theorem d_L_law_232 : decode code 232 = .ok (.ifCond .eq 7, 3) := by decide +kernel
theorem d_L_law_235 : decode code 235 = .ok (.iconst 1, 1) := by decide +kernel
theorem d_L_law_236 : decode code 236 = .ok (.goto 4, 3) := by decide +kernel
theorem d_L_law_239 : decode code 239 = .ok (.iconst 0, 1) := by decide +kernel
theorem d_L_law_240 : decode code 240 = .ok (.invokevirtual 70, 3) := by decide +kernel
theorem d_L_law_243 : decode code 243 = .ok (.istore 7, 2) := by decide +kernel
theorem d_L_law_245 : decode code 245 = .ok (.aload_n 2, 1) := by decide +kernel
theorem d_L_law_246 : decode code 246 = .ok (.invokevirtual 63, 3) := by decide +kernel
theorem d_L_law_249 : decode code 249 = .ok (.iload 6, 2) := by decide +kernel
theorem d_L_law_251 : decode code 251 = .ok (.if_icmp .eq 5, 3) := by decide +kernel
theorem d_L_law_254 : decode code 254 = .ok (.iconst 0, 1) := by decide +kernel
theorem d_L_law_255 : decode code 255 = .ok (.ireturn, 1) := by decide +kernel
theorem d_L_law_256 : decode code 256 = .ok (.iload 6, 2) := by decide +kernel
theorem d_L_law_258 : decode code 258 = .ok (.ifCond .ne 22, 3) := by decide +kernel
theorem d_L_law_261 : decode code 261 = .ok (.aload_n 3, 1) := by decide +kernel
theorem d_L_law_262 : decode code 262 = .ok (.iconst 0, 1) := by decide +kernel
theorem d_L_law_263 : decode code 263 = .ok (.laload, 1) := by decide +kernel
theorem d_L_law_264 : decode code 264 = .ok (.iload 7, 2) := by decide +kernel
theorem d_L_law_266 : decode code 266 = .ok (.ifCond .eq 7, 3) := by decide +kernel
theorem d_L_law_269 : decode code 269 = .ok (.lconst 1, 1) := by decide +kernel
theorem d_L_law_270 : decode code 270 = .ok (.goto 4, 3) := by decide +kernel
theorem d_L_law_273 : decode code 273 = .ok (.lconst 0, 1) := by decide +kernel
theorem d_L_law_274 : decode code 274 = .ok (.lcmp, 1) := by decide +kernel
theorem d_L_law_275 : decode code 275 = .ok (.ifCond .eq 5, 3) := by decide +kernel
theorem d_L_law_278 : decode code 278 = .ok (.iconst 0, 1) := by decide +kernel
theorem d_L_law_279 : decode code 279 = .ok (.ireturn, 1) := by decide +kernel
theorem d_L_law_280 : decode code 280 = .ok (.goto 708, 3) := by decide +kernel
theorem d_L_law_283 : decode code 283 = .ok (.aload_n 1, 1) := by decide +kernel
theorem d_L_law_284 : decode code 284 = .ok (.aload_n 0, 1) := by decide +kernel
theorem d_L_law_285 : decode code 285 = .ok (.iload 5, 2) := by decide +kernel
theorem d_L_law_287 : decode code 287 = .ok (.iconst 1, 1) := by decide +kernel
theorem d_L_law_288 : decode code 288 = .ok (.iadd, 1) := by decide +kernel
theorem d_L_law_289 : decode code 289 = .ok (.iaload, 1) := by decide +kernel
theorem d_L_law_290 : decode code 290 = .ok (.aload_n 0, 1) := by decide +kernel
theorem d_L_law_291 : decode code 291 = .ok (.iload 5, 2) := by decide +kernel
theorem d_L_law_293 : decode code 293 = .ok (.iconst 2, 1) := by decide +kernel
theorem d_L_law_294 : decode code 294 = .ok (.iadd, 1) := by decide +kernel
theorem d_L_law_295 : decode code 295 = .ok (.iaload, 1) := by decide +kernel
theorem d_L_law_296 : decode code 296 = .ok (.ifCond .eq 7, 3) := by decide +kernel
theorem d_L_law_299 : decode code 299 = .ok (.iconst 1, 1) := by decide +kernel
theorem d_L_law_300 : decode code 300 = .ok (.goto 4, 3) := by decide +kernel
theorem d_L_law_303 : decode code 303 = .ok (.iconst 0, 1) := by decide +kernel
theorem d_L_law_304 : decode code 304 = .ok (.aload_n 3, 1) := by decide +kernel
theorem d_L_law_305 : decode code 305 = .ok (.invokestatic 71, 3) := by decide +kernel
theorem d_L_law_308 : decode code 308 = .ok (.istore 6, 2) := by decide +kernel
theorem d_L_law_310 : decode code 310 = .ok (.aload_n 2, 1) := by decide +kernel
theorem d_L_law_311 : decode code 311 = .ok (.aload_n 0, 1) := by decide +kernel
theorem d_L_law_312 : decode code 312 = .ok (.iload 5, 2) := by decide +kernel
theorem d_L_law_314 : decode code 314 = .ok (.iconst 1, 1) := by decide +kernel
theorem d_L_law_315 : decode code 315 = .ok (.iadd, 1) := by decide +kernel
theorem d_L_law_316 : decode code 316 = .ok (.iaload, 1) := by decide +kernel
theorem d_L_law_317 : decode code 317 = .ok (.aload_n 0, 1) := by decide +kernel
theorem d_L_law_318 : decode code 318 = .ok (.iload 5, 2) := by decide +kernel
theorem d_L_law_320 : decode code 320 = .ok (.iconst 2, 1) := by decide +kernel
theorem d_L_law_321 : decode code 321 = .ok (.iadd, 1) := by decide +kernel
theorem d_L_law_322 : decode code 322 = .ok (.iaload, 1) := by decide +kernel
theorem d_L_law_323 : decode code 323 = .ok (.ifCond .eq 7, 3) := by decide +kernel
theorem d_L_law_326 : decode code 326 = .ok (.iconst 1, 1) := by decide +kernel
theorem d_L_law_327 : decode code 327 = .ok (.goto 4, 3) := by decide +kernel
theorem d_L_law_330 : decode code 330 = .ok (.iconst 0, 1) := by decide +kernel
theorem d_L_law_331 : decode code 331 = .ok (.invokevirtual 74, 3) := by decide +kernel
theorem d_L_law_334 : decode code 334 = .ok (.istore 7, 2) := by decide +kernel
theorem d_L_law_336 : decode code 336 = .ok (.aload_n 2, 1) := by decide +kernel
theorem d_L_law_337 : decode code 337 = .ok (.invokevirtual 63, 3) := by decide +kernel
theorem d_L_law_340 : decode code 340 = .ok (.iload 6, 2) := by decide +kernel
theorem d_L_law_342 : decode code 342 = .ok (.if_icmp .eq 5, 3) := by decide +kernel
theorem d_L_law_345 : decode code 345 = .ok (.iconst 0, 1) := by decide +kernel
theorem d_L_law_346 : decode code 346 = .ok (.ireturn, 1) := by decide +kernel
theorem d_L_law_347 : decode code 347 = .ok (.iload 6, 2) := by decide +kernel
theorem d_L_law_349 : decode code 349 = .ok (.ifCond .ne 22, 3) := by decide +kernel
theorem d_L_law_352 : decode code 352 = .ok (.aload_n 3, 1) := by decide +kernel
theorem d_L_law_353 : decode code 353 = .ok (.iconst 0, 1) := by decide +kernel
theorem d_L_law_354 : decode code 354 = .ok (.laload, 1) := by decide +kernel
theorem d_L_law_355 : decode code 355 = .ok (.iload 7, 2) := by decide +kernel
theorem d_L_law_357 : decode code 357 = .ok (.ifCond .eq 7, 3) := by decide +kernel
theorem d_L_law_360 : decode code 360 = .ok (.lconst 1, 1) := by decide +kernel
theorem d_L_law_361 : decode code 361 = .ok (.goto 4, 3) := by decide +kernel
theorem d_L_law_364 : decode code 364 = .ok (.lconst 0, 1) := by decide +kernel
theorem d_L_law_365 : decode code 365 = .ok (.lcmp, 1) := by decide +kernel
theorem d_L_law_366 : decode code 366 = .ok (.ifCond .eq 5, 3) := by decide +kernel
theorem d_L_law_369 : decode code 369 = .ok (.iconst 0, 1) := by decide +kernel
theorem d_L_law_370 : decode code 370 = .ok (.ireturn, 1) := by decide +kernel
theorem d_L_law_371 : decode code 371 = .ok (.goto 617, 3) := by decide +kernel
theorem d_L_law_374 : decode code 374 = .ok (.aload_n 1, 1) := by decide +kernel
theorem d_L_law_375 : decode code 375 = .ok (.aload_n 0, 1) := by decide +kernel
theorem d_L_law_376 : decode code 376 = .ok (.iload 5, 2) := by decide +kernel
theorem d_L_law_378 : decode code 378 = .ok (.iconst 1, 1) := by decide +kernel
theorem d_L_law_379 : decode code 379 = .ok (.iadd, 1) := by decide +kernel
theorem d_L_law_380 : decode code 380 = .ok (.iaload, 1) := by decide +kernel
theorem d_L_law_381 : decode code 381 = .ok (.aload_n 0, 1) := by decide +kernel
theorem d_L_law_382 : decode code 382 = .ok (.iload 5, 2) := by decide +kernel
theorem d_L_law_384 : decode code 384 = .ok (.iconst 2, 1) := by decide +kernel
theorem d_L_law_385 : decode code 385 = .ok (.iadd, 1) := by decide +kernel
theorem d_L_law_386 : decode code 386 = .ok (.iaload, 1) := by decide +kernel
theorem d_L_law_387 : decode code 387 = .ok (.aload_n 0, 1) := by decide +kernel
theorem d_L_law_388 : decode code 388 = .ok (.iload 5, 2) := by decide +kernel
theorem d_L_law_390 : decode code 390 = .ok (.iconst 3, 1) := by decide +kernel
theorem d_L_law_391 : decode code 391 = .ok (.iadd, 1) := by decide +kernel
theorem d_L_law_392 : decode code 392 = .ok (.iaload, 1) := by decide +kernel
theorem d_L_law_393 : decode code 393 = .ok (.aload_n 0, 1) := by decide +kernel
theorem d_L_law_394 : decode code 394 = .ok (.iload 5, 2) := by decide +kernel
theorem d_L_law_396 : decode code 396 = .ok (.iconst 4, 1) := by decide +kernel
theorem d_L_law_397 : decode code 397 = .ok (.iadd, 1) := by decide +kernel
theorem d_L_law_398 : decode code 398 = .ok (.iaload, 1) := by decide +kernel
theorem d_L_law_399 : decode code 399 = .ok (.ifCond .eq 7, 3) := by decide +kernel
theorem d_L_law_402 : decode code 402 = .ok (.iconst 1, 1) := by decide +kernel
theorem d_L_law_403 : decode code 403 = .ok (.goto 4, 3) := by decide +kernel
theorem d_L_law_406 : decode code 406 = .ok (.iconst 0, 1) := by decide +kernel
theorem d_L_law_407 : decode code 407 = .ok (.aload_n 0, 1) := by decide +kernel
theorem d_L_law_408 : decode code 408 = .ok (.iload 5, 2) := by decide +kernel
theorem d_L_law_410 : decode code 410 = .ok (.iconst 5, 1) := by decide +kernel
theorem d_L_law_411 : decode code 411 = .ok (.iadd, 1) := by decide +kernel
theorem d_L_law_412 : decode code 412 = .ok (.iaload, 1) := by decide +kernel
theorem d_L_law_413 : decode code 413 = .ok (.aload_n 0, 1) := by decide +kernel
theorem d_L_law_414 : decode code 414 = .ok (.iload 5, 2) := by decide +kernel
theorem d_L_law_416 : decode code 416 = .ok (.bipush 6, 2) := by decide +kernel
theorem d_L_law_418 : decode code 418 = .ok (.iadd, 1) := by decide +kernel
theorem d_L_law_419 : decode code 419 = .ok (.iaload, 1) := by decide +kernel
theorem d_L_law_420 : decode code 420 = .ok (.aload_n 3, 1) := by decide +kernel
theorem d_L_law_421 : decode code 421 = .ok (.invokestatic 75, 3) := by decide +kernel
theorem d_L_law_424 : decode code 424 = .ok (.istore 6, 2) := by decide +kernel
theorem d_L_law_426 : decode code 426 = .ok (.aload_n 2, 1) := by decide +kernel
theorem d_L_law_427 : decode code 427 = .ok (.aload_n 0, 1) := by decide +kernel
theorem d_L_law_428 : decode code 428 = .ok (.iload 5, 2) := by decide +kernel
theorem d_L_law_430 : decode code 430 = .ok (.iconst 1, 1) := by decide +kernel
theorem d_L_law_431 : decode code 431 = .ok (.iadd, 1) := by decide +kernel
theorem d_L_law_432 : decode code 432 = .ok (.iaload, 1) := by decide +kernel
theorem d_L_law_433 : decode code 433 = .ok (.aload_n 0, 1) := by decide +kernel
theorem d_L_law_434 : decode code 434 = .ok (.iload 5, 2) := by decide +kernel
theorem d_L_law_436 : decode code 436 = .ok (.iconst 2, 1) := by decide +kernel
theorem d_L_law_437 : decode code 437 = .ok (.iadd, 1) := by decide +kernel
theorem d_L_law_438 : decode code 438 = .ok (.iaload, 1) := by decide +kernel
theorem d_L_law_439 : decode code 439 = .ok (.aload_n 0, 1) := by decide +kernel
theorem d_L_law_440 : decode code 440 = .ok (.iload 5, 2) := by decide +kernel
theorem d_L_law_442 : decode code 442 = .ok (.iconst 3, 1) := by decide +kernel
theorem d_L_law_443 : decode code 443 = .ok (.iadd, 1) := by decide +kernel
theorem d_L_law_444 : decode code 444 = .ok (.iaload, 1) := by decide +kernel
theorem d_L_law_445 : decode code 445 = .ok (.aload_n 0, 1) := by decide +kernel
theorem d_L_law_446 : decode code 446 = .ok (.iload 5, 2) := by decide +kernel
theorem d_L_law_448 : decode code 448 = .ok (.iconst 4, 1) := by decide +kernel
theorem d_L_law_449 : decode code 449 = .ok (.iadd, 1) := by decide +kernel
theorem d_L_law_450 : decode code 450 = .ok (.iaload, 1) := by decide +kernel
theorem d_L_law_451 : decode code 451 = .ok (.ifCond .eq 7, 3) := by decide +kernel
theorem d_L_law_454 : decode code 454 = .ok (.iconst 1, 1) := by decide +kernel
theorem d_L_law_455 : decode code 455 = .ok (.goto 4, 3) := by decide +kernel
theorem d_L_law_458 : decode code 458 = .ok (.iconst 0, 1) := by decide +kernel
theorem d_L_law_459 : decode code 459 = .ok (.aload_n 0, 1) := by decide +kernel
theorem d_L_law_460 : decode code 460 = .ok (.iload 5, 2) := by decide +kernel
theorem d_L_law_462 : decode code 462 = .ok (.iconst 5, 1) := by decide +kernel
theorem d_L_law_463 : decode code 463 = .ok (.iadd, 1) := by decide +kernel
theorem d_L_law_464 : decode code 464 = .ok (.iaload, 1) := by decide +kernel
theorem d_L_law_465 : decode code 465 = .ok (.aload_n 0, 1) := by decide +kernel
theorem d_L_law_466 : decode code 466 = .ok (.iload 5, 2) := by decide +kernel
theorem d_L_law_468 : decode code 468 = .ok (.bipush 6, 2) := by decide +kernel
theorem d_L_law_470 : decode code 470 = .ok (.iadd, 1) := by decide +kernel
theorem d_L_law_471 : decode code 471 = .ok (.iaload, 1) := by decide +kernel
theorem d_L_law_472 : decode code 472 = .ok (.invokevirtual 78, 3) := by decide +kernel
theorem d_L_law_475 : decode code 475 = .ok (.istore 7, 2) := by decide +kernel
theorem d_L_law_477 : decode code 477 = .ok (.aload_n 2, 1) := by decide +kernel
theorem d_L_law_478 : decode code 478 = .ok (.invokevirtual 63, 3) := by decide +kernel
theorem d_L_law_481 : decode code 481 = .ok (.iload 6, 2) := by decide +kernel
theorem d_L_law_483 : decode code 483 = .ok (.if_icmp .eq 5, 3) := by decide +kernel
theorem d_L_law_486 : decode code 486 = .ok (.iconst 0, 1) := by decide +kernel
theorem d_L_law_487 : decode code 487 = .ok (.ireturn, 1) := by decide +kernel
theorem d_L_law_488 : decode code 488 = .ok (.iload 6, 2) := by decide +kernel
theorem d_L_law_490 : decode code 490 = .ok (.ifCond .ne 15, 3) := by decide +kernel
theorem d_L_law_493 : decode code 493 = .ok (.aload_n 3, 1) := by decide +kernel
theorem d_L_law_494 : decode code 494 = .ok (.iconst 0, 1) := by decide +kernel
theorem d_L_law_495 : decode code 495 = .ok (.laload, 1) := by decide +kernel
theorem d_L_law_496 : decode code 496 = .ok (.iload 7, 2) := by decide +kernel
theorem d_L_law_498 : decode code 498 = .ok (.i2l, 1) := by decide +kernel
theorem d_L_law_499 : decode code 499 = .ok (.lcmp, 1) := by decide +kernel
theorem d_L_law_500 : decode code 500 = .ok (.ifCond .eq 5, 3) := by decide +kernel
theorem d_L_law_503 : decode code 503 = .ok (.iconst 0, 1) := by decide +kernel
theorem d_L_law_504 : decode code 504 = .ok (.ireturn, 1) := by decide +kernel
theorem d_L_law_505 : decode code 505 = .ok (.goto 483, 3) := by decide +kernel
theorem d_L_law_508 : decode code 508 = .ok (.aload_n 1, 1) := by decide +kernel
theorem d_L_law_509 : decode code 509 = .ok (.aload_n 0, 1) := by decide +kernel
theorem d_L_law_510 : decode code 510 = .ok (.iload 5, 2) := by decide +kernel
theorem d_L_law_512 : decode code 512 = .ok (.iconst 1, 1) := by decide +kernel
theorem d_L_law_513 : decode code 513 = .ok (.iadd, 1) := by decide +kernel
theorem d_L_law_514 : decode code 514 = .ok (.iaload, 1) := by decide +kernel
theorem d_L_law_515 : decode code 515 = .ok (.aload_n 3, 1) := by decide +kernel
theorem d_L_law_516 : decode code 516 = .ok (.invokestatic 79, 3) := by decide +kernel
theorem d_L_law_519 : decode code 519 = .ok (.istore 6, 2) := by decide +kernel
theorem d_L_law_521 : decode code 521 = .ok (.aload_n 2, 1) := by decide +kernel
theorem d_L_law_522 : decode code 522 = .ok (.aload_n 0, 1) := by decide +kernel
theorem d_L_law_523 : decode code 523 = .ok (.iload 5, 2) := by decide +kernel
theorem d_L_law_525 : decode code 525 = .ok (.iconst 1, 1) := by decide +kernel
theorem d_L_law_526 : decode code 526 = .ok (.iadd, 1) := by decide +kernel
theorem d_L_law_527 : decode code 527 = .ok (.iaload, 1) := by decide +kernel
theorem d_L_law_528 : decode code 528 = .ok (.invokevirtual 82, 3) := by decide +kernel
theorem d_L_law_531 : decode code 531 = .ok (.istore 7, 2) := by decide +kernel
theorem d_L_law_533 : decode code 533 = .ok (.aload_n 2, 1) := by decide +kernel
theorem d_L_law_534 : decode code 534 = .ok (.invokevirtual 63, 3) := by decide +kernel
theorem d_L_law_537 : decode code 537 = .ok (.iload 6, 2) := by decide +kernel
theorem d_L_law_539 : decode code 539 = .ok (.if_icmp .eq 5, 3) := by decide +kernel
theorem d_L_law_542 : decode code 542 = .ok (.iconst 0, 1) := by decide +kernel
theorem d_L_law_543 : decode code 543 = .ok (.ireturn, 1) := by decide +kernel
theorem d_L_law_544 : decode code 544 = .ok (.iload 6, 2) := by decide +kernel
theorem d_L_law_546 : decode code 546 = .ok (.ifCond .ne 22, 3) := by decide +kernel
theorem d_L_law_549 : decode code 549 = .ok (.aload_n 3, 1) := by decide +kernel
theorem d_L_law_550 : decode code 550 = .ok (.iconst 0, 1) := by decide +kernel
theorem d_L_law_551 : decode code 551 = .ok (.laload, 1) := by decide +kernel
theorem d_L_law_552 : decode code 552 = .ok (.iload 7, 2) := by decide +kernel
theorem d_L_law_554 : decode code 554 = .ok (.ifCond .eq 7, 3) := by decide +kernel
theorem d_L_law_557 : decode code 557 = .ok (.lconst 1, 1) := by decide +kernel
theorem d_L_law_558 : decode code 558 = .ok (.goto 4, 3) := by decide +kernel
theorem d_L_law_561 : decode code 561 = .ok (.lconst 0, 1) := by decide +kernel
theorem d_L_law_562 : decode code 562 = .ok (.lcmp, 1) := by decide +kernel
theorem d_L_law_563 : decode code 563 = .ok (.ifCond .eq 5, 3) := by decide +kernel
theorem d_L_law_566 : decode code 566 = .ok (.iconst 0, 1) := by decide +kernel
theorem d_L_law_567 : decode code 567 = .ok (.ireturn, 1) := by decide +kernel
theorem d_L_law_568 : decode code 568 = .ok (.goto 420, 3) := by decide +kernel
theorem d_L_law_571 : decode code 571 = .ok (.aload_n 1, 1) := by decide +kernel
theorem d_L_law_572 : decode code 572 = .ok (.aload_n 0, 1) := by decide +kernel
theorem d_L_law_573 : decode code 573 = .ok (.iload 5, 2) := by decide +kernel
theorem d_L_law_575 : decode code 575 = .ok (.iconst 1, 1) := by decide +kernel
theorem d_L_law_576 : decode code 576 = .ok (.iadd, 1) := by decide +kernel
theorem d_L_law_577 : decode code 577 = .ok (.iaload, 1) := by decide +kernel
theorem d_L_law_578 : decode code 578 = .ok (.aload_n 3, 1) := by decide +kernel
theorem d_L_law_579 : decode code 579 = .ok (.invokestatic 83, 3) := by decide +kernel
theorem d_L_law_582 : decode code 582 = .ok (.istore 6, 2) := by decide +kernel
theorem d_L_law_584 : decode code 584 = .ok (.aload_n 2, 1) := by decide +kernel
theorem d_L_law_585 : decode code 585 = .ok (.aload_n 0, 1) := by decide +kernel
theorem d_L_law_586 : decode code 586 = .ok (.iload 5, 2) := by decide +kernel
theorem d_L_law_588 : decode code 588 = .ok (.iconst 1, 1) := by decide +kernel
theorem d_L_law_589 : decode code 589 = .ok (.iadd, 1) := by decide +kernel
theorem d_L_law_590 : decode code 590 = .ok (.iaload, 1) := by decide +kernel
theorem d_L_law_591 : decode code 591 = .ok (.invokevirtual 85, 3) := by decide +kernel
theorem d_L_law_594 : decode code 594 = .ok (.istore 7, 2) := by decide +kernel
theorem d_L_law_596 : decode code 596 = .ok (.aload_n 2, 1) := by decide +kernel
theorem d_L_law_597 : decode code 597 = .ok (.invokevirtual 63, 3) := by decide +kernel
theorem d_L_law_600 : decode code 600 = .ok (.iload 6, 2) := by decide +kernel
theorem d_L_law_602 : decode code 602 = .ok (.if_icmp .eq 5, 3) := by decide +kernel
theorem d_L_law_605 : decode code 605 = .ok (.iconst 0, 1) := by decide +kernel
theorem d_L_law_606 : decode code 606 = .ok (.ireturn, 1) := by decide +kernel
theorem d_L_law_607 : decode code 607 = .ok (.iload 6, 2) := by decide +kernel
theorem d_L_law_609 : decode code 609 = .ok (.ifCond .ne 15, 3) := by decide +kernel
theorem d_L_law_612 : decode code 612 = .ok (.aload_n 3, 1) := by decide +kernel
theorem d_L_law_613 : decode code 613 = .ok (.iconst 0, 1) := by decide +kernel
theorem d_L_law_614 : decode code 614 = .ok (.laload, 1) := by decide +kernel
theorem d_L_law_615 : decode code 615 = .ok (.iload 7, 2) := by decide +kernel
theorem d_L_law_617 : decode code 617 = .ok (.i2l, 1) := by decide +kernel
theorem d_L_law_618 : decode code 618 = .ok (.lcmp, 1) := by decide +kernel
theorem d_L_law_619 : decode code 619 = .ok (.ifCond .eq 5, 3) := by decide +kernel
theorem d_L_law_622 : decode code 622 = .ok (.iconst 0, 1) := by decide +kernel
theorem d_L_law_623 : decode code 623 = .ok (.ireturn, 1) := by decide +kernel
theorem d_L_law_624 : decode code 624 = .ok (.goto 364, 3) := by decide +kernel
theorem d_L_law_627 : decode code 627 = .ok (.aload_n 1, 1) := by decide +kernel
theorem d_L_law_628 : decode code 628 = .ok (.aload_n 0, 1) := by decide +kernel
theorem d_L_law_629 : decode code 629 = .ok (.iload 5, 2) := by decide +kernel
theorem d_L_law_631 : decode code 631 = .ok (.iconst 1, 1) := by decide +kernel
theorem d_L_law_632 : decode code 632 = .ok (.iadd, 1) := by decide +kernel
theorem d_L_law_633 : decode code 633 = .ok (.iaload, 1) := by decide +kernel
theorem d_L_law_634 : decode code 634 = .ok (.aload_n 3, 1) := by decide +kernel
theorem d_L_law_635 : decode code 635 = .ok (.invokestatic 86, 3) := by decide +kernel
theorem d_L_law_638 : decode code 638 = .ok (.istore 6, 2) := by decide +kernel
theorem d_L_law_640 : decode code 640 = .ok (.aload_n 2, 1) := by decide +kernel
theorem d_L_law_641 : decode code 641 = .ok (.aload_n 0, 1) := by decide +kernel
theorem d_L_law_642 : decode code 642 = .ok (.iload 5, 2) := by decide +kernel
theorem d_L_law_644 : decode code 644 = .ok (.iconst 1, 1) := by decide +kernel
theorem d_L_law_645 : decode code 645 = .ok (.iadd, 1) := by decide +kernel
theorem d_L_law_646 : decode code 646 = .ok (.iaload, 1) := by decide +kernel
theorem d_L_law_647 : decode code 647 = .ok (.invokevirtual 88, 3) := by decide +kernel
theorem d_L_law_650 : decode code 650 = .ok (.istore 7, 2) := by decide +kernel
theorem d_L_law_652 : decode code 652 = .ok (.aload_n 2, 1) := by decide +kernel
theorem d_L_law_653 : decode code 653 = .ok (.invokevirtual 63, 3) := by decide +kernel
theorem d_L_law_656 : decode code 656 = .ok (.iload 6, 2) := by decide +kernel
theorem d_L_law_658 : decode code 658 = .ok (.if_icmp .eq 5, 3) := by decide +kernel
theorem d_L_law_661 : decode code 661 = .ok (.iconst 0, 1) := by decide +kernel
theorem d_L_law_662 : decode code 662 = .ok (.ireturn, 1) := by decide +kernel
theorem d_L_law_663 : decode code 663 = .ok (.iload 6, 2) := by decide +kernel
theorem d_L_law_665 : decode code 665 = .ok (.ifCond .ne 15, 3) := by decide +kernel
theorem d_L_law_668 : decode code 668 = .ok (.aload_n 3, 1) := by decide +kernel
theorem d_L_law_669 : decode code 669 = .ok (.iconst 0, 1) := by decide +kernel
theorem d_L_law_670 : decode code 670 = .ok (.laload, 1) := by decide +kernel
theorem d_L_law_671 : decode code 671 = .ok (.iload 7, 2) := by decide +kernel
theorem d_L_law_673 : decode code 673 = .ok (.i2l, 1) := by decide +kernel
theorem d_L_law_674 : decode code 674 = .ok (.lcmp, 1) := by decide +kernel
theorem d_L_law_675 : decode code 675 = .ok (.ifCond .eq 5, 3) := by decide +kernel
theorem d_L_law_678 : decode code 678 = .ok (.iconst 0, 1) := by decide +kernel
theorem d_L_law_679 : decode code 679 = .ok (.ireturn, 1) := by decide +kernel
theorem d_L_law_680 : decode code 680 = .ok (.goto 308, 3) := by decide +kernel
theorem d_L_law_683 : decode code 683 = .ok (.aload_n 1, 1) := by decide +kernel
theorem d_L_law_684 : decode code 684 = .ok (.aload_n 0, 1) := by decide +kernel
theorem d_L_law_685 : decode code 685 = .ok (.iload 5, 2) := by decide +kernel
theorem d_L_law_687 : decode code 687 = .ok (.iconst 1, 1) := by decide +kernel
theorem d_L_law_688 : decode code 688 = .ok (.iadd, 1) := by decide +kernel
theorem d_L_law_689 : decode code 689 = .ok (.iaload, 1) := by decide +kernel
theorem d_L_law_690 : decode code 690 = .ok (.aload_n 0, 1) := by decide +kernel
theorem d_L_law_691 : decode code 691 = .ok (.iload 5, 2) := by decide +kernel
theorem d_L_law_693 : decode code 693 = .ok (.iconst 2, 1) := by decide +kernel
theorem d_L_law_694 : decode code 694 = .ok (.iadd, 1) := by decide +kernel
theorem d_L_law_695 : decode code 695 = .ok (.iaload, 1) := by decide +kernel
theorem d_L_law_696 : decode code 696 = .ok (.aload_n 3, 1) := by decide +kernel
theorem d_L_law_697 : decode code 697 = .ok (.invokestatic 89, 3) := by decide +kernel
theorem d_L_law_700 : decode code 700 = .ok (.istore 6, 2) := by decide +kernel
theorem d_L_law_702 : decode code 702 = .ok (.aload_n 2, 1) := by decide +kernel
theorem d_L_law_703 : decode code 703 = .ok (.aload_n 0, 1) := by decide +kernel
theorem d_L_law_704 : decode code 704 = .ok (.iload 5, 2) := by decide +kernel
theorem d_L_law_706 : decode code 706 = .ok (.iconst 1, 1) := by decide +kernel
theorem d_L_law_707 : decode code 707 = .ok (.iadd, 1) := by decide +kernel
theorem d_L_law_708 : decode code 708 = .ok (.iaload, 1) := by decide +kernel
theorem d_L_law_709 : decode code 709 = .ok (.aload_n 0, 1) := by decide +kernel
theorem d_L_law_710 : decode code 710 = .ok (.iload 5, 2) := by decide +kernel
theorem d_L_law_712 : decode code 712 = .ok (.iconst 2, 1) := by decide +kernel
theorem d_L_law_713 : decode code 713 = .ok (.iadd, 1) := by decide +kernel
theorem d_L_law_714 : decode code 714 = .ok (.iaload, 1) := by decide +kernel
theorem d_L_law_715 : decode code 715 = .ok (.invokevirtual 91, 3) := by decide +kernel
theorem d_L_law_718 : decode code 718 = .ok (.istore 7, 2) := by decide +kernel
theorem d_L_law_720 : decode code 720 = .ok (.aload_n 2, 1) := by decide +kernel
theorem d_L_law_721 : decode code 721 = .ok (.invokevirtual 63, 3) := by decide +kernel
theorem d_L_law_724 : decode code 724 = .ok (.iload 6, 2) := by decide +kernel
theorem d_L_law_726 : decode code 726 = .ok (.if_icmp .eq 5, 3) := by decide +kernel
theorem d_L_law_729 : decode code 729 = .ok (.iconst 0, 1) := by decide +kernel
theorem d_L_law_730 : decode code 730 = .ok (.ireturn, 1) := by decide +kernel
theorem d_L_law_731 : decode code 731 = .ok (.iload 6, 2) := by decide +kernel
theorem d_L_law_733 : decode code 733 = .ok (.ifCond .ne 15, 3) := by decide +kernel
theorem d_L_law_736 : decode code 736 = .ok (.aload_n 3, 1) := by decide +kernel
theorem d_L_law_737 : decode code 737 = .ok (.iconst 0, 1) := by decide +kernel
theorem d_L_law_738 : decode code 738 = .ok (.laload, 1) := by decide +kernel
theorem d_L_law_739 : decode code 739 = .ok (.iload 7, 2) := by decide +kernel
theorem d_L_law_741 : decode code 741 = .ok (.i2l, 1) := by decide +kernel
theorem d_L_law_742 : decode code 742 = .ok (.lcmp, 1) := by decide +kernel
theorem d_L_law_743 : decode code 743 = .ok (.ifCond .eq 5, 3) := by decide +kernel
theorem d_L_law_746 : decode code 746 = .ok (.iconst 0, 1) := by decide +kernel
theorem d_L_law_747 : decode code 747 = .ok (.ireturn, 1) := by decide +kernel
theorem d_L_law_748 : decode code 748 = .ok (.goto 240, 3) := by decide +kernel
theorem d_L_law_751 : decode code 751 = .ok (.aload_n 1, 1) := by decide +kernel
theorem d_L_law_752 : decode code 752 = .ok (.aload_n 0, 1) := by decide +kernel
theorem d_L_law_753 : decode code 753 = .ok (.iload 5, 2) := by decide +kernel
theorem d_L_law_755 : decode code 755 = .ok (.iconst 1, 1) := by decide +kernel
theorem d_L_law_756 : decode code 756 = .ok (.iadd, 1) := by decide +kernel
theorem d_L_law_757 : decode code 757 = .ok (.iaload, 1) := by decide +kernel
theorem d_L_law_758 : decode code 758 = .ok (.aload_n 3, 1) := by decide +kernel
theorem d_L_law_759 : decode code 759 = .ok (.invokestatic 92, 3) := by decide +kernel
theorem d_L_law_762 : decode code 762 = .ok (.istore 6, 2) := by decide +kernel
theorem d_L_law_764 : decode code 764 = .ok (.aload_n 2, 1) := by decide +kernel
theorem d_L_law_765 : decode code 765 = .ok (.aload_n 0, 1) := by decide +kernel
theorem d_L_law_766 : decode code 766 = .ok (.iload 5, 2) := by decide +kernel
theorem d_L_law_768 : decode code 768 = .ok (.iconst 1, 1) := by decide +kernel
theorem d_L_law_769 : decode code 769 = .ok (.iadd, 1) := by decide +kernel
theorem d_L_law_770 : decode code 770 = .ok (.iaload, 1) := by decide +kernel
theorem d_L_law_771 : decode code 771 = .ok (.invokevirtual 94, 3) := by decide +kernel
theorem d_L_law_774 : decode code 774 = .ok (.istore 7, 2) := by decide +kernel
theorem d_L_law_776 : decode code 776 = .ok (.aload_n 2, 1) := by decide +kernel
theorem d_L_law_777 : decode code 777 = .ok (.invokevirtual 63, 3) := by decide +kernel
theorem d_L_law_780 : decode code 780 = .ok (.iload 6, 2) := by decide +kernel
theorem d_L_law_782 : decode code 782 = .ok (.if_icmp .eq 5, 3) := by decide +kernel
theorem d_L_law_785 : decode code 785 = .ok (.iconst 0, 1) := by decide +kernel
theorem d_L_law_786 : decode code 786 = .ok (.ireturn, 1) := by decide +kernel
theorem d_L_law_787 : decode code 787 = .ok (.iload 6, 2) := by decide +kernel
theorem d_L_law_789 : decode code 789 = .ok (.ifCond .ne 15, 3) := by decide +kernel
theorem d_L_law_792 : decode code 792 = .ok (.aload_n 3, 1) := by decide +kernel
theorem d_L_law_793 : decode code 793 = .ok (.iconst 0, 1) := by decide +kernel
theorem d_L_law_794 : decode code 794 = .ok (.laload, 1) := by decide +kernel
theorem d_L_law_795 : decode code 795 = .ok (.iload 7, 2) := by decide +kernel
theorem d_L_law_797 : decode code 797 = .ok (.i2l, 1) := by decide +kernel
theorem d_L_law_798 : decode code 798 = .ok (.lcmp, 1) := by decide +kernel
theorem d_L_law_799 : decode code 799 = .ok (.ifCond .eq 5, 3) := by decide +kernel
theorem d_L_law_802 : decode code 802 = .ok (.iconst 0, 1) := by decide +kernel
theorem d_L_law_803 : decode code 803 = .ok (.ireturn, 1) := by decide +kernel
theorem d_L_law_804 : decode code 804 = .ok (.goto 184, 3) := by decide +kernel
theorem d_L_law_807 : decode code 807 = .ok (.aload_n 1, 1) := by decide +kernel
theorem d_L_law_808 : decode code 808 = .ok (.aload_n 0, 1) := by decide +kernel
theorem d_L_law_809 : decode code 809 = .ok (.iload 5, 2) := by decide +kernel
theorem d_L_law_811 : decode code 811 = .ok (.iconst 1, 1) := by decide +kernel
theorem d_L_law_812 : decode code 812 = .ok (.iadd, 1) := by decide +kernel
theorem d_L_law_813 : decode code 813 = .ok (.iaload, 1) := by decide +kernel
theorem d_L_law_814 : decode code 814 = .ok (.aload_n 3, 1) := by decide +kernel
theorem d_L_law_815 : decode code 815 = .ok (.invokestatic 95, 3) := by decide +kernel
theorem d_L_law_818 : decode code 818 = .ok (.istore 6, 2) := by decide +kernel
theorem d_L_law_820 : decode code 820 = .ok (.aload_n 2, 1) := by decide +kernel
theorem d_L_law_821 : decode code 821 = .ok (.aload_n 0, 1) := by decide +kernel
theorem d_L_law_822 : decode code 822 = .ok (.iload 5, 2) := by decide +kernel
theorem d_L_law_824 : decode code 824 = .ok (.iconst 1, 1) := by decide +kernel
theorem d_L_law_825 : decode code 825 = .ok (.iadd, 1) := by decide +kernel
theorem d_L_law_826 : decode code 826 = .ok (.iaload, 1) := by decide +kernel
theorem d_L_law_827 : decode code 827 = .ok (.invokevirtual 97, 3) := by decide +kernel
theorem d_L_law_830 : decode code 830 = .ok (.istore 7, 2) := by decide +kernel
theorem d_L_law_832 : decode code 832 = .ok (.aload_n 2, 1) := by decide +kernel
theorem d_L_law_833 : decode code 833 = .ok (.invokevirtual 63, 3) := by decide +kernel
theorem d_L_law_836 : decode code 836 = .ok (.iload 6, 2) := by decide +kernel
theorem d_L_law_838 : decode code 838 = .ok (.if_icmp .eq 5, 3) := by decide +kernel
theorem d_L_law_841 : decode code 841 = .ok (.iconst 0, 1) := by decide +kernel
theorem d_L_law_842 : decode code 842 = .ok (.ireturn, 1) := by decide +kernel
theorem d_L_law_843 : decode code 843 = .ok (.iload 6, 2) := by decide +kernel
theorem d_L_law_845 : decode code 845 = .ok (.ifCond .ne 15, 3) := by decide +kernel
theorem d_L_law_848 : decode code 848 = .ok (.aload_n 3, 1) := by decide +kernel
theorem d_L_law_849 : decode code 849 = .ok (.iconst 0, 1) := by decide +kernel
theorem d_L_law_850 : decode code 850 = .ok (.laload, 1) := by decide +kernel
theorem d_L_law_851 : decode code 851 = .ok (.iload 7, 2) := by decide +kernel
theorem d_L_law_853 : decode code 853 = .ok (.i2l, 1) := by decide +kernel
theorem d_L_law_854 : decode code 854 = .ok (.lcmp, 1) := by decide +kernel
theorem d_L_law_855 : decode code 855 = .ok (.ifCond .eq 5, 3) := by decide +kernel
theorem d_L_law_858 : decode code 858 = .ok (.iconst 0, 1) := by decide +kernel
theorem d_L_law_859 : decode code 859 = .ok (.ireturn, 1) := by decide +kernel
theorem d_L_law_860 : decode code 860 = .ok (.goto 128, 3) := by decide +kernel
theorem d_L_law_863 : decode code 863 = .ok (.aload_n 1, 1) := by decide +kernel
theorem d_L_law_864 : decode code 864 = .ok (.invokevirtual 98, 3) := by decide +kernel
theorem d_L_law_867 : decode code 867 = .ok (.aload_n 2, 1) := by decide +kernel
theorem d_L_law_868 : decode code 868 = .ok (.invokevirtual 101, 3) := by decide +kernel
theorem d_L_law_871 : decode code 871 = .ok (.if_icmp .eq 117, 3) := by decide +kernel
theorem d_L_law_874 : decode code 874 = .ok (.iconst 0, 1) := by decide +kernel
theorem d_L_law_875 : decode code 875 = .ok (.ireturn, 1) := by decide +kernel
theorem d_L_law_876 : decode code 876 = .ok (.aload_n 1, 1) := by decide +kernel
theorem d_L_law_877 : decode code 877 = .ok (.aload_n 0, 1) := by decide +kernel
theorem d_L_law_878 : decode code 878 = .ok (.iload 5, 2) := by decide +kernel
theorem d_L_law_880 : decode code 880 = .ok (.iconst 1, 1) := by decide +kernel
theorem d_L_law_881 : decode code 881 = .ok (.iadd, 1) := by decide +kernel
theorem d_L_law_882 : decode code 882 = .ok (.iaload, 1) := by decide +kernel
theorem d_L_law_883 : decode code 883 = .ok (.i2d, 1) := by decide +kernel
theorem d_L_law_884 : decode code 884 = .ok (.ldc2_w 102, 3) := by decide +kernel
theorem d_L_law_887 : decode code 887 = .ok (.dmul, 1) := by decide +kernel
theorem d_L_law_888 : decode code 888 = .ok (.invokevirtual 104, 3) := by decide +kernel
theorem d_L_law_891 : decode code 891 = .ok (.aload_n 2, 1) := by decide +kernel
theorem d_L_law_892 : decode code 892 = .ok (.aload_n 0, 1) := by decide +kernel
theorem d_L_law_893 : decode code 893 = .ok (.iload 5, 2) := by decide +kernel
theorem d_L_law_895 : decode code 895 = .ok (.iconst 1, 1) := by decide +kernel
theorem d_L_law_896 : decode code 896 = .ok (.iadd, 1) := by decide +kernel
theorem d_L_law_897 : decode code 897 = .ok (.iaload, 1) := by decide +kernel
theorem d_L_law_898 : decode code 898 = .ok (.i2d, 1) := by decide +kernel
theorem d_L_law_899 : decode code 899 = .ok (.ldc2_w 102, 3) := by decide +kernel
theorem d_L_law_902 : decode code 902 = .ok (.dmul, 1) := by decide +kernel
theorem d_L_law_903 : decode code 903 = .ok (.invokevirtual 108, 3) := by decide +kernel
theorem d_L_law_906 : decode code 906 = .ok (.if_icmp .eq 82, 3) := by decide +kernel
theorem d_L_law_909 : decode code 909 = .ok (.iconst 0, 1) := by decide +kernel
theorem d_L_law_910 : decode code 910 = .ok (.ireturn, 1) := by decide +kernel
theorem d_L_law_911 : decode code 911 = .ok (.aload_n 1, 1) := by decide +kernel
theorem d_L_law_912 : decode code 912 = .ok (.aload_n 0, 1) := by decide +kernel
theorem d_L_law_913 : decode code 913 = .ok (.iload 5, 2) := by decide +kernel
theorem d_L_law_915 : decode code 915 = .ok (.iconst 1, 1) := by decide +kernel
theorem d_L_law_916 : decode code 916 = .ok (.iadd, 1) := by decide +kernel
theorem d_L_law_917 : decode code 917 = .ok (.iaload, 1) := by decide +kernel
theorem d_L_law_918 : decode code 918 = .ok (.aload 4, 2) := by decide +kernel
theorem d_L_law_920 : decode code 920 = .ok (.invokestatic 109, 3) := by decide +kernel
theorem d_L_law_923 : decode code 923 = .ok (.istore 6, 2) := by decide +kernel
theorem d_L_law_925 : decode code 925 = .ok (.aload_n 2, 1) := by decide +kernel
theorem d_L_law_926 : decode code 926 = .ok (.aload_n 0, 1) := by decide +kernel
theorem d_L_law_927 : decode code 927 = .ok (.iload 5, 2) := by decide +kernel
theorem d_L_law_929 : decode code 929 = .ok (.iconst 1, 1) := by decide +kernel
theorem d_L_law_930 : decode code 930 = .ok (.iadd, 1) := by decide +kernel
theorem d_L_law_931 : decode code 931 = .ok (.iaload, 1) := by decide +kernel
theorem d_L_law_932 : decode code 932 = .ok (.invokevirtual 112, 3) := by decide +kernel
theorem d_L_law_935 : decode code 935 = .ok (.dstore 7, 2) := by decide +kernel
theorem d_L_law_937 : decode code 937 = .ok (.aload_n 2, 1) := by decide +kernel
theorem d_L_law_938 : decode code 938 = .ok (.invokevirtual 63, 3) := by decide +kernel
theorem d_L_law_941 : decode code 941 = .ok (.iload 6, 2) := by decide +kernel
theorem d_L_law_943 : decode code 943 = .ok (.if_icmp .eq 5, 3) := by decide +kernel
theorem d_L_law_946 : decode code 946 = .ok (.iconst 0, 1) := by decide +kernel
theorem d_L_law_947 : decode code 947 = .ok (.ireturn, 1) := by decide +kernel
theorem d_L_law_948 : decode code 948 = .ok (.iload 6, 2) := by decide +kernel
theorem d_L_law_950 : decode code 950 = .ok (.ifCond .ne 35, 3) := by decide +kernel
theorem d_L_law_953 : decode code 953 = .ok (.aload 4, 2) := by decide +kernel
theorem d_L_law_955 : decode code 955 = .ok (.iconst 0, 1) := by decide +kernel
theorem d_L_law_956 : decode code 956 = .ok (.daload, 1) := by decide +kernel
theorem d_L_law_957 : decode code 957 = .ok (.dload 7, 2) := by decide +kernel
theorem d_L_law_959 : decode code 959 = .ok (.dcmp .l, 1) := by decide +kernel
theorem d_L_law_960 : decode code 960 = .ok (.ifCond .eq 25, 3) := by decide +kernel
theorem d_L_law_963 : decode code 963 = .ok (.aload 4, 2) := by decide +kernel
theorem d_L_law_965 : decode code 965 = .ok (.iconst 0, 1) := by decide +kernel
theorem d_L_law_966 : decode code 966 = .ok (.daload, 1) := by decide +kernel
theorem d_L_law_967 : decode code 967 = .ok (.aload 4, 2) := by decide +kernel
theorem d_L_law_969 : decode code 969 = .ok (.iconst 0, 1) := by decide +kernel
theorem d_L_law_970 : decode code 970 = .ok (.daload, 1) := by decide +kernel
theorem d_L_law_971 : decode code 971 = .ok (.dcmp .l, 1) := by decide +kernel
theorem d_L_law_972 : decode code 972 = .ok (.ifCond .eq 11, 3) := by decide +kernel
theorem d_L_law_975 : decode code 975 = .ok (.dload 7, 2) := by decide +kernel
theorem d_L_law_977 : decode code 977 = .ok (.dload 7, 2) := by decide +kernel
theorem d_L_law_979 : decode code 979 = .ok (.dcmp .l, 1) := by decide +kernel
theorem d_L_law_980 : decode code 980 = .ok (.ifCond .ne 5, 3) := by decide +kernel
theorem d_L_law_983 : decode code 983 = .ok (.iconst 0, 1) := by decide +kernel
theorem d_L_law_984 : decode code 984 = .ok (.ireturn, 1) := by decide +kernel
theorem d_L_law_985 : decode code 985 = .ok (.goto 3, 3) := by decide +kernel
theorem d_L_law_988 : decode code 988 = .ok (.iinc 5 7, 3) := by decide +kernel
theorem d_L_law_991 : decode code 991 = .ok (.goto (-963), 3) := by decide +kernel
theorem d_L_law_994 : decode code 994 = .ok (.iconst 1, 1) := by decide +kernel
theorem d_L_law_995 : decode code 995 = .ok (.ireturn, 1) := by decide +kernel
def b_L_law_988 (L : Nat) (xsv : Nat → Int32) (X0 : Mm) (k28 : Kk) : Kk := (i_iinc 5 7 k28)
theorem t_L_law_988 {Z : Zt} {b L : Nat} {xsv : Nat → Int32} {X0 : Mm} {k28 : Kk} (g : Good Z code 9 "BusTelegramsLaw" 8) (hz : LawX Z b L xsv X0) (hk28 : Snd Z 9 28 k28) : Snd Z 9 988 (b_L_law_988 L xsv X0 k28) := by
  unfold b_L_law_988
  exact (s_iinc g (by decide) d_L_law_988 (by decide) (s_goto g d_L_law_991 (by decide) hk28))
def b_L_law_177 (L : Nat) (xsv : Nat → Int32) (X0 : Mm) (k28 : Kk) : Kk := (b_L_law_988 L xsv X0 k28)
theorem t_L_law_177 {Z : Zt} {b L : Nat} {xsv : Nat → Int32} {X0 : Mm} {k28 : Kk} (g : Good Z code 9 "BusTelegramsLaw" 8) (hz : LawX Z b L xsv X0) (hk28 : Snd Z 9 28 k28) : Snd Z 9 177 (b_L_law_177 L xsv X0 k28) := by
  unfold b_L_law_177
  exact (s_goto g d_L_law_177 (by decide) (t_L_law_988 g hz hk28))
def b_L_law_280 (L : Nat) (xsv : Nat → Int32) (X0 : Mm) (k28 : Kk) : Kk := (b_L_law_988 L xsv X0 k28)
theorem t_L_law_280 {Z : Zt} {b L : Nat} {xsv : Nat → Int32} {X0 : Mm} {k28 : Kk} (g : Good Z code 9 "BusTelegramsLaw" 8) (hz : LawX Z b L xsv X0) (hk28 : Snd Z 9 28 k28) : Snd Z 9 280 (b_L_law_280 L xsv X0 k28) := by
  unfold b_L_law_280
  exact (s_goto g d_L_law_280 (by decide) (t_L_law_988 g hz hk28))
def b_L_law_274 (L : Nat) (xsv : Nat → Int32) (X0 : Mm) (k28 : Kk) : Kk := (i_lcmp (i_if (fun x y => x = y) (b_L_law_280 L xsv X0 k28) (i_push (.int 0) i_lret)))
theorem t_L_law_274 {Z : Zt} {b L : Nat} {xsv : Nat → Int32} {X0 : Mm} {k28 : Kk} (g : Good Z code 9 "BusTelegramsLaw" 8) (hz : LawX Z b L xsv X0) (hk28 : Snd Z 9 28 k28) : Snd Z 9 274 (b_L_law_274 L xsv X0 k28) := by
  unfold b_L_law_274
  exact (s_lcmp g d_L_law_274 (s_if_eq g d_L_law_275 (by decide) (t_L_law_280 g hz hk28) (s_push_iconst g d_L_law_278 (by decide) (s_lret g hz d_L_law_279))))
def b_L_law_240 (L : Nat) (xsv : Nat → Int32) (X0 : Mm) (k28 : Kk) : Kk := (i_callV 3 4 w_M_listen (i_istore 7 (i_aload 2 (i_callV 0 4 w_M_thrown (i_iload 6 (i_icmp (fun x y => x = y) (i_iload 6 (i_if (fun x y => x = y) (i_aload 3 (i_push (.int 0) (i_lald (i_iload 7 (i_if (fun x y => x = y) (i_push (.long 0) (b_L_law_274 L xsv X0 k28)) (i_push (.long 1) (b_L_law_274 L xsv X0 k28))))))) (b_L_law_280 L xsv X0 k28))) (i_push (.int 0) i_lret)))))))
theorem t_L_law_240 {Z : Zt} {b L : Nat} {xsv : Nat → Int32} {X0 : Mm} {k28 : Kk} (g : Good Z code 9 "BusTelegramsLaw" 8) (hz : LawX Z b L xsv X0) (hk28 : Snd Z 9 28 k28) : Snd Z 9 240 (b_L_law_240 L xsv X0 k28) := by
  unfold b_L_law_240
  exact (s_callV g (C_M_listen (zl Z)) (gin_V mw_672 mw_673 mw_674 mw_5 mw_675) hd_M_listen rfl (by decide) (by decide) (by decide) d_L_law_240 (s_istore g (by decide) d_L_law_243 (s_aload_n g d_L_law_245 rfl (s_callV g (C_M_thrown (zl Z)) (gin_V mw_660 mw_661 mw_662 mw_5 mw_663) hd_M_thrown rfl (by decide) (by decide) (by decide) d_L_law_246 (s_iload g d_L_law_249 (s_icmp_eq g d_L_law_251 (by decide) (s_iload g d_L_law_256 (s_if_ne g d_L_law_258 (by decide) (t_L_law_280 g hz hk28) (s_aload_n g d_L_law_261 rfl (s_push_iconst g d_L_law_262 (by decide) (s_lald g d_L_law_263 (s_iload g d_L_law_264 (s_if_eq g d_L_law_266 (by decide) (s_push_lconst g d_L_law_273 (by decide) (t_L_law_274 g hz hk28)) (s_push_lconst g d_L_law_269 (by decide) (s_goto g d_L_law_270 (by decide) (t_L_law_274 g hz hk28)))))))))) (s_push_iconst g d_L_law_254 (by decide) (s_lret g hz d_L_law_255))))))))
def b_L_law_207 (L : Nat) (xsv : Nat → Int32) (X0 : Mm) (k28 : Kk) : Kk := (i_aload 3 (i_callH 5 X0 601024 7293034 w_L_listen (i_istore 6 (i_aload 2 (i_aload 0 (i_iload 5 (i_push (.int 1) (i_bin (fun x y => x + y) (i_sld L xsv (i_aload 0 (i_iload 5 (i_push (.int 2) (i_bin (fun x y => x + y) (i_sld L xsv (i_aload 0 (i_iload 5 (i_push (.int 3) (i_bin (fun x y => x + y) (i_sld L xsv (i_if (fun x y => x = y) (i_push (.int 0) (b_L_law_240 L xsv X0 k28)) (i_push (.int 1) (b_L_law_240 L xsv X0 k28))))))))))))))))))))))
theorem t_L_law_207 {Z : Zt} {b L : Nat} {xsv : Nat → Int32} {X0 : Mm} {k28 : Kk} (g : Good Z code 9 "BusTelegramsLaw" 8) (hz : LawX Z b L xsv X0) (hk28 : Snd Z 9 28 k28) : Snd Z 9 207 (b_L_law_207 L xsv X0 k28) := by
  unfold b_L_law_207
  exact (s_aload_n g d_L_law_207 rfl (s_callH g hz.zz (C_L_listen (zl Z) hz.st) (gin_H mw_279 mw_280 mw_0 mw_281) hd_L_listen (by decide) (by decide) d_L_law_208 (s_istore g (by decide) d_L_law_211 (s_aload_n g d_L_law_213 rfl (s_aload_n g d_L_law_214 rfl (s_iload g d_L_law_215 (s_push_iconst g d_L_law_217 (by decide) (s_iadd g d_L_law_218 (s_sld g hz.xx hz.bb hz.nb hz.b9 d_L_law_219 (s_aload_n g d_L_law_220 rfl (s_iload g d_L_law_221 (s_push_iconst g d_L_law_223 (by decide) (s_iadd g d_L_law_224 (s_sld g hz.xx hz.bb hz.nb hz.b9 d_L_law_225 (s_aload_n g d_L_law_226 rfl (s_iload g d_L_law_227 (s_push_iconst g d_L_law_229 (by decide) (s_iadd g d_L_law_230 (s_sld g hz.xx hz.bb hz.nb hz.b9 d_L_law_231 (s_if_eq g d_L_law_232 (by decide) (s_push_iconst g d_L_law_239 (by decide) (t_L_law_240 g hz hk28)) (s_push_iconst g d_L_law_235 (by decide) (s_goto g d_L_law_236 (by decide) (t_L_law_240 g hz hk28)))))))))))))))))))))))
def b_L_law_371 (L : Nat) (xsv : Nat → Int32) (X0 : Mm) (k28 : Kk) : Kk := (b_L_law_988 L xsv X0 k28)
theorem t_L_law_371 {Z : Zt} {b L : Nat} {xsv : Nat → Int32} {X0 : Mm} {k28 : Kk} (g : Good Z code 9 "BusTelegramsLaw" 8) (hz : LawX Z b L xsv X0) (hk28 : Snd Z 9 28 k28) : Snd Z 9 371 (b_L_law_371 L xsv X0 k28) := by
  unfold b_L_law_371
  exact (s_goto g d_L_law_371 (by decide) (t_L_law_988 g hz hk28))
def b_L_law_365 (L : Nat) (xsv : Nat → Int32) (X0 : Mm) (k28 : Kk) : Kk := (i_lcmp (i_if (fun x y => x = y) (b_L_law_371 L xsv X0 k28) (i_push (.int 0) i_lret)))
theorem t_L_law_365 {Z : Zt} {b L : Nat} {xsv : Nat → Int32} {X0 : Mm} {k28 : Kk} (g : Good Z code 9 "BusTelegramsLaw" 8) (hz : LawX Z b L xsv X0) (hk28 : Snd Z 9 28 k28) : Snd Z 9 365 (b_L_law_365 L xsv X0 k28) := by
  unfold b_L_law_365
  exact (s_lcmp g d_L_law_365 (s_if_eq g d_L_law_366 (by decide) (t_L_law_371 g hz hk28) (s_push_iconst g d_L_law_369 (by decide) (s_lret g hz d_L_law_370))))
def b_L_law_331 (L : Nat) (xsv : Nat → Int32) (X0 : Mm) (k28 : Kk) : Kk := (i_callV 2 4 w_M_busy (i_istore 7 (i_aload 2 (i_callV 0 4 w_M_thrown (i_iload 6 (i_icmp (fun x y => x = y) (i_iload 6 (i_if (fun x y => x = y) (i_aload 3 (i_push (.int 0) (i_lald (i_iload 7 (i_if (fun x y => x = y) (i_push (.long 0) (b_L_law_365 L xsv X0 k28)) (i_push (.long 1) (b_L_law_365 L xsv X0 k28))))))) (b_L_law_371 L xsv X0 k28))) (i_push (.int 0) i_lret)))))))
theorem t_L_law_331 {Z : Zt} {b L : Nat} {xsv : Nat → Int32} {X0 : Mm} {k28 : Kk} (g : Good Z code 9 "BusTelegramsLaw" 8) (hz : LawX Z b L xsv X0) (hk28 : Snd Z 9 28 k28) : Snd Z 9 331 (b_L_law_331 L xsv X0 k28) := by
  unfold b_L_law_331
  exact (s_callV g (C_M_busy (zl Z)) (gin_V mw_676 mw_677 mw_678 mw_5 mw_679) hd_M_busy rfl (by decide) (by decide) (by decide) d_L_law_331 (s_istore g (by decide) d_L_law_334 (s_aload_n g d_L_law_336 rfl (s_callV g (C_M_thrown (zl Z)) (gin_V mw_660 mw_661 mw_662 mw_5 mw_663) hd_M_thrown rfl (by decide) (by decide) (by decide) d_L_law_337 (s_iload g d_L_law_340 (s_icmp_eq g d_L_law_342 (by decide) (s_iload g d_L_law_347 (s_if_ne g d_L_law_349 (by decide) (t_L_law_371 g hz hk28) (s_aload_n g d_L_law_352 rfl (s_push_iconst g d_L_law_353 (by decide) (s_lald g d_L_law_354 (s_iload g d_L_law_355 (s_if_eq g d_L_law_357 (by decide) (s_push_lconst g d_L_law_364 (by decide) (t_L_law_365 g hz hk28)) (s_push_lconst g d_L_law_360 (by decide) (s_goto g d_L_law_361 (by decide) (t_L_law_365 g hz hk28)))))))))) (s_push_iconst g d_L_law_345 (by decide) (s_lret g hz d_L_law_346))))))))
def b_L_law_304 (L : Nat) (xsv : Nat → Int32) (X0 : Mm) (k28 : Kk) : Kk := (i_aload 3 (i_callH 4 X0 601024 7293034 w_L_busy (i_istore 6 (i_aload 2 (i_aload 0 (i_iload 5 (i_push (.int 1) (i_bin (fun x y => x + y) (i_sld L xsv (i_aload 0 (i_iload 5 (i_push (.int 2) (i_bin (fun x y => x + y) (i_sld L xsv (i_if (fun x y => x = y) (i_push (.int 0) (b_L_law_331 L xsv X0 k28)) (i_push (.int 1) (b_L_law_331 L xsv X0 k28)))))))))))))))))
theorem t_L_law_304 {Z : Zt} {b L : Nat} {xsv : Nat → Int32} {X0 : Mm} {k28 : Kk} (g : Good Z code 9 "BusTelegramsLaw" 8) (hz : LawX Z b L xsv X0) (hk28 : Snd Z 9 28 k28) : Snd Z 9 304 (b_L_law_304 L xsv X0 k28) := by
  unfold b_L_law_304
  exact (s_aload_n g d_L_law_304 rfl (s_callH g hz.zz (C_L_busy (zl Z) hz.st) (gin_H mw_287 mw_288 mw_0 mw_289) hd_L_busy (by decide) (by decide) d_L_law_305 (s_istore g (by decide) d_L_law_308 (s_aload_n g d_L_law_310 rfl (s_aload_n g d_L_law_311 rfl (s_iload g d_L_law_312 (s_push_iconst g d_L_law_314 (by decide) (s_iadd g d_L_law_315 (s_sld g hz.xx hz.bb hz.nb hz.b9 d_L_law_316 (s_aload_n g d_L_law_317 rfl (s_iload g d_L_law_318 (s_push_iconst g d_L_law_320 (by decide) (s_iadd g d_L_law_321 (s_sld g hz.xx hz.bb hz.nb hz.b9 d_L_law_322 (s_if_eq g d_L_law_323 (by decide) (s_push_iconst g d_L_law_330 (by decide) (t_L_law_331 g hz hk28)) (s_push_iconst g d_L_law_326 (by decide) (s_goto g d_L_law_327 (by decide) (t_L_law_331 g hz hk28))))))))))))))))))
def b_L_law_505 (L : Nat) (xsv : Nat → Int32) (X0 : Mm) (k28 : Kk) : Kk := (b_L_law_988 L xsv X0 k28)
theorem t_L_law_505 {Z : Zt} {b L : Nat} {xsv : Nat → Int32} {X0 : Mm} {k28 : Kk} (g : Good Z code 9 "BusTelegramsLaw" 8) (hz : LawX Z b L xsv X0) (hk28 : Snd Z 9 28 k28) : Snd Z 9 505 (b_L_law_505 L xsv X0 k28) := by
  unfold b_L_law_505
  exact (s_goto g d_L_law_505 (by decide) (t_L_law_988 g hz hk28))
def b_L_law_459 (L : Nat) (xsv : Nat → Int32) (X0 : Mm) (k28 : Kk) : Kk := (i_aload 0 (i_iload 5 (i_push (.int 5) (i_bin (fun x y => x + y) (i_sld L xsv (i_aload 0 (i_iload 5 (i_push (.int 6) (i_bin (fun x y => x + y) (i_sld L xsv (i_callV 6 4 w_M_send (i_istore 7 (i_aload 2 (i_callV 0 4 w_M_thrown (i_iload 6 (i_icmp (fun x y => x = y) (i_iload 6 (i_if (fun x y => x = y) (i_aload 3 (i_push (.int 0) (i_lald (i_iload 7 (i_i2l (i_lcmp (i_if (fun x y => x = y) (b_L_law_505 L xsv X0 k28) (i_push (.int 0) i_lret)))))))) (b_L_law_505 L xsv X0 k28))) (i_push (.int 0) i_lret)))))))))))))))))
theorem t_L_law_459 {Z : Zt} {b L : Nat} {xsv : Nat → Int32} {X0 : Mm} {k28 : Kk} (g : Good Z code 9 "BusTelegramsLaw" 8) (hz : LawX Z b L xsv X0) (hk28 : Snd Z 9 28 k28) : Snd Z 9 459 (b_L_law_459 L xsv X0 k28) := by
  unfold b_L_law_459
  exact (s_aload_n g d_L_law_459 rfl (s_iload g d_L_law_460 (s_push_iconst g d_L_law_462 (by decide) (s_iadd g d_L_law_463 (s_sld g hz.xx hz.bb hz.nb hz.b9 d_L_law_464 (s_aload_n g d_L_law_465 rfl (s_iload g d_L_law_466 (s_push_bipush g d_L_law_468 (by decide) (s_iadd g d_L_law_470 (s_sld g hz.xx hz.bb hz.nb hz.b9 d_L_law_471 (s_callV g (C_M_send (zl Z)) (gin_V mw_680 mw_681 mw_682 mw_5 mw_683) hd_M_send rfl (by decide) (by decide) (by decide) d_L_law_472 (s_istore g (by decide) d_L_law_475 (s_aload_n g d_L_law_477 rfl (s_callV g (C_M_thrown (zl Z)) (gin_V mw_660 mw_661 mw_662 mw_5 mw_663) hd_M_thrown rfl (by decide) (by decide) (by decide) d_L_law_478 (s_iload g d_L_law_481 (s_icmp_eq g d_L_law_483 (by decide) (s_iload g d_L_law_488 (s_if_ne g d_L_law_490 (by decide) (t_L_law_505 g hz hk28) (s_aload_n g d_L_law_493 rfl (s_push_iconst g d_L_law_494 (by decide) (s_lald g d_L_law_495 (s_iload g d_L_law_496 (s_i2l g d_L_law_498 (s_lcmp g d_L_law_499 (s_if_eq g d_L_law_500 (by decide) (t_L_law_505 g hz hk28) (s_push_iconst g d_L_law_503 (by decide) (s_lret g hz d_L_law_504))))))))))) (s_push_iconst g d_L_law_486 (by decide) (s_lret g hz d_L_law_487))))))))))))))))))
def b_L_law_407 (L : Nat) (xsv : Nat → Int32) (X0 : Mm) (k28 : Kk) : Kk := (i_aload 0 (i_iload 5 (i_push (.int 5) (i_bin (fun x y => x + y) (i_sld L xsv (i_aload 0 (i_iload 5 (i_push (.int 6) (i_bin (fun x y => x + y) (i_sld L xsv (i_aload 3 (i_callH 8 X0 601024 7293034 w_L_send (i_istore 6 (i_aload 2 (i_aload 0 (i_iload 5 (i_push (.int 1) (i_bin (fun x y => x + y) (i_sld L xsv (i_aload 0 (i_iload 5 (i_push (.int 2) (i_bin (fun x y => x + y) (i_sld L xsv (i_aload 0 (i_iload 5 (i_push (.int 3) (i_bin (fun x y => x + y) (i_sld L xsv (i_aload 0 (i_iload 5 (i_push (.int 4) (i_bin (fun x y => x + y) (i_sld L xsv (i_if (fun x y => x = y) (i_push (.int 0) (b_L_law_459 L xsv X0 k28)) (i_push (.int 1) (b_L_law_459 L xsv X0 k28)))))))))))))))))))))))))))))))))))))
theorem t_L_law_407 {Z : Zt} {b L : Nat} {xsv : Nat → Int32} {X0 : Mm} {k28 : Kk} (g : Good Z code 9 "BusTelegramsLaw" 8) (hz : LawX Z b L xsv X0) (hk28 : Snd Z 9 28 k28) : Snd Z 9 407 (b_L_law_407 L xsv X0 k28) := by
  unfold b_L_law_407
  exact (s_aload_n g d_L_law_407 rfl (s_iload g d_L_law_408 (s_push_iconst g d_L_law_410 (by decide) (s_iadd g d_L_law_411 (s_sld g hz.xx hz.bb hz.nb hz.b9 d_L_law_412 (s_aload_n g d_L_law_413 rfl (s_iload g d_L_law_414 (s_push_bipush g d_L_law_416 (by decide) (s_iadd g d_L_law_418 (s_sld g hz.xx hz.bb hz.nb hz.b9 d_L_law_419 (s_aload_n g d_L_law_420 rfl (s_callH g hz.zz (C_L_send (zl Z) hz.st) (gin_H mw_295 mw_296 mw_0 mw_297) hd_L_send (by decide) (by decide) d_L_law_421 (s_istore g (by decide) d_L_law_424 (s_aload_n g d_L_law_426 rfl (s_aload_n g d_L_law_427 rfl (s_iload g d_L_law_428 (s_push_iconst g d_L_law_430 (by decide) (s_iadd g d_L_law_431 (s_sld g hz.xx hz.bb hz.nb hz.b9 d_L_law_432 (s_aload_n g d_L_law_433 rfl (s_iload g d_L_law_434 (s_push_iconst g d_L_law_436 (by decide) (s_iadd g d_L_law_437 (s_sld g hz.xx hz.bb hz.nb hz.b9 d_L_law_438 (s_aload_n g d_L_law_439 rfl (s_iload g d_L_law_440 (s_push_iconst g d_L_law_442 (by decide) (s_iadd g d_L_law_443 (s_sld g hz.xx hz.bb hz.nb hz.b9 d_L_law_444 (s_aload_n g d_L_law_445 rfl (s_iload g d_L_law_446 (s_push_iconst g d_L_law_448 (by decide) (s_iadd g d_L_law_449 (s_sld g hz.xx hz.bb hz.nb hz.b9 d_L_law_450 (s_if_eq g d_L_law_451 (by decide) (s_push_iconst g d_L_law_458 (by decide) (t_L_law_459 g hz hk28)) (s_push_iconst g d_L_law_454 (by decide) (s_goto g d_L_law_455 (by decide) (t_L_law_459 g hz hk28))))))))))))))))))))))))))))))))))))))
def b_L_law_568 (L : Nat) (xsv : Nat → Int32) (X0 : Mm) (k28 : Kk) : Kk := (b_L_law_988 L xsv X0 k28)
theorem t_L_law_568 {Z : Zt} {b L : Nat} {xsv : Nat → Int32} {X0 : Mm} {k28 : Kk} (g : Good Z code 9 "BusTelegramsLaw" 8) (hz : LawX Z b L xsv X0) (hk28 : Snd Z 9 28 k28) : Snd Z 9 568 (b_L_law_568 L xsv X0 k28) := by
  unfold b_L_law_568
  exact (s_goto g d_L_law_568 (by decide) (t_L_law_988 g hz hk28))
def b_L_law_562 (L : Nat) (xsv : Nat → Int32) (X0 : Mm) (k28 : Kk) : Kk := (i_lcmp (i_if (fun x y => x = y) (b_L_law_568 L xsv X0 k28) (i_push (.int 0) i_lret)))
theorem t_L_law_562 {Z : Zt} {b L : Nat} {xsv : Nat → Int32} {X0 : Mm} {k28 : Kk} (g : Good Z code 9 "BusTelegramsLaw" 8) (hz : LawX Z b L xsv X0) (hk28 : Snd Z 9 28 k28) : Snd Z 9 562 (b_L_law_562 L xsv X0 k28) := by
  unfold b_L_law_562
  exact (s_lcmp g d_L_law_562 (s_if_eq g d_L_law_563 (by decide) (t_L_law_568 g hz hk28) (s_push_iconst g d_L_law_566 (by decide) (s_lret g hz d_L_law_567))))
def b_L_law_624 (L : Nat) (xsv : Nat → Int32) (X0 : Mm) (k28 : Kk) : Kk := (b_L_law_988 L xsv X0 k28)
theorem t_L_law_624 {Z : Zt} {b L : Nat} {xsv : Nat → Int32} {X0 : Mm} {k28 : Kk} (g : Good Z code 9 "BusTelegramsLaw" 8) (hz : LawX Z b L xsv X0) (hk28 : Snd Z 9 28 k28) : Snd Z 9 624 (b_L_law_624 L xsv X0 k28) := by
  unfold b_L_law_624
  exact (s_goto g d_L_law_624 (by decide) (t_L_law_988 g hz hk28))
def b_L_law_680 (L : Nat) (xsv : Nat → Int32) (X0 : Mm) (k28 : Kk) : Kk := (b_L_law_988 L xsv X0 k28)
theorem t_L_law_680 {Z : Zt} {b L : Nat} {xsv : Nat → Int32} {X0 : Mm} {k28 : Kk} (g : Good Z code 9 "BusTelegramsLaw" 8) (hz : LawX Z b L xsv X0) (hk28 : Snd Z 9 28 k28) : Snd Z 9 680 (b_L_law_680 L xsv X0 k28) := by
  unfold b_L_law_680
  exact (s_goto g d_L_law_680 (by decide) (t_L_law_988 g hz hk28))
def b_L_law_748 (L : Nat) (xsv : Nat → Int32) (X0 : Mm) (k28 : Kk) : Kk := (b_L_law_988 L xsv X0 k28)
theorem t_L_law_748 {Z : Zt} {b L : Nat} {xsv : Nat → Int32} {X0 : Mm} {k28 : Kk} (g : Good Z code 9 "BusTelegramsLaw" 8) (hz : LawX Z b L xsv X0) (hk28 : Snd Z 9 28 k28) : Snd Z 9 748 (b_L_law_748 L xsv X0 k28) := by
  unfold b_L_law_748
  exact (s_goto g d_L_law_748 (by decide) (t_L_law_988 g hz hk28))
def b_L_law_804 (L : Nat) (xsv : Nat → Int32) (X0 : Mm) (k28 : Kk) : Kk := (b_L_law_988 L xsv X0 k28)
theorem t_L_law_804 {Z : Zt} {b L : Nat} {xsv : Nat → Int32} {X0 : Mm} {k28 : Kk} (g : Good Z code 9 "BusTelegramsLaw" 8) (hz : LawX Z b L xsv X0) (hk28 : Snd Z 9 28 k28) : Snd Z 9 804 (b_L_law_804 L xsv X0 k28) := by
  unfold b_L_law_804
  exact (s_goto g d_L_law_804 (by decide) (t_L_law_988 g hz hk28))
def b_L_law_860 (L : Nat) (xsv : Nat → Int32) (X0 : Mm) (k28 : Kk) : Kk := (b_L_law_988 L xsv X0 k28)
theorem t_L_law_860 {Z : Zt} {b L : Nat} {xsv : Nat → Int32} {X0 : Mm} {k28 : Kk} (g : Good Z code 9 "BusTelegramsLaw" 8) (hz : LawX Z b L xsv X0) (hk28 : Snd Z 9 28 k28) : Snd Z 9 860 (b_L_law_860 L xsv X0 k28) := by
  unfold b_L_law_860
  exact (s_goto g d_L_law_860 (by decide) (t_L_law_988 g hz hk28))
def b_L_law_985 (L : Nat) (xsv : Nat → Int32) (X0 : Mm) (k28 : Kk) : Kk := (b_L_law_988 L xsv X0 k28)
theorem t_L_law_985 {Z : Zt} {b L : Nat} {xsv : Nat → Int32} {X0 : Mm} {k28 : Kk} (g : Good Z code 9 "BusTelegramsLaw" 8) (hz : LawX Z b L xsv X0) (hk28 : Snd Z 9 28 k28) : Snd Z 9 985 (b_L_law_985 L xsv X0 k28) := by
  unfold b_L_law_985
  exact (s_goto g d_L_law_985 (by decide) (t_L_law_988 g hz hk28))
def b_L_law_983 (L : Nat) (xsv : Nat → Int32) (X0 : Mm) : Kk := (i_push (.int 0) i_lret)
theorem t_L_law_983 {Z : Zt} {b L : Nat} {xsv : Nat → Int32} {X0 : Mm} (g : Good Z code 9 "BusTelegramsLaw" 8) (hz : LawX Z b L xsv X0) : Snd Z 9 983 (b_L_law_983 L xsv X0) := by
  unfold b_L_law_983
  exact (s_push_iconst g d_L_law_983 (by decide) (s_lret g hz d_L_law_984))
def f_L_law_28 (L : Nat) (xsv : Nat → Int32) (X0 : Mm) (k28 : Kk) : Kk := (i_iload 5 (i_aload 0 (i_slen L (i_push (.int 7) (i_bin (fun x y => x - y) (i_icmp (fun x y => y < x) (i_push (.int 1) i_lret) (i_aload 0 (i_iload 5 (i_sld L xsv (i_push (.int 15) (i_bin (fun x y => x &&& y) (i_tsw 0 [(i_aload 1 (i_aload 0 (i_iload 5 (i_push (.int 1) (i_bin (fun x y => x + y) (i_sld L xsv (i_aload 0 (i_iload 5 (i_push (.int 2) (i_bin (fun x y => x + y) (i_sld L xsv (i_aload 3 (i_callH 4 X0 601024 7293034 w_L_address (i_istore 6 (i_aload 2 (i_aload 0 (i_iload 5 (i_push (.int 1) (i_bin (fun x y => x + y) (i_sld L xsv (i_aload 0 (i_iload 5 (i_push (.int 2) (i_bin (fun x y => x + y) (i_sld L xsv (i_callV 2 4 w_M_address (i_istore 7 (i_aload 2 (i_callV 0 4 w_M_thrown (i_iload 6 (i_icmp (fun x y => x = y) (i_iload 6 (i_if (fun x y => x = y) (i_aload 3 (i_push (.int 0) (i_lald (i_iload 7 (i_i2l (i_lcmp (i_if (fun x y => x = y) (b_L_law_177 L xsv X0 k28) (i_push (.int 0) i_lret)))))))) (b_L_law_177 L xsv X0 k28))) (i_push (.int 0) i_lret)))))))))))))))))))))))))))))))), (i_aload 1 (i_aload 0 (i_iload 5 (i_push (.int 1) (i_bin (fun x y => x + y) (i_sld L xsv (i_aload 0 (i_iload 5 (i_push (.int 2) (i_bin (fun x y => x + y) (i_sld L xsv (i_aload 0 (i_iload 5 (i_push (.int 3) (i_bin (fun x y => x + y) (i_sld L xsv (i_if (fun x y => x = y) (i_push (.int 0) (b_L_law_207 L xsv X0 k28)) (i_push (.int 1) (b_L_law_207 L xsv X0 k28))))))))))))))))))), (i_aload 1 (i_aload 0 (i_iload 5 (i_push (.int 1) (i_bin (fun x y => x + y) (i_sld L xsv (i_aload 0 (i_iload 5 (i_push (.int 2) (i_bin (fun x y => x + y) (i_sld L xsv (i_if (fun x y => x = y) (i_push (.int 0) (b_L_law_304 L xsv X0 k28)) (i_push (.int 1) (b_L_law_304 L xsv X0 k28)))))))))))))), (i_aload 1 (i_aload 0 (i_iload 5 (i_push (.int 1) (i_bin (fun x y => x + y) (i_sld L xsv (i_aload 0 (i_iload 5 (i_push (.int 2) (i_bin (fun x y => x + y) (i_sld L xsv (i_aload 0 (i_iload 5 (i_push (.int 3) (i_bin (fun x y => x + y) (i_sld L xsv (i_aload 0 (i_iload 5 (i_push (.int 4) (i_bin (fun x y => x + y) (i_sld L xsv (i_if (fun x y => x = y) (i_push (.int 0) (b_L_law_407 L xsv X0 k28)) (i_push (.int 1) (b_L_law_407 L xsv X0 k28)))))))))))))))))))))))), (i_aload 1 (i_aload 0 (i_iload 5 (i_push (.int 1) (i_bin (fun x y => x + y) (i_sld L xsv (i_aload 3 (i_callH 3 X0 601024 7293034 w_L_disturb (i_istore 6 (i_aload 2 (i_aload 0 (i_iload 5 (i_push (.int 1) (i_bin (fun x y => x + y) (i_sld L xsv (i_callV 1 4 w_M_disturb (i_istore 7 (i_aload 2 (i_callV 0 4 w_M_thrown (i_iload 6 (i_icmp (fun x y => x = y) (i_iload 6 (i_if (fun x y => x = y) (i_aload 3 (i_push (.int 0) (i_lald (i_iload 7 (i_if (fun x y => x = y) (i_push (.long 0) (b_L_law_562 L xsv X0 k28)) (i_push (.long 1) (b_L_law_562 L xsv X0 k28))))))) (b_L_law_568 L xsv X0 k28))) (i_push (.int 0) i_lret)))))))))))))))))))))), (i_aload 1 (i_aload 0 (i_iload 5 (i_push (.int 1) (i_bin (fun x y => x + y) (i_sld L xsv (i_aload 3 (i_callH 3 X0 601024 7293034 w_L_run (i_istore 6 (i_aload 2 (i_aload 0 (i_iload 5 (i_push (.int 1) (i_bin (fun x y => x + y) (i_sld L xsv (i_callV 1 4 w_M_run (i_istore 7 (i_aload 2 (i_callV 0 4 w_M_thrown (i_iload 6 (i_icmp (fun x y => x = y) (i_iload 6 (i_if (fun x y => x = y) (i_aload 3 (i_push (.int 0) (i_lald (i_iload 7 (i_i2l (i_lcmp (i_if (fun x y => x = y) (b_L_law_624 L xsv X0 k28) (i_push (.int 0) i_lret)))))))) (b_L_law_624 L xsv X0 k28))) (i_push (.int 0) i_lret)))))))))))))))))))))), (i_aload 1 (i_aload 0 (i_iload 5 (i_push (.int 1) (i_bin (fun x y => x + y) (i_sld L xsv (i_aload 3 (i_callH 3 X0 601024 7293034 w_L_bit (i_istore 6 (i_aload 2 (i_aload 0 (i_iload 5 (i_push (.int 1) (i_bin (fun x y => x + y) (i_sld L xsv (i_callV 1 4 w_M_bit (i_istore 7 (i_aload 2 (i_callV 0 4 w_M_thrown (i_iload 6 (i_icmp (fun x y => x = y) (i_iload 6 (i_if (fun x y => x = y) (i_aload 3 (i_push (.int 0) (i_lald (i_iload 7 (i_i2l (i_lcmp (i_if (fun x y => x = y) (b_L_law_680 L xsv X0 k28) (i_push (.int 0) i_lret)))))))) (b_L_law_680 L xsv X0 k28))) (i_push (.int 0) i_lret)))))))))))))))))))))), (i_aload 1 (i_aload 0 (i_iload 5 (i_push (.int 1) (i_bin (fun x y => x + y) (i_sld L xsv (i_aload 0 (i_iload 5 (i_push (.int 2) (i_bin (fun x y => x + y) (i_sld L xsv (i_aload 3 (i_callH 4 X0 601024 7293034 w_L_station (i_istore 6 (i_aload 2 (i_aload 0 (i_iload 5 (i_push (.int 1) (i_bin (fun x y => x + y) (i_sld L xsv (i_aload 0 (i_iload 5 (i_push (.int 2) (i_bin (fun x y => x + y) (i_sld L xsv (i_callV 2 4 w_M_station (i_istore 7 (i_aload 2 (i_callV 0 4 w_M_thrown (i_iload 6 (i_icmp (fun x y => x = y) (i_iload 6 (i_if (fun x y => x = y) (i_aload 3 (i_push (.int 0) (i_lald (i_iload 7 (i_i2l (i_lcmp (i_if (fun x y => x = y) (b_L_law_748 L xsv X0 k28) (i_push (.int 0) i_lret)))))))) (b_L_law_748 L xsv X0 k28))) (i_push (.int 0) i_lret)))))))))))))))))))))))))))))))), (i_aload 1 (i_aload 0 (i_iload 5 (i_push (.int 1) (i_bin (fun x y => x + y) (i_sld L xsv (i_aload 3 (i_callH 3 X0 601024 7293034 w_L_heard (i_istore 6 (i_aload 2 (i_aload 0 (i_iload 5 (i_push (.int 1) (i_bin (fun x y => x + y) (i_sld L xsv (i_callV 1 4 w_M_heard (i_istore 7 (i_aload 2 (i_callV 0 4 w_M_thrown (i_iload 6 (i_icmp (fun x y => x = y) (i_iload 6 (i_if (fun x y => x = y) (i_aload 3 (i_push (.int 0) (i_lald (i_iload 7 (i_i2l (i_lcmp (i_if (fun x y => x = y) (b_L_law_804 L xsv X0 k28) (i_push (.int 0) i_lret)))))))) (b_L_law_804 L xsv X0 k28))) (i_push (.int 0) i_lret)))))))))))))))))))))), (i_aload 1 (i_aload 0 (i_iload 5 (i_push (.int 1) (i_bin (fun x y => x + y) (i_sld L xsv (i_aload 3 (i_callH 3 X0 601024 7293034 w_L_byteAt (i_istore 6 (i_aload 2 (i_aload 0 (i_iload 5 (i_push (.int 1) (i_bin (fun x y => x + y) (i_sld L xsv (i_callV 1 4 w_M_byteAt (i_istore 7 (i_aload 2 (i_callV 0 4 w_M_thrown (i_iload 6 (i_icmp (fun x y => x = y) (i_iload 6 (i_if (fun x y => x = y) (i_aload 3 (i_push (.int 0) (i_lald (i_iload 7 (i_i2l (i_lcmp (i_if (fun x y => x = y) (b_L_law_860 L xsv X0 k28) (i_push (.int 0) i_lret)))))))) (b_L_law_860 L xsv X0 k28))) (i_push (.int 0) i_lret)))))))))))))))))))))), (i_aload 1 (i_callV 0 3 w_B_answer (i_aload 2 (i_callV 0 4 w_M_answer (i_icmp (fun x y => x = y) (b_L_law_988 L xsv X0 k28) (i_push (.int 0) i_lret)))))), (i_aload 1 (i_aload 0 (i_iload 5 (i_push (.int 1) (i_bin (fun x y => x + y) (i_sld L xsv (i_i2d (i_push (.double 4593671619917905920) (i_dbin FP.dmul (i_callV 1 3 w_B_pack (i_aload 2 (i_aload 0 (i_iload 5 (i_push (.int 1) (i_bin (fun x y => x + y) (i_sld L xsv (i_i2d (i_push (.double 4593671619917905920) (i_dbin FP.dmul (i_callV 1 4 w_M_pack (i_icmp (fun x y => x = y) (b_L_law_988 L xsv X0 k28) (i_push (.int 0) i_lret)))))))))))))))))))))), (i_aload 1 (i_aload 0 (i_iload 5 (i_push (.int 1) (i_bin (fun x y => x + y) (i_sld L xsv (i_aload 4 (i_callH 3 X0 601024 7293034 w_L_unpack (i_istore 6 (i_aload 2 (i_aload 0 (i_iload 5 (i_push (.int 1) (i_bin (fun x y => x + y) (i_sld L xsv (i_callV 1 4 w_M_unpack (i_dstore 7 (i_aload 2 (i_callV 0 4 w_M_thrown (i_iload 6 (i_icmp (fun x y => x = y) (i_iload 6 (i_if (fun x y => x = y) (i_aload 4 (i_push (.int 0) (i_dald (i_dload 7 (i_dcmp .l (i_if (fun x y => x = y) (b_L_law_985 L xsv X0 k28) (i_aload 4 (i_push (.int 0) (i_dald (i_aload 4 (i_push (.int 0) (i_dald (i_dcmp .l (i_if (fun x y => x = y) (b_L_law_983 L xsv X0) (i_dload 7 (i_dload 7 (i_dcmp .l (i_if (fun x y => x = y) (b_L_law_983 L xsv X0) (b_L_law_985 L xsv X0 k28))))))))))))))))))) (b_L_law_985 L xsv X0 k28))) (i_push (.int 0) i_lret))))))))))))))))))))))] (b_L_law_988 L xsv X0 k28)))))))))))))
def b_L_law_28 (L : Nat) (xsv : Nat → Int32) (X0 : Mm) : Kk := i_loop [0, 1, 2, 3, 4, 5] (f_L_law_28 L xsv X0)
theorem t_L_law_28 {Z : Zt} {b L : Nat} {xsv : Nat → Int32} {X0 : Mm} (g : Good Z code 9 "BusTelegramsLaw" 8) (hz : LawX Z b L xsv X0) : Snd Z 9 28 (b_L_law_28 L xsv X0) := by
  unfold b_L_law_28
  exact s_loop (fun k28 hk28 => by unfold f_L_law_28; exact (s_iload g d_L_law_28 (s_aload_n g d_L_law_30 rfl (s_slen g hz.xx hz.bb hz.nb hz.b9 d_L_law_31 (s_push_bipush g d_L_law_32 (by decide) (s_isub g d_L_law_34 (s_icmp_gt g d_L_law_35 (by decide) (s_push_iconst g d_L_law_994 (by decide) (s_lret g hz d_L_law_995)) (s_aload_n g d_L_law_38 rfl (s_iload g d_L_law_39 (s_sld g hz.xx hz.bb hz.nb hz.b9 d_L_law_41 (s_push_bipush g d_L_law_42 (by decide) (s_iand g d_L_law_44 (s_tsw g d_L_law_45 rfl (by decide) (tsw_cons (by decide) (s_aload_n g d_L_law_112 rfl (s_aload_n g d_L_law_113 rfl (s_iload g d_L_law_114 (s_push_iconst g d_L_law_116 (by decide) (s_iadd g d_L_law_117 (s_sld g hz.xx hz.bb hz.nb hz.b9 d_L_law_118 (s_aload_n g d_L_law_119 rfl (s_iload g d_L_law_120 (s_push_iconst g d_L_law_122 (by decide) (s_iadd g d_L_law_123 (s_sld g hz.xx hz.bb hz.nb hz.b9 d_L_law_124 (s_aload_n g d_L_law_125 rfl (s_callH g hz.zz (C_L_address (zl Z) hz.st) (gin_H mw_200 mw_201 mw_0 mw_202) hd_L_address (by decide) (by decide) d_L_law_126 (s_istore g (by decide) d_L_law_129 (s_aload_n g d_L_law_131 rfl (s_aload_n g d_L_law_132 rfl (s_iload g d_L_law_133 (s_push_iconst g d_L_law_135 (by decide) (s_iadd g d_L_law_136 (s_sld g hz.xx hz.bb hz.nb hz.b9 d_L_law_137 (s_aload_n g d_L_law_138 rfl (s_iload g d_L_law_139 (s_push_iconst g d_L_law_141 (by decide) (s_iadd g d_L_law_142 (s_sld g hz.xx hz.bb hz.nb hz.b9 d_L_law_143 (s_callV g (C_M_address (zl Z)) (gin_V mw_664 mw_665 mw_666 mw_5 mw_667) hd_M_address rfl (by decide) (by decide) (by decide) d_L_law_144 (s_istore g (by decide) d_L_law_147 (s_aload_n g d_L_law_149 rfl (s_callV g (C_M_thrown (zl Z)) (gin_V mw_660 mw_661 mw_662 mw_5 mw_663) hd_M_thrown rfl (by decide) (by decide) (by decide) d_L_law_150 (s_iload g d_L_law_153 (s_icmp_eq g d_L_law_155 (by decide) (s_iload g d_L_law_160 (s_if_ne g d_L_law_162 (by decide) (t_L_law_177 g hz hk28) (s_aload_n g d_L_law_165 rfl (s_push_iconst g d_L_law_166 (by decide) (s_lald g d_L_law_167 (s_iload g d_L_law_168 (s_i2l g d_L_law_170 (s_lcmp g d_L_law_171 (s_if_eq g d_L_law_172 (by decide) (t_L_law_177 g hz hk28) (s_push_iconst g d_L_law_175 (by decide) (s_lret g hz d_L_law_176))))))))))) (s_push_iconst g d_L_law_158 (by decide) (s_lret g hz d_L_law_159))))))))))))))))))))))))))))))))) (tsw_cons (by decide) (s_aload_n g d_L_law_180 rfl (s_aload_n g d_L_law_181 rfl (s_iload g d_L_law_182 (s_push_iconst g d_L_law_184 (by decide) (s_iadd g d_L_law_185 (s_sld g hz.xx hz.bb hz.nb hz.b9 d_L_law_186 (s_aload_n g d_L_law_187 rfl (s_iload g d_L_law_188 (s_push_iconst g d_L_law_190 (by decide) (s_iadd g d_L_law_191 (s_sld g hz.xx hz.bb hz.nb hz.b9 d_L_law_192 (s_aload_n g d_L_law_193 rfl (s_iload g d_L_law_194 (s_push_iconst g d_L_law_196 (by decide) (s_iadd g d_L_law_197 (s_sld g hz.xx hz.bb hz.nb hz.b9 d_L_law_198 (s_if_eq g d_L_law_199 (by decide) (s_push_iconst g d_L_law_206 (by decide) (t_L_law_207 g hz hk28)) (s_push_iconst g d_L_law_202 (by decide) (s_goto g d_L_law_203 (by decide) (t_L_law_207 g hz hk28)))))))))))))))))))) (tsw_cons (by decide) (s_aload_n g d_L_law_283 rfl (s_aload_n g d_L_law_284 rfl (s_iload g d_L_law_285 (s_push_iconst g d_L_law_287 (by decide) (s_iadd g d_L_law_288 (s_sld g hz.xx hz.bb hz.nb hz.b9 d_L_law_289 (s_aload_n g d_L_law_290 rfl (s_iload g d_L_law_291 (s_push_iconst g d_L_law_293 (by decide) (s_iadd g d_L_law_294 (s_sld g hz.xx hz.bb hz.nb hz.b9 d_L_law_295 (s_if_eq g d_L_law_296 (by decide) (s_push_iconst g d_L_law_303 (by decide) (t_L_law_304 g hz hk28)) (s_push_iconst g d_L_law_299 (by decide) (s_goto g d_L_law_300 (by decide) (t_L_law_304 g hz hk28))))))))))))))) (tsw_cons (by decide) (s_aload_n g d_L_law_374 rfl (s_aload_n g d_L_law_375 rfl (s_iload g d_L_law_376 (s_push_iconst g d_L_law_378 (by decide) (s_iadd g d_L_law_379 (s_sld g hz.xx hz.bb hz.nb hz.b9 d_L_law_380 (s_aload_n g d_L_law_381 rfl (s_iload g d_L_law_382 (s_push_iconst g d_L_law_384 (by decide) (s_iadd g d_L_law_385 (s_sld g hz.xx hz.bb hz.nb hz.b9 d_L_law_386 (s_aload_n g d_L_law_387 rfl (s_iload g d_L_law_388 (s_push_iconst g d_L_law_390 (by decide) (s_iadd g d_L_law_391 (s_sld g hz.xx hz.bb hz.nb hz.b9 d_L_law_392 (s_aload_n g d_L_law_393 rfl (s_iload g d_L_law_394 (s_push_iconst g d_L_law_396 (by decide) (s_iadd g d_L_law_397 (s_sld g hz.xx hz.bb hz.nb hz.b9 d_L_law_398 (s_if_eq g d_L_law_399 (by decide) (s_push_iconst g d_L_law_406 (by decide) (t_L_law_407 g hz hk28)) (s_push_iconst g d_L_law_402 (by decide) (s_goto g d_L_law_403 (by decide) (t_L_law_407 g hz hk28))))))))))))))))))))))))) (tsw_cons (by decide) (s_aload_n g d_L_law_508 rfl (s_aload_n g d_L_law_509 rfl (s_iload g d_L_law_510 (s_push_iconst g d_L_law_512 (by decide) (s_iadd g d_L_law_513 (s_sld g hz.xx hz.bb hz.nb hz.b9 d_L_law_514 (s_aload_n g d_L_law_515 rfl (s_callH g hz.zz (C_L_disturb (zl Z) hz.st) (gin_H mw_351 mw_352 mw_0 mw_353) hd_L_disturb (by decide) (by decide) d_L_law_516 (s_istore g (by decide) d_L_law_519 (s_aload_n g d_L_law_521 rfl (s_aload_n g d_L_law_522 rfl (s_iload g d_L_law_523 (s_push_iconst g d_L_law_525 (by decide) (s_iadd g d_L_law_526 (s_sld g hz.xx hz.bb hz.nb hz.b9 d_L_law_527 (s_callV g (C_M_disturb (zl Z)) (gin_V mw_687 mw_688 mw_689 mw_5 mw_690) hd_M_disturb rfl (by decide) (by decide) (by decide) d_L_law_528 (s_istore g (by decide) d_L_law_531 (s_aload_n g d_L_law_533 rfl (s_callV g (C_M_thrown (zl Z)) (gin_V mw_660 mw_661 mw_662 mw_5 mw_663) hd_M_thrown rfl (by decide) (by decide) (by decide) d_L_law_534 (s_iload g d_L_law_537 (s_icmp_eq g d_L_law_539 (by decide) (s_iload g d_L_law_544 (s_if_ne g d_L_law_546 (by decide) (t_L_law_568 g hz hk28) (s_aload_n g d_L_law_549 rfl (s_push_iconst g d_L_law_550 (by decide) (s_lald g d_L_law_551 (s_iload g d_L_law_552 (s_if_eq g d_L_law_554 (by decide) (s_push_lconst g d_L_law_561 (by decide) (t_L_law_562 g hz hk28)) (s_push_lconst g d_L_law_557 (by decide) (s_goto g d_L_law_558 (by decide) (t_L_law_562 g hz hk28)))))))))) (s_push_iconst g d_L_law_542 (by decide) (s_lret g hz d_L_law_543))))))))))))))))))))))) (tsw_cons (by decide) (s_aload_n g d_L_law_571 rfl (s_aload_n g d_L_law_572 rfl (s_iload g d_L_law_573 (s_push_iconst g d_L_law_575 (by decide) (s_iadd g d_L_law_576 (s_sld g hz.xx hz.bb hz.nb hz.b9 d_L_law_577 (s_aload_n g d_L_law_578 rfl (s_callH g hz.zz (C_L_run (zl Z) hz.st) (gin_H mw_363 mw_364 mw_0 mw_365) hd_L_run (by decide) (by decide) d_L_law_579 (s_istore g (by decide) d_L_law_582 (s_aload_n g d_L_law_584 rfl (s_aload_n g d_L_law_585 rfl (s_iload g d_L_law_586 (s_push_iconst g d_L_law_588 (by decide) (s_iadd g d_L_law_589 (s_sld g hz.xx hz.bb hz.nb hz.b9 d_L_law_590 (s_callV g (C_M_run (zl Z)) (gin_V mw_691 mw_692 mw_693 mw_5 mw_694) hd_M_run rfl (by decide) (by decide) (by decide) d_L_law_591 (s_istore g (by decide) d_L_law_594 (s_aload_n g d_L_law_596 rfl (s_callV g (C_M_thrown (zl Z)) (gin_V mw_660 mw_661 mw_662 mw_5 mw_663) hd_M_thrown rfl (by decide) (by decide) (by decide) d_L_law_597 (s_iload g d_L_law_600 (s_icmp_eq g d_L_law_602 (by decide) (s_iload g d_L_law_607 (s_if_ne g d_L_law_609 (by decide) (t_L_law_624 g hz hk28) (s_aload_n g d_L_law_612 rfl (s_push_iconst g d_L_law_613 (by decide) (s_lald g d_L_law_614 (s_iload g d_L_law_615 (s_i2l g d_L_law_617 (s_lcmp g d_L_law_618 (s_if_eq g d_L_law_619 (by decide) (t_L_law_624 g hz hk28) (s_push_iconst g d_L_law_622 (by decide) (s_lret g hz d_L_law_623))))))))))) (s_push_iconst g d_L_law_605 (by decide) (s_lret g hz d_L_law_606))))))))))))))))))))))) (tsw_cons (by decide) (s_aload_n g d_L_law_627 rfl (s_aload_n g d_L_law_628 rfl (s_iload g d_L_law_629 (s_push_iconst g d_L_law_631 (by decide) (s_iadd g d_L_law_632 (s_sld g hz.xx hz.bb hz.nb hz.b9 d_L_law_633 (s_aload_n g d_L_law_634 rfl (s_callH g hz.zz (C_L_bit (zl Z) hz.st) (gin_H mw_495 mw_496 mw_0 mw_497) hd_L_bit (by decide) (by decide) d_L_law_635 (s_istore g (by decide) d_L_law_638 (s_aload_n g d_L_law_640 rfl (s_aload_n g d_L_law_641 rfl (s_iload g d_L_law_642 (s_push_iconst g d_L_law_644 (by decide) (s_iadd g d_L_law_645 (s_sld g hz.xx hz.bb hz.nb hz.b9 d_L_law_646 (s_callV g (C_M_bit (zl Z)) (gin_V mw_759 mw_760 mw_761 mw_5 mw_762) hd_M_bit rfl (by decide) (by decide) (by decide) d_L_law_647 (s_istore g (by decide) d_L_law_650 (s_aload_n g d_L_law_652 rfl (s_callV g (C_M_thrown (zl Z)) (gin_V mw_660 mw_661 mw_662 mw_5 mw_663) hd_M_thrown rfl (by decide) (by decide) (by decide) d_L_law_653 (s_iload g d_L_law_656 (s_icmp_eq g d_L_law_658 (by decide) (s_iload g d_L_law_663 (s_if_ne g d_L_law_665 (by decide) (t_L_law_680 g hz hk28) (s_aload_n g d_L_law_668 rfl (s_push_iconst g d_L_law_669 (by decide) (s_lald g d_L_law_670 (s_iload g d_L_law_671 (s_i2l g d_L_law_673 (s_lcmp g d_L_law_674 (s_if_eq g d_L_law_675 (by decide) (t_L_law_680 g hz hk28) (s_push_iconst g d_L_law_678 (by decide) (s_lret g hz d_L_law_679))))))))))) (s_push_iconst g d_L_law_661 (by decide) (s_lret g hz d_L_law_662))))))))))))))))))))))) (tsw_cons (by decide) (s_aload_n g d_L_law_683 rfl (s_aload_n g d_L_law_684 rfl (s_iload g d_L_law_685 (s_push_iconst g d_L_law_687 (by decide) (s_iadd g d_L_law_688 (s_sld g hz.xx hz.bb hz.nb hz.b9 d_L_law_689 (s_aload_n g d_L_law_690 rfl (s_iload g d_L_law_691 (s_push_iconst g d_L_law_693 (by decide) (s_iadd g d_L_law_694 (s_sld g hz.xx hz.bb hz.nb hz.b9 d_L_law_695 (s_aload_n g d_L_law_696 rfl (s_callH g hz.zz (C_L_station (zl Z) hz.st) (gin_H mw_503 mw_504 mw_0 mw_505) hd_L_station (by decide) (by decide) d_L_law_697 (s_istore g (by decide) d_L_law_700 (s_aload_n g d_L_law_702 rfl (s_aload_n g d_L_law_703 rfl (s_iload g d_L_law_704 (s_push_iconst g d_L_law_706 (by decide) (s_iadd g d_L_law_707 (s_sld g hz.xx hz.bb hz.nb hz.b9 d_L_law_708 (s_aload_n g d_L_law_709 rfl (s_iload g d_L_law_710 (s_push_iconst g d_L_law_712 (by decide) (s_iadd g d_L_law_713 (s_sld g hz.xx hz.bb hz.nb hz.b9 d_L_law_714 (s_callV g (C_M_station (zl Z)) (gin_V mw_763 mw_764 mw_765 mw_5 mw_766) hd_M_station rfl (by decide) (by decide) (by decide) d_L_law_715 (s_istore g (by decide) d_L_law_718 (s_aload_n g d_L_law_720 rfl (s_callV g (C_M_thrown (zl Z)) (gin_V mw_660 mw_661 mw_662 mw_5 mw_663) hd_M_thrown rfl (by decide) (by decide) (by decide) d_L_law_721 (s_iload g d_L_law_724 (s_icmp_eq g d_L_law_726 (by decide) (s_iload g d_L_law_731 (s_if_ne g d_L_law_733 (by decide) (t_L_law_748 g hz hk28) (s_aload_n g d_L_law_736 rfl (s_push_iconst g d_L_law_737 (by decide) (s_lald g d_L_law_738 (s_iload g d_L_law_739 (s_i2l g d_L_law_741 (s_lcmp g d_L_law_742 (s_if_eq g d_L_law_743 (by decide) (t_L_law_748 g hz hk28) (s_push_iconst g d_L_law_746 (by decide) (s_lret g hz d_L_law_747))))))))))) (s_push_iconst g d_L_law_729 (by decide) (s_lret g hz d_L_law_730))))))))))))))))))))))))))))))))) (tsw_cons (by decide) (s_aload_n g d_L_law_751 rfl (s_aload_n g d_L_law_752 rfl (s_iload g d_L_law_753 (s_push_iconst g d_L_law_755 (by decide) (s_iadd g d_L_law_756 (s_sld g hz.xx hz.bb hz.nb hz.b9 d_L_law_757 (s_aload_n g d_L_law_758 rfl (s_callH g hz.zz (C_L_heard (zl Z) hz.st) (gin_H mw_515 mw_516 mw_0 mw_517) hd_L_heard (by decide) (by decide) d_L_law_759 (s_istore g (by decide) d_L_law_762 (s_aload_n g d_L_law_764 rfl (s_aload_n g d_L_law_765 rfl (s_iload g d_L_law_766 (s_push_iconst g d_L_law_768 (by decide) (s_iadd g d_L_law_769 (s_sld g hz.xx hz.bb hz.nb hz.b9 d_L_law_770 (s_callV g (C_M_heard (zl Z)) (gin_V mw_767 mw_768 mw_769 mw_5 mw_770) hd_M_heard rfl (by decide) (by decide) (by decide) d_L_law_771 (s_istore g (by decide) d_L_law_774 (s_aload_n g d_L_law_776 rfl (s_callV g (C_M_thrown (zl Z)) (gin_V mw_660 mw_661 mw_662 mw_5 mw_663) hd_M_thrown rfl (by decide) (by decide) (by decide) d_L_law_777 (s_iload g d_L_law_780 (s_icmp_eq g d_L_law_782 (by decide) (s_iload g d_L_law_787 (s_if_ne g d_L_law_789 (by decide) (t_L_law_804 g hz hk28) (s_aload_n g d_L_law_792 rfl (s_push_iconst g d_L_law_793 (by decide) (s_lald g d_L_law_794 (s_iload g d_L_law_795 (s_i2l g d_L_law_797 (s_lcmp g d_L_law_798 (s_if_eq g d_L_law_799 (by decide) (t_L_law_804 g hz hk28) (s_push_iconst g d_L_law_802 (by decide) (s_lret g hz d_L_law_803))))))))))) (s_push_iconst g d_L_law_785 (by decide) (s_lret g hz d_L_law_786))))))))))))))))))))))) (tsw_cons (by decide) (s_aload_n g d_L_law_807 rfl (s_aload_n g d_L_law_808 rfl (s_iload g d_L_law_809 (s_push_iconst g d_L_law_811 (by decide) (s_iadd g d_L_law_812 (s_sld g hz.xx hz.bb hz.nb hz.b9 d_L_law_813 (s_aload_n g d_L_law_814 rfl (s_callH g hz.zz (C_L_byteAt (zl Z) hz.st) (gin_H mw_527 mw_528 mw_0 mw_529) hd_L_byteAt (by decide) (by decide) d_L_law_815 (s_istore g (by decide) d_L_law_818 (s_aload_n g d_L_law_820 rfl (s_aload_n g d_L_law_821 rfl (s_iload g d_L_law_822 (s_push_iconst g d_L_law_824 (by decide) (s_iadd g d_L_law_825 (s_sld g hz.xx hz.bb hz.nb hz.b9 d_L_law_826 (s_callV g (C_M_byteAt (zl Z)) (gin_V mw_771 mw_772 mw_773 mw_5 mw_774) hd_M_byteAt rfl (by decide) (by decide) (by decide) d_L_law_827 (s_istore g (by decide) d_L_law_830 (s_aload_n g d_L_law_832 rfl (s_callV g (C_M_thrown (zl Z)) (gin_V mw_660 mw_661 mw_662 mw_5 mw_663) hd_M_thrown rfl (by decide) (by decide) (by decide) d_L_law_833 (s_iload g d_L_law_836 (s_icmp_eq g d_L_law_838 (by decide) (s_iload g d_L_law_843 (s_if_ne g d_L_law_845 (by decide) (t_L_law_860 g hz hk28) (s_aload_n g d_L_law_848 rfl (s_push_iconst g d_L_law_849 (by decide) (s_lald g d_L_law_850 (s_iload g d_L_law_851 (s_i2l g d_L_law_853 (s_lcmp g d_L_law_854 (s_if_eq g d_L_law_855 (by decide) (t_L_law_860 g hz hk28) (s_push_iconst g d_L_law_858 (by decide) (s_lret g hz d_L_law_859))))))))))) (s_push_iconst g d_L_law_841 (by decide) (s_lret g hz d_L_law_842))))))))))))))))))))))) (tsw_cons (by decide) (s_aload_n g d_L_law_863 rfl (s_callV g (C_B_answer (zl Z)) (gin_V mw_181 mw_182 mw_183 mw_1 mw_184) hd_B_answer rfl (by decide) (by decide) (by decide) d_L_law_864 (s_aload_n g d_L_law_867 rfl (s_callV g (C_M_answer (zl Z)) (gin_V mw_775 mw_776 mw_777 mw_5 mw_778) hd_M_answer rfl (by decide) (by decide) (by decide) d_L_law_868 (s_icmp_eq g d_L_law_871 (by decide) (t_L_law_988 g hz hk28) (s_push_iconst g d_L_law_874 (by decide) (s_lret g hz d_L_law_875))))))) (tsw_cons (by decide) (s_aload_n g d_L_law_876 rfl (s_aload_n g d_L_law_877 rfl (s_iload g d_L_law_878 (s_push_iconst g d_L_law_880 (by decide) (s_iadd g d_L_law_881 (s_sld g hz.xx hz.bb hz.nb hz.b9 d_L_law_882 (s_i2d g d_L_law_883 (s_push_ldc2 g mw_797 d_L_law_884 (s_dmul g d_L_law_887 (s_callV g (C_B_pack (zl Z)) (gin_V mw_185 mw_186 mw_187 mw_1 mw_188) hd_B_pack rfl (by decide) (by decide) (by decide) d_L_law_888 (s_aload_n g d_L_law_891 rfl (s_aload_n g d_L_law_892 rfl (s_iload g d_L_law_893 (s_push_iconst g d_L_law_895 (by decide) (s_iadd g d_L_law_896 (s_sld g hz.xx hz.bb hz.nb hz.b9 d_L_law_897 (s_i2d g d_L_law_898 (s_push_ldc2 g mw_797 d_L_law_899 (s_dmul g d_L_law_902 (s_callV g (C_M_pack (zl Z)) (gin_V mw_779 mw_780 mw_781 mw_5 mw_782) hd_M_pack rfl (by decide) (by decide) (by decide) d_L_law_903 (s_icmp_eq g d_L_law_906 (by decide) (t_L_law_988 g hz hk28) (s_push_iconst g d_L_law_909 (by decide) (s_lret g hz d_L_law_910))))))))))))))))))))))) (tsw_cons (by decide) (s_aload_n g d_L_law_911 rfl (s_aload_n g d_L_law_912 rfl (s_iload g d_L_law_913 (s_push_iconst g d_L_law_915 (by decide) (s_iadd g d_L_law_916 (s_sld g hz.xx hz.bb hz.nb hz.b9 d_L_law_917 (s_aload g d_L_law_918 (s_callH g hz.zz (C_L_unpack (zl Z) hz.st) (gin_H mw_539 mw_540 mw_0 mw_541) hd_L_unpack (by decide) (by decide) d_L_law_920 (s_istore g (by decide) d_L_law_923 (s_aload_n g d_L_law_925 rfl (s_aload_n g d_L_law_926 rfl (s_iload g d_L_law_927 (s_push_iconst g d_L_law_929 (by decide) (s_iadd g d_L_law_930 (s_sld g hz.xx hz.bb hz.nb hz.b9 d_L_law_931 (s_callV g (C_M_unpack (zl Z)) (gin_V mw_793 mw_794 mw_795 mw_5 mw_796) hd_M_unpack rfl (by decide) (by decide) (by decide) d_L_law_932 (s_dstore g (by decide) d_L_law_935 (s_aload_n g d_L_law_937 rfl (s_callV g (C_M_thrown (zl Z)) (gin_V mw_660 mw_661 mw_662 mw_5 mw_663) hd_M_thrown rfl (by decide) (by decide) (by decide) d_L_law_938 (s_iload g d_L_law_941 (s_icmp_eq g d_L_law_943 (by decide) (s_iload g d_L_law_948 (s_if_ne g d_L_law_950 (by decide) (t_L_law_985 g hz hk28) (s_aload g d_L_law_953 (s_push_iconst g d_L_law_955 (by decide) (s_dald g d_L_law_956 (s_dload g d_L_law_957 (s_dcmp g d_L_law_959 (s_if_eq g d_L_law_960 (by decide) (t_L_law_985 g hz hk28) (s_aload g d_L_law_963 (s_push_iconst g d_L_law_965 (by decide) (s_dald g d_L_law_966 (s_aload g d_L_law_967 (s_push_iconst g d_L_law_969 (by decide) (s_dald g d_L_law_970 (s_dcmp g d_L_law_971 (s_if_eq g d_L_law_972 (by decide) (t_L_law_983 g hz) (s_dload g d_L_law_975 (s_dload g d_L_law_977 (s_dcmp g d_L_law_979 (s_if_ne g d_L_law_980 (by decide) (t_L_law_985 g hz hk28) (t_L_law_983 g hz))))))))))))))))))))) (s_push_iconst g d_L_law_946 (by decide) (s_lret g hz d_L_law_947))))))))))))))))))))))) tsw_nil))))))))))))) (t_L_law_988 g hz hk28))))))))))))))
def b_L_law_0 (L : Nat) (xsv : Nat → Int32) (X0 : Mm) : Kk := (i_new 3 X0 601024 7293034 (i_dup (i_callI 0 X0 601024 7293034 127 6757 w_B_init (i_astore 1 (i_new 4 X0 601024 7293034 (i_dup (i_callI 0 X0 601024 7293034 17 20533 w_M_init (i_astore 2 (i_push (.int 1) (i_newa 14 X0 601024 7293034 (i_astore 3 (i_push (.int 1) (i_newa 15 X0 601024 7293034 (i_astore 4 (i_push (.int 0) (i_istore 5 (b_L_law_28 L xsv X0)))))))))))))))))
theorem t_L_law_0 {Z : Zt} {b L : Nat} {xsv : Nat → Int32} {X0 : Mm} (g : Good Z code 9 "BusTelegramsLaw" 8) (hz : LawX Z b L xsv X0) : Snd Z 9 0 (b_L_law_0 L xsv X0) := by
  unfold b_L_law_0
  exact (s_new g hz.nn cok_3 df_3 mw_13 mw_14 mw_1 d_L_law_0 (s_dup g d_L_law_3 (s_callI g hz.nn hz.ao (C_B_init (zl Z)) mw_15 mw_16 mw_1 mw_17 hd_B_init rfl (by decide) (by decide) d_L_law_4 (s_astore_n g (by decide) d_L_law_7 rfl (s_new g hz.nn cok_4 df_4 mw_547 mw_548 mw_5 d_L_law_8 (s_dup g d_L_law_11 (s_callI g hz.nn hz.ao (C_M_init (zl Z)) mw_549 mw_550 mw_5 mw_551 hd_M_init rfl (by decide) (by decide) d_L_law_12 (s_astore_n g (by decide) d_L_law_15 rfl (s_push_iconst g d_L_law_16 (by decide) (s_newa14 g hz.nn mw_798 d_L_law_17 (s_astore_n g (by decide) d_L_law_19 rfl (s_push_iconst g d_L_law_20 (by decide) (s_newa15 g hz.nn mw_799 d_L_law_21 (s_astore g (by decide) d_L_law_23 (s_push_iconst g d_L_law_25 (by decide) (s_istore g (by decide) d_L_law_26 (t_L_law_28 g hz)))))))))))))))))
