/-! one law an instruction -/
section Rows
variable {Z : Zt} {cc : ByteArray} {nL lv : Nat} {own : String} {pc : Nat} {k kt kf : Kk}
def i_push (v : Value) (k : Kk) : Kk := fun l st X => k l (v :: st) X
def i_iload (n : Nat) (k : Kk) : Kk := fun l st X => match lk l n with
  | some (.int x) => k l (.int x :: st) X
  | _ => False
def i_aload (n : Nat) (k : Kk) : Kk := fun l st X => match lk l n with
  | some (.ref x) => k l (.ref x :: st) X
  | _ => False
def i_dload (n : Nat) (k : Kk) : Kk := fun l st X => match lk l n with
  | some (.double x) => k l (.double x :: st) X
  | _ => False
def i_istore (n : Nat) (k : Kk) : Kk := fun l st X => match st with
  | .int x :: r => k ((n, .int x) :: rm1 l n) r X
  | _ => False
def i_astore (n : Nat) (k : Kk) : Kk := fun l st X => match st with
  | .ref x :: r => k ((n, .ref x) :: rm1 l n) r X
  | _ => False
def i_dstore (n : Nat) (k : Kk) : Kk := fun l st X => match st with
  | .double x :: r => k ((n, .double x) :: rm2 l n) r X
  | _ => False
def i_iinc (n : Nat) (d : Int32) (k : Kk) : Kk := fun l st X => match lk l n with
  | some (.int x) => k ((n, .int (x + d)) :: rm1 l n) st X
  | _ => False
def i_bin (f : Int32 → Int32 → Int32) (k : Kk) : Kk := fun l st X => match st with
  | .int y :: .int x :: r => k l (.int (f x y) :: r) X
  | _ => False
def i_binz (f : Int32 → Int32 → Int32) (k : Kk) : Kk := fun l st X => match st with
  | .int y :: .int x :: r => ¬ y = 0 ∧ k l (.int (f x y) :: r) X
  | _ => False
def i_dbin (f : UInt64 → UInt64 → UInt64) (k : Kk) : Kk := fun l st X => match st with
  | .double y :: .double x :: r => vf_n64 (f x y) ∧ k l (.double (f x y) :: r) X
  | _ => False
def i_dcmp (op : CmpOp) (k : Kk) : Kk := fun l st X => match st with
  | .double y :: .double x :: r => k l (.int (Op.cmpValue (FP.dcmp x y) op) :: r) X
  | _ => False
def i_i2d (k : Kk) : Kk := fun l st X => match st with
  | .int x :: r => k l (.double (FP.i2d x) :: r) X
  | _ => False
def i_d2i (k : Kk) : Kk := fun l st X => match st with
  | .double x :: r => k l (.int (FP.d2i x) :: r) X
  | _ => False
def i_i2l (k : Kk) : Kk := fun l st X => match st with
  | .int x :: r => k l (.long x.toInt64 :: r) X
  | _ => False
def i_dup (k : Kk) : Kk := fun l st X => match st with
  | .ref v :: r => k l (.ref v :: .ref v :: r) X
  | .int v :: r => k l (.int v :: .int v :: r) X
  | _ => False
def i_dup2 (k : Kk) : Kk := fun l st X => match st with
  | .int w :: .ref v :: r => k l (.int w :: .ref v :: .int w :: .ref v :: r) X
  | _ => False
def i_if (c : Int32 → Int32 → Prop) [∀ x y, Decidable (c x y)] (kt kf : Kk) : Kk := fun l st X => match st with
  | .int x :: r => if c x 0 then kt l r X else kf l r X
  | _ => False
def i_icmp (c : Int32 → Int32 → Prop) [∀ x y, Decidable (c x y)] (kt kf : Kk) : Kk := fun l st X => match st with
  | .int y :: .int x :: r => if c x y then kt l r X else kf l r X
  | _ => False
def i_getI (c j : Nat) (k : Kk) : Kk := fun l st X => match st with
  | .ref a :: r => a < xn X ∧ xk X a = c ∧ k l (.int (xm X a j) :: r) X
  | _ => False
def i_getR (c j : Nat) (k : Kk) : Kk := fun l st X => match st with
  | .ref a :: r => a < xn X ∧ xk X a = c ∧ (match xr X a j with
    | some b => k l (.ref b :: r) X
    | none => False)
  | _ => False
def i_putI (c j : Nat) (k : Kk) : Kk := fun l st X => match st with
  | .int v :: .ref a :: r => a < xn X ∧ xk X a = c ∧ k l r (xsm X a j v)
  | _ => False
def i_putZ (c j : Nat) (k : Kk) : Kk := fun l st X => match st with
  | .int v :: .ref a :: r => a < xn X ∧ xk X a = c ∧ (v = 0 ∨ v = 1) ∧ k l r (xsm X a j v)
  | _ => False
def i_putR (c j : Nat) (k : Kk) : Kk := fun l st X => match st with
  | .ref b :: .ref a :: r => a < xn X ∧ xk X a = c ∧ b < xn X ∧ k l r (xsr X a j (some b))
  | _ => False
def i_ald (kd : Nat) (k : Kk) : Kk := fun l st X => match st with
  | .int i :: .ref a :: r => a < xn X ∧ xk X a = kd ∧ vp_in i (xl X a) ∧ k l (.int (xm X a i.toNatClampNeg) :: r) X
  | _ => False
def i_ast (k : Kk) : Kk := fun l st X => match st with
  | .int v :: .int i :: .ref a :: r => a < xn X ∧ xk X a = 10 ∧ vp_in i (xl X a) ∧ k l r (xsm X a i.toNatClampNeg v)
  | _ => False
def i_zst (k : Kk) : Kk := fun l st X => match st with
  | .int v :: .int i :: .ref a :: r => a < xn X ∧ xk X a = 11 ∧ vp_in i (xl X a) ∧ (v = 0 ∨ v = 1) ∧ k l r (xsm X a i.toNatClampNeg v)
  | _ => False
def i_aald (kd : Nat) (k : Kk) : Kk := fun l st X => match st with
  | .int i :: .ref a :: r => a < xn X ∧ xk X a = kd ∧ vp_in i (xl X a) ∧ (match xr X a i.toNatClampNeg with
    | some b => k l (.ref b :: r) X
    | none => False)
  | _ => False
def i_alen (k : Kk) : Kk := fun l st X => match st with
  | .ref a :: r => a < xn X ∧ xk X a = 10 ∧ k l (.int (Int32.ofNat (xl X a)) :: r) X
  | _ => False
theorem s_push_iconst (g : Good Z cc nL own lv) {n : Int} {v : Int32} (d : decode cc pc = .ok (.iconst n, 1)) (e : Int32.ofInt n = v) (h : Snd Z nL (pc + 1) k) : Snd Z nL pc (i_push (.int v) k) :=
  fun l st X hk ad H locs ls cells slots hw hl => lv_iconst g.hx g.hb d e (h _ _ _ hk ad H locs ls cells slots hw hl)
theorem s_push_bipush (g : Good Z cc nL own lv) {n : Int} {v : Int32} (d : decode cc pc = .ok (.bipush n, 2)) (e : (Int8.ofInt n).toInt32 = v) (h : Snd Z nL (pc + 2) k) : Snd Z nL pc (i_push (.int v) k) :=
  fun l st X hk ad H locs ls cells slots hw hl => lv_bipush g.hx g.hb d e (h _ _ _ hk ad H locs ls cells slots hw hl)
theorem s_push_sipush (g : Good Z cc nL own lv) {n : Int} {v : Int32} (d : decode cc pc = .ok (.sipush n, 3)) (e : (Int16.ofInt n).toInt32 = v) (h : Snd Z nL (pc + 3) k) : Snd Z nL pc (i_push (.int v) k) :=
  fun l st X hk ad H locs ls cells slots hw hl => lv_sipush g.hx g.hb d e (h _ _ _ hk ad H locs ls cells slots hw hl)
theorem s_push_lconst (g : Good Z cc nL own lv) {n : Fin 2} {v : Int64} (d : decode cc pc = .ok (.lconst n, 1)) (e : Int64.ofNat (n : Nat) = v) (h : Snd Z nL (pc + 1) k) : Snd Z nL pc (i_push (.long v) k) :=
  fun l st X hk ad H locs ls cells slots hw hl => lv_lconst g.hx g.hb d e (h _ _ _ hk ad H locs ls cells slots hw hl)
theorem s_push_dconst0 (g : Good Z cc nL own lv) (d : decode cc pc = .ok (.dconst 0, 1)) (h : Snd Z nL (pc + 1) k) : Snd Z nL pc (i_push (.double FP.dconst0) k) :=
  fun l st X hk ad H locs ls cells slots hw hl => lv_dconst0 g.hx g.hb d (h _ _ _ hk ad H locs ls cells slots hw hl)
theorem s_push_dconst1 (g : Good Z cc nL own lv) (d : decode cc pc = .ok (.dconst 1, 1)) (h : Snd Z nL (pc + 1) k) : Snd Z nL pc (i_push (.double FP.dconst1) k) :=
  fun l st X hk ad H locs ls cells slots hw hl => lv_dconst1 g.hx g.hb d (h _ _ _ hk ad H locs ls cells slots hw hl)
theorem s_push_ldc (g : Good Z cc nL own lv) {i : Nat} {v : Int32} (w : Cond.constant own i v ∈ GL) (d : decode cc pc = .ok (.ldc i, 2)) (h : Snd Z nL (pc + 2) k) : Snd Z nL pc (i_push (.int v) k) :=
  fun l st X hk ad H locs ls cells slots hw hl => lv_ldc g.hx g.hb g.hown (g.hG _ w) d (h _ _ _ hk ad H locs ls cells slots hw hl)
theorem s_push_ldcw (g : Good Z cc nL own lv) {i : Nat} {v : Int32} (w : Cond.constant own i v ∈ GL) (d : decode cc pc = .ok (.ldc_w i, 3)) (h : Snd Z nL (pc + 3) k) : Snd Z nL pc (i_push (.int v) k) :=
  fun l st X hk ad H locs ls cells slots hw hl => lv_ldcw g.hx g.hb g.hown (g.hG _ w) d (h _ _ _ hk ad H locs ls cells slots hw hl)
theorem s_push_ldc2 (g : Good Z cc nL own lv) {i : Nat} {v : UInt64} (w : Cond.constantDouble own i v ∈ GL) (d : decode cc pc = .ok (.ldc2_w i, 3)) (h : Snd Z nL (pc + 3) k) : Snd Z nL pc (i_push (.double v) k) :=
  fun l st X hk ad H locs ls cells slots hw hl => lv_ldc2d g.hx g.hb g.hown (g.hG _ w) d (h _ _ _ hk ad H locs ls cells slots hw hl)
theorem s_iload (g : Good Z cc nL own lv) {n : Nat} (d : decode cc pc = .ok (.iload n, 2)) (h : Snd Z nL (pc + 2) k) : Snd Z nL pc (i_iload n k) := by
  intro l st X hk ad H locs ls cells slots hw hl
  unfold i_iload at hk
  split at hk
  · next x e => exact lv_iload g.hx g.hb d (lk_has hl e) (h _ _ _ hk ad H locs ls cells slots hw hl)
  · exact hk.elim
theorem s_iload_n (g : Good Z cc nL own lv) {q : Fin 4} {n : Nat} (d : decode cc pc = .ok (.iload_n q, 1)) (e : (q : Nat) = n) (h : Snd Z nL (pc + 1) k) : Snd Z nL pc (i_iload n k) := by
  intro l st X hk ad H locs ls cells slots hw hl
  unfold i_iload at hk
  split at hk
  · next x e1 => exact lv_iload_n g.hx g.hb d e (lk_has hl e1) (h _ _ _ hk ad H locs ls cells slots hw hl)
  · exact hk.elim
theorem s_aload (g : Good Z cc nL own lv) {n : Nat} (d : decode cc pc = .ok (.aload n, 2)) (h : Snd Z nL (pc + 2) k) : Snd Z nL pc (i_aload n k) := by
  intro l st X hk ad H locs ls cells slots hw hl
  unfold i_aload at hk
  split at hk
  · next x e => exact lv_aload g.hx g.hb d (lk_has hl e) (h _ _ _ hk ad H locs ls cells slots hw hl)
  · exact hk.elim
theorem s_aload_n (g : Good Z cc nL own lv) {q : Fin 4} {n : Nat} (d : decode cc pc = .ok (.aload_n q, 1)) (e : (q : Nat) = n) (h : Snd Z nL (pc + 1) k) : Snd Z nL pc (i_aload n k) := by
  intro l st X hk ad H locs ls cells slots hw hl
  unfold i_aload at hk
  split at hk
  · next x e1 => exact lv_aload_n g.hx g.hb d e (lk_has hl e1) (h _ _ _ hk ad H locs ls cells slots hw hl)
  · exact hk.elim
theorem s_dload (g : Good Z cc nL own lv) {n : Nat} (d : decode cc pc = .ok (.dload n, 2)) (h : Snd Z nL (pc + 2) k) : Snd Z nL pc (i_dload n k) := by
  intro l st X hk ad H locs ls cells slots hw hl
  unfold i_dload at hk
  split at hk
  · next x e => exact lv_dload g.hx g.hb d (lk_has hl e) (h _ _ _ hk ad H locs ls cells slots hw hl)
  · exact hk.elim
theorem s_dload_n (g : Good Z cc nL own lv) {q : Fin 4} {n : Nat} (d : decode cc pc = .ok (.dload_n q, 1)) (e : (q : Nat) = n) (h : Snd Z nL (pc + 1) k) : Snd Z nL pc (i_dload n k) := by
  intro l st X hk ad H locs ls cells slots hw hl
  unfold i_dload at hk
  split at hk
  · next x e1 => exact lv_dload_n g.hx g.hb d e (lk_has hl e1) (h _ _ _ hk ad H locs ls cells slots hw hl)
  · exact hk.elim
theorem s_istore (g : Good Z cc nL own lv) {n : Nat} (hn : n < nL) (d : decode cc pc = .ok (.istore n, 2)) (h : Snd Z nL (pc + 2) k) : Snd Z nL pc (i_istore n k) := by
  intro l st X hk ad H locs ls cells slots hw hl
  unfold i_istore at hk
  split at hk
  · next x r => exact lv_istore (lv' := ((n, Value.int x) :: rm1 l n).map (cq ad)) g.hx g.hb d hl hn (by rw [rm1_map]; rfl) (fun ls' hl' => h _ _ _ hk ad H locs ls' cells slots hw hl')
  · exact hk.elim
theorem s_istore_n (g : Good Z cc nL own lv) {q : Fin 4} {n : Nat} (hn : n < nL) (d : decode cc pc = .ok (.istore_n q, 1)) (e : (q : Nat) = n) (h : Snd Z nL (pc + 1) k) : Snd Z nL pc (i_istore n k) := by
  intro l st X hk ad H locs ls cells slots hw hl
  unfold i_istore at hk
  split at hk
  · next x r => exact lv_istore_n (lv' := ((n, Value.int x) :: rm1 l n).map (cq ad)) g.hx g.hb d e hl hn (by rw [rm1_map]; rfl) (fun ls' hl' => h _ _ _ hk ad H locs ls' cells slots hw hl')
  · exact hk.elim
theorem s_astore (g : Good Z cc nL own lv) {n : Nat} (hn : n < nL) (d : decode cc pc = .ok (.astore n, 2)) (h : Snd Z nL (pc + 2) k) : Snd Z nL pc (i_astore n k) := by
  intro l st X hk ad H locs ls cells slots hw hl
  unfold i_astore at hk
  split at hk
  · next x r => exact lv_astore (lv' := ((n, Value.ref x) :: rm1 l n).map (cq ad)) g.hx g.hb d hl hn (by rw [rm1_map]; rfl) (fun ls' hl' => h _ _ _ hk ad H locs ls' cells slots hw hl')
  · exact hk.elim
theorem s_astore_n (g : Good Z cc nL own lv) {q : Fin 4} {n : Nat} (hn : n < nL) (d : decode cc pc = .ok (.astore_n q, 1)) (e : (q : Nat) = n) (h : Snd Z nL (pc + 1) k) : Snd Z nL pc (i_astore n k) := by
  intro l st X hk ad H locs ls cells slots hw hl
  unfold i_astore at hk
  split at hk
  · next x r => exact lv_astore_n (lv' := ((n, Value.ref x) :: rm1 l n).map (cq ad)) g.hx g.hb d e hl hn (by rw [rm1_map]; rfl) (fun ls' hl' => h _ _ _ hk ad H locs ls' cells slots hw hl')
  · exact hk.elim
theorem s_dstore (g : Good Z cc nL own lv) {n : Nat} (hn : n + 1 < nL) (d : decode cc pc = .ok (.dstore n, 2)) (h : Snd Z nL (pc + 2) k) : Snd Z nL pc (i_dstore n k) := by
  intro l st X hk ad H locs ls cells slots hw hl
  unfold i_dstore at hk
  split at hk
  · next x r => exact lv_dstore (lv' := ((n, Value.double x) :: rm2 l n).map (cq ad)) g.hx g.hb d hl hn (by rw [rm2_map]; rfl) (fun ls' hl' => h _ _ _ hk ad H locs ls' cells slots hw hl')
  · exact hk.elim
theorem s_dstore_n (g : Good Z cc nL own lv) {q : Fin 4} {n : Nat} (hn : n + 1 < nL) (d : decode cc pc = .ok (.dstore_n q, 1)) (e : (q : Nat) = n) (h : Snd Z nL (pc + 1) k) : Snd Z nL pc (i_dstore n k) := by
  intro l st X hk ad H locs ls cells slots hw hl
  unfold i_dstore at hk
  split at hk
  · next x r => exact lv_dstore_n (lv' := ((n, Value.double x) :: rm2 l n).map (cq ad)) g.hx g.hb d e hl hn (by rw [rm2_map]; rfl) (fun ls' hl' => h _ _ _ hk ad H locs ls' cells slots hw hl')
  · exact hk.elim
theorem s_iinc (g : Good Z cc nL own lv) {n : Nat} {dd : Int} {v : Int32} (hn : n < nL) (d : decode cc pc = .ok (.iinc n dd, 3)) (e : Int32.ofInt dd = v) (h : Snd Z nL (pc + 3) k) : Snd Z nL pc (i_iinc n v k) := by
  intro l st X hk ad H locs ls cells slots hw hl
  unfold i_iinc at hk
  split at hk
  · next x e1 =>
    obtain ⟨k9, hk9⟩ := List.getElem?_of_mem (List.mem_map.mpr ⟨(n, Value.int x), lk_mem e1, rfl⟩ : cq ad (n, Value.int x) ∈ l.map (cq ad))
    exact lv_iinc (v := x + v) (lv' := ((n, Value.int (x + v)) :: rm1 l n).map (cq ad)) g.hx g.hb d hl hk9 (by rw [e]) hn (by rw [rm1_map]; rfl) (fun ls' hl' => h _ _ _ hk ad H locs ls' cells slots hw hl')
  · exact hk.elim
theorem s_iincW (g : Good Z cc nL own lv) {n : Nat} {dd : Int} {v : Int32} (hn : n < nL) (d : decode cc pc = .ok (.iinc n dd, 6)) (e : Int32.ofInt dd = v) (h : Snd Z nL (pc + 6) k) : Snd Z nL pc (i_iinc n v k) := by
  intro l st X hk ad H locs ls cells slots hw hl
  unfold i_iinc at hk
  split at hk
  · next x e1 =>
    obtain ⟨k9, hk9⟩ := List.getElem?_of_mem (List.mem_map.mpr ⟨(n, Value.int x), lk_mem e1, rfl⟩ : cq ad (n, Value.int x) ∈ l.map (cq ad))
    exact lv_iincW (v := x + v) (lv' := ((n, Value.int (x + v)) :: rm1 l n).map (cq ad)) g.hx g.hb d hl hk9 (by rw [e]) hn (by rw [rm1_map]; rfl) (fun ls' hl' => h _ _ _ hk ad H locs ls' cells slots hw hl')
  · exact hk.elim
theorem s_iadd (g : Good Z cc nL own lv) (d : decode cc pc = .ok (.iadd, 1)) (h : Snd Z nL (pc + 1) k) : Snd Z nL pc (i_bin (fun x y => x + y) k) := by
  intro l st X hk ad H locs ls cells slots hw hl
  unfold i_bin at hk
  split at hk
  · exact lv_iadd g.hx g.hb d (h _ _ _ hk ad H locs ls cells slots hw hl)
  · exact hk.elim
theorem s_isub (g : Good Z cc nL own lv) (d : decode cc pc = .ok (.isub, 1)) (h : Snd Z nL (pc + 1) k) : Snd Z nL pc (i_bin (fun x y => x - y) k) := by
  intro l st X hk ad H locs ls cells slots hw hl
  unfold i_bin at hk
  split at hk
  · exact lv_isub g.hx g.hb d (h _ _ _ hk ad H locs ls cells slots hw hl)
  · exact hk.elim
theorem s_imul (g : Good Z cc nL own lv) (d : decode cc pc = .ok (.imul, 1)) (h : Snd Z nL (pc + 1) k) : Snd Z nL pc (i_bin (fun x y => x * y) k) := by
  intro l st X hk ad H locs ls cells slots hw hl
  unfold i_bin at hk
  split at hk
  · exact lv_imul g.hx g.hb d (h _ _ _ hk ad H locs ls cells slots hw hl)
  · exact hk.elim
theorem s_iand (g : Good Z cc nL own lv) (d : decode cc pc = .ok (.iand, 1)) (h : Snd Z nL (pc + 1) k) : Snd Z nL pc (i_bin (fun x y => x &&& y) k) := by
  intro l st X hk ad H locs ls cells slots hw hl
  unfold i_bin at hk
  split at hk
  · exact lv_iand g.hx g.hb d (h _ _ _ hk ad H locs ls cells slots hw hl)
  · exact hk.elim
theorem s_ixor (g : Good Z cc nL own lv) (d : decode cc pc = .ok (.ixor, 1)) (h : Snd Z nL (pc + 1) k) : Snd Z nL pc (i_bin (fun x y => x ^^^ y) k) := by
  intro l st X hk ad H locs ls cells slots hw hl
  unfold i_bin at hk
  split at hk
  · exact lv_ixor g.hx g.hb d (h _ _ _ hk ad H locs ls cells slots hw hl)
  · exact hk.elim
theorem s_ishl (g : Good Z cc nL own lv) (d : decode cc pc = .ok (.ishl, 1)) (h : Snd Z nL (pc + 1) k) : Snd Z nL pc (i_bin (fun x y => x <<< (y &&& 31)) k) := by
  intro l st X hk ad H locs ls cells slots hw hl
  unfold i_bin at hk
  split at hk
  · exact lv_ishl g.hx g.hb d (h _ _ _ hk ad H locs ls cells slots hw hl)
  · exact hk.elim
theorem s_ishr (g : Good Z cc nL own lv) (d : decode cc pc = .ok (.ishr, 1)) (h : Snd Z nL (pc + 1) k) : Snd Z nL pc (i_bin (fun x y => x >>> (y &&& 31)) k) := by
  intro l st X hk ad H locs ls cells slots hw hl
  unfold i_bin at hk
  split at hk
  · exact lv_ishr g.hx g.hb d (h _ _ _ hk ad H locs ls cells slots hw hl)
  · exact hk.elim
theorem s_iushr (g : Good Z cc nL own lv) (d : decode cc pc = .ok (.iushr, 1)) (h : Snd Z nL (pc + 1) k) : Snd Z nL pc (i_bin (fun x y => (x.toUInt32 >>> (y.toUInt32 &&& Int32.toUInt32 31)).toInt32) k) := by
  intro l st X hk ad H locs ls cells slots hw hl
  unfold i_bin at hk
  split at hk
  · exact lv_iushr g.hx g.hb d rfl (h _ _ _ hk ad H locs ls cells slots hw hl)
  · exact hk.elim
theorem s_idiv (g : Good Z cc nL own lv) (d : decode cc pc = .ok (.idiv, 1)) (h : Snd Z nL (pc + 1) k) : Snd Z nL pc (i_binz (fun x y => x / y) k) := by
  intro l st X hk ad H locs ls cells slots hw hl
  unfold i_binz at hk
  split at hk
  · exact lv_idiv g.hx g.hb d hk.1 (h _ _ _ hk.2 ad H locs ls cells slots hw hl)
  · exact hk.elim
theorem s_irem (g : Good Z cc nL own lv) (d : decode cc pc = .ok (.irem, 1)) (h : Snd Z nL (pc + 1) k) : Snd Z nL pc (i_binz (fun x y => x - x / y * y) k) := by
  intro l st X hk ad H locs ls cells slots hw hl
  unfold i_binz at hk
  split at hk
  · exact lv_irem g.hx g.hb d hk.1 (h _ _ _ hk.2 ad H locs ls cells slots hw hl)
  · exact hk.elim
theorem s_dadd (g : Good Z cc nL own lv) (d : decode cc pc = .ok (.dadd, 1)) (h : Snd Z nL (pc + 1) k) : Snd Z nL pc (i_dbin FP.dadd k) := by
  intro l st X hk ad H locs ls cells slots hw hl
  unfold i_dbin at hk
  split at hk
  · exact lv_dadd g.hx g.hb d hk.1 (h _ _ _ hk.2 ad H locs ls cells slots hw hl)
  · exact hk.elim
theorem s_dmul (g : Good Z cc nL own lv) (d : decode cc pc = .ok (.dmul, 1)) (h : Snd Z nL (pc + 1) k) : Snd Z nL pc (i_dbin FP.dmul k) := by
  intro l st X hk ad H locs ls cells slots hw hl
  unfold i_dbin at hk
  split at hk
  · exact lv_dmul g.hx g.hb d hk.1 (h _ _ _ hk.2 ad H locs ls cells slots hw hl)
  · exact hk.elim
theorem s_ddiv (g : Good Z cc nL own lv) (d : decode cc pc = .ok (.ddiv, 1)) (h : Snd Z nL (pc + 1) k) : Snd Z nL pc (i_dbin FP.ddiv k) := by
  intro l st X hk ad H locs ls cells slots hw hl
  unfold i_dbin at hk
  split at hk
  · exact lv_ddiv g.hx g.hb d hk.1 (h _ _ _ hk.2 ad H locs ls cells slots hw hl)
  · exact hk.elim
theorem s_dcmp (g : Good Z cc nL own lv) {op : CmpOp} (d : decode cc pc = .ok (.dcmp op, 1)) (h : Snd Z nL (pc + 1) k) : Snd Z nL pc (i_dcmp op k) := by
  intro l st X hk ad H locs ls cells slots hw hl
  unfold i_dcmp at hk
  split at hk
  · exact lv_dcmp g.hx g.hb d (h _ _ _ hk ad H locs ls cells slots hw hl)
  · exact hk.elim
theorem s_i2d (g : Good Z cc nL own lv) (d : decode cc pc = .ok (.i2d, 1)) (h : Snd Z nL (pc + 1) k) : Snd Z nL pc (i_i2d k) := by
  intro l st X hk ad H locs ls cells slots hw hl
  unfold i_i2d at hk
  split at hk
  · exact lv_i2d g.hx g.hb d (h _ _ _ hk ad H locs ls cells slots hw hl)
  · exact hk.elim
theorem s_d2i (g : Good Z cc nL own lv) (d : decode cc pc = .ok (.d2i, 1)) (h : Snd Z nL (pc + 1) k) : Snd Z nL pc (i_d2i k) := by
  intro l st X hk ad H locs ls cells slots hw hl
  unfold i_d2i at hk
  split at hk
  · exact lv_d2i g.hx g.hb d (h _ _ _ hk ad H locs ls cells slots hw hl)
  · exact hk.elim
theorem s_i2l (g : Good Z cc nL own lv) (d : decode cc pc = .ok (.i2l, 1)) (h : Snd Z nL (pc + 1) k) : Snd Z nL pc (i_i2l k) := by
  intro l st X hk ad H locs ls cells slots hw hl
  unfold i_i2l at hk
  split at hk
  · exact lv_i2l g.hx g.hb d rfl (h _ _ _ hk ad H locs ls cells slots hw hl)
  · exact hk.elim
theorem s_dup (g : Good Z cc nL own lv) (d : decode cc pc = .ok (.dup, 1)) (h : Snd Z nL (pc + 1) k) : Snd Z nL pc (i_dup k) := by
  intro l st X hk ad H locs ls cells slots hw hl
  unfold i_dup at hk
  split at hk
  · exact lv_dup g.hx g.hb d rfl (h _ _ _ hk ad H locs ls cells slots hw hl)
  · exact lv_dup g.hx g.hb d rfl (h _ _ _ hk ad H locs ls cells slots hw hl)
  · exact hk.elim
theorem s_dup2 (g : Good Z cc nL own lv) (d : decode cc pc = .ok (.dup2, 1)) (h : Snd Z nL (pc + 1) k) : Snd Z nL pc (i_dup2 k) := by
  intro l st X hk ad H locs ls cells slots hw hl
  unfold i_dup2 at hk
  split at hk
  · exact lv_dup2_11 g.hx g.hb d rfl rfl (h _ _ _ hk ad H locs ls cells slots hw hl)
  · exact hk.elim
theorem s_if_eq (g : Good Z cc nL own lv) {off : Int} {tgt : Nat} (d : decode cc pc = .ok (.ifCond .eq off, 3)) (ht : (pc : Int) + off = (tgt : Int)) (h1 : Snd Z nL tgt kt) (h2 : Snd Z nL (pc + 3) kf) : Snd Z nL pc (i_if (fun x y => x = y) kt kf) := by
  intro l st X hk ad H locs ls cells slots hw hl
  unfold i_if at hk
  split at hk
  · split at hk
    · next hc => exact lv_if_eq g.hx g.hb d ht (fun _ => h1 _ _ _ hk ad H locs ls cells slots hw hl) (fun hn => absurd hc hn)
    · next hc => exact lv_if_eq g.hx g.hb d ht (fun hn => absurd hn hc) (fun _ => h2 _ _ _ hk ad H locs ls cells slots hw hl)
  · exact hk.elim
theorem s_icmp_eq (g : Good Z cc nL own lv) {off : Int} {tgt : Nat} (d : decode cc pc = .ok (.if_icmp .eq off, 3)) (ht : (pc : Int) + off = (tgt : Int)) (h1 : Snd Z nL tgt kt) (h2 : Snd Z nL (pc + 3) kf) : Snd Z nL pc (i_icmp (fun x y => x = y) kt kf) := by
  intro l st X hk ad H locs ls cells slots hw hl
  unfold i_icmp at hk
  split at hk
  · split at hk
    · next hc => exact lv_icmp_eq g.hx g.hb d ht (fun _ => h1 _ _ _ hk ad H locs ls cells slots hw hl) (fun hn => absurd hc hn)
    · next hc => exact lv_icmp_eq g.hx g.hb d ht (fun hn => absurd hn hc) (fun _ => h2 _ _ _ hk ad H locs ls cells slots hw hl)
  · exact hk.elim
theorem s_if_ne (g : Good Z cc nL own lv) {off : Int} {tgt : Nat} (d : decode cc pc = .ok (.ifCond .ne off, 3)) (ht : (pc : Int) + off = (tgt : Int)) (h1 : Snd Z nL tgt kt) (h2 : Snd Z nL (pc + 3) kf) : Snd Z nL pc (i_if (fun x y => x = y) kf kt) := by
  intro l st X hk ad H locs ls cells slots hw hl
  unfold i_if at hk
  split at hk
  · split at hk
    · next hc => exact lv_if_ne g.hx g.hb d ht (fun hn => absurd hc hn) (fun _ => h2 _ _ _ hk ad H locs ls cells slots hw hl)
    · next hc => exact lv_if_ne g.hx g.hb d ht (fun _ => h1 _ _ _ hk ad H locs ls cells slots hw hl) (fun hn => absurd hn hc)
  · exact hk.elim
theorem s_icmp_ne (g : Good Z cc nL own lv) {off : Int} {tgt : Nat} (d : decode cc pc = .ok (.if_icmp .ne off, 3)) (ht : (pc : Int) + off = (tgt : Int)) (h1 : Snd Z nL tgt kt) (h2 : Snd Z nL (pc + 3) kf) : Snd Z nL pc (i_icmp (fun x y => x = y) kf kt) := by
  intro l st X hk ad H locs ls cells slots hw hl
  unfold i_icmp at hk
  split at hk
  · split at hk
    · next hc => exact lv_icmp_ne g.hx g.hb d ht (fun hn => absurd hc hn) (fun _ => h2 _ _ _ hk ad H locs ls cells slots hw hl)
    · next hc => exact lv_icmp_ne g.hx g.hb d ht (fun _ => h1 _ _ _ hk ad H locs ls cells slots hw hl) (fun hn => absurd hn hc)
  · exact hk.elim
theorem s_if_lt (g : Good Z cc nL own lv) {off : Int} {tgt : Nat} (d : decode cc pc = .ok (.ifCond .lt off, 3)) (ht : (pc : Int) + off = (tgt : Int)) (h1 : Snd Z nL tgt kt) (h2 : Snd Z nL (pc + 3) kf) : Snd Z nL pc (i_if (fun x y => x < y) kt kf) := by
  intro l st X hk ad H locs ls cells slots hw hl
  unfold i_if at hk
  split at hk
  · split at hk
    · next hc => exact lv_if_lt g.hx g.hb d ht (fun _ => h1 _ _ _ hk ad H locs ls cells slots hw hl) (fun hn => absurd hc hn)
    · next hc => exact lv_if_lt g.hx g.hb d ht (fun hn => absurd hn hc) (fun _ => h2 _ _ _ hk ad H locs ls cells slots hw hl)
  · exact hk.elim
theorem s_icmp_lt (g : Good Z cc nL own lv) {off : Int} {tgt : Nat} (d : decode cc pc = .ok (.if_icmp .lt off, 3)) (ht : (pc : Int) + off = (tgt : Int)) (h1 : Snd Z nL tgt kt) (h2 : Snd Z nL (pc + 3) kf) : Snd Z nL pc (i_icmp (fun x y => x < y) kt kf) := by
  intro l st X hk ad H locs ls cells slots hw hl
  unfold i_icmp at hk
  split at hk
  · split at hk
    · next hc => exact lv_icmp_lt g.hx g.hb d ht (fun _ => h1 _ _ _ hk ad H locs ls cells slots hw hl) (fun hn => absurd hc hn)
    · next hc => exact lv_icmp_lt g.hx g.hb d ht (fun hn => absurd hn hc) (fun _ => h2 _ _ _ hk ad H locs ls cells slots hw hl)
  · exact hk.elim
theorem s_if_ge (g : Good Z cc nL own lv) {off : Int} {tgt : Nat} (d : decode cc pc = .ok (.ifCond .ge off, 3)) (ht : (pc : Int) + off = (tgt : Int)) (h1 : Snd Z nL tgt kt) (h2 : Snd Z nL (pc + 3) kf) : Snd Z nL pc (i_if (fun x y => y ≤ x) kt kf) := by
  intro l st X hk ad H locs ls cells slots hw hl
  unfold i_if at hk
  split at hk
  · split at hk
    · next hc => exact lv_if_ge g.hx g.hb d ht (fun _ => h1 _ _ _ hk ad H locs ls cells slots hw hl) (fun hn => absurd hc hn)
    · next hc => exact lv_if_ge g.hx g.hb d ht (fun hn => absurd hn hc) (fun _ => h2 _ _ _ hk ad H locs ls cells slots hw hl)
  · exact hk.elim
theorem s_icmp_ge (g : Good Z cc nL own lv) {off : Int} {tgt : Nat} (d : decode cc pc = .ok (.if_icmp .ge off, 3)) (ht : (pc : Int) + off = (tgt : Int)) (h1 : Snd Z nL tgt kt) (h2 : Snd Z nL (pc + 3) kf) : Snd Z nL pc (i_icmp (fun x y => y ≤ x) kt kf) := by
  intro l st X hk ad H locs ls cells slots hw hl
  unfold i_icmp at hk
  split at hk
  · split at hk
    · next hc => exact lv_icmp_ge g.hx g.hb d ht (fun _ => h1 _ _ _ hk ad H locs ls cells slots hw hl) (fun hn => absurd hc hn)
    · next hc => exact lv_icmp_ge g.hx g.hb d ht (fun hn => absurd hn hc) (fun _ => h2 _ _ _ hk ad H locs ls cells slots hw hl)
  · exact hk.elim
theorem s_if_gt (g : Good Z cc nL own lv) {off : Int} {tgt : Nat} (d : decode cc pc = .ok (.ifCond .gt off, 3)) (ht : (pc : Int) + off = (tgt : Int)) (h1 : Snd Z nL tgt kt) (h2 : Snd Z nL (pc + 3) kf) : Snd Z nL pc (i_if (fun x y => y < x) kt kf) := by
  intro l st X hk ad H locs ls cells slots hw hl
  unfold i_if at hk
  split at hk
  · split at hk
    · next hc => exact lv_if_gt g.hx g.hb d ht (fun _ => h1 _ _ _ hk ad H locs ls cells slots hw hl) (fun hn => absurd hc hn)
    · next hc => exact lv_if_gt g.hx g.hb d ht (fun hn => absurd hn hc) (fun _ => h2 _ _ _ hk ad H locs ls cells slots hw hl)
  · exact hk.elim
theorem s_icmp_gt (g : Good Z cc nL own lv) {off : Int} {tgt : Nat} (d : decode cc pc = .ok (.if_icmp .gt off, 3)) (ht : (pc : Int) + off = (tgt : Int)) (h1 : Snd Z nL tgt kt) (h2 : Snd Z nL (pc + 3) kf) : Snd Z nL pc (i_icmp (fun x y => y < x) kt kf) := by
  intro l st X hk ad H locs ls cells slots hw hl
  unfold i_icmp at hk
  split at hk
  · split at hk
    · next hc => exact lv_icmp_gt g.hx g.hb d ht (fun _ => h1 _ _ _ hk ad H locs ls cells slots hw hl) (fun hn => absurd hc hn)
    · next hc => exact lv_icmp_gt g.hx g.hb d ht (fun hn => absurd hn hc) (fun _ => h2 _ _ _ hk ad H locs ls cells slots hw hl)
  · exact hk.elim
theorem s_if_le (g : Good Z cc nL own lv) {off : Int} {tgt : Nat} (d : decode cc pc = .ok (.ifCond .le off, 3)) (ht : (pc : Int) + off = (tgt : Int)) (h1 : Snd Z nL tgt kt) (h2 : Snd Z nL (pc + 3) kf) : Snd Z nL pc (i_if (fun x y => x ≤ y) kt kf) := by
  intro l st X hk ad H locs ls cells slots hw hl
  unfold i_if at hk
  split at hk
  · split at hk
    · next hc => exact lv_if_le g.hx g.hb d ht (fun _ => h1 _ _ _ hk ad H locs ls cells slots hw hl) (fun hn => absurd hc hn)
    · next hc => exact lv_if_le g.hx g.hb d ht (fun hn => absurd hn hc) (fun _ => h2 _ _ _ hk ad H locs ls cells slots hw hl)
  · exact hk.elim
theorem s_icmp_le (g : Good Z cc nL own lv) {off : Int} {tgt : Nat} (d : decode cc pc = .ok (.if_icmp .le off, 3)) (ht : (pc : Int) + off = (tgt : Int)) (h1 : Snd Z nL tgt kt) (h2 : Snd Z nL (pc + 3) kf) : Snd Z nL pc (i_icmp (fun x y => x ≤ y) kt kf) := by
  intro l st X hk ad H locs ls cells slots hw hl
  unfold i_icmp at hk
  split at hk
  · split at hk
    · next hc => exact lv_icmp_le g.hx g.hb d ht (fun _ => h1 _ _ _ hk ad H locs ls cells slots hw hl) (fun hn => absurd hc hn)
    · next hc => exact lv_icmp_le g.hx g.hb d ht (fun hn => absurd hn hc) (fun _ => h2 _ _ _ hk ad H locs ls cells slots hw hl)
  · exact hk.elim
theorem s_goto (g : Good Z cc nL own lv) {off : Int} {tgt : Nat} (d : decode cc pc = .ok (.goto off, 3)) (ht : (pc : Int) + off = (tgt : Int)) (h : Snd Z nL tgt k) : Snd Z nL pc k :=
  fun l st X hk ad H locs ls cells slots hw hl => lv_goto g.hx g.hb d ht (h _ _ _ hk ad H locs ls cells slots hw hl)
end Rows
