/-! send: the relation behind it -/
theorem cDb_at {T : Nat} {b : Int32} {m : Sg} {n k : Nat} (hk : k < n) : itr (cDb T b) m n (T + 1) (6 + k) = (b + nI k) &&& 255 := by
  induction n with
  | zero => omega
  | succ n ih =>
    show su (itr (cDb T b) m n) (T + 1) (6 + n) ((b + nI n) &&& 255) (T + 1) (6 + k) = _
    by_cases c : k = n
    · subst c; exact su_at _ _ _ _
    · rw [su_nj (by omega)]; exact ih (by omega)
/-- the memory of a telegram ahead of its seal -/
theorem cDt_b {m : Sg} {T : Nat} {pr own aim g b : Int32} {n : Nat} (hn : 1 ≤ n ∧ n ≤ 14) {x : Nat → Int32} {a1 a2 b9 g9 : Nat} (h1 : own = nI a1) (ha1 : a1 < 65536) (h2 : aim = nI a2) (ha2 : a2 < 65536) (hb : b = nI b9) (hb9 : b9 < 256) (hg9 : g9 < 2) (hg : (if g = 0 then (0 : Int32) else 128) = nI (128 * g9)) (x0 : x 0 = pr) (x1 : x 1 = own) (x2 : x 2 = aim) (x3 : x 3 = nI (128 * g9 + (n - 1))) (x4 : x 4 = b) : ∀ k, 1 ≤ k → k < n + 6 → cDt (cHd m T pr own aim) T g n b (T + 1) k = tP x k := by
  intro k k1 k2
  have lo : ∀ k, k ≤ 4 → cDt (cHd m T pr own aim) T g n b (T + 1) k = cHd m T pr own aim (T + 1) k := fun k hk => cDt_o (by omega) (by omega)
  rcases (show k = 1 ∨ k = 2 ∨ k = 3 ∨ k = 4 ∨ k = 5 ∨ 6 ≤ k by omega) with rfl | rfl | rfl | rfl | rfl | h6
  · rw [lo _ (by decide)]
    unfold cHd
    rw [su_nj (by decide), su_nj (by decide), su_nj (by decide), su_at]
    show _ = x 1 / 256
    rw [x1, h1, nI_shr8 ha1, nI_255, nI_dl (by omega) (by decide) (by decide)]
    exact congrArg nI (show a1 / 256 % 256 = a1 / 256 by omega)
  · rw [lo _ (by decide)]
    unfold cHd
    rw [su_nj (by decide), su_nj (by decide), su_at]
    show _ = x 1 - x 1 / 256 * 256
    rw [x1, h1, nI_255, nI_rl (by omega) (by decide) (by decide)]
  · rw [lo _ (by decide)]
    unfold cHd
    rw [su_nj (by decide), su_at]
    show _ = x 2 / 256
    rw [x2, h2, nI_shr8 ha2, nI_255, nI_dl (by omega) (by decide) (by decide)]
    exact congrArg nI (show a2 / 256 % 256 = a2 / 256 by omega)
  · rw [lo _ (by decide)]
    unfold cHd
    rw [su_at]
    show _ = x 2 - x 2 / 256 * 256
    rw [x2, h2, nI_255, nI_rl (by omega) (by decide) (by decide)]
  · unfold cDt
    rw [su_na (by omega), cDb_o (by omega), su_at]
    show _ = x 3
    rw [x3, hg, nI_add, nI_sl (by show 1 ≤ _; omega)]
    exact congrArg nI (show 128 * g9 + n - 1 = _ by omega)
  · obtain ⟨k', rfl⟩ : ∃ k', k = k' + 6 := ⟨k - 6, by omega⟩
    unfold cDt
    rw [su_na (by omega), Nat.add_comm k' 6, cDb_at (by omega), Nat.add_comm 6 k']
    show _ = (x 4 + nI (k' + 6) - 6) - (x 4 + nI (k' + 6) - 6) / 256 * 256
    rw [x4, hb, nI_add, nI_255, nI_add, nI_sl (by show 6 ≤ _; omega), nI_rl (by omega) (by decide) (by decide)]
    exact congrArg nI (show (b9 + k') % 256 = (b9 + (k' + 6) - 6) % 256 by omega)
theorem TE.new {m : Sg} {T : Nat} {pr own aim g b : Int32} {n : Nat} (hn : 1 ≤ n ∧ n ≤ 14) {x : Nat → Int32} {a1 a2 b9 g9 : Nat} (h1 : own = nI a1) (ha1 : a1 < 65536) (h2 : aim = nI a2) (ha2 : a2 < 65536) (hb : b = nI b9) (hb9 : b9 < 256) (hg9 : g9 < 2) (hg : (if g = 0 then (0 : Int32) else 128) = nI (128 * g9)) (x0 : x 0 = pr) (x1 : x 1 = own) (x2 : x 2 = aim) (x3 : x 3 = nI (128 * g9 + (n - 1))) (x4 : x 4 = b) (x5 : x 5 = 0) (hx : tS x = nI (n + 7)) : TE (cSeal (cDt (cHd m T pr own aim) T g n b) T (n + 7)) T x n := by
  have bb := cDt_b (m := m) (T := T) hn h1 ha1 h2 ha2 hb hb9 hg9 hg x0 x1 x2 x3 x4
  have d1 : cDt (cHd m T pr own aim) T g n b T 1 = nI (n + 7) := by unfold cDt; rw [su_at, Nat.add_comm]
  have d2 : cDt (cHd m T pr own aim) T g n b T 2 = pr := by
    rw [cDt_o (by omega) (by omega)]; unfold cHd
    rw [su_na (by omega), su_na (by omega), su_na (by omega), su_na (by omega), su_nj (by decide), su_at]
  have d3 : cDt (cHd m T pr own aim) T g n b T 3 = 0 := by
    rw [cDt_o (by omega) (by omega)]; unfold cHd
    rw [su_na (by omega), su_na (by omega), su_na (by omega), su_na (by omega), su_at]
  generalize cDt (cHd m T pr own aim) T g n b = y at *
  have ctl : cCtl y T = tP x 0 := by
    unfold cCtl
    show _ = 176 + 4 * x 0 - (if x 5 ≤ 0 then 0 else 32)
    rw [d2, d3, x0, x5]
  have pre : ∀ k, k < n + 6 → su y (T + 1) 0 (cCtl y T) (T + 1) k = tP x k := by
    intro k hk
    by_cases k0 : k = 0
    · subst k0; rw [su_at]; exact ctl
    · rw [su_nj k0]; exact bb k (by omega) hk
  have chk : ∀ k, k ≤ n + 6 → cChk (su y (T + 1) 0 (cCtl y T)) T k = tC x k := by
    intro k
    induction k with
    | zero => intro _; rfl
    | succ k ih =>
      intro hk
      show _ ^^^ _ = _ ^^^ _
      rw [ih (by omega), pre k (by omega)]
  refine ⟨?_, ?_, ?_, ?_⟩
  · unfold cSeal; rw [su_na (by omega), su_na (by omega)]; exact d1
  · unfold cSeal; rw [su_na (by omega), su_na (by omega), d2]; exact x0.symm
  · unfold cSeal; rw [su_na (by omega), su_na (by omega), d3]; exact x5.symm
  · intro k hk
    unfold cSeal tB
    rw [hx]
    by_cases kl : k = n + 6
    · subst kl
      rw [show n + 7 - 1 = n + 6 by omega, su_at, if_pos (by rw [nI_leI (by omega) (by omega)]; omega)]
      exact chk _ (by omega)
    · rw [su_nj (by omega), if_neg (by rw [nI_leI (by omega) (by omega)]; omega)]
      exact pre k (by omega)
theorem cSnd_o {m : Sg} {i f q : Nat} {pr aim g : Int32} {n : Nat} {b : Int32} {a j : Nat} (h1 : ¬ (a = 8 + 15 * i ∧ j = 5)) (h2 : ¬ (a = 8 + 15 * i + 3 + 2 * ((f + q) % 6))) (h3 : ¬ (a = 8 + 15 * i + 3 + 2 * ((f + q) % 6) + 1)) : cSnd m i f q pr aim g n b a j = m a j := by
  unfold cSnd cSeal
  rw [su_na (by omega), su_na (by omega), cDt_o (by omega) (by omega), cHd_o (by omega) (by omega), su_ne h1]
theorem cSnd_hi {m : Sg} {i f q : Nat} {pr aim g : Int32} {n : Nat} {b : Int32} {j : Nat} (hn : 1 ≤ n) (h : n + 7 ≤ j) : cSnd m i f q pr aim g n b (8 + 15 * i + 3 + 2 * ((f + q) % 6) + 1) j = m (8 + 15 * i + 3 + 2 * ((f + q) % 6) + 1) j := by
  have db : ∀ (x : Sg) (T : Nat) (v : Int32) (k : Nat), k ≤ n → itr (cDb T v) x k (T + 1) j = x (T + 1) j := by
    intro x T v k
    induction k with
    | zero => intro _; rfl
    | succ k ih => intro hk; show su (itr (cDb T v) x k) (T + 1) (6 + k) _ (T + 1) j = _; rw [su_nj (by omega)]; exact ih (by omega)
  unfold cSnd cSeal
  rw [su_nj (by omega), su_nj (by omega)]
  unfold cDt
  rw [su_na (by omega), db _ _ _ _ (Nat.le_refl _), su_nj (by omega), cHd_o (by omega) (by omega), su_na (by omega)]
theorem mSnd_o {m : Sg} {s q : Nat} {pr aim g : Int32} {n : Nat} {b : Int32} {a j : Nat} (h1 : ¬ (a = 132 ∧ j = s)) (h2 : ¬ (a = 133 ∧ 36 * s + 6 * q ≤ j ∧ j < 36 * s + 6 * q + 6)) : mSnd m s q pr aim g n b a j = m a j := by
  unfold mSnd
  rw [su_ne h1, su_ne (by omega), su_ne (by omega), su_ne (by omega), su_ne (by omega), su_ne (by omega), su_ne (by omega)]
theorem mSnd_x {m : Sg} {s q : Nat} {pr aim g : Int32} {n : Nat} {b : Int32} : let x := qx (mSnd m s q pr aim g n b) s q; x 0 = pr ∧ x 1 = m 129 s ∧ x 2 = aim ∧ x 3 = (if g = 0 then 0 else 128) + nI n - 1 ∧ x 4 = b ∧ x 5 = 0 := by
  unfold qx mSnd
  refine ⟨?_, ?_, ?_, ?_, ?_, ?_⟩
  · show su _ _ _ _ 133 (36 * s + 6 * q + 0) = _
    rw [su_na (by decide), su_nj (by omega), su_nj (by omega), su_nj (by omega), su_nj (by omega), su_nj (by omega)]
    exact su_at _ _ _ _
  · show su _ _ _ _ 133 (36 * s + 6 * q + 1) = _
    rw [su_na (by decide), su_nj (by omega), su_nj (by omega), su_nj (by omega), su_nj (by omega), su_at]
  · show su _ _ _ _ 133 (36 * s + 6 * q + 2) = _
    rw [su_na (by decide), su_nj (by omega), su_nj (by omega), su_nj (by omega), su_at]
  · show su _ _ _ _ 133 (36 * s + 6 * q + 3) = _
    rw [su_na (by decide), su_nj (by omega), su_nj (by omega), su_at]
  · show su _ _ _ _ 133 (36 * s + 6 * q + 4) = _
    rw [su_na (by decide), su_nj (by omega), su_at]
  · show su _ _ _ _ 133 (36 * s + 6 * q + 5) = _
    rw [su_na (by decide), su_at]
theorem TE.cg2 {m m' : Sg} {T n : Nat} {x x' : Nat → Int32} (h : TE m T x n) (e : ∀ c, c < 6 → x c = x' c) (e1 : ∀ k, m' T k = m T k) (e2 : ∀ k, m' (T + 1) k = m (T + 1) k) : TE m' T x' n := h.cg e (fun k => (e1 k).symm) (fun k => (e2 k).symm)
theorem rr_send {m m' : Sg} {t d d1 D s f q n : Nat} {pr aim g b : Int32} (hs : s < 8) (h : RR m m t d d1 D) (hf : f < 6) (hq : q < 6) (ef : m (8 + 15 * s) 4 = nI f) (eq : m (8 + 15 * s) 5 = nI q) (hn : 1 ≤ n ∧ n ≤ 14) (hpr : IN pr 4) (haim : IN aim 65536) (hb : IN b 256) (hg : g = 0 ∨ g = 1) (em : m' = mSnd (m0 (cSnd m s f q pr aim g n b) 0) s q pr aim g n b) : RR m' m' t d d1 D := by
  have hm : (f + q) % 6 < 6 := Nat.mod_lt _ (by decide)
  have lo : ∀ a j, a < 128 → m' a j = cSnd m s f q pr aim g n b a j := fun a j x => by
    rw [em, mSnd_o (by omega) (by omega)]; exact su_na (by omega)
  have hi : ∀ a j, 128 ≤ a → ¬ (a = 128 ∧ j = 0) → ¬ (a = 132 ∧ j = s) → ¬ (a = 133 ∧ 36 * s + 6 * q ≤ j ∧ j < 36 * s + 6 * q + 6) → m' a j = m a j := fun a j x y z u => by
    rw [em, mSnd_o z u]
    unfold m0
    rw [su_ne y]
    exact cSnd_o (by omega) (by omega) (by omega)
  have lo2 : ∀ a j, a < 128 → ¬ (a = 8 + 15 * s ∧ j = 5) → ¬ (a = 8 + 15 * s + 3 + 2 * ((f + q) % 6)) → ¬ (a = 8 + 15 * s + 3 + 2 * ((f + q) % 6) + 1) → m' a j = m a j := fun a j x y z u => (lo a j x).trans (cSnd_o y z u)
  have m129 : m0 (cSnd m s f q pr aim g n b) 0 129 s = m 129 s := by
    unfold m0; rw [su_na (by decide)]; exact cSnd_o (by omega) (by omega) (by omega)
  have hx := mSnd_x (m := m0 (cSnd m s f q pr aim g n b) 0) (s := s) (q := q) (pr := pr) (aim := aim) (g := g) (n := n) (b := b)
  rw [← em, m129] at hx
  obtain ⟨x0, x1, x2, x3, x4, x5⟩ := hx
  refine RR.st hs h (fun a j x y => lo2 _ _ x (by omega) (by omega) (by omega)) (fun a j x y z u => hi _ _ x u (fun r => z (by rw [r.1, r.2]; rfl)) (fun r => z (by rw [r.1]; show j / 36 = s; omega))) ?_
  obtain ⟨f', q', p, a, w, hst, hcd⟩ := h.r0 hs
  obtain ⟨hf', hq', e4, e5, e132, hQ, ⟨l1, l2, l3⟩, ⟨s1, s2, s3, s4, s5, s6, ad, had, s7⟩, hP, hB, hW⟩ := hst
  have ff : f' = f := (nI_eq (by omega) (by omega)).mp (e4.symm.trans ef)
  have qq : q' = q := (nI_eq (by omega) (by omega)).mp (e5.symm.trans eq)
  subst ff qq
  obtain ⟨p9, hp9, rfl⟩ := hpr
  obtain ⟨a9, ha9, rfl⟩ := haim
  obtain ⟨b9, hb9, rfl⟩ := hb
  have hgg : ∃ g9, g9 < 2 ∧ (if g = 0 then (0 : Int32) else 128) = nI (128 * g9) := by
    rcases hg with rfl | rfl
    · exact ⟨0, by decide, rfl⟩
    · exact ⟨1, by decide, rfl⟩
  obtain ⟨g9, hg9, eg9⟩ := hgg
  have x3' : qx m' s q' 3 = nI (128 * g9 + (n - 1)) := by
    rw [x3, eg9, nI_add, nI_sl (by show 1 ≤ _; omega)]
    exact congrArg nI (show 128 * g9 + n - 1 = _ by omega)
  have ev : EV (qx m' s q') n 0 := ⟨⟨p9, hp9, x0⟩, ⟨ad, had, x1.trans s7⟩, ⟨a9, ha9, x2⟩, ⟨hn.1, hn.2, g9, hg9, x3'⟩, ⟨b9, hb9, x4⟩, by decide, x5⟩
  have own : m (8 + 15 * s) 2 = nI ad := s1.trans s7
  have te1 : TE (cSnd m s f' q' (nI p9) (nI a9) g n (nI b9)) (8 + 15 * s + 3 + 2 * ((f' + q') % 6)) (qx m' s q') n := by
    unfold cSnd
    exact TE.new hn own had rfl ha9 rfl hb9 hg9 eg9 x0 (x1.trans (s7.trans own.symm)) x2 x3' x4 x5 ev.size
  have te : TE m' (8 + 15 * s + 3 + 2 * ((f' + q') % 6)) (qx m' s q') n := te1.cg2 (fun _ _ => rfl) (fun k => lo _ _ (by omega)) (fun k => lo _ _ (by omega))
  have m5 : m' (8 + 15 * s) 5 = nI (q' + 1) := by
    rw [lo _ _ (by omega)]
    unfold cSnd cSeal
    rw [su_na (by omega), su_na (by omega), cDt_o (by omega) (by omega), cHd_o (by omega) (by omega), su_at]
  have m132 : m' 132 s = nI (q' + 1) := by rw [em]; unfold mSnd; exact su_at _ _ _ _
  have qold : ∀ j c, j < q' → c < 6 → qx m' s j c = qx m s j c := fun j c hj hc => hi _ _ (by decide) (by omega) (by omega) (by omega)
  refine ⟨f', q' + 1, p, a, w, ⟨hf', by omega, ?_, m5, m132, fun j hj => ?_, ⟨fun j hj => ?_, fun j k hj hk => ?_, fun k => ?_⟩, ⟨?_, ?_, fun k hk => ?_, ?_, ?_, ?_, ad, had, ?_⟩, ?_, ?_, ?_⟩, ⟨fun k hk => ?_, hcd.2.1, fun u hu => ?_⟩⟩
  · rw [lo2 _ _ (by omega) (by omega) (by omega) (by omega)]; exact e4
  · by_cases c : j = q'
    · subst c; exact ⟨n, 0, ev, te, Or.inl (by decide)⟩
    · obtain ⟨n', y', ev', te', hy'⟩ := hQ j (by omega)
      have hmj : (f' + j) % 6 < 6 := Nat.mod_lt _ (by decide)
      have hne : (f' + j) % 6 ≠ (f' + q') % 6 := by omega
      have qo := fun c hc => (qold j c (by omega) hc).symm
      exact ⟨n', y', ev'.cg qo, te'.cg2 qo (fun k => lo2 _ _ (by omega) (by omega) (by omega) (by omega)) (fun k => lo2 _ _ (by omega) (by omega) (by omega) (by omega)), hy'⟩
  · by_cases c : j = (f' + q') % 6
    · subst c; exact ⟨n + 7, by omega, by omega, te.1⟩
    · rw [lo2 _ _ (by omega) (by omega) (by omega) (by omega)]; exact l1 j hj
  · by_cases c : j = (f' + q') % 6
    · subst c
      by_cases k7 : k < n + 7
      · rw [te.2.2.2 k k7]; exact ev.byte (by omega)
      · rw [lo _ _ (by omega), cSnd_hi hn.1 (by omega)]; exact l2 _ k hj hk
    · rw [lo2 _ _ (by omega) (by omega) (by omega) (by omega)]; exact l2 j k hj hk
  · rw [lo2 _ _ (by omega) (by omega) (by omega) (by omega)]; exact l3 k
  · rw [lo2 _ _ (by omega) (by omega) (by omega) (by omega), hi _ _ (by decide) (by omega) (by omega) (by omega)]; exact s1
  · rw [lo2 _ _ (by omega) (by omega) (by omega) (by omega), hi _ _ (by decide) (by omega) (by omega) (by omega)]; exact s2
  · rw [lo2 _ _ (by omega) (by omega) (by omega) (by omega), hi _ _ (by decide) (by omega) (by omega) (by omega)]; exact s3 k hk
  · rw [lo2 _ _ (by omega) (by omega) (by omega) (by omega), hi _ _ (by decide) (by omega) (by omega) (by omega)]; exact s4
  · rw [lo2 _ _ (by omega) (by omega) (by omega) (by omega), hi _ _ (by decide) (by omega) (by omega) (by omega)]; exact s5
  · rw [lo2 _ _ (by omega) (by omega) (by omega) (by omega), hi _ _ (by decide) (by omega) (by omega) (by omega)]; exact s6
  · rw [hi _ _ (by decide) (by omega) (by omega) (by omega)]; exact s7
  · unfold SP at hP ⊢
    rw [lo2 _ 6 (by omega) (by omega) (by omega) (by omega), hi 134 _ (by decide) (by omega) (by omega) (by omega)]; exact hP
  · unfold SB at hB ⊢
    rw [lo2 _ 10 (by omega) (by omega) (by omega) (by omega), lo2 _ 11 (by omega) (by omega) (by omega) (by omega), hi 135 _ (by decide) (by omega) (by omega) (by omega), hi 136 _ (by decide) (by omega) (by omega) (by omega)]; exact hB
  · unfold SW at hW ⊢
    rw [lo2 _ 8 (by omega) (by omega) (by omega) (by omega), lo2 _ 9 (by omega) (by omega) (by omega) (by omega), hi 137 _ (by decide) (by omega) (by omega) (by omega)]; exact hW
  · obtain ⟨y1, y2, y3, y4, y5, y6⟩ := hcd.1 k hk
    exact ⟨y1, y2, y3, by omega, fun n' y' e' => y5 n' y' (e'.cg (fun c hc => qold 0 c y4 hc)), y6⟩
  · obtain ⟨z1, z2, z3⟩ := hcd.2.2 u hu
    exact ⟨z1, z2, by omega⟩
