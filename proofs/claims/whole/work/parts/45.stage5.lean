def goS (ln : Int32) (m2 : Sg) (i : Nat) : Prop := ln = 0 ∧ mSaid m2 i = 1
theorem enc_some (k : Nat) : enc (some k) = nI k := rfl
theorem enc_none : enc none = -1 := rfl
theorem m_go1 {m2 : Sg} {i : Nat} {a : Option Nat} (e : m2 135 i = enc a) (ha : ∀ k, a = some k → k < 11) : (mGo1 m2 i) 135 i = enc (adv a) ∧ ∀ b k, ¬ (b = 135 ∧ k = i) → mGo1 m2 i b k = m2 b k := by
  unfold mGo1
  rcases a with _ | k
  · rw [if_pos (by rw [e]; decide)]; exact ⟨e, fun _ _ _ => rfl⟩
  · have hk := ha k rfl
    rw [if_neg (by rw [e, enc_some, nI_ltl (by omega) (by decide)]; exact Nat.not_lt_zero _)]
    refine ⟨?_, fun b k x => su_ne x⟩
    rw [su_at, e, enc_some]
    by_cases d : k < 10
    · rw [if_neg (by rw [nI_eql (by omega) (by decide)]; omega), adv_lt d]; exact nI_al k 1
    · rw [if_pos (by rw [nI_eql (by omega) (by decide)]; omega), adv_ge d]; rfl
theorem st_go1 {m1 m2 : Sg} {i f q : Nat} {p a w : Option Nat} (h : ST m1 m2 i f q p p (adv a) a w) : ST m1 (mGo1 m2 i) i f q p p (adv a) (adv a) w := by
  have h' := h
  obtain ⟨-, -, -, -, -, -, -, -, ⟨p1, p2, p3, p4⟩, ⟨b1, b2, b3, b4, b5⟩, -⟩ := h
  obtain ⟨g1, g2⟩ := m_go1 b2 b4
  refine h'.upd (fun _ _ _ => rfl) (fun a k x => g2 _ _ (by omega)) ⟨p1, ?_, p3, p4⟩ ⟨b1, g1, b3, b3, ?_⟩
  · rw [g2 _ _ (by omega)]; exact p2
  · intro q
    rw [g2 136 _ (by omega)]
    exact b5 (Or.inl (q.elim id id))
theorem stop_eq {x y : Int32} (h : x = y) : x + 1 = y + 1 := by rw [h]
/-- a station stops: what it sends is not on the line -/
theorem st_stop {m1 m2 : Sg} {i f q : Nat} {cs ms ca ma w : Option Nat} (h : ST m1 m2 i f q cs ms ca ma w) : ST (su (su m1 (8 + 15 * i) 6 (-1)) (8 + 15 * i) 14 (m1 (8 + 15 * i) 14 + 1)) (su (su m2 134 i (-1)) 140 i (m2 140 i + 1)) i f q none none ca ma w := by
  obtain ⟨hf, hq, e4, e5, e6, hQ, hL, ⟨s1, s2, s3, s4, s5, s6, s7⟩, hP, hB, hW⟩ := h
  refine ⟨hf, hq, ?_, ?_, ?_, hQ.fr hf (fun a k x y => ?_) (fun k => ?_), hL.fr (fun a k x y => ?_), ⟨?_, ?_, fun g hg => ?_, ?_, ?_, ?_, ?_⟩, ⟨?_, ?_, (by rintro k hk; cases hk), (by rintro k hk; cases hk)⟩, ?_, ?_⟩
  · rw [su_nj (by decide), su_nj (by decide)]; exact e4
  · rw [su_nj (by decide), su_nj (by decide)]; exact e5
  · rw [su_na (by decide), su_na (by decide)]; exact e6
  · rw [su_na (by omega), su_na (by omega)]
  · rw [su_na (by decide), su_na (by decide)]
  · rw [su_na (by omega), su_na (by omega)]
  · rw [su_nj (by decide), su_nj (by decide), su_na (by decide), su_na (by decide)]; exact s1
  · rw [su_nj (by decide), su_nj (by decide), su_na (by decide), su_na (by decide)]; exact s2
  · rw [su_na (by omega), su_na (by omega), su_na (by decide), su_na (by decide)]; exact s3 g hg
  · rw [su_nj (by decide), su_nj (by decide), su_na (by decide), su_na (by decide)]; exact s4
  · rw [su_nj (by decide), su_nj (by decide), su_na (by decide), su_na (by decide)]; exact s5
  · rw [su_at, su_at]; exact stop_eq s6
  · rw [su_na (by decide), su_na (by decide)]; exact s7
  · rw [su_nj (by decide), su_at]; rfl
  · rw [su_na (by decide), su_at]; rfl
  · unfold SB at hB ⊢
    rw [su_nj (show (10 : Nat) ≠ 14 by decide), su_nj (show (10 : Nat) ≠ 6 by decide), su_nj (show (11 : Nat) ≠ 14 by decide), su_nj (show (11 : Nat) ≠ 6 by decide), su_na (show (135 : Nat) ≠ 140 by decide), su_na (show (135 : Nat) ≠ 134 by decide), su_na (show (136 : Nat) ≠ 140 by decide), su_na (show (136 : Nat) ≠ 134 by decide)]
    exact hB
  · unfold SW at hW ⊢
    rw [su_nj (show (8 : Nat) ≠ 14 by decide), su_nj (show (8 : Nat) ≠ 6 by decide), su_nj (show (9 : Nat) ≠ 14 by decide), su_nj (show (9 : Nat) ≠ 6 by decide), su_na (show (137 : Nat) ≠ 140 by decide), su_na (show (137 : Nat) ≠ 134 by decide)]
    exact hW
/-- a station has said its telegram to the end -/
theorem st_said {m1 m2 : Sg} {i f q n y T : Nat} {cs ms ca ma : Option Nat} (h : ST m1 m2 i f q cs ms ca ma none) (hq0 : 0 < q) (ev : EV (qx m2 i 0) n y) (te : TE m1 (8 + 15 * i + 3 + 2 * f) (qx m2 i 0) n) (hy : y ≤ 3) (hT : T < 200000) : ST (su (su (cCount (su m1 (8 + 15 * i) 6 (-1)) (8 + 15 * i + 3 + 2 * f) (n + 7)) (8 + 15 * i) 8 1) (8 + 15 * i) 9 (nI T + 28)) (su (su (su m2 134 i (-1)) 137 i (nI T)) 133 (36 * i + 5) (m2 133 (36 * i + 5) + 1)) i f q none none ca ma (some T) := by
  obtain ⟨hf, hq, e4, e5, e6, hQ, hL, ⟨s1, s2, s3, s4, s5, s6, s7⟩, hP, hB, hW⟩ := h
  -- class cells of the station's object
  have cA : ∀ k, k ≠ 6 → k ≠ 8 → k ≠ 9 → (su (su (cCount (su m1 (8 + 15 * i) 6 (-1)) (8 + 15 * i + 3 + 2 * f) (n + 7)) (8 + 15 * i) 8 1) (8 + 15 * i) 9 (nI T + 28)) (8 + 15 * i) k = m1 (8 + 15 * i) k := by
    intro k h1 h2 h3
    rw [su_nj h3, su_nj h2, cCount_fr (by omega) (by omega), su_nj h1]
  have cB : ∀ a k, a ≠ 8 + 15 * i → (su (su (cCount (su m1 (8 + 15 * i) 6 (-1)) (8 + 15 * i + 3 + 2 * f) (n + 7)) (8 + 15 * i) 8 1) (8 + 15 * i) 9 (nI T + 28)) a k = cCount (su m1 (8 + 15 * i) 6 (-1)) (8 + 15 * i + 3 + 2 * f) (n + 7) a k := by
    intro a k h1
    rw [su_na h1, su_na h1]
  have mB : ∀ a k, a ≠ 134 → a ≠ 137 → a ≠ 133 → (su (su (su m2 134 i (-1)) 137 i (nI T)) 133 (36 * i + 5) (m2 133 (36 * i + 5) + 1)) a k = m2 a k := by
    intro a k h1 h2 h3
    rw [su_na h3, su_na h2, su_na h1]
  have x5 : m2 133 (36 * i + 5) = nI y := by rw [qx0 m2]; exact ev.2.2.2.2.2.2
  have te6 : TE (su m1 (8 + 15 * i) 6 (-1)) (8 + 15 * i + 3 + 2 * f) (qx m2 i 0) n := te.cg (fun _ _ => rfl) (fun k => (su_na (by omega)).symm) (fun k => (su_na (by omega)).symm)
  have hL6 : SLn (su m1 (8 + 15 * i) 6 (-1)) (8 + 15 * i) := hL.fr (fun a k x y => su_na (by omega))
  have qj : ∀ j c, c < 6 → (j ≠ 0 ∨ c ≠ 5) → qx (su (su (su m2 134 i (-1)) 137 i (nI T)) 133 (36 * i + 5) (m2 133 (36 * i + 5) + 1)) i j c = qx m2 i j c := by
    intro j c hc h
    unfold qx
    rw [su_nj (by omega), su_na (by decide), su_na (by decide)]
  have q5 : qx (su (su (su m2 134 i (-1)) 137 i (nI T)) 133 (36 * i + 5) (m2 133 (36 * i + 5) + 1)) i 0 5 = nI (y + 1) := by
    show su (su (su m2 134 i (-1)) 137 i (nI T)) 133 (36 * i + 5) (m2 133 (36 * i + 5) + 1) 133 (36 * i + 6 * 0 + 5) = _
    rw [Nat.mul_zero, Nat.add_zero, su_at, x5]; exact nI_al y 1
  refine ⟨hf, hq, ?_, ?_, ?_, ?_, ?_, ⟨?_, ?_, fun g hg => ?_, ?_, ?_, ?_, ?_⟩, ⟨?_, ?_, (by rintro k hk; cases hk), (by rintro k hk; cases hk)⟩, ?_, ?_⟩
  · rw [cA 4 (by decide) (by decide) (by decide)]; exact e4
  · rw [cA 5 (by decide) (by decide) (by decide)]; exact e5
  · rw [mB _ _ (by decide) (by decide) (by decide)]; exact e6
  · intro j hj
    by_cases j0 : j = 0
    · subst j0
      have eT : (f + 0) % 6 = f := by omega
      have eq : ∀ c, c < 6 → xUp (qx m2 i 0) (nI (y + 1)) c = qx (su (su (su m2 134 i (-1)) 137 i (nI T)) 133 (36 * i + 5) (m2 133 (36 * i + 5) + 1)) i 0 c := by
        intro c hc
        by_cases c5 : c = 5
        · subst c5; rw [q5]; rfl
        · rw [qj 0 c hc (Or.inr c5), xUp_ne c5]
      refine ⟨n, y + 1, (ev.up hy).cg eq, ?_, Or.inr ⟨rfl, Option.some_ne_none T⟩⟩
      rw [eT]
      exact (te6.count ev hy).cg eq (fun k => (cB _ _ (by omega)).symm) (fun k => (cB _ _ (by omega)).symm)
    · obtain ⟨n', y', ev', te', hy'⟩ := hQ j hj
      have hm : (f + j) % 6 < 6 := Nat.mod_lt _ (by decide)
      have hne : (f + j) % 6 ≠ f := by omega
      have te'' : TE (su m1 (8 + 15 * i) 6 (-1)) (8 + 15 * i + 3 + 2 * ((f + j) % 6)) (qx m2 i j) n' := te'.cg (fun _ _ => rfl) (fun k => (su_na (by omega)).symm) (fun k => (su_na (by omega)).symm)
      refine ⟨n', y', ev'.cg (fun c hc => (qj j c hc (Or.inl j0)).symm), (te''.count_ne (by omega)).cg (fun c hc => (qj j c hc (Or.inl j0)).symm) (fun k => (cB _ _ (by omega)).symm) (fun k => (cB _ _ (by omega)).symm), ?_⟩
      exact hy'.elim Or.inl (fun q => absurd q.1 j0)
  · exact (hL6.count hf te6 ev hy).fr (fun a k x y => cB _ _ (by omega))
  · rw [cA 2 (by decide) (by decide) (by decide), mB _ _ (by decide) (by decide) (by decide)]; exact s1
  · rw [cA 3 (by decide) (by decide) (by decide), mB _ _ (by decide) (by decide) (by decide)]; exact s2
  · rw [cB _ _ (by omega), cCount_fr (by omega) (by omega), su_na (by omega), mB _ _ (by decide) (by decide) (by decide)]; exact s3 g hg
  · rw [cA 12 (by decide) (by decide) (by decide), mB _ _ (by decide) (by decide) (by decide)]; exact s4
  · rw [cA 13 (by decide) (by decide) (by decide), mB _ _ (by decide) (by decide) (by decide)]; exact s5
  · rw [cA 14 (by decide) (by decide) (by decide), mB _ _ (by decide) (by decide) (by decide)]; exact s6
  · rw [mB _ _ (by decide) (by decide) (by decide)]; exact s7
  · rw [su_nj (by decide), su_nj (by decide), cCount_fr (by omega) (by omega), su_at]; rfl
  · rw [su_na (by decide), su_na (by decide), su_at]; rfl
  · unfold SB at hB ⊢
    rw [cA 10 (by decide) (by decide) (by decide), cA 11 (by decide) (by decide) (by decide), mB 135 _ (by decide) (by decide) (by decide), mB 136 _ (by decide) (by decide) (by decide)]
    exact hB
  · refine ⟨?_, fun q => absurd q (Option.some_ne_none T), ?_⟩
    · rw [su_na (by decide), su_at]; rfl
    · rintro u hu
      cases hu
      refine ⟨hT, ?_, ?_⟩
      · rw [su_nj (by decide), su_at]
      · rw [su_at]; exact nI_al T 28
