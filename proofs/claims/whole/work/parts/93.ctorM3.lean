theorem i_M {X : Mm} {f : Nat → Int32} (hn : xn X = 129) (hk : xk X 128 = 4) (hl : xl X 128 = 0) (hf : xm X 128 = f) {post : Option Value → Mm → Prop} (h : ∀ X', MI X X' 17 20533 (upd (upd f 2 1000000) 33 (-1)) → post none X') : w_M_init [.ref 128] X post := by
  have M0 : MI X X 0 0 f := ⟨hn, rfl, rfl, fun k hk => ⟨rfl, rfl, rfl, rfl⟩, hk, hl, fun k h1 h2 => absurd h2 (by omega), fun j b hb hb2 => ?_, hf⟩
  · rw [w_M_init, e_wp, e_b_M_init_0]
    refine ⟨by show 1 ≤ 1; decide, ?_⟩
    show i_aload 0 _ [(0, .ref 128)] [] X
    rw [e_aload]
    show i_obj _ [(0, .ref 128)] [.ref 128] X
    rw [e_obj, e_aload]
    show i_push _ _ [(0, .ref 128)] [.ref 128] X
    rw [e_push, e_putI]
    refine ⟨by omega, hk, ?_⟩
    have M1 := mi_put (j := 2) (v := 1000000) M0
    refine mi_np8 (by decide) M1 (j := 3) rfl rfl rfl ⟨rfl, rfl, rfl, rfl, rfl, rfl, rfl, rfl⟩ (by decide) ?_
    intro Y1 N1
    refine mi_np (by decide) N1 (j := 4) (N := 2048) rfl rfl rfl (fun t => by unfold iniM; rw [if_neg (by decide), if_neg (by decide)]) (by decide) rfl (by decide) (by decide) ?_
    intro Y2 N2
    refine mi_np (by decide) N2 (j := 5) (N := 8) rfl rfl rfl (fun t => by unfold iniM; rw [if_neg (by decide), if_neg (by decide)]) (by decide) rfl (by decide) (by decide) ?_
    intro Y3 N3
    refine mi_np (by decide) N3 (j := 6) (N := 8) rfl rfl rfl (fun t => by unfold iniM; rw [if_neg (by decide), if_neg (by decide)]) (by decide) rfl (by decide) (by decide) ?_
    intro Y4 N4
    refine mi_np (by decide) N4 (j := 7) (N := 288) rfl rfl rfl (fun t => by unfold iniM; rw [if_neg (by decide), if_neg (by decide)]) (by decide) rfl (by decide) (by decide) ?_
    intro Y5 N5
    refine mi_np8 (by decide) N5 (j := 8) rfl rfl rfl ⟨rfl, rfl, rfl, rfl, rfl, rfl, rfl, rfl⟩ (by decide) ?_
    intro Y6 N6
    refine mi_np8 (by decide) N6 (j := 9) rfl rfl rfl ⟨rfl, rfl, rfl, rfl, rfl, rfl, rfl, rfl⟩ (by decide) ?_
    intro Y7 N7
    refine mi_np (by decide) N7 (j := 10) (N := 8) rfl rfl rfl (fun t => by unfold iniM; rw [if_neg (by decide), if_neg (by decide)]) (by decide) rfl (by decide) (by decide) ?_
    intro Y8 N8
    refine mi_np8 (by decide) N8 (j := 11) rfl rfl rfl ⟨rfl, rfl, rfl, rfl, rfl, rfl, rfl, rfl⟩ (by decide) ?_
    intro Y9 N9
    refine mi_np (by decide) N9 (j := 12) (N := 8) rfl rfl rfl (fun t => by unfold iniM; rw [if_neg (by decide), if_neg (by decide)]) (by decide) rfl (by decide) (by decide) ?_
    intro Y10 N10
    refine mi_np (by decide) N10 (j := 13) (N := 8) rfl rfl rfl (fun t => by unfold iniM; rw [if_neg (by decide), if_neg (by decide)]) (by decide) rfl (by decide) (by decide) ?_
    intro Y11 N11
    refine mi_np (by decide) N11 (j := 14) (N := 8) rfl rfl rfl (fun t => by unfold iniM; rw [if_neg (by decide), if_neg (by decide)]) (by decide) rfl (by decide) (by decide) ?_
    intro Y12 N12
    refine mi_np (by decide) N12 (j := 15) (N := 2048) rfl rfl rfl (fun t => by unfold iniM; rw [if_neg (by decide), if_neg (by decide)]) (by decide) rfl (by decide) (by decide) ?_
    intro Y13 N13
    refine mi_np (by decide) N13 (j := 17) (N := 64) rfl rfl rfl (fun t => by unfold iniM; rw [if_neg (by decide), if_neg (by decide)]) (by decide) rfl (by decide) (by decide) ?_
    intro Y14 N14
    refine mi_np (by decide) N14 (j := 26) (N := 8000) rfl rfl rfl (fun t => by unfold iniM; rw [if_neg (by decide), if_neg (by decide)]) (by decide) rfl (by decide) (by decide) ?_
    intro Y15 N15
    refine mi_np (by decide) N15 (j := 27) (N := 5) rfl rfl rfl (fun t => by unfold iniM; rw [if_neg (by decide), if_neg (by decide)]) (by decide) rfl (by decide) (by decide) ?_
    intro Y16 N16
    rw [e_aload]
    show i_push _ _ [(0, .ref 128)] [.ref 128] Y16
    rw [e_push, e_putI]
    refine ⟨by have := N16.1; omega, N16.2.2.2.2.1, ?_⟩
    have P16 := mi_put (j := 33) (v := -1) N16
    refine mi_np (by decide) P16 (j := 34) (N := 8000) rfl rfl rfl (fun t => by unfold iniM; rw [if_neg (by decide), if_neg (by decide)]) (by decide) rfl (by decide) (by decide) ?_
    intro Y17 N17
    rw [e_vret, e_bp]
    obtain ⟨a1, a2, a3, a4, a5, a6, a7, a8, a9⟩ := N17
    exact h _ ⟨a1, rfl, rfl, a4, a5, a6, a7, a8, a9⟩
  · exfalso
    revert hb
    unfold shr
    simp only [show ¬ (128 : Nat) < 8 by decide, show ¬ (128 : Nat) < 128 by decide, if_false]
    intro hb
    split at hb <;> (try split at hb) <;> (simp at hb) <;> omega
