/-! ===== calls that only look: pieces, links, rounds, the tour ===== -/
section LP2
variable {D : gD} {τ : Nat}
theorem yC_wS {S S' : zS} (f : x_fr wS S S') : yC S S' := yC_fr f (fun q j h1 h2 => by unfold wS at h2; omega)
theorem z_piece (hw : wD D τ) (a1 a2 : Int32) : zSim D τ (f_X8_piece a1 a2) (f_X9_piece a1 a2) := by
  have w := hw.1
  have h0 := wT_b w
  have hl := wPl_lf w hw.2.1
  have hN := g_np_le (b := g_lf D.Pl) w
  by_cases hk : ∃ k, k < g_np D.T (g_lf D.Pl) ∧ a1 = nI k
  · obtain ⟨k, hk, rfl⟩ := hk
    by_cases hj : ∃ j, j < 4 + 1 ∧ a2 = nI j
    · obtain ⟨j, hj, rfl⟩ := hj
      refine zSim_lk hw (if j = 0 then nI (g_cu D.T (g_lf D.Pl) k) else if j = 1 then nI (g_od D.T (g_lf D.Pl) k) else if j = 2 then nI (g_lp D.T 4 (g_od D.T (g_lf D.Pl) k)) else if j = 3 then nI (g_ns D.T (g_lf D.Pl) k) else nI (g_ah D.T (g_lf D.Pl) k)) (fun S hS => ?_) (fun S hS => ?_)
      · obtain ⟨S', sv, ci, cs, fs⟩ := CI_survey hw hS
        refine ⟨S', ?_, ci, yC_wS fs⟩
        have e1 := s4_hasT cs.1.1 w hk
        have e2 := (cs.1.1.2 k hk).1
        have e3 := (cs.1.1.2 k hk).2.1
        have e4 := cs.2.1 k hk
        have e5 := s4_stepsOf cs.1.1 w hk
        have e6 := cs.1.2 k hk
        rcases (by omega : j = 0 ∨ j = 1 ∨ j = 2 ∨ j = 3 ∨ j = 4) with rfl | rfl | rfl | rfl | rfl
        · simp (disch := omega) only [f_X8_piece, sv, x_l0, x_l1, x_l2, x_l3, x_l4, x_l5, x_l6, x_l7, x_l8, x_l9, x_l10, x_l12, x_l13, x_l14, x_l16, x_l18, x_l20, x_l22, x_l32, x_l36, x_l48, x_l50, x_l54, x_l57, x_l59, x_l74, x_l81, x_l99, x_l104, x_l107, x_l110, x_l112, x_l115, x_l117, x_l162, x_l255, x_l512, x_l99999, x_l1000000, nI_leI, nI_ltI, nI_eq, nI_add, pk_mul, nI_clamp, x_in, x_bit, x_b0, x_b1, x_b0n, fa_or, fa_and, fb_xorI, x_an, Option.bind_some, b_has8, b_has9, ↓reduceIte, not_true_eq_false, not_false_eq_true, x_nn, Bool.false_eq_true, x_ar_k, x_ar_in, x_ar_w, b_wk, b_wj, b_wh, b_w2, x_ar_2, if_pos, if_neg, e1, e2]
        · simp (disch := omega) only [f_X8_piece, sv, x_l0, x_l1, x_l2, x_l3, x_l4, x_l5, x_l6, x_l7, x_l8, x_l9, x_l10, x_l12, x_l13, x_l14, x_l16, x_l18, x_l20, x_l22, x_l32, x_l36, x_l48, x_l50, x_l54, x_l57, x_l59, x_l74, x_l81, x_l99, x_l104, x_l107, x_l110, x_l112, x_l115, x_l117, x_l162, x_l255, x_l512, x_l99999, x_l1000000, nI_leI, nI_ltI, nI_eq, nI_add, pk_mul, nI_clamp, x_in, x_bit, x_b0, x_b1, x_b0n, fa_or, fa_and, fb_xorI, x_an, Option.bind_some, b_has8, b_has9, ↓reduceIte, not_true_eq_false, not_false_eq_true, x_nn, Bool.false_eq_true, x_ar_k, x_ar_in, x_ar_w, b_wk, b_wj, b_wh, b_w2, x_ar_2, if_pos, if_neg, e1, e3]
        · simp (disch := omega) only [f_X8_piece, sv, x_l0, x_l1, x_l2, x_l3, x_l4, x_l5, x_l6, x_l7, x_l8, x_l9, x_l10, x_l12, x_l13, x_l14, x_l16, x_l18, x_l20, x_l22, x_l32, x_l36, x_l48, x_l50, x_l54, x_l57, x_l59, x_l74, x_l81, x_l99, x_l104, x_l107, x_l110, x_l112, x_l115, x_l117, x_l162, x_l255, x_l512, x_l99999, x_l1000000, nI_leI, nI_ltI, nI_eq, nI_add, pk_mul, nI_clamp, x_in, x_bit, x_b0, x_b1, x_b0n, fa_or, fa_and, fb_xorI, x_an, Option.bind_some, b_has8, b_has9, ↓reduceIte, not_true_eq_false, not_false_eq_true, x_nn, Bool.false_eq_true, x_ar_k, x_ar_in, x_ar_w, b_wk, b_wj, b_wh, b_w2, x_ar_2, if_pos, if_neg, e1, e4]
        · simp (disch := omega) only [f_X8_piece, sv, x_l0, x_l1, x_l2, x_l3, x_l4, x_l5, x_l6, x_l7, x_l8, x_l9, x_l10, x_l12, x_l13, x_l14, x_l16, x_l18, x_l20, x_l22, x_l32, x_l36, x_l48, x_l50, x_l54, x_l57, x_l59, x_l74, x_l81, x_l99, x_l104, x_l107, x_l110, x_l112, x_l115, x_l117, x_l162, x_l255, x_l512, x_l99999, x_l1000000, nI_leI, nI_ltI, nI_eq, nI_add, pk_mul, nI_clamp, x_in, x_bit, x_b0, x_b1, x_b0n, fa_or, fa_and, fb_xorI, x_an, Option.bind_some, b_has8, b_has9, ↓reduceIte, not_true_eq_false, not_false_eq_true, x_nn, Bool.false_eq_true, x_ar_k, x_ar_in, x_ar_w, b_wk, b_wj, b_wh, b_w2, x_ar_2, if_pos, if_neg, e1, e5]
        · simp (disch := omega) only [f_X8_piece, sv, x_l0, x_l1, x_l2, x_l3, x_l4, x_l5, x_l6, x_l7, x_l8, x_l9, x_l10, x_l12, x_l13, x_l14, x_l16, x_l18, x_l20, x_l22, x_l32, x_l36, x_l48, x_l50, x_l54, x_l57, x_l59, x_l74, x_l81, x_l99, x_l104, x_l107, x_l110, x_l112, x_l115, x_l117, x_l162, x_l255, x_l512, x_l99999, x_l1000000, nI_leI, nI_ltI, nI_eq, nI_add, pk_mul, nI_clamp, x_in, x_bit, x_b0, x_b1, x_b0n, fa_or, fa_and, fb_xorI, x_an, Option.bind_some, b_has8, b_has9, ↓reduceIte, not_true_eq_false, not_false_eq_true, x_nn, Bool.false_eq_true, x_ar_k, x_ar_in, x_ar_w, b_wk, b_wj, b_wh, b_w2, x_ar_2, if_pos, if_neg, e1, e6]
      · obtain ⟨S', pc, fp, hq⟩ := MI_pieces hw hS
        have fq : x_fr wQ S S' := x_fr_sub fp (fun q j hq => by unfold wQ; omega)
        have e23 := hq.2.2.2.1
        have ei := fun S => (s9_inM (v := nI k) (n := g_np D.T (g_lf D.Pl)) (by omega) S).trans (by rw [if_pos ⟨k, hk, rfl⟩])
        have e0 := fun S => s9_inK (v := nI j) (k := 4) (by omega) S ⟨j, hj, rfl⟩
        have e1 := s9_cu w hq (by omega) hk
        have e2 := s9_od w hq (by omega) hk
        have e3 := s9_links w hq (by omega) hk
        have e4 := s9_ah w hq (by omega) hk
        have cl := g_cu_lt (b := g_lf D.Pl) w k
        have ol := g_od_lt (T := D.T) (b := g_lf D.Pl) k
        have e5 := b_ones cl S'
        have e6 := b_ones (b := g_od D.T (g_lf D.Pl) k) (by omega) S'
        have l1 : b_ct (g_cu D.T (g_lf D.Pl) k) 14 ≤ 14 := fb_ct_le _ _
        have l2 : b_ct (g_od D.T (g_lf D.Pl) k) 14 ≤ 14 := fb_ct_le _ _
        unfold f_X9_piece
        generalize z_w S 87 0 0 = S1 at *
        rcases (by omega : j = 0 ∨ j = 1 ∨ j = 2 ∨ j = 3 ∨ j = 4) with rfl | rfl | rfl | rfl | rfl
        · refine ⟨S', ?_, fq⟩
          simp (disch := omega) only [x_l0, x_l1, x_l2, x_l3, x_l4, x_l5, x_l6, x_l7, x_l8, x_l9, x_l10, x_l12, x_l13, x_l14, x_l16, x_l18, x_l20, x_l22, x_l32, x_l36, x_l48, x_l50, x_l54, x_l57, x_l59, x_l74, x_l81, x_l99, x_l104, x_l107, x_l110, x_l112, x_l115, x_l117, x_l162, x_l255, x_l512, x_l99999, x_l1000000, nI_leI, nI_ltI, nI_eq, nI_add, pk_mul, nI_clamp, x_in, x_bit, x_b0, x_b1, x_b0n, fa_or, fa_and, fb_xorI, x_an, Option.bind_some, b_has8, b_has9, ↓reduceIte, not_true_eq_false, not_false_eq_true, x_nn, Bool.false_eq_true, x_ar_k, x_ar_in, x_ar_w, b_wk, b_wj, b_wh, b_w2, x_ar_2, if_pos, if_neg, pc, e23, ei, e0, e1]
        · refine ⟨S', ?_, fq⟩
          simp (disch := omega) only [x_l0, x_l1, x_l2, x_l3, x_l4, x_l5, x_l6, x_l7, x_l8, x_l9, x_l10, x_l12, x_l13, x_l14, x_l16, x_l18, x_l20, x_l22, x_l32, x_l36, x_l48, x_l50, x_l54, x_l57, x_l59, x_l74, x_l81, x_l99, x_l104, x_l107, x_l110, x_l112, x_l115, x_l117, x_l162, x_l255, x_l512, x_l99999, x_l1000000, nI_leI, nI_ltI, nI_eq, nI_add, pk_mul, nI_clamp, x_in, x_bit, x_b0, x_b1, x_b0n, fa_or, fa_and, fb_xorI, x_an, Option.bind_some, b_has8, b_has9, ↓reduceIte, not_true_eq_false, not_false_eq_true, x_nn, Bool.false_eq_true, x_ar_k, x_ar_in, x_ar_w, b_wk, b_wj, b_wh, b_w2, x_ar_2, if_pos, if_neg, pc, e23, ei, e0, e2]
        · refine ⟨mL D.T (g_od D.T (g_lf D.Pl) k) S', ?_, x_fr_a (x_fr_a fq (fun _ _ => Or.inr (by omega))) (fun _ _ => Or.inr (by omega))⟩
          simp (disch := omega) only [x_l0, x_l1, x_l2, x_l3, x_l4, x_l5, x_l6, x_l7, x_l8, x_l9, x_l10, x_l12, x_l13, x_l14, x_l16, x_l18, x_l20, x_l22, x_l32, x_l36, x_l48, x_l50, x_l54, x_l57, x_l59, x_l74, x_l81, x_l99, x_l104, x_l107, x_l110, x_l112, x_l115, x_l117, x_l162, x_l255, x_l512, x_l99999, x_l1000000, nI_leI, nI_ltI, nI_eq, nI_add, pk_mul, nI_clamp, x_in, x_bit, x_b0, x_b1, x_b0n, fa_or, fa_and, fb_xorI, x_an, Option.bind_some, b_has8, b_has9, ↓reduceIte, not_true_eq_false, not_false_eq_true, x_nn, Bool.false_eq_true, x_ar_k, x_ar_in, x_ar_w, b_wk, b_wj, b_wh, b_w2, x_ar_2, if_pos, if_neg, pc, e23, ei, e0, e3]
        · refine ⟨S', ?_, fq⟩
          simp (disch := omega) only [x_l0, x_l1, x_l2, x_l3, x_l4, x_l5, x_l6, x_l7, x_l8, x_l9, x_l10, x_l12, x_l13, x_l14, x_l16, x_l18, x_l20, x_l22, x_l32, x_l36, x_l48, x_l50, x_l54, x_l57, x_l59, x_l74, x_l81, x_l99, x_l104, x_l107, x_l110, x_l112, x_l115, x_l117, x_l162, x_l255, x_l512, x_l99999, x_l1000000, nI_leI, nI_ltI, nI_eq, nI_add, pk_mul, nI_clamp, x_in, x_bit, x_b0, x_b1, x_b0n, fa_or, fa_and, fb_xorI, x_an, Option.bind_some, b_has8, b_has9, ↓reduceIte, not_true_eq_false, not_false_eq_true, x_nn, Bool.false_eq_true, x_ar_k, x_ar_in, x_ar_w, b_wk, b_wj, b_wh, b_w2, x_ar_2, if_pos, if_neg, pc, e23, ei, e0, e1, e2, e5, e6, pk_div]
          rfl
        · refine ⟨S', ?_, fq⟩
          simp (disch := omega) only [x_l0, x_l1, x_l2, x_l3, x_l4, x_l5, x_l6, x_l7, x_l8, x_l9, x_l10, x_l12, x_l13, x_l14, x_l16, x_l18, x_l20, x_l22, x_l32, x_l36, x_l48, x_l50, x_l54, x_l57, x_l59, x_l74, x_l81, x_l99, x_l104, x_l107, x_l110, x_l112, x_l115, x_l117, x_l162, x_l255, x_l512, x_l99999, x_l1000000, nI_leI, nI_ltI, nI_eq, nI_add, pk_mul, nI_clamp, x_in, x_bit, x_b0, x_b1, x_b0n, fa_or, fa_and, fb_xorI, x_an, Option.bind_some, b_has8, b_has9, ↓reduceIte, not_true_eq_false, not_false_eq_true, x_nn, Bool.false_eq_true, x_ar_k, x_ar_in, x_ar_w, b_wk, b_wj, b_wh, b_w2, x_ar_2, if_pos, if_neg, pc, e23, ei, e0, e4]
    · refine zSim_lk hw (-nI 1) (fun S hS => ?_) (fun S hS => ?_)
      · obtain ⟨S', sv, ci, cs, fs⟩ := CI_survey hw hS
        refine ⟨S', ?_, ci, yC_wS fs⟩
        have e1 := s4_hasT cs.1.1 w hk
        simp (disch := omega) only [f_X8_piece, sv, x_l0, x_l1, x_l2, x_l3, x_l4, x_l5, x_l6, x_l7, x_l8, x_l9, x_l10, x_l12, x_l13, x_l14, x_l16, x_l18, x_l20, x_l22, x_l32, x_l36, x_l48, x_l50, x_l54, x_l57, x_l59, x_l74, x_l81, x_l99, x_l104, x_l107, x_l110, x_l112, x_l115, x_l117, x_l162, x_l255, x_l512, x_l99999, x_l1000000, nI_leI, nI_ltI, nI_eq, nI_add, pk_mul, nI_clamp, x_in, x_bit, x_b0, x_b1, x_b0n, fa_or, fa_and, fb_xorI, x_an, Option.bind_some, b_has8, b_has9, ↓reduceIte, not_true_eq_false, not_false_eq_true, x_nn, Bool.false_eq_true, x_ar_k, x_ar_in, x_ar_w, b_wk, b_wj, b_wh, b_w2, x_ar_2, if_pos, if_neg, e1, x_no hj (j := 0) (by omega), x_no hj (j := 1) (by omega), x_no hj (j := 2) (by omega), x_no hj (j := 3) (by omega), x_no hj (j := 4) (by omega)]
      · obtain ⟨S', pc, fp, hq⟩ := MI_pieces hw hS
        refine ⟨S', ?_, x_fr_sub fp (fun q j hq => by unfold wQ; omega)⟩
        have e23 := hq.2.2.2.1
        have ei := fun S => (s9_inM (v := nI k) (n := g_np D.T (g_lf D.Pl)) (by omega) S).trans (by rw [if_pos ⟨k, hk, rfl⟩])
        have e0 := fun S => s9_inN (v := a2) (k := 4) (by omega) S hj
        unfold f_X9_piece
        generalize z_w S 87 0 0 = S1 at *
        simp (disch := omega) only [x_l0, x_l1, x_l2, x_l3, x_l4, x_l5, x_l6, x_l7, x_l8, x_l9, x_l10, x_l12, x_l13, x_l14, x_l16, x_l18, x_l20, x_l22, x_l32, x_l36, x_l48, x_l50, x_l54, x_l57, x_l59, x_l74, x_l81, x_l99, x_l104, x_l107, x_l110, x_l112, x_l115, x_l117, x_l162, x_l255, x_l512, x_l99999, x_l1000000, nI_leI, nI_ltI, nI_eq, nI_add, pk_mul, nI_clamp, x_in, x_bit, x_b0, x_b1, x_b0n, fa_or, fa_and, fb_xorI, x_an, Option.bind_some, b_has8, b_has9, ↓reduceIte, not_true_eq_false, not_false_eq_true, x_nn, Bool.false_eq_true, x_ar_k, x_ar_in, x_ar_w, b_wk, b_wj, b_wh, b_w2, x_ar_2, if_pos, if_neg, pc, e23, ei, e0]
  · refine zSim_lk hw (-nI 1) (fun S hS => ?_) (fun S hS => ?_)
    · obtain ⟨S', sv, ci, cs, fs⟩ := CI_survey hw hS
      refine ⟨S', ?_, ci, yC_wS fs⟩
      have e1 := s4_hasF cs.1.1 w hk
      simp (disch := omega) only [f_X8_piece, sv, x_l0, x_l1, x_l2, x_l3, x_l4, x_l5, x_l6, x_l7, x_l8, x_l9, x_l10, x_l12, x_l13, x_l14, x_l16, x_l18, x_l20, x_l22, x_l32, x_l36, x_l48, x_l50, x_l54, x_l57, x_l59, x_l74, x_l81, x_l99, x_l104, x_l107, x_l110, x_l112, x_l115, x_l117, x_l162, x_l255, x_l512, x_l99999, x_l1000000, nI_leI, nI_ltI, nI_eq, nI_add, pk_mul, nI_clamp, x_in, x_bit, x_b0, x_b1, x_b0n, fa_or, fa_and, fb_xorI, x_an, Option.bind_some, b_has8, b_has9, ↓reduceIte, not_true_eq_false, not_false_eq_true, x_nn, Bool.false_eq_true, x_ar_k, x_ar_in, x_ar_w, b_wk, b_wj, b_wh, b_w2, x_ar_2, if_pos, if_neg, e1]
    · obtain ⟨S', pc, fp, hq⟩ := MI_pieces hw hS
      refine ⟨S', ?_, x_fr_sub fp (fun q j hq => by unfold wQ; omega)⟩
      have e23 := hq.2.2.2.1
      have ei := fun S => (s9_inM (v := a1) (n := g_np D.T (g_lf D.Pl)) (by omega) S).trans (by rw [if_neg hk])
      unfold f_X9_piece
      generalize z_w S 87 0 0 = S1 at *
      simp (disch := omega) only [x_l0, x_l1, x_l2, x_l3, x_l4, x_l5, x_l6, x_l7, x_l8, x_l9, x_l10, x_l12, x_l13, x_l14, x_l16, x_l18, x_l20, x_l22, x_l32, x_l36, x_l48, x_l50, x_l54, x_l57, x_l59, x_l74, x_l81, x_l99, x_l104, x_l107, x_l110, x_l112, x_l115, x_l117, x_l162, x_l255, x_l512, x_l99999, x_l1000000, nI_leI, nI_ltI, nI_eq, nI_add, pk_mul, nI_clamp, x_in, x_bit, x_b0, x_b1, x_b0n, fa_or, fa_and, fb_xorI, x_an, Option.bind_some, b_has8, b_has9, ↓reduceIte, not_true_eq_false, not_false_eq_true, x_nn, Bool.false_eq_true, x_ar_k, x_ar_in, x_ar_w, b_wk, b_wj, b_wh, b_w2, x_ar_2, if_pos, if_neg, pc, e23, ei]
def wL2 (q _j : Nat) : Prop := q = 101 ∨ q = 102
theorem fr_mL {S : zS} {T : Nat → Nat} {s : Nat} : x_fr wL2 S (mL T s S) := x_fr_a (x_fr_a x_fr_rf (fun _ _ => Or.inr rfl)) (fun _ _ => Or.inl rfl)
theorem s9_link24 {T : Nat → Nat} {b k : Nat} {S : zS} (w : wT T) (h : mQ T b S) (hb : b < 2 ^ 31) (hk : k < 9) : ∃ S', f_X9_link_24 1000 (nI k) (-nI 9) (nI 0) S = some (g_pa T b (g_np T b) k, S') ∧ x_fr wL2 S S' := by
  have hN := g_np_le (b := b) w
  refine x_forI (F := fun n p S => f_X9_link_24 n (nI k) (g_pa T b p k) (nI p) S) (N := g_np T b) (I := fun p S1 => x_fr wL2 S S1) (G := fun γ => ∃ S', γ = some (g_pa T b (g_np T b) k, S') ∧ x_fr wL2 S S') ?_ ?_ (d := g_np T b) (a := 0) (n := 1000) (S := S) (by omega) (by omega) x_fr_rf
  · intro n S1 h1
    have hQ := mQ_fr h h1 w (fun q j q1 q2 => by unfold wL2 at q2; omega)
    refine ⟨S1, ?_, h1⟩
    show f_X9_link_24 (n + 1) (nI k) (g_pa T b (g_np T b) k) (nI (g_np T b)) S1 = _
    rw [f_X9_link_24, hQ.2.2.2.1, if_pos (nI_le (Nat.le_refl _) (by omega))]
  · intro n p S1 hp h1 go
    have hQ := mQ_fr h h1 w (fun q j q1 q2 => by unfold wL2 at q2; omega)
    have e1 : (mL T (g_od T b p) S1).1 101 k = g_mt T (g_od T b p) k := x_ar_in hk
    show ∃ S', f_X9_link_24 (n + 1) (nI k) (g_pa T b p k) (nI p) S1 = _ ∧ _
    rw [f_X9_link_24, hQ.2.2.2.1, if_neg (nI_ge hp (by omega)), s9_links w hQ hb hp, Option.bind_some, if_pos ((x_in (by omega)).mpr hk)]
    dsimp only
    rw [nI_clamp (by omega), e1, show (1 : Int32) = nI 1 from rfl, nI_add]
    have g := go (mL T (g_od T b p) S1) (x_fr_tr h1 fr_mL)
    rw [g_pa_succ w] at g
    by_cases c : g_mt T (g_od T b p) k = -nI 9
    · rw [if_pos c] at g
      rw [if_pos (show g_mt T (g_od T b p) k = -9 from c)]
      exact g
    · rw [if_neg c] at g
      rw [if_neg (show ¬ g_mt T (g_od T b p) k = -9 from c), if_pos ((x_in (by omega)).mpr hk)]
      exact g
theorem z_link (hw : wD D τ) (a1 : Int32) : zSim D τ (f_X8_link a1) (f_X9_link a1) := by
  have w := hw.1
  have h0 := wT_b w
  have hl := wPl_lf w hw.2.1
  by_cases hk : ∃ k, k < D.T 0 ∧ a1 = nI k
  · obtain ⟨k, hk, rfl⟩ := hk
    refine zSim_lk hw (g_pa D.T (g_lf D.Pl) (g_np D.T (g_lf D.Pl)) k) (fun S hS => ?_) (fun S hS => ?_)
    · obtain ⟨S', sv, ci, cs, fs⟩ := CI_survey hw hS
      refine ⟨S', ?_, ci, yC_wS fs⟩
      obtain ⟨P, nx, hP, h2, h3, h4, h5, h6, h7, h8, h9⟩ := id hS
      have e21 : S.2.1 = P := by rw [h2]
      have hz : z_isP P := hP
      have e1 := s1_hasT w h3.1 hk
      have e2 := cs.2.2.1 k (by omega)
      simp (disch := omega) only [f_X8_link, e21, x_l0, x_l1, x_l2, x_l3, x_l4, x_l5, x_l6, x_l7, x_l8, x_l9, x_l10, x_l12, x_l13, x_l14, x_l16, x_l18, x_l20, x_l22, x_l32, x_l36, x_l48, x_l50, x_l54, x_l57, x_l59, x_l74, x_l81, x_l99, x_l104, x_l107, x_l110, x_l112, x_l115, x_l117, x_l162, x_l255, x_l512, x_l99999, x_l1000000, nI_leI, nI_ltI, nI_eq, nI_add, pk_mul, nI_clamp, x_in, x_bit, x_b0, x_b1, x_b0n, fa_or, fa_and, fb_xorI, x_an, Option.bind_some, b_has8, b_has9, ↓reduceIte, not_true_eq_false, not_false_eq_true, x_nn, Bool.false_eq_true, x_ar_k, x_ar_in, x_ar_w, b_wk, b_wj, b_wh, b_w2, x_ar_2, if_pos, if_neg, e1, hz, sv, e2]
    · obtain ⟨S', pc, fp, hq⟩ := MI_pieces hw hS
      obtain ⟨S2, e2, f2⟩ := s9_link24 (k := k) w hq (by omega) (by omega)
      have fq : x_fr wQ S S' := x_fr_sub fp (fun q j hq => by unfold wQ; omega)
      refine ⟨S2, ?_, x_fr_tr fq (x_fr_sub f2 (fun q j hq => by unfold wL2 at hq; unfold wQ; omega))⟩
      have e1 := s9_isC (T := D.T) (by omega) (MI_th hS).1 hk
      rw [f_X9_link, e1, Option.bind_some, if_neg (c := nI 1 = 0) (by decide)]
      dsimp only
      rw [pc, Option.bind_some]
      exact e2
  · refine zSim_lk hw (-nI 1) (fun S hS => ⟨S, ?_, hS, yC_rf⟩) (fun S hS => ⟨z_w S 87 0 0, ?_, fr_th⟩)
    · obtain ⟨P, nx, hP, h2, h3, h4, h5, h6, h7, h8, h9⟩ := hS
      have e21 : S.2.1 = P := by rw [h2]
      have hz : z_isP P := hP
      have e1 := s1_hasF w h3.1 hk
      simp (disch := omega) only [f_X8_link, e21, x_l0, x_l1, x_l2, x_l3, x_l4, x_l5, x_l6, x_l7, x_l8, x_l9, x_l10, x_l12, x_l13, x_l14, x_l16, x_l18, x_l20, x_l22, x_l32, x_l36, x_l48, x_l50, x_l54, x_l57, x_l59, x_l74, x_l81, x_l99, x_l104, x_l107, x_l110, x_l112, x_l115, x_l117, x_l162, x_l255, x_l512, x_l99999, x_l1000000, nI_leI, nI_ltI, nI_eq, nI_add, pk_mul, nI_clamp, x_in, x_bit, x_b0, x_b1, x_b0n, fa_or, fa_and, fb_xorI, x_an, Option.bind_some, b_has8, b_has9, ↓reduceIte, not_true_eq_false, not_false_eq_true, x_nn, Bool.false_eq_true, x_ar_k, x_ar_in, x_ar_w, b_wk, b_wj, b_wh, b_w2, x_ar_2, if_pos, if_neg, e1, hz]
    · have hm := MI_th hS
      have e1 := s9_isCF (T := D.T) (by omega) hm.1 hk
      unfold f_X9_link
      generalize z_w S 87 0 0 = S1 at *
      simp (disch := omega) only [x_l0, x_l1, x_l2, x_l3, x_l4, x_l5, x_l6, x_l7, x_l8, x_l9, x_l10, x_l12, x_l13, x_l14, x_l16, x_l18, x_l20, x_l22, x_l32, x_l36, x_l48, x_l50, x_l54, x_l57, x_l59, x_l74, x_l81, x_l99, x_l104, x_l107, x_l110, x_l112, x_l115, x_l117, x_l162, x_l255, x_l512, x_l99999, x_l1000000, nI_leI, nI_ltI, nI_eq, nI_add, pk_mul, nI_clamp, x_in, x_bit, x_b0, x_b1, x_b0n, fa_or, fa_and, fb_xorI, x_an, Option.bind_some, b_has8, b_has9, ↓reduceIte, not_true_eq_false, not_false_eq_true, x_nn, Bool.false_eq_true, x_ar_k, x_ar_in, x_ar_w, b_wk, b_wj, b_wh, b_w2, x_ar_2, if_pos, if_neg, e1]
/-- the class's walk, as a call finds it -/
theorem CI_go {S : zS} {P p : Nat} (hw : wD D τ) (h : CI D S) (hs : cS D.T (g_lf D.Pl) (g_to D.Pl) S) (hp : p < g_np D.T (g_lf D.Pl)) (e21 : S.2.1 = P) : ∃ S', f_X5_go P (nI p) S = some ((), S') ∧ CI D S' ∧ cWR D.T (g_lf D.Pl) (g_to D.Pl) p S' ∧ x_fr wW S S' := by
  have w := hw.1
  have h0 := wT_b w
  have hN := g_np_le (b := g_lf D.Pl) w
  obtain ⟨P', nx, hP, h2, h3, h4, h5, h6, h7, h8, h9⟩ := id h
  have eP : P' = P := by rw [← e21, h2]
  subst eP
  obtain ⟨S', e, f, g1, g2⟩ := s5_go w h3.1 hP hs hp (fun z => by
    rcases h9.2 with q | ⟨p', hp', q1, q2⟩
    · exact absurd (z.symm.trans q) (nI_n9 (by omega))
    · have : p' = p := nI_inj9 (by omega) (by omega) (q1.symm.trans z)
      subst this
      exact q2)
  refine ⟨S', e, CI_work h (by omega) (x_fr_sub f (fun q j hq => by unfold wW at hq; omega)) ⟨?_, Or.inr ⟨p, hp, g1, g2⟩⟩, g2, f⟩
  rcases h9.1 with q | ⟨q, _⟩
  · exact Or.inl (by rw [f.2 _ _ (by unfold wW; omega)]; exact q)
  · exact Or.inr ⟨by rw [f.2 _ _ (by unfold wW; omega)]; exact q, cS_fr hs f (fun q j q1 q2 => by unfold wW at q2; omega)⟩
theorem np_pos {T : Nat → Nat} {b p : Nat} (hp : p < g_np T b) : 0 < T 0 := by
  by_cases z : T 0 = 0
  · rw [g_np_0 z] at hp; omega
  · omega
theorem z_round (hw : wD D τ) (a1 a2 a3 : Int32) : zSim D τ (f_X8_round a1 a2 a3) (f_X9_round a1 a2 a3) := by
  have w := hw.1
  have h0 := wT_b w
  have hl := wPl_lf w hw.2.1
  have hN := g_np_le (b := g_lf D.Pl) w
  by_cases hk : ∃ k, k < g_np D.T (g_lf D.Pl) ∧ a1 = nI k
  · obtain ⟨p, hp, rfl⟩ := hk
    have ht := wPl_to w hw.2.1 (np_pos hp)
    have nl := g_ns_le (b := g_lf D.Pl) (p := p) w
    have ei := fun S => (s9_inM (v := nI p) (n := g_np D.T (g_lf D.Pl)) (by omega) S).trans (by rw [if_pos ⟨p, hp, rfl⟩])
    by_cases hn : a2 < 0
    · refine zSim_lk hw (-nI 1) (fun S hS => ?_) (fun S hS => ?_)
      · obtain ⟨S', sv, ci, cs, fs⟩ := CI_survey hw hS
        refine ⟨S', ?_, ci, yC_wS fs⟩
        rw [f_X8_round, sv, Option.bind_some]
        dsimp only
        rw [s4_hasT cs.1.1 w hp, Option.bind_some, if_neg (c := nI 1 = 0) (by decide), if_pos hn]
        rfl
      · obtain ⟨S', pc, fp, hq⟩ := MI_pieces hw hS
        refine ⟨S', ?_, x_fr_sub fp (fun q j hq => by unfold wQ; omega)⟩
        have e23 := hq.2.2.2.1
        rw [f_X9_round, pc, Option.bind_some]
        dsimp only
        rw [e23, show (0 : Int32) = nI 0 from rfl, show (1 : Int32) = nI 1 from rfl, ei, Option.bind_some, if_neg (c := nI 1 = nI 0) (by decide), if_pos (show a2 < nI 0 from hn)]
    · by_cases hj : ∃ j, j < 1 + 1 ∧ a3 = nI j
      · obtain ⟨j, hj, rfl⟩ := hj
        refine zSim_lk hw (if ∃ i, i < g_ns D.T (g_lf D.Pl) p ∧ a2 = nI i then (if j = 0 then nI (g_wt D.T (g_lf D.Pl) (g_to D.Pl) p a2.toNatClampNeg) else nI (1 - g_wc D.T (g_lf D.Pl) (g_to D.Pl) p a2.toNatClampNeg)) else -nI 9) (fun S hS => ?_) (fun S hS => ?_)
        · obtain ⟨S', sv, ci, cs, fs⟩ := CI_survey hw hS
          obtain ⟨P, nx, hP, h2, _⟩ := id ci
          have e21 : S'.2.1 = P := by rw [h2]
          obtain ⟨S2, e2, c2, r2, f2⟩ := CI_go hw ci cs hp e21
          refine ⟨S2, ?_, c2, fun q j hq => ?_⟩
          · have hz : z_isP P := hP
            rw [f_X8_round, sv, Option.bind_some]
            dsimp only
            rw [s4_hasT cs.1.1 w hp, Option.bind_some, if_neg (c := nI 1 = 0) (by decide), if_neg hn, if_neg (show ¬ nI j < 0 from nI_nlt (b := 0) (by omega) (by omega)), if_pos (show nI j ≤ 1 from nI_le (b := 1) (by omega) (by omega))]
            dsimp only
            rw [e21, if_pos hz, e2, Option.bind_some]
            dsimp only
            rw [r2.1]
            by_cases c : ∃ i, i < g_ns D.T (g_lf D.Pl) p ∧ a2 = nI i
            · rw [if_pos c]
              obtain ⟨i, hi, rfl⟩ := c
              have v := r2.2 i hi
              rcases (by omega : j = 0 ∨ j = 1) with rfl | rfl
              · simp (disch := omega) only [x_l0, x_l1, x_l2, x_l3, x_l4, x_l5, x_l6, x_l7, x_l8, x_l9, x_l10, x_l12, x_l13, x_l14, x_l16, x_l18, x_l20, x_l22, x_l32, x_l36, x_l48, x_l50, x_l54, x_l57, x_l59, x_l74, x_l81, x_l99, x_l104, x_l107, x_l110, x_l112, x_l115, x_l117, x_l162, x_l255, x_l512, x_l99999, x_l1000000, nI_leI, nI_ltI, nI_eq, nI_add, pk_mul, nI_clamp, x_in, x_bit, x_b0, x_b1, x_b0n, fa_or, fa_and, fb_xorI, x_an, Option.bind_some, b_has8, b_has9, ↓reduceIte, not_true_eq_false, not_false_eq_true, x_nn, Bool.false_eq_true, x_ar_k, x_ar_in, x_ar_w, b_wk, b_wj, b_wh, b_w2, x_ar_2, if_pos, if_neg, v.1]
              · simp (disch := omega) only [x_l0, x_l1, x_l2, x_l3, x_l4, x_l5, x_l6, x_l7, x_l8, x_l9, x_l10, x_l12, x_l13, x_l14, x_l16, x_l18, x_l20, x_l22, x_l32, x_l36, x_l48, x_l50, x_l54, x_l57, x_l59, x_l74, x_l81, x_l99, x_l104, x_l107, x_l110, x_l112, x_l115, x_l117, x_l162, x_l255, x_l512, x_l99999, x_l1000000, nI_leI, nI_ltI, nI_eq, nI_add, pk_mul, nI_clamp, x_in, x_bit, x_b0, x_b1, x_b0n, fa_or, fa_and, fb_xorI, x_an, Option.bind_some, b_has8, b_has9, ↓reduceIte, not_true_eq_false, not_false_eq_true, x_nn, Bool.false_eq_true, x_ar_k, x_ar_in, x_ar_w, b_wk, b_wj, b_wh, b_w2, x_ar_2, if_pos, if_neg, v.2]
            · rw [if_neg c, if_neg]
              · rfl
              · intro z
                apply c
                rcases pk_ix a2 (n := g_ns D.T (g_lf D.Pl) p) (by omega) with q | q | q
                · exact absurd q hn
                · rw [fa_le] at q; rw [fa_lt] at z; omega
                · exact q
          · rw [f2.2 _ _ (by unfold wW; omega), fs.2 _ _ (by unfold wS; omega)]
        · obtain ⟨S', pc, fp, hq⟩ := MI_pieces hw hS
          have fq : x_fr wQ S S' := x_fr_sub fp (fun q j hq => by unfold wQ; omega)
          have e23 := hq.2.2.2.1
          have e91 : S'.1 91 1 = nI (g_to D.Pl) := by
            rw [fp.2 _ _ (by omega)]
            exact (hS.2.2.1 1 (by omega)).trans ht.2
          obtain ⟨S2, e2, f2, r2⟩ := s9_rounds w hq (by omega) ht.1 e91 hp
          have e0 := fun S => s9_inK (v := nI j) (k := 1) (by omega) S ⟨j, hj, rfl⟩
          refine ⟨S2, ?_, x_fr_tr fq (x_fr_sub f2 (fun q j hq => by unfold wR at hq; unfold wQ; omega))⟩
          rw [f_X9_round, pc, Option.bind_some]
          dsimp only
          rw [e23, show (0 : Int32) = nI 0 from rfl, show (1 : Int32) = nI 1 from rfl, ei, Option.bind_some, if_neg (c := nI 1 = nI 0) (by decide), if_neg (show ¬ a2 < nI 0 from hn)]
          dsimp only
          rw [e0, Option.bind_some, if_neg (c := nI 1 = nI 0) (by decide)]
          dsimp only
          rw [e2, Option.bind_some]
          dsimp only
          rw [r2.1]
          by_cases c : ∃ i, i < g_ns D.T (g_lf D.Pl) p ∧ a2 = nI i
          · rw [if_pos c]
            obtain ⟨i, hi, rfl⟩ := c
            have v := r2.2 i hi
            have wl := g_wc_lt (T := D.T) (b := g_lf D.Pl) (t := g_to D.Pl) (p := p) i
            rcases (by omega : j = 0 ∨ j = 1) with rfl | rfl
            · simp (disch := omega) only [x_l0, x_l1, x_l2, x_l3, x_l4, x_l5, x_l6, x_l7, x_l8, x_l9, x_l10, x_l12, x_l13, x_l14, x_l16, x_l18, x_l20, x_l22, x_l32, x_l36, x_l48, x_l50, x_l54, x_l57, x_l59, x_l74, x_l81, x_l99, x_l104, x_l107, x_l110, x_l112, x_l115, x_l117, x_l162, x_l255, x_l512, x_l99999, x_l1000000, nI_leI, nI_ltI, nI_eq, nI_add, pk_mul, nI_clamp, x_in, x_bit, x_b0, x_b1, x_b0n, fa_or, fa_and, fb_xorI, x_an, Option.bind_some, b_has8, b_has9, ↓reduceIte, not_true_eq_false, not_false_eq_true, x_nn, Bool.false_eq_true, x_ar_k, x_ar_in, x_ar_w, b_wk, b_wj, b_wh, b_w2, x_ar_2, if_pos, if_neg, v.1]
            · simp (disch := omega) only [x_l0, x_l1, x_l2, x_l3, x_l4, x_l5, x_l6, x_l7, x_l8, x_l9, x_l10, x_l12, x_l13, x_l14, x_l16, x_l18, x_l20, x_l22, x_l32, x_l36, x_l48, x_l50, x_l54, x_l57, x_l59, x_l74, x_l81, x_l99, x_l104, x_l107, x_l110, x_l112, x_l115, x_l117, x_l162, x_l255, x_l512, x_l99999, x_l1000000, nI_leI, nI_ltI, nI_eq, nI_add, pk_mul, nI_clamp, x_in, x_bit, x_b0, x_b1, x_b0n, fa_or, fa_and, fb_xorI, x_an, Option.bind_some, b_has8, b_has9, ↓reduceIte, not_true_eq_false, not_false_eq_true, x_nn, Bool.false_eq_true, x_ar_k, x_ar_in, x_ar_w, b_wk, b_wj, b_wh, b_w2, x_ar_2, if_pos, if_neg, v.2]
              rcases (by omega : g_wc D.T (g_lf D.Pl) (g_to D.Pl) p i = 0 ∨ g_wc D.T (g_lf D.Pl) (g_to D.Pl) p i = 1) with q | q <;> rw [q] <;> rfl
          · rw [if_neg c, if_neg]
            · rfl
            · intro z
              apply c
              rcases pk_ix a2 (n := g_ns D.T (g_lf D.Pl) p) (by omega) with q | q | q
              · exact absurd q hn
              · rw [fa_le] at q; rw [fa_lt] at z; omega
              · exact q
      · refine zSim_lk hw (-nI 1) (fun S hS => ?_) (fun S hS => ?_)
        · obtain ⟨S', sv, ci, cs, fs⟩ := CI_survey hw hS
          refine ⟨S', ?_, ci, yC_wS fs⟩
          rw [f_X8_round, sv, Option.bind_some]
          dsimp only
          rw [s4_hasT cs.1.1 w hp, Option.bind_some, if_neg (c := nI 1 = 0) (by decide), if_neg hn]
          by_cases q : a3 < 0
          · rw [if_pos q]; rfl
          · rw [if_neg q, if_neg]
            · rfl
            · intro z
              apply hj
              refine (x_inK (k := 1) (by omega)).mp ⟨?_, z⟩
              rw [fa_le]
              rw [fa_lt] at q
              omega
        · obtain ⟨S', pc, fp, hq⟩ := MI_pieces hw hS
          refine ⟨S', ?_, x_fr_sub fp (fun q j hq => by unfold wQ; omega)⟩
          have e23 := hq.2.2.2.1
          have e0 := fun S => s9_inN (v := a3) (k := 1) (by omega) S hj
          rw [f_X9_round, pc, Option.bind_some]
          dsimp only
          rw [e23, show (0 : Int32) = nI 0 from rfl, show (1 : Int32) = nI 1 from rfl, ei, Option.bind_some, if_neg (c := nI 1 = nI 0) (by decide), if_neg (show ¬ a2 < nI 0 from hn)]
          dsimp only
          rw [e0, Option.bind_some, if_pos rfl]
  · refine zSim_lk hw (-nI 1) (fun S hS => ?_) (fun S hS => ?_)
    · obtain ⟨S', sv, ci, cs, fs⟩ := CI_survey hw hS
      refine ⟨S', ?_, ci, yC_wS fs⟩
      rw [f_X8_round, sv, Option.bind_some]
      dsimp only
      rw [s4_hasF cs.1.1 w hk, Option.bind_some, if_pos (c := nI 0 = 0) nI_0]
      rfl
    · obtain ⟨S', pc, fp, hq⟩ := MI_pieces hw hS
      refine ⟨S', ?_, x_fr_sub fp (fun q j hq => by unfold wQ; omega)⟩
      have e23 := hq.2.2.2.1
      have ei := fun S => (s9_inM (v := a1) (n := g_np D.T (g_lf D.Pl)) (by omega) S).trans (by rw [if_neg hk])
      rw [f_X9_round, pc, Option.bind_some]
      dsimp only
      rw [e23, show (0 : Int32) = nI 0 from rfl, show (1 : Int32) = nI 1 from rfl, ei, Option.bind_some, if_pos rfl]
theorem s9_tour49 {T : Nat → Nat} {b t : Nat} {S : zS} (w : wT T) (h : mQ T b S) (hb : b < 2 ^ 31) (a1 : Int32) (hc : ∀ k, k < g_np T b → S.1 107 k = nI (g_oc T b t k)) : ∃ S', f_X9_tour_49 1000 a1 (nI (g_tw T b t)) (nI 0) S = some (if 0 ≤ a1 then (if ∃ k, k < g_np T b ∧ a1 = nI k then nI (g_oc T b t a1.toNatClampNeg) else -nI 9) else nI (g_id T b t (g_np T b)), S') ∧ x_fr wL2 S S' := by
  have hN := g_np_le (b := b) w
  have tl : g_tw T b t ≤ 1000000 := g_lt_le _ _ _
  refine x_forI (F := fun n p S => f_X9_tour_49 n a1 (nI (g_id T b t p)) (nI p) S) (N := g_np T b) (I := fun p S1 => x_fr wL2 S S1) (G := fun γ => ∃ S', γ = some (if 0 ≤ a1 then (if ∃ k, k < g_np T b ∧ a1 = nI k then nI (g_oc T b t a1.toNatClampNeg) else -nI 9) else nI (g_id T b t (g_np T b)), S') ∧ x_fr wL2 S S') ?_ ?_ (d := g_np T b) (a := 0) (n := 1000) (S := S) (by omega) (by omega) x_fr_rf
  · intro n S1 h1
    have hQ := mQ_fr h h1 w (fun q j q1 q2 => by unfold wL2 at q2; omega)
    refine ⟨S1, ?_, h1⟩
    show f_X9_tour_49 (n + 1) a1 (nI (g_id T b t (g_np T b))) (nI (g_np T b)) S1 = _
    rw [f_X9_tour_49, hQ.2.2.2.1, if_pos (nI_le (Nat.le_refl _) (by omega))]
    by_cases q : 0 ≤ a1
    · rw [if_pos q, if_pos q]
      by_cases c : ∃ k, k < g_np T b ∧ a1 = nI k
      · rw [if_pos c]
        obtain ⟨k, hk, rfl⟩ := c
        have e : S1.1 107 k = nI (g_oc T b t k) := by rw [h1.2 _ _ (by unfold wL2; omega)]; exact hc k hk
        rw [if_neg (nI_ge hk (by omega)), if_pos ((x_in (by omega)).mpr (by omega)), nI_clamp (by omega), e]
      · rw [if_neg c]
        rcases pk_ix a1 (n := g_np T b) (by omega) with z | z | z
        · rw [fa_le] at q; rw [fa_lt] at z; omega
        · rw [if_pos z]; rfl
        · exact absurd z c
    · rw [if_neg q, if_neg q]
  · intro n p S1 hp h1 go
    have hQ := mQ_fr h h1 w (fun q j q1 q2 => by unfold wL2 at q2; omega)
    have l1 := g_id_le (b := b) (t := t) w tl p (by omega)
    have l2 := g_lp_le (T := T) 4 (g_od T b p)
    show ∃ S', f_X9_tour_49 (n + 1) a1 (nI (g_id T b t p)) (nI p) S1 = _ ∧ _
    rw [f_X9_tour_49, hQ.2.2.2.1, if_neg (nI_ge hp (by omega)), s9_links w hQ hb hp, Option.bind_some]
    dsimp only
    rw [nI_add, show (1 : Int32) = nI 1 from rfl, nI_add]
    exact go (mL T (g_od T b p) S1) (x_fr_tr h1 fr_mL)
theorem z_tour (hw : wD D τ) (a1 : Int32) : zSim D τ (f_X8_tour a1) (f_X9_tour a1) := by
  have w := hw.1
  have h0 := wT_b w
  have hl := wPl_lf w hw.2.1
  have hN := g_np_le (b := g_lf D.Pl) w
  have tl : g_tw D.T (g_lf D.Pl) (g_to D.Pl) ≤ 1000000 := g_lt_le _ _ _
  by_cases hn : (-1 : Int32) ≤ a1
  · have key : ¬ 0 ≤ a1 ↔ a1 = (-1 : Int32) := by
      have z1 : ((-1 : Int32)).toInt = -1 := by decide
      have z0 : ((0 : Int32)).toInt = 0 := by decide
      rw [fa_le] at hn
      rw [fa_le, fa_eq]
      omega
    by_cases c : g_tw D.T (g_lf D.Pl) (g_to D.Pl) = 1000000
    · refine zSim_lk hw (-nI 9) (fun S hS => ?_) (fun S hS => ?_)
      · obtain ⟨S', sv, ci, cs, fs⟩ := CI_survey hw hS
        refine ⟨S', ?_, ci, yC_wS fs⟩
        rw [f_X8_tour, if_pos hn, sv, Option.bind_some]
        dsimp only
        rw [cs.2.2.2.1, c, if_neg (by decide)]
        rfl
      · have t0 : 0 < D.T 0 := by
          by_cases z : D.T 0 = 0
          · rw [g_tw_0 (g_np_0 z)] at c; omega
          · omega
        have ht := wPl_to w hw.2.1 t0
        have hm := MI_th hS
        obtain ⟨S', e, f, q, _⟩ := s9_tours w hm.1 ((hm.2.2.1 0 (by omega)).trans hl.1) hm.2.1 (by omega) ht.1 ((hm.2.2.1 1 (by omega)).trans ht.2)
        refine ⟨S', ?_, x_fr_tr fr_th (x_fr_sub f (fun q j hq => by unfold wTp at hq; unfold wQ; omega))⟩
        have e00 := hm.1 0 (by omega)
        rw [f_X9_tour, if_pos hn, e00, if_neg (nI_ne0 (by omega) (by omega)), e, Option.bind_some, if_pos c, if_pos (c := nI 0 = 0) nI_0]
        rfl
    · refine zSim_lk hw (if 0 ≤ a1 then (if ∃ k, k < g_np D.T (g_lf D.Pl) ∧ a1 = nI k then nI (g_oc D.T (g_lf D.Pl) (g_to D.Pl) a1.toNatClampNeg) else -nI 9) else nI (g_id D.T (g_lf D.Pl) (g_to D.Pl) (g_np D.T (g_lf D.Pl)))) (fun S hS => ?_) (fun S hS => ?_)
      · obtain ⟨S', sv, ci, cs, fs⟩ := CI_survey hw hS
        refine ⟨S', ?_, ci, yC_wS fs⟩
        rw [f_X8_tour, if_pos hn, sv, Option.bind_some]
        dsimp only
        rw [cs.2.2.2.1, if_pos (show nI (g_tw D.T (g_lf D.Pl) (g_to D.Pl)) < 1000000 from nI_lt (b := 1000000) (by omega) (by omega))]
        by_cases q : 0 ≤ a1
        · rw [if_neg (fun z => key.mpr z q), if_pos q]
          by_cases z : ∃ k, k < g_np D.T (g_lf D.Pl) ∧ a1 = nI k
          · rw [if_pos z]
            obtain ⟨k, hk, rfl⟩ := z
            rw [s4_hasT cs.1.1 w hk, Option.bind_some, if_neg (c := nI 1 = 0) (by decide), if_pos ((x_in (by omega)).mpr (by omega)), nI_clamp (by omega)]
            dsimp only
            rw [cs.2.2.2.2 c k hk]
          · rw [if_neg z, s4_hasF cs.1.1 w z, Option.bind_some, if_pos (c := nI 0 = 0) nI_0]
            rfl
        · rw [if_pos (key.mp q), if_neg q, s4_idle cs w, Option.bind_some]
      · by_cases t0 : D.T 0 = 0
        · refine ⟨z_w S 87 0 0, ?_, fr_th⟩
          have hm := MI_th hS
          have e00 := hm.1 0 (by omega)
          have np0 := g_np_0 (b := g_lf D.Pl) t0
          rw [f_X9_tour, if_pos hn, e00, t0, if_pos (c := nI 0 = 0) nI_0, np0]
          by_cases q : 0 ≤ a1
          · rw [if_pos q, if_pos q, if_neg (fun ⟨k, hk, _⟩ => absurd hk (Nat.not_lt_zero k))]; rfl
          · rw [if_neg q, if_neg q]
            show some (0, _) = some (nI (g_tw D.T (g_lf D.Pl) (g_to D.Pl)), _)
            rw [g_tw_0 np0]
            rfl
        · have ht := wPl_to w hw.2.1 (by omega)
          have hm := MI_th hS
          obtain ⟨S', e, f, q, g⟩ := s9_tours w hm.1 ((hm.2.2.1 0 (by omega)).trans hl.1) hm.2.1 (by omega) ht.1 ((hm.2.2.1 1 (by omega)).trans ht.2)
          obtain ⟨S2, e2, f2⟩ := s9_tour49 w q (by omega) a1 (g c).2
          refine ⟨S2, ?_, x_fr_tr (x_fr_tr fr_th (x_fr_sub f (fun q j hq => by unfold wTp at hq; unfold wQ; omega))) (x_fr_sub f2 (fun q j hq => by unfold wL2 at hq; unfold wQ; omega))⟩
          have e00 := hm.1 0 (by omega)
          rw [f_X9_tour, if_pos hn, e00, if_neg (nI_ne0 (by omega) (by omega)), e, Option.bind_some, if_neg c, if_neg (c := nI 1 = 0) (by decide)]
          dsimp only
          rw [(g c).1]
          exact e2
  · refine zSim_lk hw (-nI 1) (fun S hS => ⟨S, ?_, hS, yC_rf⟩) (fun S hS => ⟨z_w S 87 0 0, ?_, fr_th⟩)
    · rw [f_X8_tour, if_neg hn]; rfl
    · rw [f_X9_tour, if_neg hn]; rfl
theorem z_unseen (hw : wD D τ) : zSim D τ f_X8_unseen f_X9_unseen := by
  have w := hw.1
  have h0 := wT_b w
  have hl := wPl_lf w hw.2.1
  have hz := hw.2.2.2.2.2.2.2.2
  refine zSim_lk hw (nI (g_un D.T (g_lf D.Pl) D.m D.A D.B D.H)) (fun S hS => ?_) (fun S hS => ?_)
  · obtain ⟨P, nx, hP, h2, h3, h4, h5, h6, h7, h8, h9⟩ := id hS
    have e21 : S.2.1 = P := by rw [h2]
    obtain ⟨S', e, f⟩ := s7_sus w hP h3.1 hz h8 (b := g_lf D.Pl) (by omega)
    refine ⟨S', ?_, CI_work hS (by omega) (x_fr_sub f (fun q j hq => by unfold wU at hq; omega)) (cFr_fr h9 f (fun q j q1 q2 => by unfold wU at q2; omega)), yC_fr f (fun q j h1 h2 => by unfold wU at h2; omega)⟩
    rw [f_X8_unseen, e21, if_pos (show z_isP P from hP), h4.1 0 (by omega), hl.1, e, Option.bind_some]
  · have hm := MI_th hS
    obtain ⟨S', e, f⟩ := s9_un w hm.1 ((hm.2.2.1 0 (by omega)).trans hl.1) hz hm.2.2.2.2.2.2 (by omega)
    refine ⟨S', ?_, x_fr_tr fr_th (x_fr_sub f (fun q j hq => by unfold wN at hq; unfold wQ; omega))⟩
    rw [f_X9_unseen, e, Option.bind_some]
theorem z_ask (hw : wD D τ) : zSim D τ f_X8_ask f_X9_ask := by
  have w := hw.1
  have h0 := wT_b w
  have hl := wPl_lf w hw.2.1
  have hz := hw.2.2.2.2.2.2.2.2
  refine zSim_lk hw (g_ak D.T (g_lf D.Pl) (g_un D.T (g_lf D.Pl) D.m D.A D.B D.H)) (fun S hS => ?_) (fun S hS => ?_)
  · obtain ⟨P, nx, hP, h2, h3, h4, h5, h6, h7, h8, h9⟩ := id hS
    have e21 : S.2.1 = P := by rw [h2]
    obtain ⟨S', e, f⟩ := s7_ask w hP h3.1 hz h8 (b := g_lf D.Pl) (by omega)
    refine ⟨S', ?_, CI_work hS (by omega) (x_fr_sub f (fun q j hq => by unfold wK at hq; omega)) (cFr_fr h9 f (fun q j q1 q2 => by unfold wK at q2; omega)), yC_fr f (fun q j h1 h2 => by unfold wK at h2; omega)⟩
    rw [f_X8_ask, e21, if_pos (show z_isP P from hP), h4.1 0 (by omega), hl.1, e, Option.bind_some]
  · have hm := MI_th hS
    obtain ⟨S', e, f⟩ := s9_ask w hS.1 ((hS.2.2.1 0 (by omega)).trans hl.1) hz hm.2.2.2.2.2.2 (by omega)
    exact ⟨S', e, x_fr_sub f (fun q j hq => by unfold wJ at hq; unfold wQ; omega)⟩
theorem z_count (hw : wD D τ) (a1 : Int32) : zSim D τ (f_X8_count a1) (f_X9_count a1) := by
  have w := hw.1
  have h0 := wT_b w
  have hl := wPl_lf w hw.2.1
  have hN := g_np_le (b := g_lf D.Pl) w
  by_cases hj : ∃ j, j < 10 + 1 ∧ a1 = nI j
  · obtain ⟨j, hj, rfl⟩ := hj
    refine zSim_lk hw (if j < 4 then nI (D.T j) else if j = 4 then nI (b_ct (g_lf D.Pl) 14) else if j = 5 then D.Pl 1 else if j = 6 then D.Pl 2 else if j = 7 then nI (g_np D.T (g_lf D.Pl)) else if j = 8 then nI D.m else if j = 9 then nI D.len else nI D.sz) (fun S hS => ?_) (fun S hS => ?_)
    · obtain ⟨S', sv, ci, cs, fs⟩ := CI_survey hw hS
      obtain ⟨P, nx, hP, h2, h3, h4, h5, h6, h7, h8, h9⟩ := id hS
      have e21 : S.2.1 = P := by rw [h2]
      have hz : z_isP P := hP
      have e0 := h3.1.1.1
      have e1 := h3.1.1.2.1
      have e2 := h3.1.1.2.2.1
      have e3 := h3.1.1.2.2.2
      have e5 : S.1 32 0 = nI (g_lf D.Pl) := (h4.1 0 (by omega)).trans hl.1
      have e6 := b_bc (b := g_lf D.Pl) (by omega) S
      have e7 := h4.1 1 (by omega)
      have e8 := h4.1 2 (by omega)
      have e9 := cs.1.1.1
      have e10 := h8.1
      have e11 := h6.1
      have e12 := h5.2.2.1
      by_cases j7 : j = 7
      · subst j7
        refine ⟨S', ?_, ci, yC_wS fs⟩
        simp (disch := omega) only [f_X8_count, x_l0, x_l1, x_l2, x_l3, x_l4, x_l5, x_l6, x_l7, x_l8, x_l9, x_l10, x_l12, x_l13, x_l14, x_l16, x_l18, x_l20, x_l22, x_l32, x_l36, x_l48, x_l50, x_l54, x_l57, x_l59, x_l74, x_l81, x_l99, x_l104, x_l107, x_l110, x_l112, x_l115, x_l117, x_l162, x_l255, x_l512, x_l99999, x_l1000000, nI_leI, nI_ltI, nI_eq, nI_add, pk_mul, nI_clamp, x_in, x_bit, x_b0, x_b1, x_b0n, fa_or, fa_and, fb_xorI, x_an, Option.bind_some, b_has8, b_has9, ↓reduceIte, not_true_eq_false, not_false_eq_true, x_nn, Bool.false_eq_true, x_ar_k, x_ar_in, x_ar_w, b_wk, b_wj, b_wh, b_w2, x_ar_2, if_pos, if_neg, sv, e9]
      · refine ⟨S, ?_, hS, yC_rf⟩
        rcases (by omega : j = 0 ∨ j = 1 ∨ j = 2 ∨ j = 3 ∨ j = 4 ∨ j = 5 ∨ j = 6 ∨ j = 8 ∨ j = 9 ∨ j = 10) with rfl | rfl | rfl | rfl | rfl | rfl | rfl | rfl | rfl | rfl
        · simp (disch := omega) only [f_X8_count, e21, hz, x_l0, x_l1, x_l2, x_l3, x_l4, x_l5, x_l6, x_l7, x_l8, x_l9, x_l10, x_l12, x_l13, x_l14, x_l16, x_l18, x_l20, x_l22, x_l32, x_l36, x_l48, x_l50, x_l54, x_l57, x_l59, x_l74, x_l81, x_l99, x_l104, x_l107, x_l110, x_l112, x_l115, x_l117, x_l162, x_l255, x_l512, x_l99999, x_l1000000, nI_leI, nI_ltI, nI_eq, nI_add, pk_mul, nI_clamp, x_in, x_bit, x_b0, x_b1, x_b0n, fa_or, fa_and, fb_xorI, x_an, Option.bind_some, b_has8, b_has9, ↓reduceIte, not_true_eq_false, not_false_eq_true, x_nn, Bool.false_eq_true, x_ar_k, x_ar_in, x_ar_w, b_wk, b_wj, b_wh, b_w2, x_ar_2, if_pos, if_neg, e0]
        · simp (disch := omega) only [f_X8_count, e21, hz, x_l0, x_l1, x_l2, x_l3, x_l4, x_l5, x_l6, x_l7, x_l8, x_l9, x_l10, x_l12, x_l13, x_l14, x_l16, x_l18, x_l20, x_l22, x_l32, x_l36, x_l48, x_l50, x_l54, x_l57, x_l59, x_l74, x_l81, x_l99, x_l104, x_l107, x_l110, x_l112, x_l115, x_l117, x_l162, x_l255, x_l512, x_l99999, x_l1000000, nI_leI, nI_ltI, nI_eq, nI_add, pk_mul, nI_clamp, x_in, x_bit, x_b0, x_b1, x_b0n, fa_or, fa_and, fb_xorI, x_an, Option.bind_some, b_has8, b_has9, ↓reduceIte, not_true_eq_false, not_false_eq_true, x_nn, Bool.false_eq_true, x_ar_k, x_ar_in, x_ar_w, b_wk, b_wj, b_wh, b_w2, x_ar_2, if_pos, if_neg, e1]
        · simp (disch := omega) only [f_X8_count, e21, hz, x_l0, x_l1, x_l2, x_l3, x_l4, x_l5, x_l6, x_l7, x_l8, x_l9, x_l10, x_l12, x_l13, x_l14, x_l16, x_l18, x_l20, x_l22, x_l32, x_l36, x_l48, x_l50, x_l54, x_l57, x_l59, x_l74, x_l81, x_l99, x_l104, x_l107, x_l110, x_l112, x_l115, x_l117, x_l162, x_l255, x_l512, x_l99999, x_l1000000, nI_leI, nI_ltI, nI_eq, nI_add, pk_mul, nI_clamp, x_in, x_bit, x_b0, x_b1, x_b0n, fa_or, fa_and, fb_xorI, x_an, Option.bind_some, b_has8, b_has9, ↓reduceIte, not_true_eq_false, not_false_eq_true, x_nn, Bool.false_eq_true, x_ar_k, x_ar_in, x_ar_w, b_wk, b_wj, b_wh, b_w2, x_ar_2, if_pos, if_neg, e2]
        · simp (disch := omega) only [f_X8_count, e21, hz, x_l0, x_l1, x_l2, x_l3, x_l4, x_l5, x_l6, x_l7, x_l8, x_l9, x_l10, x_l12, x_l13, x_l14, x_l16, x_l18, x_l20, x_l22, x_l32, x_l36, x_l48, x_l50, x_l54, x_l57, x_l59, x_l74, x_l81, x_l99, x_l104, x_l107, x_l110, x_l112, x_l115, x_l117, x_l162, x_l255, x_l512, x_l99999, x_l1000000, nI_leI, nI_ltI, nI_eq, nI_add, pk_mul, nI_clamp, x_in, x_bit, x_b0, x_b1, x_b0n, fa_or, fa_and, fb_xorI, x_an, Option.bind_some, b_has8, b_has9, ↓reduceIte, not_true_eq_false, not_false_eq_true, x_nn, Bool.false_eq_true, x_ar_k, x_ar_in, x_ar_w, b_wk, b_wj, b_wh, b_w2, x_ar_2, if_pos, if_neg, e3]
        · simp (disch := omega) only [f_X8_count, e21, hz, x_l0, x_l1, x_l2, x_l3, x_l4, x_l5, x_l6, x_l7, x_l8, x_l9, x_l10, x_l12, x_l13, x_l14, x_l16, x_l18, x_l20, x_l22, x_l32, x_l36, x_l48, x_l50, x_l54, x_l57, x_l59, x_l74, x_l81, x_l99, x_l104, x_l107, x_l110, x_l112, x_l115, x_l117, x_l162, x_l255, x_l512, x_l99999, x_l1000000, nI_leI, nI_ltI, nI_eq, nI_add, pk_mul, nI_clamp, x_in, x_bit, x_b0, x_b1, x_b0n, fa_or, fa_and, fb_xorI, x_an, Option.bind_some, b_has8, b_has9, ↓reduceIte, not_true_eq_false, not_false_eq_true, x_nn, Bool.false_eq_true, x_ar_k, x_ar_in, x_ar_w, b_wk, b_wj, b_wh, b_w2, x_ar_2, if_pos, if_neg, e5, e6]
        · simp (disch := omega) only [f_X8_count, e21, hz, x_l0, x_l1, x_l2, x_l3, x_l4, x_l5, x_l6, x_l7, x_l8, x_l9, x_l10, x_l12, x_l13, x_l14, x_l16, x_l18, x_l20, x_l22, x_l32, x_l36, x_l48, x_l50, x_l54, x_l57, x_l59, x_l74, x_l81, x_l99, x_l104, x_l107, x_l110, x_l112, x_l115, x_l117, x_l162, x_l255, x_l512, x_l99999, x_l1000000, nI_leI, nI_ltI, nI_eq, nI_add, pk_mul, nI_clamp, x_in, x_bit, x_b0, x_b1, x_b0n, fa_or, fa_and, fb_xorI, x_an, Option.bind_some, b_has8, b_has9, ↓reduceIte, not_true_eq_false, not_false_eq_true, x_nn, Bool.false_eq_true, x_ar_k, x_ar_in, x_ar_w, b_wk, b_wj, b_wh, b_w2, x_ar_2, if_pos, if_neg, e7]
        · simp (disch := omega) only [f_X8_count, e21, hz, x_l0, x_l1, x_l2, x_l3, x_l4, x_l5, x_l6, x_l7, x_l8, x_l9, x_l10, x_l12, x_l13, x_l14, x_l16, x_l18, x_l20, x_l22, x_l32, x_l36, x_l48, x_l50, x_l54, x_l57, x_l59, x_l74, x_l81, x_l99, x_l104, x_l107, x_l110, x_l112, x_l115, x_l117, x_l162, x_l255, x_l512, x_l99999, x_l1000000, nI_leI, nI_ltI, nI_eq, nI_add, pk_mul, nI_clamp, x_in, x_bit, x_b0, x_b1, x_b0n, fa_or, fa_and, fb_xorI, x_an, Option.bind_some, b_has8, b_has9, ↓reduceIte, not_true_eq_false, not_false_eq_true, x_nn, Bool.false_eq_true, x_ar_k, x_ar_in, x_ar_w, b_wk, b_wj, b_wh, b_w2, x_ar_2, if_pos, if_neg, e8]
        · simp (disch := omega) only [f_X8_count, e21, hz, x_l0, x_l1, x_l2, x_l3, x_l4, x_l5, x_l6, x_l7, x_l8, x_l9, x_l10, x_l12, x_l13, x_l14, x_l16, x_l18, x_l20, x_l22, x_l32, x_l36, x_l48, x_l50, x_l54, x_l57, x_l59, x_l74, x_l81, x_l99, x_l104, x_l107, x_l110, x_l112, x_l115, x_l117, x_l162, x_l255, x_l512, x_l99999, x_l1000000, nI_leI, nI_ltI, nI_eq, nI_add, pk_mul, nI_clamp, x_in, x_bit, x_b0, x_b1, x_b0n, fa_or, fa_and, fb_xorI, x_an, Option.bind_some, b_has8, b_has9, ↓reduceIte, not_true_eq_false, not_false_eq_true, x_nn, Bool.false_eq_true, x_ar_k, x_ar_in, x_ar_w, b_wk, b_wj, b_wh, b_w2, x_ar_2, if_pos, if_neg, e10]
        · simp (disch := omega) only [f_X8_count, e21, hz, x_l0, x_l1, x_l2, x_l3, x_l4, x_l5, x_l6, x_l7, x_l8, x_l9, x_l10, x_l12, x_l13, x_l14, x_l16, x_l18, x_l20, x_l22, x_l32, x_l36, x_l48, x_l50, x_l54, x_l57, x_l59, x_l74, x_l81, x_l99, x_l104, x_l107, x_l110, x_l112, x_l115, x_l117, x_l162, x_l255, x_l512, x_l99999, x_l1000000, nI_leI, nI_ltI, nI_eq, nI_add, pk_mul, nI_clamp, x_in, x_bit, x_b0, x_b1, x_b0n, fa_or, fa_and, fb_xorI, x_an, Option.bind_some, b_has8, b_has9, ↓reduceIte, not_true_eq_false, not_false_eq_true, x_nn, Bool.false_eq_true, x_ar_k, x_ar_in, x_ar_w, b_wk, b_wj, b_wh, b_w2, x_ar_2, if_pos, if_neg, e11]
        · simp (disch := omega) only [f_X8_count, e21, hz, x_l0, x_l1, x_l2, x_l3, x_l4, x_l5, x_l6, x_l7, x_l8, x_l9, x_l10, x_l12, x_l13, x_l14, x_l16, x_l18, x_l20, x_l22, x_l32, x_l36, x_l48, x_l50, x_l54, x_l57, x_l59, x_l74, x_l81, x_l99, x_l104, x_l107, x_l110, x_l112, x_l115, x_l117, x_l162, x_l255, x_l512, x_l99999, x_l1000000, nI_leI, nI_ltI, nI_eq, nI_add, pk_mul, nI_clamp, x_in, x_bit, x_b0, x_b1, x_b0n, fa_or, fa_and, fb_xorI, x_an, Option.bind_some, b_has8, b_has9, ↓reduceIte, not_true_eq_false, not_false_eq_true, x_nn, Bool.false_eq_true, x_ar_k, x_ar_in, x_ar_w, b_wk, b_wj, b_wh, b_w2, x_ar_2, if_pos, if_neg, e12]
    · obtain ⟨S', pc, fp, hq⟩ := MI_pieces hw hS
      have fq : x_fr wQ S S' := x_fr_sub fp (fun q j hq => by unfold wQ; omega)
      have hm := MI_th hS
      have e0 := fun S => s9_inK (v := nI j) (k := 10) (by omega) S ⟨j, hj, rfl⟩
      have e5 : (z_w S 87 0 0).1 91 0 = nI (g_lf D.Pl) := (hm.2.2.1 0 (by omega)).trans hl.1
      have e6 := b_ones (b := g_lf D.Pl) (by omega) (z_w S 87 0 0)
      have e7 := hm.2.2.1 1 (by omega)
      have e8 := hm.2.2.1 2 (by omega)
      have hm2 := MI_work hS fq
      have e9 := hq.2.2.2.1
      have e10 := hm2.2.2.2.2.2.2.1
      have e11 := hm2.2.2.2.2.1.1
      have e12 := hm2.2.2.2.1.1
      unfold f_X9_count
      by_cases j7 : 7 ≤ j
      · refine ⟨S', ?_, fq⟩
        generalize z_w S 87 0 0 = S1 at *
        rcases (by omega : j = 7 ∨ j = 8 ∨ j = 9 ∨ j = 10) with rfl | rfl | rfl | rfl
        · simp (disch := omega) only [x_l0, x_l1, x_l2, x_l3, x_l4, x_l5, x_l6, x_l7, x_l8, x_l9, x_l10, x_l12, x_l13, x_l14, x_l16, x_l18, x_l20, x_l22, x_l32, x_l36, x_l48, x_l50, x_l54, x_l57, x_l59, x_l74, x_l81, x_l99, x_l104, x_l107, x_l110, x_l112, x_l115, x_l117, x_l162, x_l255, x_l512, x_l99999, x_l1000000, nI_leI, nI_ltI, nI_eq, nI_add, pk_mul, nI_clamp, x_in, x_bit, x_b0, x_b1, x_b0n, fa_or, fa_and, fb_xorI, x_an, Option.bind_some, b_has8, b_has9, ↓reduceIte, not_true_eq_false, not_false_eq_true, x_nn, Bool.false_eq_true, x_ar_k, x_ar_in, x_ar_w, b_wk, b_wj, b_wh, b_w2, x_ar_2, if_pos, if_neg, e0, pc, e9]
        · simp (disch := omega) only [x_l0, x_l1, x_l2, x_l3, x_l4, x_l5, x_l6, x_l7, x_l8, x_l9, x_l10, x_l12, x_l13, x_l14, x_l16, x_l18, x_l20, x_l22, x_l32, x_l36, x_l48, x_l50, x_l54, x_l57, x_l59, x_l74, x_l81, x_l99, x_l104, x_l107, x_l110, x_l112, x_l115, x_l117, x_l162, x_l255, x_l512, x_l99999, x_l1000000, nI_leI, nI_ltI, nI_eq, nI_add, pk_mul, nI_clamp, x_in, x_bit, x_b0, x_b1, x_b0n, fa_or, fa_and, fb_xorI, x_an, Option.bind_some, b_has8, b_has9, ↓reduceIte, not_true_eq_false, not_false_eq_true, x_nn, Bool.false_eq_true, x_ar_k, x_ar_in, x_ar_w, b_wk, b_wj, b_wh, b_w2, x_ar_2, if_pos, if_neg, e0, pc, e10]
        · simp (disch := omega) only [x_l0, x_l1, x_l2, x_l3, x_l4, x_l5, x_l6, x_l7, x_l8, x_l9, x_l10, x_l12, x_l13, x_l14, x_l16, x_l18, x_l20, x_l22, x_l32, x_l36, x_l48, x_l50, x_l54, x_l57, x_l59, x_l74, x_l81, x_l99, x_l104, x_l107, x_l110, x_l112, x_l115, x_l117, x_l162, x_l255, x_l512, x_l99999, x_l1000000, nI_leI, nI_ltI, nI_eq, nI_add, pk_mul, nI_clamp, x_in, x_bit, x_b0, x_b1, x_b0n, fa_or, fa_and, fb_xorI, x_an, Option.bind_some, b_has8, b_has9, ↓reduceIte, not_true_eq_false, not_false_eq_true, x_nn, Bool.false_eq_true, x_ar_k, x_ar_in, x_ar_w, b_wk, b_wj, b_wh, b_w2, x_ar_2, if_pos, if_neg, e0, pc, e11]
        · simp (disch := omega) only [x_l0, x_l1, x_l2, x_l3, x_l4, x_l5, x_l6, x_l7, x_l8, x_l9, x_l10, x_l12, x_l13, x_l14, x_l16, x_l18, x_l20, x_l22, x_l32, x_l36, x_l48, x_l50, x_l54, x_l57, x_l59, x_l74, x_l81, x_l99, x_l104, x_l107, x_l110, x_l112, x_l115, x_l117, x_l162, x_l255, x_l512, x_l99999, x_l1000000, nI_leI, nI_ltI, nI_eq, nI_add, pk_mul, nI_clamp, x_in, x_bit, x_b0, x_b1, x_b0n, fa_or, fa_and, fb_xorI, x_an, Option.bind_some, b_has8, b_has9, ↓reduceIte, not_true_eq_false, not_false_eq_true, x_nn, Bool.false_eq_true, x_ar_k, x_ar_in, x_ar_w, b_wk, b_wj, b_wh, b_w2, x_ar_2, if_pos, if_neg, e0, pc, e12]
      · refine ⟨z_w S 87 0 0, ?_, fr_th⟩
        by_cases j4 : j < 4
        · have e13 := hm.1 j (by omega)
          generalize z_w S 87 0 0 = S1 at *
          simp (disch := omega) only [x_l0, x_l1, x_l2, x_l3, x_l4, x_l5, x_l6, x_l7, x_l8, x_l9, x_l10, x_l12, x_l13, x_l14, x_l16, x_l18, x_l20, x_l22, x_l32, x_l36, x_l48, x_l50, x_l54, x_l57, x_l59, x_l74, x_l81, x_l99, x_l104, x_l107, x_l110, x_l112, x_l115, x_l117, x_l162, x_l255, x_l512, x_l99999, x_l1000000, nI_leI, nI_ltI, nI_eq, nI_add, pk_mul, nI_clamp, x_in, x_bit, x_b0, x_b1, x_b0n, fa_or, fa_and, fb_xorI, x_an, Option.bind_some, b_has8, b_has9, ↓reduceIte, not_true_eq_false, not_false_eq_true, x_nn, Bool.false_eq_true, x_ar_k, x_ar_in, x_ar_w, b_wk, b_wj, b_wh, b_w2, x_ar_2, if_pos, if_neg, e0, e13]
        · generalize z_w S 87 0 0 = S1 at *
          rcases (by omega : j = 4 ∨ j = 5 ∨ j = 6) with rfl | rfl | rfl
          · simp (disch := omega) only [x_l0, x_l1, x_l2, x_l3, x_l4, x_l5, x_l6, x_l7, x_l8, x_l9, x_l10, x_l12, x_l13, x_l14, x_l16, x_l18, x_l20, x_l22, x_l32, x_l36, x_l48, x_l50, x_l54, x_l57, x_l59, x_l74, x_l81, x_l99, x_l104, x_l107, x_l110, x_l112, x_l115, x_l117, x_l162, x_l255, x_l512, x_l99999, x_l1000000, nI_leI, nI_ltI, nI_eq, nI_add, pk_mul, nI_clamp, x_in, x_bit, x_b0, x_b1, x_b0n, fa_or, fa_and, fb_xorI, x_an, Option.bind_some, b_has8, b_has9, ↓reduceIte, not_true_eq_false, not_false_eq_true, x_nn, Bool.false_eq_true, x_ar_k, x_ar_in, x_ar_w, b_wk, b_wj, b_wh, b_w2, x_ar_2, if_pos, if_neg, e0, e5, e6]
          · rw [Nat.zero_add] at e7
            simp (disch := omega) only [x_l0, x_l1, x_l2, x_l3, x_l4, x_l5, x_l6, x_l7, x_l8, x_l9, x_l10, x_l12, x_l13, x_l14, x_l16, x_l18, x_l20, x_l22, x_l32, x_l36, x_l48, x_l50, x_l54, x_l57, x_l59, x_l74, x_l81, x_l99, x_l104, x_l107, x_l110, x_l112, x_l115, x_l117, x_l162, x_l255, x_l512, x_l99999, x_l1000000, nI_leI, nI_ltI, nI_eq, nI_add, pk_mul, nI_clamp, x_in, x_bit, x_b0, x_b1, x_b0n, fa_or, fa_and, fb_xorI, x_an, Option.bind_some, b_has8, b_has9, ↓reduceIte, not_true_eq_false, not_false_eq_true, x_nn, Bool.false_eq_true, x_ar_k, x_ar_in, x_ar_w, b_wk, b_wj, b_wh, b_w2, x_ar_2, if_pos, if_neg, e0, e7]
          · rw [Nat.zero_add] at e8
            simp (disch := omega) only [x_l0, x_l1, x_l2, x_l3, x_l4, x_l5, x_l6, x_l7, x_l8, x_l9, x_l10, x_l12, x_l13, x_l14, x_l16, x_l18, x_l20, x_l22, x_l32, x_l36, x_l48, x_l50, x_l54, x_l57, x_l59, x_l74, x_l81, x_l99, x_l104, x_l107, x_l110, x_l112, x_l115, x_l117, x_l162, x_l255, x_l512, x_l99999, x_l1000000, nI_leI, nI_ltI, nI_eq, nI_add, pk_mul, nI_clamp, x_in, x_bit, x_b0, x_b1, x_b0n, fa_or, fa_and, fb_xorI, x_an, Option.bind_some, b_has8, b_has9, ↓reduceIte, not_true_eq_false, not_false_eq_true, x_nn, Bool.false_eq_true, x_ar_k, x_ar_in, x_ar_w, b_wk, b_wj, b_wh, b_w2, x_ar_2, if_pos, if_neg, e0, e8]
  · refine zSim_lk hw (-nI 1) (fun S hS => ⟨S, ?_, hS, yC_rf⟩) (fun S hS => ⟨z_w S 87 0 0, ?_, fr_th⟩)
    · simp (disch := omega) only [f_X8_count, x_l0, x_l1, x_l2, x_l3, x_l4, x_l5, x_l6, x_l7, x_l8, x_l9, x_l10, x_l12, x_l13, x_l14, x_l16, x_l18, x_l20, x_l22, x_l32, x_l36, x_l48, x_l50, x_l54, x_l57, x_l59, x_l74, x_l81, x_l99, x_l104, x_l107, x_l110, x_l112, x_l115, x_l117, x_l162, x_l255, x_l512, x_l99999, x_l1000000, nI_leI, nI_ltI, nI_eq, nI_add, pk_mul, nI_clamp, x_in, x_bit, x_b0, x_b1, x_b0n, fa_or, fa_and, fb_xorI, x_an, Option.bind_some, b_has8, b_has9, ↓reduceIte, not_true_eq_false, not_false_eq_true, x_nn, Bool.false_eq_true, x_ar_k, x_ar_in, x_ar_w, b_wk, b_wj, b_wh, b_w2, x_ar_2, if_pos, if_neg, x_no hj (j := 0) (by omega), x_no hj (j := 1) (by omega), x_no hj (j := 2) (by omega), x_no hj (j := 3) (by omega), x_no hj (j := 4) (by omega), x_no hj (j := 5) (by omega), x_no hj (j := 6) (by omega), x_no hj (j := 7) (by omega), x_no hj (j := 8) (by omega), x_no hj (j := 9) (by omega), x_no hj (j := 10) (by omega)]
    · have e0 := fun S => s9_inN (v := a1) (k := 10) (by omega) S hj
      unfold f_X9_count
      generalize z_w S 87 0 0 = S1 at *
      simp (disch := omega) only [x_l0, x_l1, x_l2, x_l3, x_l4, x_l5, x_l6, x_l7, x_l8, x_l9, x_l10, x_l12, x_l13, x_l14, x_l16, x_l18, x_l20, x_l22, x_l32, x_l36, x_l48, x_l50, x_l54, x_l57, x_l59, x_l74, x_l81, x_l99, x_l104, x_l107, x_l110, x_l112, x_l115, x_l117, x_l162, x_l255, x_l512, x_l99999, x_l1000000, nI_leI, nI_ltI, nI_eq, nI_add, pk_mul, nI_clamp, x_in, x_bit, x_b0, x_b1, x_b0n, fa_or, fa_and, fb_xorI, x_an, Option.bind_some, b_has8, b_has9, ↓reduceIte, not_true_eq_false, not_false_eq_true, x_nn, Bool.false_eq_true, x_ar_k, x_ar_in, x_ar_w, b_wk, b_wj, b_wh, b_w2, x_ar_2, if_pos, if_neg, e0]
end LP2
