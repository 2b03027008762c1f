/-! ===== calls that only look ===== -/
def wQ (q j : Nat) : Prop := (q = 87 ∧ (j = 0 ∨ 20 ≤ j)) ∨ 99 ≤ q
theorem x_inK {v : Int32} {k : Nat} (hk : k < 2 ^ 31) : ((0 : Int32) ≤ v ∧ v ≤ nI k) ↔ ∃ j, j < k + 1 ∧ v = nI j := by
  constructor
  · rintro ⟨h1, h2⟩
    rw [fa_le] at h1 h2
    rw [nI_toInt hk] at h2
    have z : ((0 : Int32)).toInt = 0 := by decide
    rw [z] at h1
    refine ⟨v.toInt.toNat, by omega, ?_⟩
    rw [fa_eq, nI_toInt (by omega)]
    omega
  · rintro ⟨j, hj, rfl⟩
    exact ⟨nI_le (a := 0) (by omega) (by omega), nI_le (by omega) (by omega)⟩
theorem s9_inK {v : Int32} {k : Nat} (hk : k < 2 ^ 31) (S : zS) : (∃ j, j < k + 1 ∧ v = nI j) → f_X9_in v (nI 0) (nI k) S = some (nI 1, S) := fun h => by
  rw [show nI 0 = (0 : Int32) from rfl, s9_in, if_pos ((x_inK hk).mpr h)]
theorem s9_inN {v : Int32} {k : Nat} (hk : k < 2 ^ 31) (S : zS) : (¬ ∃ j, j < k + 1 ∧ v = nI j) → f_X9_in v (nI 0) (nI k) S = some (nI 0, S) := fun h => by
  rw [show nI 0 = (0 : Int32) from rfl, s9_in, if_neg (fun q => h ((x_inK hk).mp q))]
  rfl
theorem s9_inM {v : Int32} {n : Nat} (hn : n < 2 ^ 31) (S : zS) : f_X9_in v (nI 0) (nI n - nI 1) S = some (if ∃ j, j < n ∧ v = nI j then nI 1 else nI 0, S) := by
  rw [show nI 0 = (0 : Int32) from rfl, show nI 1 = (1 : Int32) from rfl, s9_in]
  have key : ((0 : Int32) ≤ v ∧ v ≤ nI n - 1) ↔ ∃ j, j < n ∧ v = nI j := by
    by_cases z : n = 0
    · subst z
      constructor
      · rintro ⟨h1, h2⟩
        rw [fa_le] at h1 h2
        have z1 : ((0 : Int32)).toInt = 0 := by decide
        have z2 : (nI 0 - 1).toInt = -1 := by decide
        omega
      · rintro ⟨j, hj, _⟩; omega
    · have e : nI n - (1 : Int32) = nI (n - 1) := pk_sub (b := 1) (by omega)
      rw [e, x_inK (by omega)]
      constructor
      · rintro ⟨j, hj, h⟩; exact ⟨j, by omega, h⟩
      · rintro ⟨j, hj, h⟩; exact ⟨j, by omega, h⟩
  by_cases c : ∃ j, j < n ∧ v = nI j
  · rw [if_pos c, if_pos (key.mpr c)]; rfl
  · rw [if_neg c, if_neg (fun q => c (key.mp q))]; rfl
section LO
variable {D : gD} {τ : Nat}
theorem zSim_lk {f8 f9 : zS → Option (Int32 × zS)} (hw : wD D τ) (r : Int32) (h8 : ∀ S, CI D S → ∃ S', f8 S = some (r, S') ∧ CI D S' ∧ yC S S') (h9 : ∀ S, MI D S → ∃ S', f9 S = some (r, S') ∧ x_fr wQ S S') : zSim D τ f8 f9 := zSim_look hw r h8 h9
theorem fr_th {S : zS} : x_fr wQ S (z_w S 87 0 0) := x_fr_w x_fr_rf (Or.inl ⟨rfl, Or.inl rfl⟩)
theorem MI_th {S : zS} (h : MI D S) : MI D (z_w S 87 0 0) := MI_work h fr_th

theorem x_no {v : Int32} {n : Nat} (h : ¬ ∃ j, j < n ∧ v = nI j) {j : Nat} (hj : j < n) : ¬ v = nI j := fun e => h ⟨j, hj, e⟩
theorem x_ex {P : Prop} [Decidable P] (h : P) : (if P then nI 1 else nI 0) = nI 1 := if_pos h
theorem x_nx {P : Prop} [Decidable P] (h : ¬ P) : (if P then nI 1 else nI 0) = nI 0 := if_neg h
theorem z_corner (hw : wD D τ) (a1 a2 : Int32) : zSim D τ (f_X8_corner a1 a2) (f_X9_corner a1 a2) := by
  have w := hw.1
  have h0 := wT_b w
  have hl := wPl_lf w hw.2.1
  by_cases hk : ∃ k, k < D.T 0 ∧ a1 = nI k
  · obtain ⟨k, hk, rfl⟩ := hk
    by_cases hj : ∃ j, j < 3 + 1 ∧ a2 = nI j
    · obtain ⟨j, hj, rfl⟩ := hj
      refine zSim_lk hw (if j = 0 then nI (D.T (4 + k)) else if j = 1 then nI (D.T (13 + k)) else if j = 2 then nI (g_deg D.T (g_lf D.Pl) k) else D.Pl (4 + k)) (fun S hS => ⟨S, ?_, hS, yC_rf⟩) (fun S hS => ⟨z_w S 87 0 0, ?_, fr_th⟩)
      · obtain ⟨P, nx, hP, h2, h3, h4, h5, h6, h7, h8, h9⟩ := hS
        have e21 : S.2.1 = P := by rw [h2]
        have hz : z_isP P := hP
        have e1 := s1_hasT w h3.1 hk
        have e2 := (h3.1.2.1 k hk).1
        have e3 := (h3.1.2.1 k hk).2
        have e4 := h4.2 k (by omega)
        have e5 : S.1 32 0 = nI (g_lf D.Pl) := (h4.1 0 (by omega)).trans hl.1
        have e6 := s1_deg (b := g_lf D.Pl) (k := k) w h3.1 (by omega) (by omega)
        rcases (by omega : j = 0 ∨ j = 1 ∨ j = 2 ∨ j = 3) with rfl | rfl | rfl | rfl
        · simp (disch := omega) only [f_X8_corner, e21, x_l0, x_l1, x_l2, x_l3, x_l4, x_l5, x_l6, x_l7, x_l8, x_l9, x_l10, x_l12, x_l13, x_l14, x_l16, x_l18, x_l20, x_l22, x_l32, x_l36, x_l48, x_l50, x_l54, x_l57, x_l59, x_l74, x_l81, x_l99, x_l104, x_l107, x_l110, x_l112, x_l115, x_l117, x_l162, x_l255, x_l512, x_l99999, x_l1000000, nI_leI, nI_ltI, nI_eq, nI_add, pk_mul, nI_clamp, x_in, x_bit, x_b0, x_b1, x_b0n, fa_or, fa_and, fb_xorI, x_an, Option.bind_some, b_has8, b_has9, ↓reduceIte, not_true_eq_false, not_false_eq_true, x_nn, Bool.false_eq_true, x_ar_k, x_ar_in, x_ar_w, b_wk, b_wj, b_wh, b_w2, x_ar_2, if_pos, if_neg, e1, e2, hz]
        · simp (disch := omega) only [f_X8_corner, e21, x_l0, x_l1, x_l2, x_l3, x_l4, x_l5, x_l6, x_l7, x_l8, x_l9, x_l10, x_l12, x_l13, x_l14, x_l16, x_l18, x_l20, x_l22, x_l32, x_l36, x_l48, x_l50, x_l54, x_l57, x_l59, x_l74, x_l81, x_l99, x_l104, x_l107, x_l110, x_l112, x_l115, x_l117, x_l162, x_l255, x_l512, x_l99999, x_l1000000, nI_leI, nI_ltI, nI_eq, nI_add, pk_mul, nI_clamp, x_in, x_bit, x_b0, x_b1, x_b0n, fa_or, fa_and, fb_xorI, x_an, Option.bind_some, b_has8, b_has9, ↓reduceIte, not_true_eq_false, not_false_eq_true, x_nn, Bool.false_eq_true, x_ar_k, x_ar_in, x_ar_w, b_wk, b_wj, b_wh, b_w2, x_ar_2, if_pos, if_neg, e1, e3, hz]
        · simp (disch := omega) only [f_X8_corner, e21, x_l0, x_l1, x_l2, x_l3, x_l4, x_l5, x_l6, x_l7, x_l8, x_l9, x_l10, x_l12, x_l13, x_l14, x_l16, x_l18, x_l20, x_l22, x_l32, x_l36, x_l48, x_l50, x_l54, x_l57, x_l59, x_l74, x_l81, x_l99, x_l104, x_l107, x_l110, x_l112, x_l115, x_l117, x_l162, x_l255, x_l512, x_l99999, x_l1000000, nI_leI, nI_ltI, nI_eq, nI_add, pk_mul, nI_clamp, x_in, x_bit, x_b0, x_b1, x_b0n, fa_or, fa_and, fb_xorI, x_an, Option.bind_some, b_has8, b_has9, ↓reduceIte, not_true_eq_false, not_false_eq_true, x_nn, Bool.false_eq_true, x_ar_k, x_ar_in, x_ar_w, b_wk, b_wj, b_wh, b_w2, x_ar_2, if_pos, if_neg, e1, e5, e6, hz]
        · simp (disch := omega) only [f_X8_corner, e21, x_l0, x_l1, x_l2, x_l3, x_l4, x_l5, x_l6, x_l7, x_l8, x_l9, x_l10, x_l12, x_l13, x_l14, x_l16, x_l18, x_l20, x_l22, x_l32, x_l36, x_l48, x_l50, x_l54, x_l57, x_l59, x_l74, x_l81, x_l99, x_l104, x_l107, x_l110, x_l112, x_l115, x_l117, x_l162, x_l255, x_l512, x_l99999, x_l1000000, nI_leI, nI_ltI, nI_eq, nI_add, pk_mul, nI_clamp, x_in, x_bit, x_b0, x_b1, x_b0n, fa_or, fa_and, fb_xorI, x_an, Option.bind_some, b_has8, b_has9, ↓reduceIte, not_true_eq_false, not_false_eq_true, x_nn, Bool.false_eq_true, x_ar_k, x_ar_in, x_ar_w, b_wk, b_wj, b_wh, b_w2, x_ar_2, if_pos, if_neg, e1, e4, hz]
      · have hm := MI_th hS
        have e1 := s9_isC (T := D.T) (by omega) hm.1 hk
        have e0 := fun S => s9_inK (v := nI j) (k := 3) (by omega) S ⟨j, hj, rfl⟩
        have e2 := hm.1 (4 + k) (by omega)
        have e3 := hm.1 (13 + k) (by omega)
        have e4 := hm.2.2.1 (4 + k) (by omega)
        rw [Nat.zero_add] at e4
        have e5 : (z_w S 87 0 0).1 91 0 = nI (g_lf D.Pl) := (hm.2.2.1 0 (by omega)).trans hl.1
        have e6 := s9_deg (b := g_lf D.Pl) (k := k) w hm.1 (by omega) (by omega)
        unfold f_X9_corner
        generalize z_w S 87 0 0 = S1 at *
        rcases (by omega : j = 0 ∨ j = 1 ∨ j = 2 ∨ j = 3) with rfl | rfl | rfl | rfl
        · simp (disch := omega) only [x_l0, x_l1, x_l2, x_l3, x_l4, x_l5, x_l6, x_l7, x_l8, x_l9, x_l10, x_l12, x_l13, x_l14, x_l16, x_l18, x_l20, x_l22, x_l32, x_l36, x_l48, x_l50, x_l54, x_l57, x_l59, x_l74, x_l81, x_l99, x_l104, x_l107, x_l110, x_l112, x_l115, x_l117, x_l162, x_l255, x_l512, x_l99999, x_l1000000, nI_leI, nI_ltI, nI_eq, nI_add, pk_mul, nI_clamp, x_in, x_bit, x_b0, x_b1, x_b0n, fa_or, fa_and, fb_xorI, x_an, Option.bind_some, b_has8, b_has9, ↓reduceIte, not_true_eq_false, not_false_eq_true, x_nn, Bool.false_eq_true, x_ar_k, x_ar_in, x_ar_w, b_wk, b_wj, b_wh, b_w2, x_ar_2, if_pos, if_neg, e0, e1, e2]
        · simp (disch := omega) only [x_l0, x_l1, x_l2, x_l3, x_l4, x_l5, x_l6, x_l7, x_l8, x_l9, x_l10, x_l12, x_l13, x_l14, x_l16, x_l18, x_l20, x_l22, x_l32, x_l36, x_l48, x_l50, x_l54, x_l57, x_l59, x_l74, x_l81, x_l99, x_l104, x_l107, x_l110, x_l112, x_l115, x_l117, x_l162, x_l255, x_l512, x_l99999, x_l1000000, nI_leI, nI_ltI, nI_eq, nI_add, pk_mul, nI_clamp, x_in, x_bit, x_b0, x_b1, x_b0n, fa_or, fa_and, fb_xorI, x_an, Option.bind_some, b_has8, b_has9, ↓reduceIte, not_true_eq_false, not_false_eq_true, x_nn, Bool.false_eq_true, x_ar_k, x_ar_in, x_ar_w, b_wk, b_wj, b_wh, b_w2, x_ar_2, if_pos, if_neg, e0, e1, e3]
        · simp (disch := omega) only [x_l0, x_l1, x_l2, x_l3, x_l4, x_l5, x_l6, x_l7, x_l8, x_l9, x_l10, x_l12, x_l13, x_l14, x_l16, x_l18, x_l20, x_l22, x_l32, x_l36, x_l48, x_l50, x_l54, x_l57, x_l59, x_l74, x_l81, x_l99, x_l104, x_l107, x_l110, x_l112, x_l115, x_l117, x_l162, x_l255, x_l512, x_l99999, x_l1000000, nI_leI, nI_ltI, nI_eq, nI_add, pk_mul, nI_clamp, x_in, x_bit, x_b0, x_b1, x_b0n, fa_or, fa_and, fb_xorI, x_an, Option.bind_some, b_has8, b_has9, ↓reduceIte, not_true_eq_false, not_false_eq_true, x_nn, Bool.false_eq_true, x_ar_k, x_ar_in, x_ar_w, b_wk, b_wj, b_wh, b_w2, x_ar_2, if_pos, if_neg, e0, e1, e5, e6]
        · simp (disch := omega) only [x_l0, x_l1, x_l2, x_l3, x_l4, x_l5, x_l6, x_l7, x_l8, x_l9, x_l10, x_l12, x_l13, x_l14, x_l16, x_l18, x_l20, x_l22, x_l32, x_l36, x_l48, x_l50, x_l54, x_l57, x_l59, x_l74, x_l81, x_l99, x_l104, x_l107, x_l110, x_l112, x_l115, x_l117, x_l162, x_l255, x_l512, x_l99999, x_l1000000, nI_leI, nI_ltI, nI_eq, nI_add, pk_mul, nI_clamp, x_in, x_bit, x_b0, x_b1, x_b0n, fa_or, fa_and, fb_xorI, x_an, Option.bind_some, b_has8, b_has9, ↓reduceIte, not_true_eq_false, not_false_eq_true, x_nn, Bool.false_eq_true, x_ar_k, x_ar_in, x_ar_w, b_wk, b_wj, b_wh, b_w2, x_ar_2, if_pos, if_neg, e0, e1, e4]
    · refine zSim_lk hw (-nI 1) (fun S hS => ⟨S, ?_, hS, yC_rf⟩) (fun S hS => ⟨z_w S 87 0 0, ?_, fr_th⟩)
      · obtain ⟨P, nx, hP, h2, h3, h4, h5, h6, h7, h8, h9⟩ := hS
        have e21 : S.2.1 = P := by rw [h2]
        have hz : z_isP P := hP
        have e1 := s1_hasT w h3.1 hk
        simp (disch := omega) only [f_X8_corner, e21, x_l0, x_l1, x_l2, x_l3, x_l4, x_l5, x_l6, x_l7, x_l8, x_l9, x_l10, x_l12, x_l13, x_l14, x_l16, x_l18, x_l20, x_l22, x_l32, x_l36, x_l48, x_l50, x_l54, x_l57, x_l59, x_l74, x_l81, x_l99, x_l104, x_l107, x_l110, x_l112, x_l115, x_l117, x_l162, x_l255, x_l512, x_l99999, x_l1000000, nI_leI, nI_ltI, nI_eq, nI_add, pk_mul, nI_clamp, x_in, x_bit, x_b0, x_b1, x_b0n, fa_or, fa_and, fb_xorI, x_an, Option.bind_some, b_has8, b_has9, ↓reduceIte, not_true_eq_false, not_false_eq_true, x_nn, Bool.false_eq_true, x_ar_k, x_ar_in, x_ar_w, b_wk, b_wj, b_wh, b_w2, x_ar_2, if_pos, if_neg, e1, hz, x_no hj (j := 0) (by omega), x_no hj (j := 1) (by omega), x_no hj (j := 2) (by omega), x_no hj (j := 3) (by omega)]
      · have hm := MI_th hS
        have e1 := s9_isC (T := D.T) (by omega) hm.1 hk
        have e0 := fun S => s9_inN (v := a2) (k := 3) (by omega) S hj
        unfold f_X9_corner
        generalize z_w S 87 0 0 = S1 at *
        simp (disch := omega) only [x_l0, x_l1, x_l2, x_l3, x_l4, x_l5, x_l6, x_l7, x_l8, x_l9, x_l10, x_l12, x_l13, x_l14, x_l16, x_l18, x_l20, x_l22, x_l32, x_l36, x_l48, x_l50, x_l54, x_l57, x_l59, x_l74, x_l81, x_l99, x_l104, x_l107, x_l110, x_l112, x_l115, x_l117, x_l162, x_l255, x_l512, x_l99999, x_l1000000, nI_leI, nI_ltI, nI_eq, nI_add, pk_mul, nI_clamp, x_in, x_bit, x_b0, x_b1, x_b0n, fa_or, fa_and, fb_xorI, x_an, Option.bind_some, b_has8, b_has9, ↓reduceIte, not_true_eq_false, not_false_eq_true, x_nn, Bool.false_eq_true, x_ar_k, x_ar_in, x_ar_w, b_wk, b_wj, b_wh, b_w2, x_ar_2, if_pos, if_neg, e0, e1]
  · refine zSim_lk hw (-nI 1) (fun S hS => ⟨S, ?_, hS, yC_rf⟩) (fun S hS => ⟨z_w S 87 0 0, ?_, fr_th⟩)
    · obtain ⟨P, nx, hP, h2, h3, h4, h5, h6, h7, h8, h9⟩ := hS
      have e21 : S.2.1 = P := by rw [h2]
      have hz : z_isP P := hP
      have e1 := s1_hasF w h3.1 hk
      simp (disch := omega) only [f_X8_corner, e21, x_l0, x_l1, x_l2, x_l3, x_l4, x_l5, x_l6, x_l7, x_l8, x_l9, x_l10, x_l12, x_l13, x_l14, x_l16, x_l18, x_l20, x_l22, x_l32, x_l36, x_l48, x_l50, x_l54, x_l57, x_l59, x_l74, x_l81, x_l99, x_l104, x_l107, x_l110, x_l112, x_l115, x_l117, x_l162, x_l255, x_l512, x_l99999, x_l1000000, nI_leI, nI_ltI, nI_eq, nI_add, pk_mul, nI_clamp, x_in, x_bit, x_b0, x_b1, x_b0n, fa_or, fa_and, fb_xorI, x_an, Option.bind_some, b_has8, b_has9, ↓reduceIte, not_true_eq_false, not_false_eq_true, x_nn, Bool.false_eq_true, x_ar_k, x_ar_in, x_ar_w, b_wk, b_wj, b_wh, b_w2, x_ar_2, if_pos, if_neg, e1, hz]
    · have hm := MI_th hS
      have e1 := s9_isCF (T := D.T) (by omega) hm.1 hk
      unfold f_X9_corner
      generalize z_w S 87 0 0 = S1 at *
      simp (disch := omega) only [x_l0, x_l1, x_l2, x_l3, x_l4, x_l5, x_l6, x_l7, x_l8, x_l9, x_l10, x_l12, x_l13, x_l14, x_l16, x_l18, x_l20, x_l22, x_l32, x_l36, x_l48, x_l50, x_l54, x_l57, x_l59, x_l74, x_l81, x_l99, x_l104, x_l107, x_l110, x_l112, x_l115, x_l117, x_l162, x_l255, x_l512, x_l99999, x_l1000000, nI_leI, nI_ltI, nI_eq, nI_add, pk_mul, nI_clamp, x_in, x_bit, x_b0, x_b1, x_b0n, fa_or, fa_and, fb_xorI, x_an, Option.bind_some, b_has8, b_has9, ↓reduceIte, not_true_eq_false, not_false_eq_true, x_nn, Bool.false_eq_true, x_ar_k, x_ar_in, x_ar_w, b_wk, b_wj, b_wh, b_w2, x_ar_2, if_pos, if_neg, e1]
theorem z_part (hw : wD D τ) (a1 a2 : Int32) : zSim D τ (f_X8_part a1 a2) (f_X9_part a1 a2) := by
  have w := hw.1
  have h0 := wT_b w
  have hl := wPl_lf w hw.2.1
  by_cases hk : ∃ k, k < D.T 2 ∧ a1 = nI k
  · obtain ⟨k, hk, rfl⟩ := hk
    have rl := g_rc_lt w hk
    have al : g_rc D.T k &&& g_lf D.Pl < 2 ^ 14 := Nat.lt_of_le_of_lt Nat.and_le_left rl
    by_cases hj : ∃ j, j < 2 + 1 ∧ a2 = nI j
    · obtain ⟨j, hj, rfl⟩ := hj
      refine zSim_lk hw (if j = 0 then nI (D.T (50 + k)) else if j = 1 then nI (b_ct (g_rc D.T k &&& g_lf D.Pl) 14) else nI (g_in D.T k)) (fun S hS => ⟨S, ?_, hS, yC_rf⟩) (fun S hS => ⟨z_w S 87 0 0, ?_, fr_th⟩)
      · obtain ⟨P, nx, hP, h2, h3, h4, h5, h6, h7, h8, h9⟩ := hS
        have e21 : S.2.1 = P := by rw [h2]
        have hz : z_isP P := hP
        have e1 := h3.1.1.2.2.1
        have e2 := (h3.1.2.2.2 k hk).1
        have e3 := (h3.2 k hk).1
        have e4 := (h3.2 k hk).2
        have e5 : S.1 32 0 = nI (g_lf D.Pl) := (h4.1 0 (by omega)).trans hl.1
        have e6 := b_bc al S
        rcases (by omega : j = 0 ∨ j = 1 ∨ j = 2) with rfl | rfl | rfl
        · simp (disch := omega) only [f_X8_part, e21, x_l0, x_l1, x_l2, x_l3, x_l4, x_l5, x_l6, x_l7, x_l8, x_l9, x_l10, x_l12, x_l13, x_l14, x_l16, x_l18, x_l20, x_l22, x_l32, x_l36, x_l48, x_l50, x_l54, x_l57, x_l59, x_l74, x_l81, x_l99, x_l104, x_l107, x_l110, x_l112, x_l115, x_l117, x_l162, x_l255, x_l512, x_l99999, x_l1000000, nI_leI, nI_ltI, nI_eq, nI_add, pk_mul, nI_clamp, x_in, x_bit, x_b0, x_b1, x_b0n, fa_or, fa_and, fb_xorI, x_an, Option.bind_some, b_has8, b_has9, ↓reduceIte, not_true_eq_false, not_false_eq_true, x_nn, Bool.false_eq_true, x_ar_k, x_ar_in, x_ar_w, b_wk, b_wj, b_wh, b_w2, x_ar_2, if_pos, if_neg, e1, e2, hz]
        · simp (disch := omega) only [f_X8_part, e21, x_l0, x_l1, x_l2, x_l3, x_l4, x_l5, x_l6, x_l7, x_l8, x_l9, x_l10, x_l12, x_l13, x_l14, x_l16, x_l18, x_l20, x_l22, x_l32, x_l36, x_l48, x_l50, x_l54, x_l57, x_l59, x_l74, x_l81, x_l99, x_l104, x_l107, x_l110, x_l112, x_l115, x_l117, x_l162, x_l255, x_l512, x_l99999, x_l1000000, nI_leI, nI_ltI, nI_eq, nI_add, pk_mul, nI_clamp, x_in, x_bit, x_b0, x_b1, x_b0n, fa_or, fa_and, fb_xorI, x_an, Option.bind_some, b_has8, b_has9, ↓reduceIte, not_true_eq_false, not_false_eq_true, x_nn, Bool.false_eq_true, x_ar_k, x_ar_in, x_ar_w, b_wk, b_wj, b_wh, b_w2, x_ar_2, if_pos, if_neg, e1, e3, e5, e6, hz]
        · simp (disch := omega) only [f_X8_part, e21, x_l0, x_l1, x_l2, x_l3, x_l4, x_l5, x_l6, x_l7, x_l8, x_l9, x_l10, x_l12, x_l13, x_l14, x_l16, x_l18, x_l20, x_l22, x_l32, x_l36, x_l48, x_l50, x_l54, x_l57, x_l59, x_l74, x_l81, x_l99, x_l104, x_l107, x_l110, x_l112, x_l115, x_l117, x_l162, x_l255, x_l512, x_l99999, x_l1000000, nI_leI, nI_ltI, nI_eq, nI_add, pk_mul, nI_clamp, x_in, x_bit, x_b0, x_b1, x_b0n, fa_or, fa_and, fb_xorI, x_an, Option.bind_some, b_has8, b_has9, ↓reduceIte, not_true_eq_false, not_false_eq_true, x_nn, Bool.false_eq_true, x_ar_k, x_ar_in, x_ar_w, b_wk, b_wj, b_wh, b_w2, x_ar_2, if_pos, if_neg, e1, e4, hz]
      · have hm := MI_th hS
        have e1 := hm.1 2 (by omega)
        have ei := fun S => (s9_inM (v := nI k) (n := D.T 2) (by omega) S).trans (by rw [if_pos ⟨k, hk, rfl⟩])
        have e0 := fun S => s9_inK (v := nI j) (k := 2) (by omega) S ⟨j, hj, rfl⟩
        have e2 := hm.1 (50 + k) (by omega)
        have e3 := s9_rc w hm.1 hk
        have e4 := hm.2.1 k hk
        have e5 : (z_w S 87 0 0).1 91 0 = nI (g_lf D.Pl) := (hm.2.2.1 0 (by omega)).trans hl.1
        have e6 := b_ones al (z_w S 87 0 0)
        unfold f_X9_part
        generalize z_w S 87 0 0 = S1 at *
        rcases (by omega : j = 0 ∨ j = 1 ∨ j = 2) with rfl | rfl | rfl
        · simp (disch := omega) only [x_l0, x_l1, x_l2, x_l3, x_l4, x_l5, x_l6, x_l7, x_l8, x_l9, x_l10, x_l12, x_l13, x_l14, x_l16, x_l18, x_l20, x_l22, x_l32, x_l36, x_l48, x_l50, x_l54, x_l57, x_l59, x_l74, x_l81, x_l99, x_l104, x_l107, x_l110, x_l112, x_l115, x_l117, x_l162, x_l255, x_l512, x_l99999, x_l1000000, nI_leI, nI_ltI, nI_eq, nI_add, pk_mul, nI_clamp, x_in, x_bit, x_b0, x_b1, x_b0n, fa_or, fa_and, fb_xorI, x_an, Option.bind_some, b_has8, b_has9, ↓reduceIte, not_true_eq_false, not_false_eq_true, x_nn, Bool.false_eq_true, x_ar_k, x_ar_in, x_ar_w, b_wk, b_wj, b_wh, b_w2, x_ar_2, if_pos, if_neg, e0, e1, ei, e2]
        · simp (disch := omega) only [x_l0, x_l1, x_l2, x_l3, x_l4, x_l5, x_l6, x_l7, x_l8, x_l9, x_l10, x_l12, x_l13, x_l14, x_l16, x_l18, x_l20, x_l22, x_l32, x_l36, x_l48, x_l50, x_l54, x_l57, x_l59, x_l74, x_l81, x_l99, x_l104, x_l107, x_l110, x_l112, x_l115, x_l117, x_l162, x_l255, x_l512, x_l99999, x_l1000000, nI_leI, nI_ltI, nI_eq, nI_add, pk_mul, nI_clamp, x_in, x_bit, x_b0, x_b1, x_b0n, fa_or, fa_and, fb_xorI, x_an, Option.bind_some, b_has8, b_has9, ↓reduceIte, not_true_eq_false, not_false_eq_true, x_nn, Bool.false_eq_true, x_ar_k, x_ar_in, x_ar_w, b_wk, b_wj, b_wh, b_w2, x_ar_2, if_pos, if_neg, e0, e1, ei, e3, e5, e6]
        · simp (disch := omega) only [x_l0, x_l1, x_l2, x_l3, x_l4, x_l5, x_l6, x_l7, x_l8, x_l9, x_l10, x_l12, x_l13, x_l14, x_l16, x_l18, x_l20, x_l22, x_l32, x_l36, x_l48, x_l50, x_l54, x_l57, x_l59, x_l74, x_l81, x_l99, x_l104, x_l107, x_l110, x_l112, x_l115, x_l117, x_l162, x_l255, x_l512, x_l99999, x_l1000000, nI_leI, nI_ltI, nI_eq, nI_add, pk_mul, nI_clamp, x_in, x_bit, x_b0, x_b1, x_b0n, fa_or, fa_and, fb_xorI, x_an, Option.bind_some, b_has8, b_has9, ↓reduceIte, not_true_eq_false, not_false_eq_true, x_nn, Bool.false_eq_true, x_ar_k, x_ar_in, x_ar_w, b_wk, b_wj, b_wh, b_w2, x_ar_2, if_pos, if_neg, e0, e1, ei, e4]
    · refine zSim_lk hw (-nI 1) (fun S hS => ⟨S, ?_, hS, yC_rf⟩) (fun S hS => ⟨z_w S 87 0 0, ?_, fr_th⟩)
      · obtain ⟨P, nx, hP, h2, h3, h4, h5, h6, h7, h8, h9⟩ := hS
        have e21 : S.2.1 = P := by rw [h2]
        have hz : z_isP P := hP
        have e1 := h3.1.1.2.2.1
        simp (disch := omega) only [f_X8_part, e21, x_l0, x_l1, x_l2, x_l3, x_l4, x_l5, x_l6, x_l7, x_l8, x_l9, x_l10, x_l12, x_l13, x_l14, x_l16, x_l18, x_l20, x_l22, x_l32, x_l36, x_l48, x_l50, x_l54, x_l57, x_l59, x_l74, x_l81, x_l99, x_l104, x_l107, x_l110, x_l112, x_l115, x_l117, x_l162, x_l255, x_l512, x_l99999, x_l1000000, nI_leI, nI_ltI, nI_eq, nI_add, pk_mul, nI_clamp, x_in, x_bit, x_b0, x_b1, x_b0n, fa_or, fa_and, fb_xorI, x_an, Option.bind_some, b_has8, b_has9, ↓reduceIte, not_true_eq_false, not_false_eq_true, x_nn, Bool.false_eq_true, x_ar_k, x_ar_in, x_ar_w, b_wk, b_wj, b_wh, b_w2, x_ar_2, if_pos, if_neg, e1, hz, x_no hj (j := 0) (by omega), x_no hj (j := 1) (by omega), x_no hj (j := 2) (by omega)]
      · have hm := MI_th hS
        have e1 := hm.1 2 (by omega)
        have ei := fun S => (s9_inM (v := nI k) (n := D.T 2) (by omega) S).trans (by rw [if_pos ⟨k, hk, rfl⟩])
        have e0 := fun S => s9_inN (v := a2) (k := 2) (by omega) S hj
        unfold f_X9_part
        generalize z_w S 87 0 0 = S1 at *
        simp (disch := omega) only [x_l0, x_l1, x_l2, x_l3, x_l4, x_l5, x_l6, x_l7, x_l8, x_l9, x_l10, x_l12, x_l13, x_l14, x_l16, x_l18, x_l20, x_l22, x_l32, x_l36, x_l48, x_l50, x_l54, x_l57, x_l59, x_l74, x_l81, x_l99, x_l104, x_l107, x_l110, x_l112, x_l115, x_l117, x_l162, x_l255, x_l512, x_l99999, x_l1000000, nI_leI, nI_ltI, nI_eq, nI_add, pk_mul, nI_clamp, x_in, x_bit, x_b0, x_b1, x_b0n, fa_or, fa_and, fb_xorI, x_an, Option.bind_some, b_has8, b_has9, ↓reduceIte, not_true_eq_false, not_false_eq_true, x_nn, Bool.false_eq_true, x_ar_k, x_ar_in, x_ar_w, b_wk, b_wj, b_wh, b_w2, x_ar_2, if_pos, if_neg, e0, e1, ei]
  · refine zSim_lk hw (-nI 1) (fun S hS => ⟨S, ?_, hS, yC_rf⟩) (fun S hS => ⟨z_w S 87 0 0, ?_, fr_th⟩)
    · obtain ⟨P, nx, hP, h2, h3, h4, h5, h6, h7, h8, h9⟩ := hS
      have e21 : S.2.1 = P := by rw [h2]
      have hz : z_isP P := hP
      have e1 := h3.1.1.2.2.1
      unfold f_X8_part
      rw [e21, if_pos hz, e1]
      rcases pk_ix a1 (n := D.T 2) (by omega) with q | q | ⟨j, hj, rfl⟩
      · rw [if_pos q]; rfl
      · by_cases q0 : a1 < 0
        · rw [if_pos q0]; rfl
        · rw [if_neg q0, if_neg (fun z => absurd q (by rw [fa_le]; rw [fa_lt] at z; omega))]; rfl
      · exact absurd ⟨j, hj, rfl⟩ hk
    · have hm := MI_th hS
      have e1 := hm.1 2 (by omega)
      have ei := fun S => (s9_inM (v := a1) (n := D.T 2) (by omega) S).trans (by rw [if_neg hk])
      unfold f_X9_part
      generalize z_w S 87 0 0 = S1 at *
      simp (disch := omega) only [x_l0, x_l1, x_l2, x_l3, x_l4, x_l5, x_l6, x_l7, x_l8, x_l9, x_l10, x_l12, x_l13, x_l14, x_l16, x_l18, x_l20, x_l22, x_l32, x_l36, x_l48, x_l50, x_l54, x_l57, x_l59, x_l74, x_l81, x_l99, x_l104, x_l107, x_l110, x_l112, x_l115, x_l117, x_l162, x_l255, x_l512, x_l99999, x_l1000000, nI_leI, nI_ltI, nI_eq, nI_add, pk_mul, nI_clamp, x_in, x_bit, x_b0, x_b1, x_b0n, fa_or, fa_and, fb_xorI, x_an, Option.bind_some, b_has8, b_has9, ↓reduceIte, not_true_eq_false, not_false_eq_true, x_nn, Bool.false_eq_true, x_ar_k, x_ar_in, x_ar_w, b_wk, b_wj, b_wh, b_w2, x_ar_2, if_pos, if_neg, e1, ei]
theorem z_cut (hw : wD D τ) (a1 a2 : Int32) : zSim D τ (f_X8_cut a1 a2) (f_X9_cut a1 a2) := by
  have w := hw.1
  have h0 := wT_b w
  have hl := wPl_lf w hw.2.1
  by_cases hk : ∃ k, k < D.T 1 ∧ a1 = nI k
  · obtain ⟨k, hk, rfl⟩ := hk
    have cc := wT_c w hk
    by_cases hj : ∃ j, j < 4 + 1 ∧ a2 = nI j
    · obtain ⟨j, hj, rfl⟩ := hj
      refine zSim_lk hw (if j = 0 then nI (D.T (22 + k)) else if j = 1 then nI (D.T (36 + k)) else if j = 2 then (if (g_lf D.Pl).testBit k = true then nI 1 else nI 0) else if j = 3 then (if (g_lf D.Pl).testBit k = true then nI (g_po D.T (g_lf D.Pl) k) else -nI 9) else nI (g_way D.T (D.T (22 + k)) (D.T (36 + k)))) (fun S hS => ?_) (fun S hS => ?_)
      · obtain ⟨S', sv, ci, cs, fs⟩ := CI_survey hw hS
        obtain ⟨P, nx, hP, h2, h3, h4, h5, h6, h7, h8, h9⟩ := id hS
        have e21 : S.2.1 = P := by rw [h2]
        have hz : z_isP P := hP
        have e1 := h3.1.1.2.1
        have e2 := (h3.1.2.2.1 k hk).1
        have e3 := (h3.1.2.2.1 k hk).2
        have e5 : S.1 32 0 = nI (g_lf D.Pl) := (h4.1 0 (by omega)).trans hl.1
        have e6 := s4_po w cs.1.1 hk
        have e7 := s1_way w h3.1 (a := D.T (22 + k)) (b := D.T (36 + k)) (by omega) (by omega)
        rcases (by omega : j = 0 ∨ j = 1 ∨ j = 2 ∨ j = 3 ∨ j = 4) with rfl | rfl | rfl | rfl | rfl
        · refine ⟨S, ?_, hS, yC_rf⟩
          simp (disch := omega) only [f_X8_cut, e21, x_l0, x_l1, x_l2, x_l3, x_l4, x_l5, x_l6, x_l7, x_l8, x_l9, x_l10, x_l12, x_l13, x_l14, x_l16, x_l18, x_l20, x_l22, x_l32, x_l36, x_l48, x_l50, x_l54, x_l57, x_l59, x_l74, x_l81, x_l99, x_l104, x_l107, x_l110, x_l112, x_l115, x_l117, x_l162, x_l255, x_l512, x_l99999, x_l1000000, nI_leI, nI_ltI, nI_eq, nI_add, pk_mul, nI_clamp, x_in, x_bit, x_b0, x_b1, x_b0n, fa_or, fa_and, fb_xorI, x_an, Option.bind_some, b_has8, b_has9, ↓reduceIte, not_true_eq_false, not_false_eq_true, x_nn, Bool.false_eq_true, x_ar_k, x_ar_in, x_ar_w, b_wk, b_wj, b_wh, b_w2, x_ar_2, if_pos, if_neg, e1, e2, hz]
        · refine ⟨S, ?_, hS, yC_rf⟩
          simp (disch := omega) only [f_X8_cut, e21, x_l0, x_l1, x_l2, x_l3, x_l4, x_l5, x_l6, x_l7, x_l8, x_l9, x_l10, x_l12, x_l13, x_l14, x_l16, x_l18, x_l20, x_l22, x_l32, x_l36, x_l48, x_l50, x_l54, x_l57, x_l59, x_l74, x_l81, x_l99, x_l104, x_l107, x_l110, x_l112, x_l115, x_l117, x_l162, x_l255, x_l512, x_l99999, x_l1000000, nI_leI, nI_ltI, nI_eq, nI_add, pk_mul, nI_clamp, x_in, x_bit, x_b0, x_b1, x_b0n, fa_or, fa_and, fb_xorI, x_an, Option.bind_some, b_has8, b_has9, ↓reduceIte, not_true_eq_false, not_false_eq_true, x_nn, Bool.false_eq_true, x_ar_k, x_ar_in, x_ar_w, b_wk, b_wj, b_wh, b_w2, x_ar_2, if_pos, if_neg, e1, e3, hz]
        · refine ⟨S, ?_, hS, yC_rf⟩
          simp (disch := omega) only [f_X8_cut, e21, x_l0, x_l1, x_l2, x_l3, x_l4, x_l5, x_l6, x_l7, x_l8, x_l9, x_l10, x_l12, x_l13, x_l14, x_l16, x_l18, x_l20, x_l22, x_l32, x_l36, x_l48, x_l50, x_l54, x_l57, x_l59, x_l74, x_l81, x_l99, x_l104, x_l107, x_l110, x_l112, x_l115, x_l117, x_l162, x_l255, x_l512, x_l99999, x_l1000000, nI_leI, nI_ltI, nI_eq, nI_add, pk_mul, nI_clamp, x_in, x_bit, x_b0, x_b1, x_b0n, fa_or, fa_and, fb_xorI, x_an, Option.bind_some, b_has8, b_has9, ↓reduceIte, not_true_eq_false, not_false_eq_true, x_nn, Bool.false_eq_true, x_ar_k, x_ar_in, x_ar_w, b_wk, b_wj, b_wh, b_w2, x_ar_2, if_pos, if_neg, e1, e5, hz]
          by_cases q : (g_lf D.Pl).testBit k = true <;> simp [q]
        · refine ⟨S', ?_, ci, yC_fr fs (fun q j h1 h2 => by unfold wS at h2; omega)⟩
          simp (disch := omega) only [f_X8_cut, e21, x_l0, x_l1, x_l2, x_l3, x_l4, x_l5, x_l6, x_l7, x_l8, x_l9, x_l10, x_l12, x_l13, x_l14, x_l16, x_l18, x_l20, x_l22, x_l32, x_l36, x_l48, x_l50, x_l54, x_l57, x_l59, x_l74, x_l81, x_l99, x_l104, x_l107, x_l110, x_l112, x_l115, x_l117, x_l162, x_l255, x_l512, x_l99999, x_l1000000, nI_leI, nI_ltI, nI_eq, nI_add, pk_mul, nI_clamp, x_in, x_bit, x_b0, x_b1, x_b0n, fa_or, fa_and, fb_xorI, x_an, Option.bind_some, b_has8, b_has9, ↓reduceIte, not_true_eq_false, not_false_eq_true, x_nn, Bool.false_eq_true, x_ar_k, x_ar_in, x_ar_w, b_wk, b_wj, b_wh, b_w2, x_ar_2, if_pos, if_neg, e1, hz, sv, e6]
        · refine ⟨S, ?_, hS, yC_rf⟩
          simp (disch := omega) only [f_X8_cut, e21, x_l0, x_l1, x_l2, x_l3, x_l4, x_l5, x_l6, x_l7, x_l8, x_l9, x_l10, x_l12, x_l13, x_l14, x_l16, x_l18, x_l20, x_l22, x_l32, x_l36, x_l48, x_l50, x_l54, x_l57, x_l59, x_l74, x_l81, x_l99, x_l104, x_l107, x_l110, x_l112, x_l115, x_l117, x_l162, x_l255, x_l512, x_l99999, x_l1000000, nI_leI, nI_ltI, nI_eq, nI_add, pk_mul, nI_clamp, x_in, x_bit, x_b0, x_b1, x_b0n, fa_or, fa_and, fb_xorI, x_an, Option.bind_some, b_has8, b_has9, ↓reduceIte, not_true_eq_false, not_false_eq_true, x_nn, Bool.false_eq_true, x_ar_k, x_ar_in, x_ar_w, b_wk, b_wj, b_wh, b_w2, x_ar_2, if_pos, if_neg, e1, e2, e3, e7, hz]
      · obtain ⟨S', pc, fp, hq⟩ := MI_pieces hw hS
        have fq : x_fr wQ S S' := x_fr_sub fp (fun q j hq => by unfold wQ; omega)
        have hm := MI_th hS
        have e1 := hm.1 1 (by omega)
        have ei := fun S => (s9_inM (v := nI k) (n := D.T 1) (by omega) S).trans (by rw [if_pos ⟨k, hk, rfl⟩])
        have e0 := fun S => s9_inK (v := nI j) (k := 4) (by omega) S ⟨j, hj, rfl⟩
        have e2 := hm.1 (22 + k) (by omega)
        have e3 := hm.1 (36 + k) (by omega)
        have e5 : (z_w S 87 0 0).1 91 0 = nI (g_lf D.Pl) := (hm.2.2.1 0 (by omega)).trans hl.1
        have e6 := hq.1 (22 + k) (by omega)
        have e7 := hq.1 (36 + k) (by omega)
        have e8 := s9_way w hq.1 (a := D.T (22 + k)) (b := D.T (36 + k)) (by omega) (by omega)
        have e9 := hq.2.1
        have e10 : (nI (g_lf D.Pl) >>> (nI k &&& 31)) &&& nI 1 = (if (g_lf D.Pl).testBit k = true then nI 1 else nI 0) := b_tb (by omega) (by omega)
        unfold f_X9_cut
        rcases (by omega : j = 0 ∨ j = 1 ∨ j = 2 ∨ j = 3 ∨ j = 4) with rfl | rfl | rfl | rfl | rfl
        · refine ⟨z_w S 87 0 0, ?_, fr_th⟩
          generalize z_w S 87 0 0 = S1 at *
          simp (disch := omega) only [x_l0, x_l1, x_l2, x_l3, x_l4, x_l5, x_l6, x_l7, x_l8, x_l9, x_l10, x_l12, x_l13, x_l14, x_l16, x_l18, x_l20, x_l22, x_l32, x_l36, x_l48, x_l50, x_l54, x_l57, x_l59, x_l74, x_l81, x_l99, x_l104, x_l107, x_l110, x_l112, x_l115, x_l117, x_l162, x_l255, x_l512, x_l99999, x_l1000000, nI_leI, nI_ltI, nI_eq, nI_add, pk_mul, nI_clamp, x_in, x_bit, x_b0, x_b1, x_b0n, fa_or, fa_and, fb_xorI, x_an, Option.bind_some, b_has8, b_has9, ↓reduceIte, not_true_eq_false, not_false_eq_true, x_nn, Bool.false_eq_true, x_ar_k, x_ar_in, x_ar_w, b_wk, b_wj, b_wh, b_w2, x_ar_2, if_pos, if_neg, e0, e1, ei, e2]
        · refine ⟨z_w S 87 0 0, ?_, fr_th⟩
          generalize z_w S 87 0 0 = S1 at *
          simp (disch := omega) only [x_l0, x_l1, x_l2, x_l3, x_l4, x_l5, x_l6, x_l7, x_l8, x_l9, x_l10, x_l12, x_l13, x_l14, x_l16, x_l18, x_l20, x_l22, x_l32, x_l36, x_l48, x_l50, x_l54, x_l57, x_l59, x_l74, x_l81, x_l99, x_l104, x_l107, x_l110, x_l112, x_l115, x_l117, x_l162, x_l255, x_l512, x_l99999, x_l1000000, nI_leI, nI_ltI, nI_eq, nI_add, pk_mul, nI_clamp, x_in, x_bit, x_b0, x_b1, x_b0n, fa_or, fa_and, fb_xorI, x_an, Option.bind_some, b_has8, b_has9, ↓reduceIte, not_true_eq_false, not_false_eq_true, x_nn, Bool.false_eq_true, x_ar_k, x_ar_in, x_ar_w, b_wk, b_wj, b_wh, b_w2, x_ar_2, if_pos, if_neg, e0, e1, ei, e3]
        · refine ⟨z_w S 87 0 0, ?_, fr_th⟩
          generalize z_w S 87 0 0 = S1 at *
          simp (disch := omega) only [x_l0, x_l1, x_l2, x_l3, x_l4, x_l5, x_l6, x_l7, x_l8, x_l9, x_l10, x_l12, x_l13, x_l14, x_l16, x_l18, x_l20, x_l22, x_l32, x_l36, x_l48, x_l50, x_l54, x_l57, x_l59, x_l74, x_l81, x_l99, x_l104, x_l107, x_l110, x_l112, x_l115, x_l117, x_l162, x_l255, x_l512, x_l99999, x_l1000000, nI_leI, nI_ltI, nI_eq, nI_add, pk_mul, nI_clamp, x_in, x_bit, x_b0, x_b1, x_b0n, fa_or, fa_and, fb_xorI, x_an, Option.bind_some, b_has8, b_has9, ↓reduceIte, not_true_eq_false, not_false_eq_true, x_nn, Bool.false_eq_true, x_ar_k, x_ar_in, x_ar_w, b_wk, b_wj, b_wh, b_w2, x_ar_2, if_pos, if_neg, e0, e1, ei, e5, e10]
        · refine ⟨S', ?_, fq⟩
          generalize z_w S 87 0 0 = S1 at *
          by_cases q : (g_lf D.Pl).testBit k = true
          · have e11 := s9_po w hq hk q
            simp (disch := omega) only [x_l0, x_l1, x_l2, x_l3, x_l4, x_l5, x_l6, x_l7, x_l8, x_l9, x_l10, x_l12, x_l13, x_l14, x_l16, x_l18, x_l20, x_l22, x_l32, x_l36, x_l48, x_l50, x_l54, x_l57, x_l59, x_l74, x_l81, x_l99, x_l104, x_l107, x_l110, x_l112, x_l115, x_l117, x_l162, x_l255, x_l512, x_l99999, x_l1000000, nI_leI, nI_ltI, nI_eq, nI_add, pk_mul, nI_clamp, x_in, x_bit, x_b0, x_b1, x_b0n, fa_or, fa_and, fb_xorI, x_an, Option.bind_some, b_has8, b_has9, ↓reduceIte, not_true_eq_false, not_false_eq_true, x_nn, Bool.false_eq_true, x_ar_k, x_ar_in, x_ar_w, b_wk, b_wj, b_wh, b_w2, x_ar_2, if_pos, if_neg, e0, e1, ei, pc, e9, e11, q]
          · simp (disch := omega) only [x_l0, x_l1, x_l2, x_l3, x_l4, x_l5, x_l6, x_l7, x_l8, x_l9, x_l10, x_l12, x_l13, x_l14, x_l16, x_l18, x_l20, x_l22, x_l32, x_l36, x_l48, x_l50, x_l54, x_l57, x_l59, x_l74, x_l81, x_l99, x_l104, x_l107, x_l110, x_l112, x_l115, x_l117, x_l162, x_l255, x_l512, x_l99999, x_l1000000, nI_leI, nI_ltI, nI_eq, nI_add, pk_mul, nI_clamp, x_in, x_bit, x_b0, x_b1, x_b0n, fa_or, fa_and, fb_xorI, x_an, Option.bind_some, b_has8, b_has9, ↓reduceIte, not_true_eq_false, not_false_eq_true, x_nn, Bool.false_eq_true, x_ar_k, x_ar_in, x_ar_w, b_wk, b_wj, b_wh, b_w2, x_ar_2, if_pos, if_neg, e0, e1, ei, pc, e9, q]
        · refine ⟨S', ?_, fq⟩
          generalize z_w S 87 0 0 = S1 at *
          simp (disch := omega) only [x_l0, x_l1, x_l2, x_l3, x_l4, x_l5, x_l6, x_l7, x_l8, x_l9, x_l10, x_l12, x_l13, x_l14, x_l16, x_l18, x_l20, x_l22, x_l32, x_l36, x_l48, x_l50, x_l54, x_l57, x_l59, x_l74, x_l81, x_l99, x_l104, x_l107, x_l110, x_l112, x_l115, x_l117, x_l162, x_l255, x_l512, x_l99999, x_l1000000, nI_leI, nI_ltI, nI_eq, nI_add, pk_mul, nI_clamp, x_in, x_bit, x_b0, x_b1, x_b0n, fa_or, fa_and, fb_xorI, x_an, Option.bind_some, b_has8, b_has9, ↓reduceIte, not_true_eq_false, not_false_eq_true, x_nn, Bool.false_eq_true, x_ar_k, x_ar_in, x_ar_w, b_wk, b_wj, b_wh, b_w2, x_ar_2, if_pos, if_neg, e0, e1, ei, pc, e6, e7, e8]
    · refine zSim_lk hw (-nI 1) (fun S hS => ⟨S, ?_, hS, yC_rf⟩) (fun S hS => ⟨z_w S 87 0 0, ?_, fr_th⟩)
      · obtain ⟨P, nx, hP, h2, h3, h4, h5, h6, h7, h8, h9⟩ := hS
        have e21 : S.2.1 = P := by rw [h2]
        have hz : z_isP P := hP
        have e1 := h3.1.1.2.1
        simp (disch := omega) only [f_X8_cut, e21, x_l0, x_l1, x_l2, x_l3, x_l4, x_l5, x_l6, x_l7, x_l8, x_l9, x_l10, x_l12, x_l13, x_l14, x_l16, x_l18, x_l20, x_l22, x_l32, x_l36, x_l48, x_l50, x_l54, x_l57, x_l59, x_l74, x_l81, x_l99, x_l104, x_l107, x_l110, x_l112, x_l115, x_l117, x_l162, x_l255, x_l512, x_l99999, x_l1000000, nI_leI, nI_ltI, nI_eq, nI_add, pk_mul, nI_clamp, x_in, x_bit, x_b0, x_b1, x_b0n, fa_or, fa_and, fb_xorI, x_an, Option.bind_some, b_has8, b_has9, ↓reduceIte, not_true_eq_false, not_false_eq_true, x_nn, Bool.false_eq_true, x_ar_k, x_ar_in, x_ar_w, b_wk, b_wj, b_wh, b_w2, x_ar_2, if_pos, if_neg, e1, hz, x_no hj (j := 0) (by omega), x_no hj (j := 1) (by omega), x_no hj (j := 2) (by omega), x_no hj (j := 3) (by omega), x_no hj (j := 4) (by omega)]
      · have hm := MI_th hS
        have e1 := hm.1 1 (by omega)
        have ei := fun S => (s9_inM (v := nI k) (n := D.T 1) (by omega) S).trans (by rw [if_pos ⟨k, hk, rfl⟩])
        have e0 := fun S => s9_inN (v := a2) (k := 4) (by omega) S hj
        unfold f_X9_cut
        generalize z_w S 87 0 0 = S1 at *
        simp (disch := omega) only [x_l0, x_l1, x_l2, x_l3, x_l4, x_l5, x_l6, x_l7, x_l8, x_l9, x_l10, x_l12, x_l13, x_l14, x_l16, x_l18, x_l20, x_l22, x_l32, x_l36, x_l48, x_l50, x_l54, x_l57, x_l59, x_l74, x_l81, x_l99, x_l104, x_l107, x_l110, x_l112, x_l115, x_l117, x_l162, x_l255, x_l512, x_l99999, x_l1000000, nI_leI, nI_ltI, nI_eq, nI_add, pk_mul, nI_clamp, x_in, x_bit, x_b0, x_b1, x_b0n, fa_or, fa_and, fb_xorI, x_an, Option.bind_some, b_has8, b_has9, ↓reduceIte, not_true_eq_false, not_false_eq_true, x_nn, Bool.false_eq_true, x_ar_k, x_ar_in, x_ar_w, b_wk, b_wj, b_wh, b_w2, x_ar_2, if_pos, if_neg, e0, e1, ei]
  · refine zSim_lk hw (-nI 1) (fun S hS => ⟨S, ?_, hS, yC_rf⟩) (fun S hS => ⟨z_w S 87 0 0, ?_, fr_th⟩)
    · obtain ⟨P, nx, hP, h2, h3, h4, h5, h6, h7, h8, h9⟩ := hS
      have e21 : S.2.1 = P := by rw [h2]
      have hz : z_isP P := hP
      have e1 := h3.1.1.2.1
      unfold f_X8_cut
      rw [e21, if_pos hz, e1]
      rcases pk_ix a1 (n := D.T 1) (by omega) with q | q | ⟨j, hj, rfl⟩
      · rw [if_pos q]; rfl
      · by_cases q0 : a1 < 0
        · rw [if_pos q0]; rfl
        · rw [if_neg q0, if_neg (fun z => absurd q (by rw [fa_le]; rw [fa_lt] at z; omega))]; rfl
      · exact absurd ⟨j, hj, rfl⟩ hk
    · have hm := MI_th hS
      have e1 := hm.1 1 (by omega)
      have ei := fun S => (s9_inM (v := a1) (n := D.T 1) (by omega) S).trans (by rw [if_neg hk])
      unfold f_X9_cut
      generalize z_w S 87 0 0 = S1 at *
      simp (disch := omega) only [x_l0, x_l1, x_l2, x_l3, x_l4, x_l5, x_l6, x_l7, x_l8, x_l9, x_l10, x_l12, x_l13, x_l14, x_l16, x_l18, x_l20, x_l22, x_l32, x_l36, x_l48, x_l50, x_l54, x_l57, x_l59, x_l74, x_l81, x_l99, x_l104, x_l107, x_l110, x_l112, x_l115, x_l117, x_l162, x_l255, x_l512, x_l99999, x_l1000000, nI_leI, nI_ltI, nI_eq, nI_add, pk_mul, nI_clamp, x_in, x_bit, x_b0, x_b1, x_b0n, fa_or, fa_and, fb_xorI, x_an, Option.bind_some, b_has8, b_has9, ↓reduceIte, not_true_eq_false, not_false_eq_true, x_nn, Bool.false_eq_true, x_ar_k, x_ar_in, x_ar_w, b_wk, b_wj, b_wh, b_w2, x_ar_2, if_pos, if_neg, e1, ei]
end LO
