/-! ===== type, clear, sees, forget, keep, back ===== -/
def x_up (f : Nat → Nat) (i x : Nat) : Nat → Nat := fun k => if k = i then x else f k
section SM
variable {D : gD} {τ : Nat}
theorem z_type (hw : wD D τ) (a1 : Int32) : zSim D τ (f_X8_type a1) (f_X9_type a1) := by
  have h0 := wT_b hw.1
  have hlen := hw.2.2.2.2.1
  by_cases hj : ∃ j, j < 255 + 1 ∧ a1 = nI j
  · obtain ⟨j, hj, rfl⟩ := hj
    have e0 := fun S => s9_inK (v := nI j) (k := 255) (by omega) S ⟨j, hj, rfl⟩
    by_cases c : D.len = 110
    · refine zSim_lk hw (-nI 3) (fun S hS => ⟨S, ?_, hS, yC_rf⟩) (fun S hS => ⟨z_w S 87 0 0, ?_, fr_th⟩)
      · obtain ⟨P, nx, hP, h2, h3, h4, h5, h6, h7, h8, h9⟩ := hS
        have e1 := h6.1
        rw [c] at e1
        simp (disch := omega) only [f_X8_type, x_l0, x_l1, x_l2, x_l3, x_l4, x_l5, x_l6, x_l7, x_l8, x_l9, x_l10, x_l12, x_l13, x_l14, x_l16, x_l18, x_l20, x_l22, x_l32, x_l36, x_l48, x_l50, x_l54, x_l57, x_l59, x_l74, x_l81, x_l99, x_l104, x_l107, x_l110, x_l112, x_l115, x_l117, x_l162, x_l255, x_l512, x_l99999, x_l1000000, nI_leI, nI_ltI, nI_eq, nI_add, pk_mul, nI_clamp, x_in, x_bit, x_b0, x_b1, x_b0n, fa_or, fa_and, fb_xorI, x_an, Option.bind_some, b_has8, b_has9, ↓reduceIte, not_true_eq_false, not_false_eq_true, x_nn, Bool.false_eq_true, x_ar_k, x_ar_in, x_ar_w, b_wk, b_wj, b_wh, b_w2, x_ar_2, if_pos, if_neg, e1]
      · have hm := MI_th hS
        have e1 := hm.2.2.2.2.1.1
        rw [c] at e1
        unfold f_X9_type
        generalize z_w S 87 0 0 = S1 at *
        simp (disch := omega) only [x_l0, x_l1, x_l2, x_l3, x_l4, x_l5, x_l6, x_l7, x_l8, x_l9, x_l10, x_l12, x_l13, x_l14, x_l16, x_l18, x_l20, x_l22, x_l32, x_l36, x_l48, x_l50, x_l54, x_l57, x_l59, x_l74, x_l81, x_l99, x_l104, x_l107, x_l110, x_l112, x_l115, x_l117, x_l162, x_l255, x_l512, x_l99999, x_l1000000, nI_leI, nI_ltI, nI_eq, nI_add, pk_mul, nI_clamp, x_in, x_bit, x_b0, x_b1, x_b0n, fa_or, fa_and, fb_xorI, x_an, Option.bind_some, b_has8, b_has9, ↓reduceIte, not_true_eq_false, not_false_eq_true, x_nn, Bool.false_eq_true, x_ar_k, x_ar_in, x_ar_w, b_wk, b_wj, b_wh, b_w2, x_ar_2, if_pos, if_neg, e0, e1]
    · refine ⟨nI (D.len + 1), gD.mk D.T (x_up D.X D.len j) (D.len + 1) D.Pl D.U D.sz D.I D.kb D.m D.A D.B D.H, ?_, fun S hS => ?_, fun S hS => ?_⟩
      · have hw2 := wD_mono hw (σ := τ + 60) (by omega)
        refine ⟨hw2.1, hw2.2.1, hw2.2.2.1, hw2.2.2.2.1, by show D.len + 1 ≤ 110; omega, fun k hk => ?_, hw2.2.2.2.2.2.2.1, hw2.2.2.2.2.2.2.2.1, hw2.2.2.2.2.2.2.2.2⟩
        have hk' : k < D.len + 1 := hk
        show x_up D.X D.len j k ≤ 255
        unfold x_up
        by_cases z : k = D.len
        · rw [if_pos z]; omega
        · rw [if_neg z]; exact hw.2.2.2.2.2.1 k (by omega)
      · obtain ⟨P, nx, hP, h2, h3, h4, h5, h6, h7, h8, h9⟩ := hS
        have e1 := h6.1
        have fA : x_fr (fun q j => q = 2 ∨ (q = 1 ∧ j = 1)) S (z_w (z_w S 2 D.len (nI j)) 1 1 (nI (D.len + 1))) := x_fr_w (x_fr_w x_fr_rf (Or.inl rfl)) (Or.inr ⟨rfl, rfl⟩)
        refine ⟨z_w (z_w S 2 D.len (nI j)) 1 1 (nI (D.len + 1)), ?_, ⟨P, nx, hP, fA.1.trans h2, cP_fr h3 fA (fun q j q1 q2 q3 => by omega) h0.2.2.1, cPl_fr h4 fA (fun k j q1 q2 => by omega), ⟨h5.1, ?_, ?_, fun i hi => cPl_fr (h5.2.2.2 i hi) fA (fun k j q1 q2 => by omega)⟩, ⟨b_wh, fun k hk => ?_⟩, ⟨?_, fun i hi hk => cPl_fr (h7.2 i hi hk) fA (fun k j q1 q2 => by omega)⟩, cZ_fr h8 fA (fun q j q1 q2 => by omega), cFr_fr (D := D) h9 fA (fun q j q1 q2 => by omega)⟩, yC_fr fA (fun q j h1 h2 => by omega)⟩
        · simp (disch := omega) only [f_X8_type, x_l0, x_l1, x_l2, x_l3, x_l4, x_l5, x_l6, x_l7, x_l8, x_l9, x_l10, x_l12, x_l13, x_l14, x_l16, x_l18, x_l20, x_l22, x_l32, x_l36, x_l48, x_l50, x_l54, x_l57, x_l59, x_l74, x_l81, x_l99, x_l104, x_l107, x_l110, x_l112, x_l115, x_l117, x_l162, x_l255, x_l512, x_l99999, x_l1000000, nI_leI, nI_ltI, nI_eq, nI_add, pk_mul, nI_clamp, x_in, x_bit, x_b0, x_b1, x_b0n, fa_or, fa_and, fb_xorI, x_an, Option.bind_some, b_has8, b_has9, ↓reduceIte, not_true_eq_false, not_false_eq_true, x_nn, Bool.false_eq_true, x_ar_k, x_ar_in, x_ar_w, b_wk, b_wj, b_wh, b_w2, x_ar_2, if_pos, if_neg, e1]
        · rw [fA.2 _ _ (by omega)]; exact h5.2.1
        · rw [fA.2 _ _ (by omega)]; exact h5.2.2.1
        · have hk' : k < D.len + 1 := hk
          show (z_w (z_w S 2 D.len (nI j)) 1 1 (nI (D.len + 1))).1 2 k = nI (x_up D.X D.len j k)
          rw [b_wk (by omega)]
          unfold x_up
          by_cases z : k = D.len
          · rw [z, b_wh, if_pos rfl]
          · rw [b_wj z, if_neg z]; exact h6.2 k (by omega)
        · rw [fA.2 _ _ (by omega)]; exact h7.1
      · have hm := MI_th hS
        have e1 := hm.2.2.2.2.1.1
        have fA : x_fr (fun q j => q = 88 ∨ (q = 87 ∧ (j = 2 ∨ j = 0))) S (z_w (z_w (z_w S 87 0 0) 88 D.len (nI j)) 87 2 (nI (D.len + 1))) := x_fr_w (x_fr_w (x_fr_w x_fr_rf (Or.inr ⟨rfl, Or.inr rfl⟩)) (Or.inl rfl)) (Or.inr ⟨rfl, Or.inl rfl⟩)
        refine ⟨z_w (z_w (z_w S 87 0 0) 88 D.len (nI j)) 87 2 (nI (D.len + 1)), ?_, ⟨fun i hi => ?_, fun p hp => ?_, mPl_fr hS.2.2.1 fA (fun j q => by omega), ⟨?_, fun i hi => mPl_fr (hS.2.2.2.1.2 i hi) fA (fun j q => by omega)⟩, ⟨b_wh, fun k hk => ?_⟩, fun i hi => ⟨?_, fun hk => mPl_fr ((hS.2.2.2.2.2.1 i hi).2 hk) fA (fun j q => by omega)⟩, mZ_fr hS.2.2.2.2.2.2 fA (fun q j q1 q2 => by omega)⟩, yM_fr fA (fun q j h1 h2 => by omega)⟩
        · unfold f_X9_type
          generalize z_w S 87 0 0 = S1 at *
          simp (disch := omega) only [x_l0, x_l1, x_l2, x_l3, x_l4, x_l5, x_l6, x_l7, x_l8, x_l9, x_l10, x_l12, x_l13, x_l14, x_l16, x_l18, x_l20, x_l22, x_l32, x_l36, x_l48, x_l50, x_l54, x_l57, x_l59, x_l74, x_l81, x_l99, x_l104, x_l107, x_l110, x_l112, x_l115, x_l117, x_l162, x_l255, x_l512, x_l99999, x_l1000000, nI_leI, nI_ltI, nI_eq, nI_add, pk_mul, nI_clamp, x_in, x_bit, x_b0, x_b1, x_b0n, fa_or, fa_and, fb_xorI, x_an, Option.bind_some, b_has8, b_has9, ↓reduceIte, not_true_eq_false, not_false_eq_true, x_nn, Bool.false_eq_true, x_ar_k, x_ar_in, x_ar_w, b_wk, b_wj, b_wh, b_w2, x_ar_2, if_pos, if_neg, e0, e1]
        · rw [fA.2 _ _ (by omega)]; exact hS.1 i hi
        · rw [fA.2 _ _ (by omega)]; exact hS.2.1 p hp
        · rw [fA.2 _ _ (by omega)]; exact hS.2.2.2.1.1
        · have hk' : k < D.len + 1 := hk
          show (z_w (z_w (z_w S 87 0 0) 88 D.len (nI j)) 87 2 (nI (D.len + 1))).1 88 k = nI (x_up D.X D.len j k)
          rw [b_wk (by omega)]
          unfold x_up
          by_cases z : k = D.len
          · rw [z, b_wh, if_pos rfl]
          · rw [b_wj z, if_neg z, b_wk (by omega)]; exact hS.2.2.2.2.1.2 k (by omega)
        · rw [fA.2 _ _ (by omega)]; exact (hS.2.2.2.2.2.1 i hi).1
  · refine zSim_lk hw (-nI 1) (fun S hS => ⟨S, ?_, hS, yC_rf⟩) (fun S hS => ⟨z_w S 87 0 0, ?_, fr_th⟩)
    · unfold f_X8_type
      by_cases q : a1 < 0
      · rw [if_pos q]; rfl
      · rw [if_neg q, if_neg]
        · rfl
        · intro z
          apply hj
          refine (x_inK (k := 255) (by omega)).mp ⟨?_, z⟩
          rw [fa_le]
          rw [fa_lt] at q
          omega
    · have e0 := fun S => s9_inN (v := a1) (k := 255) (by omega) S hj
      unfold f_X9_type
      generalize z_w S 87 0 0 = S1 at *
      simp (disch := omega) only [x_l0, x_l1, x_l2, x_l3, x_l4, x_l5, x_l6, x_l7, x_l8, x_l9, x_l10, x_l12, x_l13, x_l14, x_l16, x_l18, x_l20, x_l22, x_l32, x_l36, x_l48, x_l50, x_l54, x_l57, x_l59, x_l74, x_l81, x_l99, x_l104, x_l107, x_l110, x_l112, x_l115, x_l117, x_l162, x_l255, x_l512, x_l99999, x_l1000000, nI_leI, nI_ltI, nI_eq, nI_add, pk_mul, nI_clamp, x_in, x_bit, x_b0, x_b1, x_b0n, fa_or, fa_and, fb_xorI, x_an, Option.bind_some, b_has8, b_has9, ↓reduceIte, not_true_eq_false, not_false_eq_true, x_nn, Bool.false_eq_true, x_ar_k, x_ar_in, x_ar_w, b_wk, b_wj, b_wh, b_w2, x_ar_2, if_pos, if_neg, e0]
theorem z_clear (hw : wD D τ) : zSim D τ f_X8_clear f_X9_clear := by
  have h0 := wT_b hw.1
  refine ⟨nI D.len, gD.mk D.T D.X 0 D.Pl D.U D.sz D.I D.kb D.m D.A D.B D.H, ?_, fun S hS => ?_, fun S hS => ?_⟩
  · have hw2 := wD_mono hw (σ := τ + 60) (by omega)
    exact ⟨hw2.1, hw2.2.1, hw2.2.2.1, hw2.2.2.2.1, by show 0 ≤ 110; omega, fun k hk => absurd hk (Nat.not_lt_zero k), hw2.2.2.2.2.2.2.1, hw2.2.2.2.2.2.2.2.1, hw2.2.2.2.2.2.2.2.2⟩
  · obtain ⟨P, nx, hP, h2, h3, h4, h5, h6, h7, h8, h9⟩ := hS
    have fA : x_fr (fun q j => (q = 1 ∧ j = 1)) S (z_w S 1 1 0) := x_fr_w x_fr_rf ⟨rfl, rfl⟩
    refine ⟨z_w S 1 1 0, ?_, ⟨P, nx, hP, fA.1.trans h2, cP_fr h3 fA (fun q j q1 q2 q3 => by omega) h0.2.2.1, cPl_fr h4 fA (fun k j q1 q2 => by omega), ⟨h5.1, ?_, ?_, fun i hi => cPl_fr (h5.2.2.2 i hi) fA (fun k j q1 q2 => by omega)⟩, ⟨b_wh, fun k hk => absurd hk (Nat.not_lt_zero k)⟩, ⟨?_, fun i hi hk => cPl_fr (h7.2 i hi hk) fA (fun k j q1 q2 => by omega)⟩, cZ_fr h8 fA (fun q j q1 q2 => by omega), cFr_fr (D := D) h9 fA (fun q j q1 q2 => by omega)⟩, yC_fr fA (fun q j h1 h2 => by omega)⟩
    · rw [f_X8_clear, h6.1]
    · rw [fA.2 _ _ (by omega)]; exact h5.2.1
    · rw [fA.2 _ _ (by omega)]; exact h5.2.2.1
    · rw [fA.2 _ _ (by omega)]; exact h7.1
  · have hm := MI_th hS
    have fA : x_fr (fun q j => (q = 87 ∧ (j = 2 ∨ j = 0))) S (z_w (z_w S 87 0 0) 87 2 0) := x_fr_w (x_fr_w x_fr_rf ⟨rfl, Or.inr rfl⟩) ⟨rfl, Or.inl rfl⟩
    refine ⟨z_w (z_w S 87 0 0) 87 2 0, ?_, ⟨fun i hi => ?_, fun p hp => ?_, mPl_fr hS.2.2.1 fA (fun j q => by omega), ⟨?_, fun i hi => mPl_fr (hS.2.2.2.1.2 i hi) fA (fun j q => by omega)⟩, ⟨b_wh, fun k hk => absurd hk (Nat.not_lt_zero k)⟩, fun i hi => ⟨?_, fun hk => mPl_fr ((hS.2.2.2.2.2.1 i hi).2 hk) fA (fun j q => by omega)⟩, mZ_fr hS.2.2.2.2.2.2 fA (fun q j q1 q2 => by omega)⟩, yM_fr fA (fun q j h1 h2 => by omega)⟩
    · rw [f_X9_clear, hm.2.2.2.2.1.1]
    · rw [fA.2 _ _ (by omega)]; exact hS.1 i hi
    · rw [fA.2 _ _ (by omega)]; exact hS.2.1 p hp
    · rw [fA.2 _ _ (by omega)]; exact hS.2.2.2.1.1
    · rw [fA.2 _ _ (by omega)]; exact (hS.2.2.2.2.2.1 i hi).1
theorem z_forget (hw : wD D τ) : zSim D τ f_X8_forget f_X9_forget := by
  have h0 := wT_b hw.1
  refine ⟨nI D.m, gD.mk D.T D.X D.len D.Pl D.U D.sz D.I D.kb 0 D.A D.B D.H, ?_, fun S hS => ?_, fun S hS => ?_⟩
  · have hw2 := wD_mono hw (σ := τ + 60) (by omega)
    exact ⟨hw2.1, hw2.2.1, hw2.2.2.1, hw2.2.2.2.1, hw2.2.2.2.2.1, hw2.2.2.2.2.2.1, hw2.2.2.2.2.2.2.1, hw2.2.2.2.2.2.2.2.1, by show 0 ≤ 6; omega, fun e he => absurd he (Nat.not_lt_zero e)⟩
  · obtain ⟨P, nx, hP, h2, h3, h4, h5, h6, h7, h8, h9⟩ := hS
    have fA : x_fr (fun q j => (q = 75 ∧ j = 0)) S (z_w S 75 0 0) := x_fr_w x_fr_rf ⟨rfl, rfl⟩
    refine ⟨z_w S 75 0 0, ?_, ⟨P, nx, hP, fA.1.trans h2, cP_fr h3 fA (fun q j q1 q2 q3 => by omega) h0.2.2.1, cPl_fr h4 fA (fun k j q1 q2 => by omega), ⟨h5.1, ?_, ?_, fun i hi => cPl_fr (h5.2.2.2 i hi) fA (fun k j q1 q2 => by omega)⟩, ⟨?_, fun k hk => ?_⟩, ⟨?_, fun i hi hk => cPl_fr (h7.2 i hi hk) fA (fun k j q1 q2 => by omega)⟩, ⟨b_wh, fun e he => absurd he (Nat.not_lt_zero e)⟩, cFr_fr (D := D) h9 fA (fun q j q1 q2 => by omega)⟩, yC_fr fA (fun q j h1 h2 => by omega)⟩
    · rw [f_X8_forget, f_X7_lose, Option.bind_some, h8.1]
    · rw [fA.2 _ _ (by omega)]; exact h5.2.1
    · rw [fA.2 _ _ (by omega)]; exact h5.2.2.1
    · rw [fA.2 _ _ (by omega)]; exact h6.1
    · rw [fA.2 _ _ (by omega)]; exact h6.2 k hk
    · rw [fA.2 _ _ (by omega)]; exact h7.1
  · have hm := MI_th hS
    have fA : x_fr (fun q j => (q = 87 ∧ (j = 19 ∨ j = 0))) S (z_w (z_w S 87 0 0) 87 19 0) := x_fr_w (x_fr_w x_fr_rf ⟨rfl, Or.inr rfl⟩) ⟨rfl, Or.inl rfl⟩
    refine ⟨z_w (z_w S 87 0 0) 87 19 0, ?_, ⟨fun i hi => ?_, fun p hp => ?_, mPl_fr hS.2.2.1 fA (fun j q => by omega), ⟨?_, fun i hi => mPl_fr (hS.2.2.2.1.2 i hi) fA (fun j q => by omega)⟩, ⟨?_, fun k hk => ?_⟩, fun i hi => ⟨?_, fun hk => mPl_fr ((hS.2.2.2.2.2.1 i hi).2 hk) fA (fun j q => by omega)⟩, b_wh, fun e he => absurd he (Nat.not_lt_zero e)⟩, yM_fr fA (fun q j h1 h2 => by omega)⟩
    · rw [f_X9_forget, hm.2.2.2.2.2.2.1]
    · rw [fA.2 _ _ (by omega)]; exact hS.1 i hi
    · rw [fA.2 _ _ (by omega)]; exact hS.2.1 p hp
    · rw [fA.2 _ _ (by omega)]; exact hS.2.2.2.1.1
    · rw [fA.2 _ _ (by omega)]; exact hS.2.2.2.2.1.1
    · rw [fA.2 _ _ (by omega)]; exact hS.2.2.2.2.1.2 k hk
    · rw [fA.2 _ _ (by omega)]; exact (hS.2.2.2.2.2.1 i hi).1
theorem z_sees (hw : wD D τ) (a1 a2 a3 : Int32) : zSim D τ (f_X8_sees a1 a2 a3) (f_X9_sees a1 a2 a3) := by
  have w := hw.1
  have h0 := wT_b w
  have hz := hw.2.2.2.2.2.2.2.2
  by_cases hk : ∃ k, k < D.T 0 ∧ a1 = nI k
  · obtain ⟨k, hk, rfl⟩ := hk
    by_cases hb : ∃ l, l < D.T 0 ∧ a2 = nI l
    · obtain ⟨l, hb, rfl⟩ := hb
      by_cases hj : ∃ j, j < 1 + 1 ∧ a3 = nI j
      · obtain ⟨j, hj, rfl⟩ := hj
        have e0 := fun S => s9_inK (v := nI j) (k := 1) (by omega) S ⟨j, hj, rfl⟩
        by_cases c : D.m = 6
        · refine zSim_lk hw (-nI 3) (fun S hS => ⟨S, ?_, hS, yC_rf⟩) (fun S hS => ⟨z_w S 87 0 0, ?_, fr_th⟩)
          · obtain ⟨P, nx, hP, h2, h3, h4, h5, h6, h7, h8, h9⟩ := hS
            have e21 : S.2.1 = P := by rw [h2]
            have hz : z_isP P := hP
            have e1 := s1_hasT w h3.1 hk
            have e2 := s1_hasT w h3.1 hb
            have e3 := h8.1
            rw [c] at e3
            simp (disch := omega) only [f_X8_sees, f_X7_add, e21, hz, x_l0, x_l1, x_l2, x_l3, x_l4, x_l5, x_l6, x_l7, x_l8, x_l9, x_l10, x_l12, x_l13, x_l14, x_l16, x_l18, x_l20, x_l22, x_l32, x_l36, x_l48, x_l50, x_l54, x_l57, x_l59, x_l74, x_l81, x_l99, x_l104, x_l107, x_l110, x_l112, x_l115, x_l117, x_l162, x_l255, x_l512, x_l99999, x_l1000000, nI_leI, nI_ltI, nI_eq, nI_add, pk_mul, nI_clamp, x_in, x_bit, x_b0, x_b1, x_b0n, fa_or, fa_and, fb_xorI, x_an, Option.bind_some, b_has8, b_has9, ↓reduceIte, not_true_eq_false, not_false_eq_true, x_nn, Bool.false_eq_true, x_ar_k, x_ar_in, x_ar_w, b_wk, b_wj, b_wh, b_w2, x_ar_2, if_pos, if_neg, e1, e2, e3]
          · have hm := MI_th hS
            have e1 := s9_isC (T := D.T) (by omega) hm.1 hk
            have e2 := s9_isC (T := D.T) (by omega) hm.1 hb
            have e3 := hm.2.2.2.2.2.2.1
            rw [c] at e3
            unfold f_X9_sees
            generalize z_w S 87 0 0 = S1 at *
            simp (disch := omega) only [x_l0, x_l1, x_l2, x_l3, x_l4, x_l5, x_l6, x_l7, x_l8, x_l9, x_l10, x_l12, x_l13, x_l14, x_l16, x_l18, x_l20, x_l22, x_l32, x_l36, x_l48, x_l50, x_l54, x_l57, x_l59, x_l74, x_l81, x_l99, x_l104, x_l107, x_l110, x_l112, x_l115, x_l117, x_l162, x_l255, x_l512, x_l99999, x_l1000000, nI_leI, nI_ltI, nI_eq, nI_add, pk_mul, nI_clamp, x_in, x_bit, x_b0, x_b1, x_b0n, fa_or, fa_and, fb_xorI, x_an, Option.bind_some, b_has8, b_has9, ↓reduceIte, not_true_eq_false, not_false_eq_true, x_nn, Bool.false_eq_true, x_ar_k, x_ar_in, x_ar_w, b_wk, b_wj, b_wh, b_w2, x_ar_2, if_pos, if_neg, e0, e1, e2, e3]
        · have hm6 := hz.1
          refine ⟨nI (D.m + 1), gD.mk D.T D.X D.len D.Pl D.U D.sz D.I D.kb (D.m + 1) (x_up D.A D.m k) (x_up D.B D.m l) (x_up D.H D.m j), ?_, fun S hS => ?_, fun S hS => ?_⟩
          · have hw2 := wD_mono hw (σ := τ + 60) (by omega)
            refine ⟨hw2.1, hw2.2.1, hw2.2.2.1, hw2.2.2.2.1, hw2.2.2.2.2.1, hw2.2.2.2.2.2.1, hw2.2.2.2.2.2.2.1, hw2.2.2.2.2.2.2.2.1, by show D.m + 1 ≤ 6; omega, fun e he => ?_⟩
            have he' : e < D.m + 1 := he
            show x_up D.A D.m k e < D.T 0 ∧ x_up D.B D.m l e < D.T 0 ∧ x_up D.H D.m j e ≤ 1
            unfold x_up
            by_cases z : e = D.m
            · rw [if_pos z, if_pos z, if_pos z]; exact ⟨hk, hb, by omega⟩
            · rw [if_neg z, if_neg z, if_neg z]; exact hz.2 e (by omega)
          · obtain ⟨P, nx, hP, h2, h3, h4, h5, h6, h7, h8, h9⟩ := hS
            have e21 : S.2.1 = P := by rw [h2]
            have hzp : z_isP P := hP
            have e1 := s1_hasT w h3.1 hk
            have e2 := s1_hasT w h3.1 hb
            have e3 := h8.1
            have fA : x_fr (fun q j => 75 ≤ q ∧ q ≤ 78) S (z_w (z_w (z_w (z_w S 76 D.m (nI k)) 77 D.m (nI l)) 78 D.m (nI j)) 75 0 (nI (D.m + 1))) := x_fr_w (x_fr_w (x_fr_w (x_fr_w x_fr_rf (by omega)) (by omega)) (by omega)) (by omega)
            refine ⟨z_w (z_w (z_w (z_w S 76 D.m (nI k)) 77 D.m (nI l)) 78 D.m (nI j)) 75 0 (nI (D.m + 1)), ?_, ⟨P, nx, hP, fA.1.trans h2, cP_fr h3 fA (fun q j q1 q2 q3 => by omega) h0.2.2.1, cPl_fr h4 fA (fun k j q1 q2 => by omega), ⟨h5.1, ?_, ?_, fun i hi => cPl_fr (h5.2.2.2 i hi) fA (fun k j q1 q2 => by omega)⟩, ⟨?_, fun k hk => ?_⟩, ⟨?_, fun i hi hk => cPl_fr (h7.2 i hi hk) fA (fun k j q1 q2 => by omega)⟩, ⟨b_wh, fun e he => ?_⟩, cFr_fr (D := D) h9 fA (fun q j q1 q2 => by omega)⟩, yC_fr fA (fun q j h1 h2 => by omega)⟩
            · simp (disch := omega) only [f_X8_sees, f_X7_add, e21, hzp, x_l0, x_l1, x_l2, x_l3, x_l4, x_l5, x_l6, x_l7, x_l8, x_l9, x_l10, x_l12, x_l13, x_l14, x_l16, x_l18, x_l20, x_l22, x_l32, x_l36, x_l48, x_l50, x_l54, x_l57, x_l59, x_l74, x_l81, x_l99, x_l104, x_l107, x_l110, x_l112, x_l115, x_l117, x_l162, x_l255, x_l512, x_l99999, x_l1000000, nI_leI, nI_ltI, nI_eq, nI_add, pk_mul, nI_clamp, x_in, x_bit, x_b0, x_b1, x_b0n, fa_or, fa_and, fb_xorI, x_an, Option.bind_some, b_has8, b_has9, ↓reduceIte, not_true_eq_false, not_false_eq_true, x_nn, Bool.false_eq_true, x_ar_k, x_ar_in, x_ar_w, b_wk, b_wj, b_wh, b_w2, x_ar_2, if_pos, if_neg, e1, e2, e3]
            · rw [fA.2 _ _ (by omega)]; exact h5.2.1
            · rw [fA.2 _ _ (by omega)]; exact h5.2.2.1
            · rw [fA.2 _ _ (by omega)]; exact h6.1
            · rw [fA.2 _ _ (by omega)]; exact h6.2 k hk
            · rw [fA.2 _ _ (by omega)]; exact h7.1
            · have he' : e < D.m + 1 := he
              show (z_w (z_w (z_w (z_w S 76 D.m (nI k)) 77 D.m (nI l)) 78 D.m (nI j)) 75 0 (nI (D.m + 1))).1 76 e = nI (x_up D.A D.m k e) ∧ (z_w (z_w (z_w (z_w S 76 D.m (nI k)) 77 D.m (nI l)) 78 D.m (nI j)) 75 0 (nI (D.m + 1))).1 77 e = nI (x_up D.B D.m l e) ∧ (z_w (z_w (z_w (z_w S 76 D.m (nI k)) 77 D.m (nI l)) 78 D.m (nI j)) 75 0 (nI (D.m + 1))).1 78 e = nI (x_up D.H D.m j e)
              unfold x_up
              by_cases z : e = D.m
              · rw [if_pos z, if_pos z, if_pos z, z]
                refine ⟨?_, ?_, ?_⟩
                · rw [b_wk (by omega), b_wk (by omega), b_wk (by omega), b_wh]
                · rw [b_wk (by omega), b_wk (by omega), b_wh]
                · rw [b_wk (by omega), b_wh]
              · rw [if_neg z, if_neg z, if_neg z]
                have h8' := h8.2 e (by omega)
                refine ⟨?_, ?_, ?_⟩
                · rw [b_wk (by omega), b_wk (by omega), b_wk (by omega), b_wj z]; exact h8'.1
                · rw [b_wk (by omega), b_wk (by omega), b_wj z, b_wk (by omega)]; exact h8'.2.1
                · rw [b_wk (by omega), b_wj z, b_wk (by omega), b_wk (by omega)]; exact h8'.2.2
          · have hm := MI_th hS
            have e1 := s9_isC (T := D.T) (by omega) hm.1 hk
            have e2 := s9_isC (T := D.T) (by omega) hm.1 hb
            have e3 := hm.2.2.2.2.2.2.1
            have fA : x_fr (fun q j => (q = 87 ∧ (j = 0 ∨ j = 19)) ∨ (95 ≤ q ∧ q ≤ 97)) S (z_w (z_w (z_w (z_w (z_w S 87 0 0) 95 D.m (nI k)) 96 D.m (nI l)) 97 D.m (nI j)) 87 19 (nI (D.m + 1))) := x_fr_w (x_fr_w (x_fr_w (x_fr_w (x_fr_w x_fr_rf (by omega)) (by omega)) (by omega)) (by omega)) (by omega)
            refine ⟨z_w (z_w (z_w (z_w (z_w S 87 0 0) 95 D.m (nI k)) 96 D.m (nI l)) 97 D.m (nI j)) 87 19 (nI (D.m + 1)), ?_, ⟨fun i hi => ?_, fun p hp => ?_, mPl_fr hS.2.2.1 fA (fun j q => by omega), ⟨?_, fun i hi => mPl_fr (hS.2.2.2.1.2 i hi) fA (fun j q => by omega)⟩, ⟨?_, fun k hk => ?_⟩, fun i hi => ⟨?_, fun hk => mPl_fr ((hS.2.2.2.2.2.1 i hi).2 hk) fA (fun j q => by omega)⟩, b_wh, fun e he => ?_⟩, yM_fr fA (fun q j h1 h2 => by omega)⟩
            · unfold f_X9_sees
              generalize z_w S 87 0 0 = S1 at *
              simp (disch := omega) only [x_l0, x_l1, x_l2, x_l3, x_l4, x_l5, x_l6, x_l7, x_l8, x_l9, x_l10, x_l12, x_l13, x_l14, x_l16, x_l18, x_l20, x_l22, x_l32, x_l36, x_l48, x_l50, x_l54, x_l57, x_l59, x_l74, x_l81, x_l99, x_l104, x_l107, x_l110, x_l112, x_l115, x_l117, x_l162, x_l255, x_l512, x_l99999, x_l1000000, nI_leI, nI_ltI, nI_eq, nI_add, pk_mul, nI_clamp, x_in, x_bit, x_b0, x_b1, x_b0n, fa_or, fa_and, fb_xorI, x_an, Option.bind_some, b_has8, b_has9, ↓reduceIte, not_true_eq_false, not_false_eq_true, x_nn, Bool.false_eq_true, x_ar_k, x_ar_in, x_ar_w, b_wk, b_wj, b_wh, b_w2, x_ar_2, if_pos, if_neg, e0, e1, e2, e3]
            · rw [fA.2 _ _ (by omega)]; exact hS.1 i hi
            · rw [fA.2 _ _ (by omega)]; exact hS.2.1 p hp
            · rw [fA.2 _ _ (by omega)]; exact hS.2.2.2.1.1
            · rw [fA.2 _ _ (by omega)]; exact hS.2.2.2.2.1.1
            · rw [fA.2 _ _ (by omega)]; exact hS.2.2.2.2.1.2 k hk
            · rw [fA.2 _ _ (by omega)]; exact (hS.2.2.2.2.2.1 i hi).1
            · have he' : e < D.m + 1 := he
              have h8' := fun z : ¬ e = D.m => hm.2.2.2.2.2.2.2 e (by omega)
              generalize z_w S 87 0 0 = S1 at *
              show (z_w (z_w (z_w (z_w S1 95 D.m (nI k)) 96 D.m (nI l)) 97 D.m (nI j)) 87 19 (nI (D.m + 1))).1 95 e = nI (x_up D.A D.m k e) ∧ (z_w (z_w (z_w (z_w S1 95 D.m (nI k)) 96 D.m (nI l)) 97 D.m (nI j)) 87 19 (nI (D.m + 1))).1 96 e = nI (x_up D.B D.m l e) ∧ (z_w (z_w (z_w (z_w S1 95 D.m (nI k)) 96 D.m (nI l)) 97 D.m (nI j)) 87 19 (nI (D.m + 1))).1 97 e = nI (x_up D.H D.m j e)
              unfold x_up
              by_cases z : e = D.m
              · rw [if_pos z, if_pos z, if_pos z, z]
                refine ⟨?_, ?_, ?_⟩
                · rw [b_wk (by omega), b_wk (by omega), b_wk (by omega), b_wh]
                · rw [b_wk (by omega), b_wk (by omega), b_wh]
                · rw [b_wk (by omega), b_wh]
              · rw [if_neg z, if_neg z, if_neg z]
                have h8'' := h8' z
                refine ⟨?_, ?_, ?_⟩
                · rw [b_wk (by omega), b_wk (by omega), b_wk (by omega), b_wj z]; exact h8''.1
                · rw [b_wk (by omega), b_wk (by omega), b_wj z, b_wk (by omega)]; exact h8''.2.1
                · rw [b_wk (by omega), b_wj z, b_wk (by omega), b_wk (by omega)]; exact h8''.2.2
      · refine zSim_lk hw (-nI 1) (fun S hS => ⟨S, ?_, hS, yC_rf⟩) (fun S hS => ⟨z_w S 87 0 0, ?_, fr_th⟩)
        · obtain ⟨P, nx, hP, h2, h3, h4, h5, h6, h7, h8, h9⟩ := hS
          have e21 : S.2.1 = P := by rw [h2]
          have hzp : z_isP P := hP
          have e1 := s1_hasT w h3.1 hk
          have e2 := s1_hasT w h3.1 hb
          rw [f_X8_sees, e21, if_pos hzp, e1, Option.bind_some, if_neg (c := nI 1 = 0) (by decide)]
          dsimp only
          rw [e21, if_pos hzp, e2, Option.bind_some, if_neg (c := nI 1 = 0) (by decide)]
          by_cases q : a3 < 0
          · rw [if_pos q]; rfl
          · rw [if_neg q, if_neg]
            · rfl
            · intro z
              apply hj
              refine (x_inK (k := 1) (by omega)).mp ⟨?_, z⟩
              rw [fa_le]
              rw [fa_lt] at q
              omega
        · have hm := MI_th hS
          have e1 := s9_isC (T := D.T) (by omega) hm.1 hk
          have e2 := s9_isC (T := D.T) (by omega) hm.1 hb
          have e0 := fun S => s9_inN (v := a3) (k := 1) (by omega) S hj
          unfold f_X9_sees
          generalize z_w S 87 0 0 = S1 at *
          simp (disch := omega) only [x_l0, x_l1, x_l2, x_l3, x_l4, x_l5, x_l6, x_l7, x_l8, x_l9, x_l10, x_l12, x_l13, x_l14, x_l16, x_l18, x_l20, x_l22, x_l32, x_l36, x_l48, x_l50, x_l54, x_l57, x_l59, x_l74, x_l81, x_l99, x_l104, x_l107, x_l110, x_l112, x_l115, x_l117, x_l162, x_l255, x_l512, x_l99999, x_l1000000, nI_leI, nI_ltI, nI_eq, nI_add, pk_mul, nI_clamp, x_in, x_bit, x_b0, x_b1, x_b0n, fa_or, fa_and, fb_xorI, x_an, Option.bind_some, b_has8, b_has9, ↓reduceIte, not_true_eq_false, not_false_eq_true, x_nn, Bool.false_eq_true, x_ar_k, x_ar_in, x_ar_w, b_wk, b_wj, b_wh, b_w2, x_ar_2, if_pos, if_neg, e0, e1, e2]
    · refine zSim_lk hw (-nI 1) (fun S hS => ⟨S, ?_, hS, yC_rf⟩) (fun S hS => ⟨z_w S 87 0 0, ?_, fr_th⟩)
      · obtain ⟨P, nx, hP, h2, h3, h4, h5, h6, h7, h8, h9⟩ := hS
        have e21 : S.2.1 = P := by rw [h2]
        have hzp : z_isP P := hP
        have e1 := s1_hasT w h3.1 hk
        have e2 := s1_hasF w h3.1 hb
        simp (disch := omega) only [f_X8_sees, e21, hzp, x_l0, x_l1, x_l2, x_l3, x_l4, x_l5, x_l6, x_l7, x_l8, x_l9, x_l10, x_l12, x_l13, x_l14, x_l16, x_l18, x_l20, x_l22, x_l32, x_l36, x_l48, x_l50, x_l54, x_l57, x_l59, x_l74, x_l81, x_l99, x_l104, x_l107, x_l110, x_l112, x_l115, x_l117, x_l162, x_l255, x_l512, x_l99999, x_l1000000, nI_leI, nI_ltI, nI_eq, nI_add, pk_mul, nI_clamp, x_in, x_bit, x_b0, x_b1, x_b0n, fa_or, fa_and, fb_xorI, x_an, Option.bind_some, b_has8, b_has9, ↓reduceIte, not_true_eq_false, not_false_eq_true, x_nn, Bool.false_eq_true, x_ar_k, x_ar_in, x_ar_w, b_wk, b_wj, b_wh, b_w2, x_ar_2, if_pos, if_neg, e1, e2]
      · have hm := MI_th hS
        have e1 := s9_isC (T := D.T) (by omega) hm.1 hk
        have e2 := s9_isCF (T := D.T) (by omega) hm.1 hb
        unfold f_X9_sees
        generalize z_w S 87 0 0 = S1 at *
        simp (disch := omega) only [x_l0, x_l1, x_l2, x_l3, x_l4, x_l5, x_l6, x_l7, x_l8, x_l9, x_l10, x_l12, x_l13, x_l14, x_l16, x_l18, x_l20, x_l22, x_l32, x_l36, x_l48, x_l50, x_l54, x_l57, x_l59, x_l74, x_l81, x_l99, x_l104, x_l107, x_l110, x_l112, x_l115, x_l117, x_l162, x_l255, x_l512, x_l99999, x_l1000000, nI_leI, nI_ltI, nI_eq, nI_add, pk_mul, nI_clamp, x_in, x_bit, x_b0, x_b1, x_b0n, fa_or, fa_and, fb_xorI, x_an, Option.bind_some, b_has8, b_has9, ↓reduceIte, not_true_eq_false, not_false_eq_true, x_nn, Bool.false_eq_true, x_ar_k, x_ar_in, x_ar_w, b_wk, b_wj, b_wh, b_w2, x_ar_2, if_pos, if_neg, e1, e2]
  · refine zSim_lk hw (-nI 1) (fun S hS => ⟨S, ?_, hS, yC_rf⟩) (fun S hS => ⟨z_w S 87 0 0, ?_, fr_th⟩)
    · obtain ⟨P, nx, hP, h2, h3, h4, h5, h6, h7, h8, h9⟩ := hS
      have e21 : S.2.1 = P := by rw [h2]
      have hzp : z_isP P := hP
      have e1 := s1_hasF w h3.1 hk
      simp (disch := omega) only [f_X8_sees, e21, hzp, x_l0, x_l1, x_l2, x_l3, x_l4, x_l5, x_l6, x_l7, x_l8, x_l9, x_l10, x_l12, x_l13, x_l14, x_l16, x_l18, x_l20, x_l22, x_l32, x_l36, x_l48, x_l50, x_l54, x_l57, x_l59, x_l74, x_l81, x_l99, x_l104, x_l107, x_l110, x_l112, x_l115, x_l117, x_l162, x_l255, x_l512, x_l99999, x_l1000000, nI_leI, nI_ltI, nI_eq, nI_add, pk_mul, nI_clamp, x_in, x_bit, x_b0, x_b1, x_b0n, fa_or, fa_and, fb_xorI, x_an, Option.bind_some, b_has8, b_has9, ↓reduceIte, not_true_eq_false, not_false_eq_true, x_nn, Bool.false_eq_true, x_ar_k, x_ar_in, x_ar_w, b_wk, b_wj, b_wh, b_w2, x_ar_2, if_pos, if_neg, e1]
    · have hm := MI_th hS
      have e1 := s9_isCF (T := D.T) (by omega) hm.1 hk
      unfold f_X9_sees
      generalize z_w S 87 0 0 = S1 at *
      simp (disch := omega) only [x_l0, x_l1, x_l2, x_l3, x_l4, x_l5, x_l6, x_l7, x_l8, x_l9, x_l10, x_l12, x_l13, x_l14, x_l16, x_l18, x_l20, x_l22, x_l32, x_l36, x_l48, x_l50, x_l54, x_l57, x_l59, x_l74, x_l81, x_l99, x_l104, x_l107, x_l110, x_l112, x_l115, x_l117, x_l162, x_l255, x_l512, x_l99999, x_l1000000, nI_leI, nI_ltI, nI_eq, nI_add, pk_mul, nI_clamp, x_in, x_bit, x_b0, x_b1, x_b0n, fa_or, fa_and, fb_xorI, x_an, Option.bind_some, b_has8, b_has9, ↓reduceIte, not_true_eq_false, not_false_eq_true, x_nn, Bool.false_eq_true, x_ar_k, x_ar_in, x_ar_w, b_wk, b_wj, b_wh, b_w2, x_ar_2, if_pos, if_neg, e1]
theorem x_ltK {v : Int32} {n : Nat} (hn : n < 2 ^ 31) (h : ¬ ∃ j, j < n ∧ v = nI j) (h0 : ¬ v < 0) : ¬ v < nI n := fun z => by
  rcases pk_ix v (n := n) (by omega) with q | q | q
  · exact h0 q
  · rw [fa_le] at q; rw [fa_lt] at z; omega
  · exact h q
theorem z_keep (hw : wD D τ) (a1 : Int32) : zSim D τ (f_X8_keep a1) (f_X9_keep a1) := by
  have w := hw.1
  have h0 := wT_b w
  have hkb := hw.2.2.2.2.2.2.1
  by_cases hj : ∃ j, j < 1 + 1 ∧ a1 = nI j
  · obtain ⟨i, hi, rfl⟩ := hj
    have kl : D.kb ||| 2 ^ i < 4 := Nat.or_lt_two_pow (n := 2) hkb (Nat.pow_lt_pow_right (by decide) hi)
    have kbit : ∀ e, (D.kb ||| 2 ^ i).testBit e = (D.kb.testBit e || decide (i = e)) := fun e => by rw [Nat.testBit_or, Nat.testBit_two_pow]
    refine ⟨D.Pl 2, gD.mk D.T D.X D.len D.Pl D.U D.sz (fun e => if e = i then D.Pl else D.I e) (D.kb ||| 2 ^ i) D.m D.A D.B D.H, ?_, fun S hS => ?_, fun S hS => ?_⟩
    · have hw2 := wD_mono hw (σ := τ + 60) (by omega)
      refine ⟨hw2.1, hw2.2.1, hw2.2.2.1, hw2.2.2.2.1, hw2.2.2.2.2.1, hw2.2.2.2.2.2.1, kl, fun e he hk => ?_, hw2.2.2.2.2.2.2.2.2⟩
      show wPl D.T (τ + 60) (if e = i then D.Pl else D.I e)
      by_cases z : e = i
      · rw [if_pos z]; exact hw2.2.1
      · rw [if_neg z]
        have hk' : (D.kb ||| 2 ^ i).testBit e = true := hk
        rw [kbit, decide_eq_false (fun q => z q.symm), Bool.or_false] at hk'
        exact hw2.2.2.2.2.2.2.2.1 e he hk'
    · obtain ⟨P, nx, hP, h2, h3, h4, h5, h6, h7, h8, h9⟩ := hS
      obtain ⟨S1, r1, f1, c1⟩ := s2_become (p0 := 83 + 2 * i) h4 (wPl_just hw.2.1) (by omega) (by omega) (by omega)
      have fA : x_fr (fun q j => q = 83 + 2 * i ∨ q = 83 + 2 * i + 1 ∨ (q = 1 ∧ j = 8)) S (z_w S1 1 8 (nI (D.kb ||| 2 ^ i))) := x_fr_w (x_fr_sub f1 (fun q j hq => by unfold wB at hq; omega)) (by omega)
      have fB : x_fr (fun q j => q = 1) S1 (z_w S1 1 8 (nI (D.kb ||| 2 ^ i))) := x_fr_w x_fr_rf rfl
      have e18 : S1.1 1 8 = nI D.kb := by rw [f1.2 _ _ (by unfold wB; omega)]; exact h7.1
      have e32 : (z_w S1 1 8 (nI (D.kb ||| 2 ^ i))).1 32 2 = D.Pl 2 := by rw [fA.2 _ _ (by omega)]; exact h4.1 2 (by omega)
      refine ⟨z_w S1 1 8 (nI (D.kb ||| 2 ^ i)), ?_, ⟨P, nx, hP, fA.1.trans h2, cP_fr h3 fA (fun q j q1 q2 q3 => by omega) h0.2.2.1, cPl_fr h4 fA (fun k j q1 q2 => by omega), ⟨h5.1, ?_, ?_, fun e he => cPl_fr (h5.2.2.2 e he) fA (fun k j q1 q2 => by omega)⟩, ⟨?_, fun k hk => ?_⟩, ⟨b_wh, fun e he hk => ?_⟩, cZ_fr h8 fA (fun q j q1 q2 => by omega), cFr_fr (D := D) h9 fA (fun q j q1 q2 => by omega)⟩, yC_fr fA (fun q j h1 h2 => by omega)⟩
      · rw [f_X8_keep, if_neg (show ¬ nI i < 0 from nI_nlt (b := 0) (by omega) (by omega)), if_pos (show nI i < 2 from nI_lt (b := 2) (by omega) (by omega)), if_pos ((x_in (by omega)).mpr (by omega)), nI_clamp (by omega), r1, Option.bind_some]
        dsimp only
        rw [e18, show (1 : Int32) = nI 1 from rfl, x_bit (by omega), fa_or, e32]
      · rw [fA.2 _ _ (by omega)]; exact h5.2.1
      · rw [fA.2 _ _ (by omega)]; exact h5.2.2.1
      · rw [fA.2 _ _ (by omega)]; exact h6.1
      · rw [fA.2 _ _ (by omega)]; exact h6.2 k hk
      · show cPl (if e = i then D.Pl else D.I e) (83 + 2 * e) _
        by_cases z : e = i
        · rw [if_pos z, z]; exact cPl_fr c1 fB (fun k j q1 q2 => by omega)
        · rw [if_neg z]
          have hk' : (D.kb ||| 2 ^ i).testBit e = true := hk
          rw [kbit, decide_eq_false (fun q => z q.symm), Bool.or_false] at hk'
          exact cPl_fr (h7.2 e he hk') fA (fun k j q1 q2 => by omega)
    · have hm := MI_th hS
      have e0 := fun S => s9_inK (v := nI i) (k := 1) (by omega) S ⟨i, hi, rfl⟩
      have run : ∃ S', f_X9_keep_18 1000 (nI i) (nI 0) (z_w S 87 0 0) = some (D.Pl 2, z_w S' 94 i (nI 1)) ∧ x_fr (fun q j => (q = 87 ∧ j = 0) ∨ (q = 93 ∧ 13 * i ≤ j ∧ j < 13 * i + 13)) S S' ∧ ∀ e, e < 13 → S'.1 93 (13 * i + e) = D.Pl e := by
        refine x_forI (F := fun n k S => f_X9_keep_18 n (nI i) (nI k) S) (N := 13) (I := fun k S1 => x_fr (fun q j => (q = 87 ∧ j = 0) ∨ (q = 93 ∧ 13 * i ≤ j ∧ j < 13 * i + 13)) S S1 ∧ ∀ e, e < k → S1.1 93 (13 * i + e) = D.Pl e) (G := fun γ => ∃ S', γ = some (D.Pl 2, z_w S' 94 i (nI 1)) ∧ x_fr (fun q j => (q = 87 ∧ j = 0) ∨ (q = 93 ∧ 13 * i ≤ j ∧ j < 13 * i + 13)) S S' ∧ ∀ e, e < 13 → S'.1 93 (13 * i + e) = D.Pl e) ?_ ?_ (d := 13) (a := 0) (n := 1000) (by omega) (by omega) ⟨x_fr_w x_fr_rf (Or.inl ⟨rfl, rfl⟩), fun e he => absurd he (Nat.not_lt_zero e)⟩
        · intro n S1 ⟨g1, g2⟩
          refine ⟨S1, ?_, g1, g2⟩
          have e91 : (z_w S1 94 i 1).1 91 2 = D.Pl 2 := by
            rw [b_wk (by omega), g1.2 _ _ (by omega)]
            have := hS.2.2.1 2 (by omega)
            rw [Nat.zero_add] at this
            exact this
          show f_X9_keep_18 (n + 1) (nI i) (nI 13) S1 = _
          rw [f_X9_keep_18, if_pos (show (13 : Int32) ≤ nI 13 from nI_le (Nat.le_refl 13) (by omega)), if_pos ((x_in (by omega)).mpr (by omega)), nI_clamp (by omega), e91]
          rfl
        · intro n k S1 hk ⟨g1, g2⟩ go
          have i1 : (13 : Int32) * nI i + nI k = nI (13 * i + k) := by rw [show (13 : Int32) = nI 13 from rfl, pk_mul, nI_add]
          show ∃ S', f_X9_keep_18 (n + 1) (nI i) (nI k) S1 = _ ∧ _
          rw [f_X9_keep_18, if_neg (show ¬ (13 : Int32) ≤ nI k from nI_ge (b := 13) (by omega) (by omega)), if_pos ((x_in (by omega)).mpr hk), i1, if_pos ((x_in (by omega)).mpr (by omega)), nI_clamp (by omega), nI_clamp (by omega), show (1 : Int32) = nI 1 from rfl, nI_add]
          apply go
          refine ⟨x_fr_w g1 (Or.inr ⟨rfl, by omega, by omega⟩), fun e he => ?_⟩
          by_cases z : e = k
          · subst z
            rw [b_wh, g1.2 _ _ (by omega)]
            have := hS.2.2.1 e hk
            rw [Nat.zero_add] at this
            exact this
          · rw [b_wj (by omega)]; exact g2 e (by omega)
      obtain ⟨S1, r1, f1, g1⟩ := run
      have fA : x_fr (fun q j => (q = 87 ∧ j = 0) ∨ (q = 93 ∧ 13 * i ≤ j ∧ j < 13 * i + 13) ∨ (q = 94 ∧ j = i)) S (z_w S1 94 i (nI 1)) := x_fr_w (x_fr_sub f1 (fun q j hq => by omega)) (by omega)
      refine ⟨z_w S1 94 i (nI 1), ?_, ⟨fun e he => ?_, fun p hp => ?_, mPl_fr hS.2.2.1 fA (fun j q => by omega), ⟨?_, fun e he => mPl_fr (hS.2.2.2.1.2 e he) fA (fun j q => by omega)⟩, ⟨?_, fun k hk => ?_⟩, fun e he => ⟨?_, fun hk j hj => ?_⟩, mZ_fr hS.2.2.2.2.2.2 fA (fun q j q1 q2 => by omega)⟩, yM_fr fA (fun q j h1 h2 => by omega)⟩
      · rw [f_X9_keep, show (0 : Int32) = nI 0 from rfl, show (1 : Int32) = nI 1 from rfl, e0, Option.bind_some, if_neg (c := nI 1 = nI 0) (by decide)]
        exact r1
      · rw [fA.2 _ _ (by omega)]; exact hS.1 e he
      · rw [fA.2 _ _ (by omega)]; exact hS.2.1 p hp
      · rw [fA.2 _ _ (by omega)]; exact hS.2.2.2.1.1
      · rw [fA.2 _ _ (by omega)]; exact hS.2.2.2.2.1.1
      · rw [fA.2 _ _ (by omega)]; exact hS.2.2.2.2.1.2 k hk
      · show _ = (if (D.kb ||| 2 ^ i).testBit e = true then nI 1 else nI 0)
        rw [kbit]
        by_cases z : e = i
        · rw [z, b_wh, decide_eq_true rfl, Bool.or_true, if_pos rfl]
        · rw [decide_eq_false (fun q => z q.symm), Bool.or_false, fA.2 _ _ (by omega)]
          exact (hS.2.2.2.2.2.1 e he).1
      · show (z_w S1 94 i (nI 1)).1 93 (13 * e + j) = (if e = i then D.Pl else D.I e) j
        by_cases z : e = i
        · rw [if_pos z, z, b_wk (by omega)]; exact g1 j hj
        · rw [if_neg z]
          have hk' : (D.kb ||| 2 ^ i).testBit e = true := hk
          rw [kbit, decide_eq_false (fun q => z q.symm), Bool.or_false] at hk'
          rw [fA.2 _ _ (by omega)]
          exact (hS.2.2.2.2.2.1 e he).2 hk' j hj
  · refine zSim_lk hw (-nI 1) (fun S hS => ⟨S, ?_, hS, yC_rf⟩) (fun S hS => ⟨z_w S 87 0 0, ?_, fr_th⟩)
    · unfold f_X8_keep
      by_cases q : a1 < 0
      · rw [if_pos q]; rfl
      · rw [if_neg q, if_neg (show ¬ a1 < 2 from x_ltK (n := 2) (by omega) hj q)]; rfl
    · have e0 := fun S => s9_inN (v := a1) (k := 1) (by omega) S hj
      unfold f_X9_keep
      generalize z_w S 87 0 0 = S1 at *
      simp (disch := omega) only [x_l0, x_l1, x_l2, x_l3, x_l4, x_l5, x_l6, x_l7, x_l8, x_l9, x_l10, x_l12, x_l13, x_l14, x_l16, x_l18, x_l20, x_l22, x_l32, x_l36, x_l48, x_l50, x_l54, x_l57, x_l59, x_l74, x_l81, x_l99, x_l104, x_l107, x_l110, x_l112, x_l115, x_l117, x_l162, x_l255, x_l512, x_l99999, x_l1000000, nI_leI, nI_ltI, nI_eq, nI_add, pk_mul, nI_clamp, x_in, x_bit, x_b0, x_b1, x_b0n, fa_or, fa_and, fb_xorI, x_an, Option.bind_some, b_has8, b_has9, ↓reduceIte, not_true_eq_false, not_false_eq_true, x_nn, Bool.false_eq_true, x_ar_k, x_ar_in, x_ar_w, b_wk, b_wj, b_wh, b_w2, x_ar_2, if_pos, if_neg, e0]
theorem z_back (hw : wD D τ) (a1 : Int32) : zSim D τ (f_X8_back a1) (f_X9_back a1) := by
  have w := hw.1
  have h0 := wT_b w
  have hkb := hw.2.2.2.2.2.2.1
  by_cases hj : ∃ j, j < 1 + 1 ∧ a1 = nI j
  · obtain ⟨i, hi, rfl⟩ := hj
    have e0 := fun S => s9_inK (v := nI i) (k := 1) (by omega) S ⟨i, hi, rfl⟩
    by_cases c : D.kb.testBit i = true
    · have hwI := hw.2.2.2.2.2.2.2.1 i hi c
      refine ⟨D.I i 2, gD.mk D.T D.X D.len (D.I i) D.U 0 D.I D.kb D.m D.A D.B D.H, ?_, fun S hS => ?_, fun S hS => ?_⟩
      · have hw2 := wD_mono hw (σ := τ + 60) (by omega)
        exact ⟨hw2.1, hw2.2.2.2.2.2.2.2.1 i hi c, by show 0 ≤ 10; omega, fun e he => absurd he (Nat.not_lt_zero e), hw2.2.2.2.2.1, hw2.2.2.2.2.2.1, hw2.2.2.2.2.2.2.1, hw2.2.2.2.2.2.2.2.1, hw2.2.2.2.2.2.2.2.2⟩
      · obtain ⟨P, nx, hP, h2, h3, h4, h5, h6, h7, h8, h9⟩ := hS
        obtain ⟨S1, r1, f1, c1⟩ := s2_become (p0 := 32) (h7.2 i hi c) (wPl_just hwI) (by omega) (by omega) (by omega)
        have fA : x_fr (fun q j => q = 32 ∨ q = 33 ∨ (q = 34 ∧ j = 2) ∨ q = 57 ∨ q = 69) S (z_w (z_w (z_w S1 34 2 0) 57 0 0) 69 0 (-9)) := x_fr_w (x_fr_w (x_fr_w (x_fr_sub f1 (fun q j hq => by unfold wB at hq; omega)) (by omega)) (by omega)) (by omega)
        have fB : x_fr (fun q j => q = 34 ∨ q = 57 ∨ q = 69) S1 (z_w (z_w (z_w S1 34 2 0) 57 0 0) 69 0 (-9)) := x_fr_w (x_fr_w (x_fr_w x_fr_rf (by omega)) (by omega)) (by omega)
        have cN := cPl_fr c1 fB (fun k j q1 q2 => by omega)
        refine ⟨z_w (z_w (z_w S1 34 2 0) 57 0 0) 69 0 (-9), ?_, ⟨P, nx, hP, fA.1.trans h2, cP_fr h3 fA (fun q j q1 q2 q3 => by omega) h0.2.2.1, cN, ⟨h5.1, ?_, ?_, fun e he => absurd he (Nat.not_lt_zero e)⟩, ⟨?_, fun k hk => ?_⟩, ⟨?_, fun e he hk => cPl_fr (h7.2 e he hk) fA (fun k j q1 q2 => by omega)⟩, cZ_fr h8 fA (fun q j q1 q2 => by omega), cFr_out _⟩, yC_fr fA (fun q j h1 h2 => by omega)⟩
        · rw [f_X8_back, if_neg (show ¬ nI i < 0 from nI_nlt (b := 0) (by omega) (by omega)), if_pos (show nI i < 2 from nI_lt (b := 2) (by omega) (by omega)), h7.1, b_has8 (by omega) (by omega), Option.bind_some, if_pos c, if_neg (c := nI 1 = 0) (by decide), if_pos ((x_in (by omega)).mpr (by omega)), nI_clamp (by omega)]
          dsimp only
          rw [r1, Option.bind_some, f_X0_lose, Option.bind_some, f_X8_outdate, Option.bind_some]
          dsimp only
          rw [cN.1 2 (by omega)]
        · rw [fA.2 _ _ (by omega)]; exact h5.2.1
        · rw [b_wk (by omega), b_wk (by omega), b_wh]; rfl
        · rw [fA.2 _ _ (by omega)]; exact h6.1
        · rw [fA.2 _ _ (by omega)]; exact h6.2 k hk
        · rw [fA.2 _ _ (by omega)]; exact h7.1
      · have hm := MI_th hS
        have hk1 := (hm.2.2.2.2.2.1 i hi).1
        rw [if_pos c] at hk1
        have run : ∃ S', f_X9_back_30 1000 (nI i) (nI 0) (z_w S 87 0 0) = some (D.I i 2, z_w S' 87 13 (nI 0)) ∧ x_fr (fun q j => (q = 87 ∧ j = 0) ∨ (q = 91 ∧ j < 13)) S S' ∧ ∀ e, e < 13 → S'.1 91 e = D.I i e := by
          refine x_forI (F := fun n k S => f_X9_back_30 n (nI i) (nI k) S) (N := 13) (I := fun k S1 => x_fr (fun q j => (q = 87 ∧ j = 0) ∨ (q = 91 ∧ j < 13)) S S1 ∧ ∀ e, e < k → S1.1 91 e = D.I i e) (G := fun γ => ∃ S', γ = some (D.I i 2, z_w S' 87 13 (nI 0)) ∧ x_fr (fun q j => (q = 87 ∧ j = 0) ∨ (q = 91 ∧ j < 13)) S S' ∧ ∀ e, e < 13 → S'.1 91 e = D.I i e) ?_ ?_ (d := 13) (a := 0) (n := 1000) (by omega) (by omega) ⟨x_fr_w x_fr_rf (Or.inl ⟨rfl, rfl⟩), fun e he => absurd he (Nat.not_lt_zero e)⟩
          · intro n S1 ⟨g1, g2⟩
            refine ⟨S1, ?_, g1, g2⟩
            show f_X9_back_30 (n + 1) (nI i) (nI 13) S1 = _
            rw [f_X9_back_30, if_pos (show (13 : Int32) ≤ nI 13 from nI_le (Nat.le_refl 13) (by omega)), b_wk (by omega), g2 2 (by omega)]
            rfl
          · intro n k S1 hk ⟨g1, g2⟩ go
            have i1 : (13 : Int32) * nI i + nI k = nI (13 * i + k) := by rw [show (13 : Int32) = nI 13 from rfl, pk_mul, nI_add]
            show ∃ S', f_X9_back_30 (n + 1) (nI i) (nI k) S1 = _ ∧ _
            rw [f_X9_back_30, if_neg (show ¬ (13 : Int32) ≤ nI k from nI_ge (b := 13) (by omega) (by omega)), i1, if_pos ((x_in (by omega)).mpr (by omega)), if_pos ((x_in (by omega)).mpr hk), nI_clamp (by omega), nI_clamp (by omega), show (1 : Int32) = nI 1 from rfl, nI_add]
            apply go
            refine ⟨x_fr_w g1 (Or.inr ⟨rfl, hk⟩), fun e he => ?_⟩
            by_cases z : e = k
            · subst z
              rw [b_wh, g1.2 _ _ (by omega)]
              exact (hS.2.2.2.2.2.1 i hi).2 c e hk
            · rw [b_wj z]; exact g2 e (by omega)
        obtain ⟨S1, r1, f1, g1⟩ := run
        have fA : x_fr (fun q j => (q = 87 ∧ (j = 0 ∨ j = 13)) ∨ (q = 91 ∧ j < 13)) S (z_w S1 87 13 (nI 0)) := x_fr_w (x_fr_sub f1 (fun q j hq => by omega)) (by omega)
        refine ⟨z_w S1 87 13 (nI 0), ?_, ⟨fun e he => ?_, fun p hp => ?_, fun j hj => ?_, ⟨b_wh, fun e he => absurd he (Nat.not_lt_zero e)⟩, ⟨?_, fun k hk => ?_⟩, fun e he => ⟨?_, fun hk => mPl_fr ((hS.2.2.2.2.2.1 e he).2 hk) fA (fun j q => by omega)⟩, mZ_fr hS.2.2.2.2.2.2 fA (fun q j q1 q2 => by omega)⟩, yM_fr fA (fun q j h1 h2 => by omega)⟩
        · rw [f_X9_back, show (0 : Int32) = nI 0 from rfl, show (1 : Int32) = nI 1 from rfl, e0, Option.bind_some, if_neg (c := nI 1 = nI 0) (by decide), if_pos ((x_in (by omega)).mpr (by omega)), nI_clamp (by omega)]
          dsimp only
          have hk1' : (z_w S 87 0 (nI 0)).1 94 i = nI 1 := hk1
          rw [hk1', if_neg (c := nI 1 = nI 0) (by decide)]
          exact r1
        · rw [fA.2 _ _ (by omega)]; exact hS.1 e he
        · rw [fA.2 _ _ (by omega)]; exact hS.2.1 p hp
        · rw [Nat.zero_add, b_wk (by omega)]; exact g1 j hj
        · rw [fA.2 _ _ (by omega)]; exact hS.2.2.2.2.1.1
        · rw [fA.2 _ _ (by omega)]; exact hS.2.2.2.2.1.2 k hk
        · rw [fA.2 _ _ (by omega)]; exact (hS.2.2.2.2.2.1 e he).1
    · refine zSim_lk hw (-nI 2) (fun S hS => ⟨S, ?_, hS, yC_rf⟩) (fun S hS => ⟨z_w S 87 0 0, ?_, fr_th⟩)
      · obtain ⟨P, nx, hP, h2, h3, h4, h5, h6, h7, h8, h9⟩ := hS
        rw [f_X8_back, if_neg (show ¬ nI i < 0 from nI_nlt (b := 0) (by omega) (by omega)), if_pos (show nI i < 2 from nI_lt (b := 2) (by omega) (by omega)), h7.1, b_has8 (by omega) (by omega), Option.bind_some, if_neg c, if_pos (c := nI 0 = 0) nI_0]
        rfl
      · have hm := MI_th hS
        have hk1 := (hm.2.2.2.2.2.1 i hi).1
        rw [if_neg c] at hk1
        unfold f_X9_back
        generalize z_w S 87 0 0 = S1 at *
        simp (disch := omega) only [x_l0, x_l1, x_l2, x_l3, x_l4, x_l5, x_l6, x_l7, x_l8, x_l9, x_l10, x_l12, x_l13, x_l14, x_l16, x_l18, x_l20, x_l22, x_l32, x_l36, x_l48, x_l50, x_l54, x_l57, x_l59, x_l74, x_l81, x_l99, x_l104, x_l107, x_l110, x_l112, x_l115, x_l117, x_l162, x_l255, x_l512, x_l99999, x_l1000000, nI_leI, nI_ltI, nI_eq, nI_add, pk_mul, nI_clamp, x_in, x_bit, x_b0, x_b1, x_b0n, fa_or, fa_and, fb_xorI, x_an, Option.bind_some, b_has8, b_has9, ↓reduceIte, not_true_eq_false, not_false_eq_true, x_nn, Bool.false_eq_true, x_ar_k, x_ar_in, x_ar_w, b_wk, b_wj, b_wh, b_w2, x_ar_2, if_pos, if_neg, e0, hk1]
  · refine zSim_lk hw (-nI 1) (fun S hS => ⟨S, ?_, hS, yC_rf⟩) (fun S hS => ⟨z_w S 87 0 0, ?_, fr_th⟩)
    · unfold f_X8_back
      by_cases q : a1 < 0
      · rw [if_pos q]; rfl
      · rw [if_neg q, if_neg (show ¬ a1 < 2 from x_ltK (n := 2) (by omega) hj q)]; rfl
    · have e0 := fun S => s9_inN (v := a1) (k := 1) (by omega) S hj
      unfold f_X9_back
      generalize z_w S 87 0 0 = S1 at *
      simp (disch := omega) only [x_l0, x_l1, x_l2, x_l3, x_l4, x_l5, x_l6, x_l7, x_l8, x_l9, x_l10, x_l12, x_l13, x_l14, x_l16, x_l18, x_l20, x_l22, x_l32, x_l36, x_l48, x_l50, x_l54, x_l57, x_l59, x_l74, x_l81, x_l99, x_l104, x_l107, x_l110, x_l112, x_l115, x_l117, x_l162, x_l255, x_l512, x_l99999, x_l1000000, nI_leI, nI_ltI, nI_eq, nI_add, pk_mul, nI_clamp, x_in, x_bit, x_b0, x_b1, x_b0n, fa_or, fa_and, fb_xorI, x_an, Option.bind_some, b_has8, b_has9, ↓reduceIte, not_true_eq_false, not_false_eq_true, x_nn, Bool.false_eq_true, x_ar_k, x_ar_in, x_ar_w, b_wk, b_wj, b_wh, b_w2, x_ar_2, if_pos, if_neg, e0]
end SM
