/-! ===== pieces: the reference ===== -/
theorem z_ww (S : zS) (q i : Nat) (x y : Int32) : z_w (z_w S q i x) q i y = z_w S q i y := by
  refine x_zext (fun k j => ?_) rfl
  rw [b_w, b_w, b_w, b_w]
  by_cases h : k = q
  · subst h
    by_cases h2 : j = i
    · simp [h2]
    · simp [h2]
  · simp [h]
theorem z_wc (S : zS) {q i q' i' : Nat} (x y : Int32) (h : q ≠ q' ∨ i ≠ i') : z_w (z_w S q i x) q' i' y = z_w (z_w S q' i' y) q i x := by
  refine x_zext (fun k j => ?_) rfl
  simp only [b_w]
  by_cases h1 : k = q'
  · by_cases h2 : k = q
    · have e : q = q' := by omega
      subst e
      subst h1
      by_cases h3 : j = i
      · have : ¬ i = i' := by omega
        simp [h3, this]
      · simp [h3]
    · subst h1
      simp [h2]
  · by_cases h2 : k = q
    · subst h2
      simp [h1]
    · simp [h1, h2]
def mQ (T : Nat → Nat) (b : Nat) (S : zS) : Prop := mT T 89 S ∧ S.1 91 0 = nI b ∧ (∀ j, j < 9 → S.1 99 j = nI (g_root T b j)) ∧ S.1 87 23 = nI (g_np T b) ∧ (∀ p, p < g_np T b → S.1 100 p = nI (g_pr T b p)) ∧ (∀ p, p < T 2 → S.1 98 p = nI (g_in T p))
def g_po (T : Nat → Nat) (b c : Nat) : Nat := fb_ct (g_isR T b) (g_root T b (T (22 + c)))
def g_ah1 (T : Nat → Nat) (b p r e : Nat) : Bool := !decide (e = p) && !decide (g_rc T r &&& g_cu T b e = 0)
def g_ah2 (T : Nat → Nat) (b p q r : Nat) : Bool := (g_in T r).testBit q && !decide (g_rc T q &&& g_cu T b p = 0)
def g_ah3 (T : Nat → Nat) (b p q r : Nat) : Nat := if g_ah2 T b p q r = true then x_mk (g_ah1 T b p r) (g_np T b) else 0
def g_ah (T : Nat → Nat) (b p : Nat) : Nat := x_or (fun q => x_or (fun r => g_ah3 T b p q r) (T 2)) (T 2)
section MPC
variable {T : Nat → Nat} {b : Nat} {S : zS}
theorem s9_pieces (w : wT T) (h : mT T 89 S) (hl : S.1 91 0 = nI b) (hb : b < 2 ^ 31) : f_X9_pieces S = some ((), z_w (x_ar (x_ar S 99 9 (fun j => nI (g_root T b j))) 100 (g_np T b) (fun p => nI (g_pr T b p))) 87 23 (nI (g_np T b))) := by
  have h0 := wT_b w
  unfold f_X9_pieces
  rw [hl, s9_roots w h hb, Option.bind_some]
  generalize hS : x_ar S 99 9 (fun j => nI (g_root T b j)) = S1
  have m1 : mT T 89 S1 := fun j hj => by rw [← hS, x_ar_k (by omega)]; exact h j hj
  have m2 : S1.1 91 0 = nI b := by rw [← hS, x_ar_k (by omega)]; exact hl
  have m3 : ∀ j, j < 9 → S1.1 99 j = nI (g_root T b j) := fun j hj => by rw [← hS, x_ar_in hj]
  have h1 := x_for (F := fun n k => f_X9_pieces_17 n (nI k) (z_w (x_ar S1 100 (fb_ct (g_isR T b) k) (fun p => nI (g_pr T b p))) 87 23 (nI (fb_ct (g_isR T b) k)))) (N := T 0) (fin := some ((), z_w (x_ar S1 100 (g_np T b) (fun p => nI (g_pr T b p))) 87 23 (nI (g_np T b)))) ?_ ?_ (d := T 0) (a := 0) (n := 1000) (by omega) (by omega)
  · have e : fb_ct (g_isR T b) 0 = 0 := rfl
    rw [e, x_ar_0] at h1
    exact h1
  · intro n
    have y := m1 0 (by omega)
    simp (disch := omega) only [f_X9_pieces_17, x_l0, x_l1, x_l2, x_l3, x_l4, x_l5, x_l6, x_l7, x_l8, x_l9, x_l10, x_l12, x_l13, x_l14, x_l16, x_l18, x_l20, x_l22, x_l32, x_l36, x_l48, x_l50, x_l54, x_l57, x_l59, x_l74, x_l81, x_l99, x_l104, x_l107, x_l110, x_l112, x_l115, x_l117, x_l162, x_l255, x_l512, x_l99999, x_l1000000, nI_leI, nI_ltI, nI_eq, nI_add, pk_mul, nI_clamp, x_in, x_bit, x_b0, x_b1, x_b0n, fa_or, fa_and, fb_xorI, x_an, Option.bind_some, b_has8, b_has9, ↓reduceIte, not_true_eq_false, not_false_eq_true, x_nn, Bool.false_eq_true, x_ar_k, x_ar_in, x_ar_w, b_wk, b_wj, b_wh, b_w2, x_ar_2, if_pos, if_neg, y]
    rfl
  · intro n k hk
    have y := m1 0 (by omega)
    have y1 := m3 k (by omega)
    have yr := g_root_self (b := b) w k
    have hct : fb_ct (g_isR T b) k ≤ k := fb_ct_le _ _
    have mm : mT T 89 (z_w (x_ar S1 100 (fb_ct (g_isR T b) k) (fun p => nI (g_pr T b p))) 87 23 (nI (fb_ct (g_isR T b) k))) := fun j hj => by rw [b_wk (by omega), x_ar_k (by omega)]; exact m1 j hj
    have yd := s9_deg w mm (k := k) (b := b) (by omega) hb
    have hd := g_deg_le w b k
    simp (disch := omega) only [f_X9_pieces_17, x_l0, x_l1, x_l2, x_l3, x_l4, x_l5, x_l6, x_l7, x_l8, x_l9, x_l10, x_l12, x_l13, x_l14, x_l16, x_l18, x_l20, x_l22, x_l32, x_l36, x_l48, x_l50, x_l54, x_l57, x_l59, x_l74, x_l81, x_l99, x_l104, x_l107, x_l110, x_l112, x_l115, x_l117, x_l162, x_l255, x_l512, x_l99999, x_l1000000, nI_leI, nI_ltI, nI_eq, nI_add, pk_mul, nI_clamp, x_in, x_bit, x_b0, x_b1, x_b0n, fa_or, fa_and, fb_xorI, x_an, Option.bind_some, b_has8, b_has9, ↓reduceIte, not_true_eq_false, not_false_eq_true, x_nn, Bool.false_eq_true, x_ar_k, x_ar_in, x_ar_w, b_wk, b_wj, b_wh, b_w2, x_ar_2, if_pos, if_neg, y, y1, m2, yd]
    by_cases c1 : g_root T b k = k
    · by_cases c2 : 0 < g_deg T b k
      · have hr : g_isR T b k = true := g_isR_iff.mpr ⟨c1, c2⟩
        have e : fb_ct (g_isR T b) (k + 1) = fb_ct (g_isR T b) k + 1 := by rw [fb_ct_succ, if_pos hr]
        have e2 := x_ar_s S1 100 (fb_ct (g_isR T b) k) (fun p => nI (g_pr T b p))
        rw [g_pr_eq hk hr] at e2
        rw [if_pos c1, if_neg (by omega), e, ← e2, z_wc _ _ _ (by omega), z_ww]
        exact congrArg _ (z_wc _ _ _ (by omega))
      · have hr : ¬ g_isR T b k = true := fun q => c2 (g_isR_iff.mp q).2
        have e : fb_ct (g_isR T b) (k + 1) = fb_ct (g_isR T b) k := by rw [fb_ct_succ, if_neg hr]; rfl
        rw [if_pos c1, if_pos (by omega), e]
    · have hr : ¬ g_isR T b k = true := fun q => c1 (g_isR_iff.mp q).1
      have e : fb_ct (g_isR T b) (k + 1) = fb_ct (g_isR T b) k := by rw [fb_ct_succ, if_neg hr]; rfl
      rw [if_neg c1, e]
theorem mQ_pieces (h : mT T 89 S) (hl : S.1 91 0 = nI b) (hi : ∀ p, p < T 2 → S.1 98 p = nI (g_in T p)) : mQ T b (z_w (x_ar (x_ar S 99 9 (fun j => nI (g_root T b j))) 100 (g_np T b) (fun p => nI (g_pr T b p))) 87 23 (nI (g_np T b))) := by
  refine ⟨fun j hj => ?_, ?_, fun j hj => ?_, ?_, fun p hp => ?_, fun p hp => ?_⟩
  · rw [b_wk (by omega), x_ar_k (by omega), x_ar_k (by omega)]; exact h j hj
  · rw [b_wk (by omega), x_ar_k (by omega), x_ar_k (by omega)]; exact hl
  · rw [b_wk (by omega), x_ar_k (by omega), x_ar_in hj]
  · rw [b_wh]
  · rw [b_wk (by omega), x_ar_in hp]
  · rw [b_wk (by omega), x_ar_k (by omega), x_ar_k (by omega)]; exact hi p hp
theorem s9_cu (w : wT T) (h : mQ T b S) (hb : b < 2 ^ 31) {p : Nat} (hp : p < g_np T b) : f_X9_cutsOf (nI p) S = some (nI (g_cu T b p), S) := by
  have h0 := wT_b w
  have hn := g_np_le (b := b) w
  unfold f_X9_cutsOf
  refine x_for (F := fun n k => f_X9_cutsOf_4 n (nI p) (nI (x_mk (fun c => b.testBit c && decide (g_root T b (T (22 + c)) = g_pr T b p)) k)) (nI k) S) (N := T 1) ?_ ?_ (d := T 1) (a := 0) (n := 1000) (by omega) (by omega)
  · intro n
    have y := h.1 1 (by omega)
    simp (disch := omega) only [f_X9_cutsOf_4, x_l0, x_l1, x_l2, x_l3, x_l4, x_l5, x_l6, x_l7, x_l8, x_l9, x_l10, x_l12, x_l13, x_l14, x_l16, x_l18, x_l20, x_l22, x_l32, x_l36, x_l48, x_l50, x_l54, x_l57, x_l59, x_l74, x_l81, x_l99, x_l104, x_l107, x_l110, x_l112, x_l115, x_l117, x_l162, x_l255, x_l512, x_l99999, x_l1000000, nI_leI, nI_ltI, nI_eq, nI_add, pk_mul, nI_clamp, x_in, x_bit, x_b0, x_b1, x_b0n, fa_or, fa_and, fb_xorI, x_an, Option.bind_some, b_has8, b_has9, ↓reduceIte, not_true_eq_false, not_false_eq_true, x_nn, Bool.false_eq_true, x_ar_k, x_ar_in, x_ar_w, b_wk, b_wj, b_wh, b_w2, x_ar_2, if_pos, if_neg, y]
    rfl
  · intro n k hk
    have y := h.1 1 (by omega)
    have x := wT_c w hk
    have y1 := h.1 (22 + k) (by omega)
    have y2 := h.2.2.1 (T (22 + k)) (by omega)
    have y3 := h.2.2.2.2.1 p hp
    have r1 := g_root_self (b := b) w (T (22 + k))
    have r2 := (g_pr_ok hp).1
    simp (disch := omega) only [f_X9_cutsOf_4, x_l0, x_l1, x_l2, x_l3, x_l4, x_l5, x_l6, x_l7, x_l8, x_l9, x_l10, x_l12, x_l13, x_l14, x_l16, x_l18, x_l20, x_l22, x_l32, x_l36, x_l48, x_l50, x_l54, x_l57, x_l59, x_l74, x_l81, x_l99, x_l104, x_l107, x_l110, x_l112, x_l115, x_l117, x_l162, x_l255, x_l512, x_l99999, x_l1000000, nI_leI, nI_ltI, nI_eq, nI_add, pk_mul, nI_clamp, x_in, x_bit, x_b0, x_b1, x_b0n, fa_or, fa_and, fb_xorI, x_an, Option.bind_some, b_has8, b_has9, ↓reduceIte, not_true_eq_false, not_false_eq_true, x_nn, Bool.false_eq_true, x_ar_k, x_ar_in, x_ar_w, b_wk, b_wj, b_wh, b_w2, x_ar_2, if_pos, if_neg, h.2.1, y, y1, y2, y3, Nat.or_zero, x_mk]
    by_cases c1 : b.testBit k = true
    · by_cases c2 : g_root T b (T (22 + k)) = g_pr T b p
      · simp [c1, c2]
      · simp [c1, c2]
    · simp [c1]
theorem g_od_T0 (w : wT T) (p : Nat) : x_mk (fun k => decide (g_root T b k = g_pr T b p) && decide (g_deg T b k % 2 = 1)) (T 0) = g_od T b p := by
  have h0 := wT_b w
  unfold g_od
  refine x_mk_ext (Nat.lt_of_lt_of_le (x_mk_lt _ _) (Nat.pow_le_pow_right (by decide) h0.1)) (fun i hi => ?_)
  rw [x_mk_bit]
  by_cases c : i < T 0
  · simp [c]
  · have : g_deg T b i = 0 := by
      by_cases q : 0 < g_deg T b i
      · exact absurd (g_deg_in w q) c
      · omega
    simp [c, this]
theorem s9_od (w : wT T) (h : mQ T b S) (hb : b < 2 ^ 31) {p : Nat} (hp : p < g_np T b) : f_X9_oddOf (nI p) S = some (nI (g_od T b p), S) := by
  have h0 := wT_b w
  have hn := g_np_le (b := b) w
  rw [← g_od_T0 w]
  unfold f_X9_oddOf
  refine x_for (F := fun n k => f_X9_oddOf_4 n (nI p) (nI (x_mk (fun k => decide (g_root T b k = g_pr T b p) && decide (g_deg T b k % 2 = 1)) k)) (nI k) S) (N := T 0) ?_ ?_ (d := T 0) (a := 0) (n := 1000) (by omega) (by omega)
  · intro n
    have y := h.1 0 (by omega)
    simp (disch := omega) only [f_X9_oddOf_4, x_l0, x_l1, x_l2, x_l3, x_l4, x_l5, x_l6, x_l7, x_l8, x_l9, x_l10, x_l12, x_l13, x_l14, x_l16, x_l18, x_l20, x_l22, x_l32, x_l36, x_l48, x_l50, x_l54, x_l57, x_l59, x_l74, x_l81, x_l99, x_l104, x_l107, x_l110, x_l112, x_l115, x_l117, x_l162, x_l255, x_l512, x_l99999, x_l1000000, nI_leI, nI_ltI, nI_eq, nI_add, pk_mul, nI_clamp, x_in, x_bit, x_b0, x_b1, x_b0n, fa_or, fa_and, fb_xorI, x_an, Option.bind_some, b_has8, b_has9, ↓reduceIte, not_true_eq_false, not_false_eq_true, x_nn, Bool.false_eq_true, x_ar_k, x_ar_in, x_ar_w, b_wk, b_wj, b_wh, b_w2, x_ar_2, if_pos, if_neg, y]
  · intro n k hk
    have y := h.1 0 (by omega)
    have y2 := h.2.2.1 k (by omega)
    have y3 := h.2.2.2.2.1 p hp
    have r1 := g_root_self (b := b) w k
    have r2 := (g_pr_ok hp).1
    have yd := s9_deg w h.1 (k := k) (b := b) (by omega) hb
    have hd := g_deg_le w b k
    simp (disch := omega) only [f_X9_oddOf_4, x_l0, x_l1, x_l2, x_l3, x_l4, x_l5, x_l6, x_l7, x_l8, x_l9, x_l10, x_l12, x_l13, x_l14, x_l16, x_l18, x_l20, x_l22, x_l32, x_l36, x_l48, x_l50, x_l54, x_l57, x_l59, x_l74, x_l81, x_l99, x_l104, x_l107, x_l110, x_l112, x_l115, x_l117, x_l162, x_l255, x_l512, x_l99999, x_l1000000, nI_leI, nI_ltI, nI_eq, nI_add, pk_mul, nI_clamp, x_in, x_bit, x_b0, x_b1, x_b0n, fa_or, fa_and, fb_xorI, x_an, Option.bind_some, b_has8, b_has9, ↓reduceIte, not_true_eq_false, not_false_eq_true, x_nn, Bool.false_eq_true, x_ar_k, x_ar_in, x_ar_w, b_wk, b_wj, b_wh, b_w2, x_ar_2, if_pos, if_neg, h.2.1, y, y2, y3, yd, pk_rem, Nat.or_zero, x_mk]
    by_cases c1 : g_root T b k = g_pr T b p
    · by_cases c2 : g_deg T b k % 2 = 1
      · simp [c1, c2]
      · simp [c1, c2]
    · simp [c1]
theorem s9_st (w : wT T) (h : mQ T b S) (hb : b < 2 ^ 31) {t : Nat} (ht : t < T 0) (hs : S.1 91 1 = nI t) {p : Nat} (hp : p < g_np T b) : f_X9_startOf (nI p) S = some (nI (g_st T b t p), S) := by
  have h0 := wT_b w
  have hn := g_np_le (b := b) w
  have y2 := h.2.2.1 t (by omega)
  have y3 := h.2.2.2.2.1 p hp
  have r1 := g_root_self (b := b) w t
  have r2 := (g_pr_ok hp).1
  have yd := s9_deg w h.1 (k := t) (b := b) (by omega) hb
  have hd := g_deg_le w b t
  simp (disch := omega) only [f_X9_startOf, f_X9_startOf_43, x_l0, x_l1, x_l2, x_l3, x_l4, x_l5, x_l6, x_l7, x_l8, x_l9, x_l10, x_l12, x_l13, x_l14, x_l16, x_l18, x_l20, x_l22, x_l32, x_l36, x_l48, x_l50, x_l54, x_l57, x_l59, x_l74, x_l81, x_l99, x_l104, x_l107, x_l110, x_l112, x_l115, x_l117, x_l162, x_l255, x_l512, x_l99999, x_l1000000, nI_leI, nI_ltI, nI_eq, nI_add, pk_mul, nI_clamp, x_in, x_bit, x_b0, x_b1, x_b0n, fa_or, fa_and, fb_xorI, x_an, Option.bind_some, b_has8, b_has9, ↓reduceIte, not_true_eq_false, not_false_eq_true, x_nn, Bool.false_eq_true, x_ar_k, x_ar_in, x_ar_w, b_wk, b_wj, b_wh, b_w2, x_ar_2, if_pos, if_neg, h.2.1, hs, y2, y3, yd]
  unfold g_st
  by_cases c1 : g_root T b t = g_pr T b p
  · by_cases c2 : 0 < g_deg T b t
    · have c3 : ¬ g_deg T b t ≤ 0 := by omega
      simp [c1, c2]
      omega
    · have c3 : g_deg T b t = 0 := by omega
      simp [c1, c3]
  · simp [c1]
theorem g_po_ok (w : wT T) {c : Nat} (hc : c < T 1) (hbc : b.testBit c = true) : g_po T b c < g_np T b ∧ g_pr T b (g_po T b c) = g_root T b (T (22 + c)) := by
  have h0 := wT_b w
  have x := wT_c w hc
  have hd : 0 < g_deg T b (T (22 + c)) := g_deg_edge w (v := T (36 + c)) ((g_M_bit w).mpr ⟨c, hc, hbc, by unfold g_adj; simp⟩)
  have hr := g_isR_root w hd
  have r1 := g_root_self (b := b) w (T (22 + c))
  have hlt : g_root T b (T (22 + c)) < T 0 := by omega
  refine ⟨?_, g_pr_eq hlt hr⟩
  unfold g_po g_np
  have e : fb_ct (g_isR T b) (g_root T b (T (22 + c)) + 1) = fb_ct (g_isR T b) (g_root T b (T (22 + c))) + 1 := by rw [fb_ct_succ, if_pos hr]
  have m := fb_ct_mono (g_isR T b) (m := g_root T b (T (22 + c)) + 1) (n := T 0) (by omega)
  omega
theorem s9_po (w : wT T) (h : mQ T b S) {c : Nat} (hc : c < T 1) (hbc : b.testBit c = true) : f_X9_pieceOf (nI c) S = some (nI (g_po T b c), S) := by
  have h0 := wT_b w
  have hn := g_np_le (b := b) w
  have x := wT_c w hc
  have po := g_po_ok w hc hbc
  have y1 := h.1 (22 + c) (by omega)
  have y2 := h.2.2.1 (T (22 + c)) (by omega)
  have r1 := g_root_self (b := b) w (T (22 + c))
  unfold f_X9_pieceOf
  refine x_for (F := fun n k => f_X9_pieceOf_2 n (nI c) (nI k) S) (N := g_po T b c) ?_ ?_ (d := g_po T b c) (a := 0) (n := 1000) (by omega) (by omega)
  · intro n
    have y3 := h.2.2.2.2.1 _ po.1
    have r2 := (g_pr_ok po.1).1
    simp (disch := omega) only [f_X9_pieceOf_2, x_l0, x_l1, x_l2, x_l3, x_l4, x_l5, x_l6, x_l7, x_l8, x_l9, x_l10, x_l12, x_l13, x_l14, x_l16, x_l18, x_l20, x_l22, x_l32, x_l36, x_l48, x_l50, x_l54, x_l57, x_l59, x_l74, x_l81, x_l99, x_l104, x_l107, x_l110, x_l112, x_l115, x_l117, x_l162, x_l255, x_l512, x_l99999, x_l1000000, nI_leI, nI_ltI, nI_eq, nI_add, pk_mul, nI_clamp, x_in, x_bit, x_b0, x_b1, x_b0n, fa_or, fa_and, fb_xorI, x_an, Option.bind_some, b_has8, b_has9, ↓reduceIte, not_true_eq_false, not_false_eq_true, x_nn, Bool.false_eq_true, x_ar_k, x_ar_in, x_ar_w, b_wk, b_wj, b_wh, b_w2, x_ar_2, if_pos, if_neg, y1, y2, y3]
  · intro n k hk
    have y3 := h.2.2.2.2.1 k (by omega)
    have r2 := (g_pr_ok (T := T) (b := b) (p := k) (by omega)).1
    have ne : ¬ g_pr T b k = g_root T b (T (22 + c)) := fun e => by
      rw [← po.2] at e
      have := g_pr_inj (by omega) po.1 e
      omega
    simp (disch := omega) only [f_X9_pieceOf_2, x_l0, x_l1, x_l2, x_l3, x_l4, x_l5, x_l6, x_l7, x_l8, x_l9, x_l10, x_l12, x_l13, x_l14, x_l16, x_l18, x_l20, x_l22, x_l32, x_l36, x_l48, x_l50, x_l54, x_l57, x_l59, x_l74, x_l81, x_l99, x_l104, x_l107, x_l110, x_l112, x_l115, x_l117, x_l162, x_l255, x_l512, x_l99999, x_l1000000, nI_leI, nI_ltI, nI_eq, nI_add, pk_mul, nI_clamp, x_in, x_bit, x_b0, x_b1, x_b0n, fa_or, fa_and, fb_xorI, x_an, Option.bind_some, b_has8, b_has9, ↓reduceIte, not_true_eq_false, not_false_eq_true, x_nn, Bool.false_eq_true, x_ar_k, x_ar_in, x_ar_w, b_wk, b_wj, b_wh, b_w2, x_ar_2, if_pos, if_neg, y1, y2, y3]
theorem g_ah3_lt (w : wT T) (p q r : Nat) : g_ah3 T b p q r < 2 ^ 4 := by
  unfold g_ah3
  split
  · exact Nat.lt_of_lt_of_le (x_mk_lt _ _) (Nat.pow_le_pow_right (by decide) (g_np_le w))
  · decide
theorem g_ah_lt (w : wT T) (p : Nat) : g_ah T b p < 2 ^ 4 := x_or_lt (fun q _ => x_or_lt (fun r _ => g_ah3_lt w p q r))
theorem s9_ah59 (w : wT T) (h : mQ T b S) (hb : b < 2 ^ 31) {p q r m : Nat} (hr : r < T 2) (hp : p < 9) (hm : m < 2 ^ 31) (K4 : Int32 → Int32 → Int32 → zS → Option (Int32 × zS)) (K17 : Int32 → Int32 → Int32 → Int32 → zS → Option (Int32 × zS)) : f_X9_aheadOf_59 K4 K17 1000 (nI p) (nI m) (nI q) (nI r) (nI 0) S = K17 (nI p) (nI (m ||| x_mk (g_ah1 T b p r) (g_np T b))) (nI q) (nI (r + 1)) S := by
  have h0 := wT_b w
  have hn := g_np_le (b := b) w
  have h1 := x_for (F := fun n e => f_X9_aheadOf_59 K4 K17 n (nI p) (nI (m ||| x_mk (g_ah1 T b p r) e)) (nI q) (nI r) (nI e) S) (N := g_np T b) (fin := K17 (nI p) (nI (m ||| x_mk (g_ah1 T b p r) (g_np T b))) (nI q) (nI (r + 1)) S) ?_ ?_ (d := g_np T b) (a := 0) (n := 1000) (by omega) (by omega)
  · rw [x_mk, Nat.or_zero] at h1
    exact h1
  · intro n
    simp (disch := omega) only [f_X9_aheadOf_59, x_l0, x_l1, x_l2, x_l3, x_l4, x_l5, x_l6, x_l7, x_l8, x_l9, x_l10, x_l12, x_l13, x_l14, x_l16, x_l18, x_l20, x_l22, x_l32, x_l36, x_l48, x_l50, x_l54, x_l57, x_l59, x_l74, x_l81, x_l99, x_l104, x_l107, x_l110, x_l112, x_l115, x_l117, x_l162, x_l255, x_l512, x_l99999, x_l1000000, nI_leI, nI_ltI, nI_eq, nI_add, pk_mul, nI_clamp, x_in, x_bit, x_b0, x_b1, x_b0n, fa_or, fa_and, fb_xorI, x_an, Option.bind_some, b_has8, b_has9, ↓reduceIte, not_true_eq_false, not_false_eq_true, x_nn, Bool.false_eq_true, x_ar_k, x_ar_in, x_ar_w, b_wk, b_wj, b_wh, b_w2, x_ar_2, if_pos, if_neg, h.2.2.2.1]
  · intro n e he
    have b1 := g_rc_lt w hr
    have b2 := g_cu_lt (b := b) w e
    have b3 : g_rc T r &&& g_cu T b e < 2 ^ 31 := Nat.lt_of_le_of_lt Nat.and_le_left (by omega)
    simp (disch := omega) only [f_X9_aheadOf_59, x_l0, x_l1, x_l2, x_l3, x_l4, x_l5, x_l6, x_l7, x_l8, x_l9, x_l10, x_l12, x_l13, x_l14, x_l16, x_l18, x_l20, x_l22, x_l32, x_l36, x_l48, x_l50, x_l54, x_l57, x_l59, x_l74, x_l81, x_l99, x_l104, x_l107, x_l110, x_l112, x_l115, x_l117, x_l162, x_l255, x_l512, x_l99999, x_l1000000, nI_leI, nI_ltI, nI_eq, nI_add, pk_mul, nI_clamp, x_in, x_bit, x_b0, x_b1, x_b0n, fa_or, fa_and, fb_xorI, x_an, Option.bind_some, b_has8, b_has9, ↓reduceIte, not_true_eq_false, not_false_eq_true, x_nn, Bool.false_eq_true, x_ar_k, x_ar_in, x_ar_w, b_wk, b_wj, b_wh, b_w2, x_ar_2, if_pos, if_neg, h.2.2.2.1, s9_rc w h.1 hr, s9_cu w h hb he, Nat.or_zero, x_mk, Nat.or_assoc]
    unfold g_ah1
    by_cases c1 : e = p
    · simp [c1]
    · by_cases c2 : g_rc T r &&& g_cu T b e = 0
      · simp [c1, c2]
      · simp [c1, c2]
theorem s9_ah17 (w : wT T) (h : mQ T b S) (hb : b < 2 ^ 31) {p q m : Nat} (hq : q < T 2) (hp : p < g_np T b) (hm : m < 2 ^ 31) (K4 : Int32 → Int32 → Int32 → zS → Option (Int32 × zS)) : f_X9_aheadOf_17 K4 1000 (nI p) (nI m) (nI q) (nI 0) S = K4 (nI p) (nI (m ||| x_or (fun r => g_ah3 T b p q r) (T 2))) (nI (q + 1)) S := by
  have h0 := wT_b w
  have hn := g_np_le (b := b) w
  have h1 := x_for (F := fun n r => f_X9_aheadOf_17 K4 n (nI p) (nI (m ||| x_or (fun r => g_ah3 T b p q r) r)) (nI q) (nI r) S) (N := T 2) (fin := K4 (nI p) (nI (m ||| x_or (fun r => g_ah3 T b p q r) (T 2))) (nI (q + 1)) S) ?_ ?_ (d := T 2) (a := 0) (n := 1000) (by omega) (by omega)
  · rw [x_or, Nat.or_zero] at h1
    exact h1
  · intro n
    have y := h.1 2 (by omega)
    simp (disch := omega) only [f_X9_aheadOf_17, x_l0, x_l1, x_l2, x_l3, x_l4, x_l5, x_l6, x_l7, x_l8, x_l9, x_l10, x_l12, x_l13, x_l14, x_l16, x_l18, x_l20, x_l22, x_l32, x_l36, x_l48, x_l50, x_l54, x_l57, x_l59, x_l74, x_l81, x_l99, x_l104, x_l107, x_l110, x_l112, x_l115, x_l117, x_l162, x_l255, x_l512, x_l99999, x_l1000000, nI_leI, nI_ltI, nI_eq, nI_add, pk_mul, nI_clamp, x_in, x_bit, x_b0, x_b1, x_b0n, fa_or, fa_and, fb_xorI, x_an, Option.bind_some, b_has8, b_has9, ↓reduceIte, not_true_eq_false, not_false_eq_true, x_nn, Bool.false_eq_true, x_ar_k, x_ar_in, x_ar_w, b_wk, b_wj, b_wh, b_w2, x_ar_2, if_pos, if_neg, y]
  · intro n r hr
    have y := h.1 2 (by omega)
    have y1 := h.2.2.2.2.2 r hr
    have b1 := g_rc_lt w hq
    have b2 := g_cu_lt (b := b) w p
    have b3 : g_rc T q &&& g_cu T b p < 2 ^ 31 := Nat.lt_of_le_of_lt Nat.and_le_left (by omega)
    have b4 := g_in_lt w r
    have b5 : m ||| x_or (fun r => g_ah3 T b p q r) r < 2 ^ 31 := b_or_lt hm (Nat.lt_of_lt_of_le (x_or_lt (fun k _ => g_ah3_lt w p q k)) (by decide))
    simp (disch := omega) only [f_X9_aheadOf_17, x_l0, x_l1, x_l2, x_l3, x_l4, x_l5, x_l6, x_l7, x_l8, x_l9, x_l10, x_l12, x_l13, x_l14, x_l16, x_l18, x_l20, x_l22, x_l32, x_l36, x_l48, x_l50, x_l54, x_l57, x_l59, x_l74, x_l81, x_l99, x_l104, x_l107, x_l110, x_l112, x_l115, x_l117, x_l162, x_l255, x_l512, x_l99999, x_l1000000, nI_leI, nI_ltI, nI_eq, nI_add, pk_mul, nI_clamp, x_in, x_bit, x_b0, x_b1, x_b0n, fa_or, fa_and, fb_xorI, x_an, Option.bind_some, b_has8, b_has9, ↓reduceIte, not_true_eq_false, not_false_eq_true, x_nn, Bool.false_eq_true, x_ar_k, x_ar_in, x_ar_w, b_wk, b_wj, b_wh, b_w2, x_ar_2, if_pos, if_neg, y, y1, s9_rc w h.1 hq, s9_cu w h hb hp, s9_ah59 w h hb hr, x_or, Nat.or_assoc]
    unfold g_ah3 g_ah2
    by_cases c1 : (g_in T r).testBit q = true
    · by_cases c2 : g_rc T q &&& g_cu T b p = 0
      · simp [c1, c2]
      · simp [c1, c2]
    · simp [c1]
theorem s9_ah (w : wT T) (h : mQ T b S) (hb : b < 2 ^ 31) {p : Nat} (hp : p < g_np T b) : f_X9_aheadOf (nI p) S = some (nI (g_ah T b p), S) := by
  have h0 := wT_b w
  have hn := g_np_le (b := b) w
  unfold f_X9_aheadOf
  refine x_for (F := fun n q => f_X9_aheadOf_4 n (nI p) (nI (x_or (fun q => x_or (fun r => g_ah3 T b p q r) (T 2)) q)) (nI q) S) (N := T 2) ?_ ?_ (d := T 2) (a := 0) (n := 1000) (by omega) (by omega)
  · intro n
    have y := h.1 2 (by omega)
    simp (disch := omega) only [f_X9_aheadOf_4, x_l0, x_l1, x_l2, x_l3, x_l4, x_l5, x_l6, x_l7, x_l8, x_l9, x_l10, x_l12, x_l13, x_l14, x_l16, x_l18, x_l20, x_l22, x_l32, x_l36, x_l48, x_l50, x_l54, x_l57, x_l59, x_l74, x_l81, x_l99, x_l104, x_l107, x_l110, x_l112, x_l115, x_l117, x_l162, x_l255, x_l512, x_l99999, x_l1000000, nI_leI, nI_ltI, nI_eq, nI_add, pk_mul, nI_clamp, x_in, x_bit, x_b0, x_b1, x_b0n, fa_or, fa_and, fb_xorI, x_an, Option.bind_some, b_has8, b_has9, ↓reduceIte, not_true_eq_false, not_false_eq_true, x_nn, Bool.false_eq_true, x_ar_k, x_ar_in, x_ar_w, b_wk, b_wj, b_wh, b_w2, x_ar_2, if_pos, if_neg, y]
    rfl
  · intro n q hq
    have y := h.1 2 (by omega)
    have b5 : x_or (fun q => x_or (fun r => g_ah3 T b p q r) (T 2)) q < 2 ^ 31 := Nat.lt_of_lt_of_le (x_or_lt (fun k _ => x_or_lt (fun r _ => g_ah3_lt w p k r))) (by decide)
    simp (disch := omega) only [f_X9_aheadOf_4, x_l0, x_l1, x_l2, x_l3, x_l4, x_l5, x_l6, x_l7, x_l8, x_l9, x_l10, x_l12, x_l13, x_l14, x_l16, x_l18, x_l20, x_l22, x_l32, x_l36, x_l48, x_l50, x_l54, x_l57, x_l59, x_l74, x_l81, x_l99, x_l104, x_l107, x_l110, x_l112, x_l115, x_l117, x_l162, x_l255, x_l512, x_l99999, x_l1000000, nI_leI, nI_ltI, nI_eq, nI_add, pk_mul, nI_clamp, x_in, x_bit, x_b0, x_b1, x_b0n, fa_or, fa_and, fb_xorI, x_an, Option.bind_some, b_has8, b_has9, ↓reduceIte, not_true_eq_false, not_false_eq_true, x_nn, Bool.false_eq_true, x_ar_k, x_ar_in, x_ar_w, b_wk, b_wj, b_wh, b_w2, x_ar_2, if_pos, if_neg, y, s9_ah17 w h hb hq hp b5]
    rfl
end MPC
