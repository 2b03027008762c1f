/-! ===== pieces ahead: the class ===== -/
def cP (T : Nat → Nat) (P : Nat) (S : zS) : Prop := cP0 T P S ∧ ∀ p, p < T 2 → S.1 (P + 12) p = nI (g_rc T p) ∧ S.1 (P + 13) p = nI (g_in T p)
theorem cP_fr {T : Nat → Nat} {P : Nat} {W : Nat → Nat → Prop} {S S' : zS} (h : cP T P S) (hf : x_fr W S S') (hw : ∀ q j, P ≤ q → q ≤ P + 13 → ¬ W q j) (h2 : T 2 ≤ 4) : cP T P S' :=
  ⟨cP0_fr h.1 hf (fun q j h1 h2 => hw q j h1 (by omega)) h2, fun p hp => ⟨by rw [hf.2 _ _ (hw _ _ (by omega) (by omega))]; exact (h.2 p hp).1, by rw [hf.2 _ _ (hw _ _ (by omega) (by omega))]; exact (h.2 p hp).2⟩⟩
def g_pi (T : Nat → Nat) (b p : Nat) : Nat := x_mk (fun q => !decide (g_rc T q &&& g_cu T b p = 0)) (T 2)
def g_aw (T : Nat → Nat) (i o : Nat) : Bool := decide (x_f1 (fun r => i.testBit r && !decide (g_in T r &&& o = 0)) (T 2) < T 2)
section AH
variable {T : Nat → Nat} {b t P : Nat} {S : zS}
theorem s4_pi (w : wT T) (h : cP T P S) (hv : cV T b t S) {p : Nat} (hp : p < g_np T b) : f_X4_partsIn P (nI p) S = some (nI (g_pi T b p), S) := by
  have h0 := wT_b w
  have hn := g_np_le (b := b) w
  unfold f_X4_partsIn
  refine x_for (F := fun n k => f_X4_partsIn_5 P n (nI p) (nI (x_mk (fun q => !decide (g_rc T q &&& g_cu T b p = 0)) k)) (nI k) S) (N := T 2) ?_ ?_ (d := T 2) (a := 0) (n := 1000) (by omega) (by omega)
  · intro n
    simp (disch := omega) only [f_X4_partsIn_5, x_l0, x_l1, x_l2, x_l3, x_l4, x_l5, x_l6, x_l7, x_l8, x_l9, x_l10, x_l12, x_l13, x_l14, x_l16, x_l18, x_l20, x_l22, x_l32, x_l36, x_l48, x_l50, x_l54, x_l57, x_l59, x_l74, x_l81, x_l99, x_l104, x_l107, x_l110, x_l112, x_l115, x_l117, x_l162, x_l255, x_l512, x_l99999, x_l1000000, nI_leI, nI_ltI, nI_eq, nI_add, pk_mul, nI_clamp, x_in, x_bit, x_b0, x_b1, x_b0n, fa_or, fa_and, fb_xorI, x_an, Option.bind_some, b_has8, b_has9, ↓reduceIte, not_true_eq_false, not_false_eq_true, x_nn, Bool.false_eq_true, x_ar_k, x_ar_in, x_ar_w, b_wk, b_wj, b_wh, b_w2, x_ar_2, if_pos, if_neg, h.1.1.2.2.1]
    rfl
  · intro n k hk
    have y1 := (h.2 k hk).1
    have y2 := (hv.2 p hp).1
    have b1 := g_rc_lt w hk
    have b3 : g_rc T k &&& g_cu T b p < 2 ^ 31 := Nat.lt_of_le_of_lt Nat.and_le_left (by omega)
    simp (disch := omega) only [f_X4_partsIn_5, x_l0, x_l1, x_l2, x_l3, x_l4, x_l5, x_l6, x_l7, x_l8, x_l9, x_l10, x_l12, x_l13, x_l14, x_l16, x_l18, x_l20, x_l22, x_l32, x_l36, x_l48, x_l50, x_l54, x_l57, x_l59, x_l74, x_l81, x_l99, x_l104, x_l107, x_l110, x_l112, x_l115, x_l117, x_l162, x_l255, x_l512, x_l99999, x_l1000000, nI_leI, nI_ltI, nI_eq, nI_add, pk_mul, nI_clamp, x_in, x_bit, x_b0, x_b1, x_b0n, fa_or, fa_and, fb_xorI, x_an, Option.bind_some, b_has8, b_has9, ↓reduceIte, not_true_eq_false, not_false_eq_true, x_nn, Bool.false_eq_true, x_ar_k, x_ar_in, x_ar_w, b_wk, b_wj, b_wh, b_w2, x_ar_2, if_pos, if_neg, h.1.1.2.2.1, y1, y2, x_mk]
    by_cases c1 : g_rc T k &&& g_cu T b p = 0
    · simp [c1]
    · simp [c1]
theorem s4_aw (w : wT T) (h : cP T P S) {i o : Nat} (hi : i < 2 ^ 31) : f_X4_isAnyWithin P (nI i) (nI o) S = some (if g_aw T i o = true then nI 1 else nI 0, S) := by
  have h0 := wT_b w
  unfold f_X4_isAnyWithin
  have hh := x_find (F := fun n k => f_X4_isAnyWithin_2 P n (nI i) (nI o) (nI k) S) (N := T 2) (p := fun r => i.testBit r && !decide (g_in T r &&& o = 0)) (yes := fun _ => some (nI 1, S)) (no := some (nI 0, S)) ?_ ?_ (d := T 2) (a := 0) (n := 1000) (by omega) (by omega)
  · refine Eq.trans hh ?_
    unfold g_aw x_f1
    simp only [decide_eq_true_eq]
    split <;> rfl
  · intro n
    simp (disch := omega) only [f_X4_isAnyWithin_2, x_l0, x_l1, x_l2, x_l3, x_l4, x_l5, x_l6, x_l7, x_l8, x_l9, x_l10, x_l12, x_l13, x_l14, x_l16, x_l18, x_l20, x_l22, x_l32, x_l36, x_l48, x_l50, x_l54, x_l57, x_l59, x_l74, x_l81, x_l99, x_l104, x_l107, x_l110, x_l112, x_l115, x_l117, x_l162, x_l255, x_l512, x_l99999, x_l1000000, nI_leI, nI_ltI, nI_eq, nI_add, pk_mul, nI_clamp, x_in, x_bit, x_b0, x_b1, x_b0n, fa_or, fa_and, fb_xorI, x_an, Option.bind_some, b_has8, b_has9, ↓reduceIte, not_true_eq_false, not_false_eq_true, x_nn, Bool.false_eq_true, x_ar_k, x_ar_in, x_ar_w, b_wk, b_wj, b_wh, b_w2, x_ar_2, if_pos, if_neg, h.1.1.2.2.1]
  · intro n k hk
    have y1 := (h.2 k hk).2
    have b1 := g_in_lt w k
    have b3 : g_in T k &&& o < 2 ^ 31 := Nat.lt_of_le_of_lt Nat.and_le_left (by omega)
    simp (disch := omega) only [f_X4_isAnyWithin_2, x_l0, x_l1, x_l2, x_l3, x_l4, x_l5, x_l6, x_l7, x_l8, x_l9, x_l10, x_l12, x_l13, x_l14, x_l16, x_l18, x_l20, x_l22, x_l32, x_l36, x_l48, x_l50, x_l54, x_l57, x_l59, x_l74, x_l81, x_l99, x_l104, x_l107, x_l110, x_l112, x_l115, x_l117, x_l162, x_l255, x_l512, x_l99999, x_l1000000, nI_leI, nI_ltI, nI_eq, nI_add, pk_mul, nI_clamp, x_in, x_bit, x_b0, x_b1, x_b0n, fa_or, fa_and, fb_xorI, x_an, Option.bind_some, b_has8, b_has9, ↓reduceIte, not_true_eq_false, not_false_eq_true, x_nn, Bool.false_eq_true, x_ar_k, x_ar_in, x_ar_w, b_wk, b_wj, b_wh, b_w2, x_ar_2, if_pos, if_neg, h.1.1.2.2.1, y1]
    by_cases c1 : i.testBit k = true
    · by_cases c2 : g_in T k &&& o = 0
      · simp [c1, c2]
      · simp [c1, c2]
    · simp [c1]
theorem x_and_ne {a c n : Nat} (ha : a < 2 ^ n) : ¬ a &&& c = 0 ↔ ∃ i, i < n ∧ a.testBit i = true ∧ c.testBit i = true := by
  constructor
  · intro h
    obtain ⟨i, hi, hb⟩ := x_ne0 (n := n) (Nat.lt_of_le_of_lt Nat.and_le_left ha) h
    rw [Nat.testBit_and, Bool.and_eq_true] at hb
    exact ⟨i, hi, hb.1, hb.2⟩
  · rintro ⟨i, hi, h1, h2⟩ e
    have : (a &&& c).testBit i = true := by rw [Nat.testBit_and, h1, h2]; rfl
    rw [e, Nat.zero_testBit] at this
    cases this
theorem g_ah_eq (w : wT T) (p : Nat) : x_mk (fun e => !decide (e = p) && g_aw T (g_pi T b e) (g_pi T b p)) (g_np T b) = g_ah T b p := by
  have h0 := wT_b w
  apply Nat.eq_of_testBit_eq
  intro e
  rw [x_mk_bit, Bool.eq_iff_iff, Bool.and_eq_true, Bool.and_eq_true, decide_eq_true_eq]
  unfold g_ah
  rw [x_or_bit]
  have hpi : ∀ q r, (g_pi T b q).testBit r = true ↔ r < T 2 ∧ ¬ g_rc T r &&& g_cu T b q = 0 := by
    intro q r
    unfold g_pi
    rw [x_mk_bit, Bool.and_eq_true, decide_eq_true_eq]
    simp
  constructor
  · rintro ⟨h1, h2, h3⟩
    unfold g_aw at h3
    rw [decide_eq_true_eq] at h3
    have y := x_f1_yes h3
    generalize x_f1 _ (T 2) = r at h3 y
    simp only [Bool.and_eq_true, Bool.not_eq_true', decide_eq_false_iff_not] at y
    obtain ⟨q, _, q1, q2⟩ := (x_and_ne (g_in_lt w r)).mp y.2
    have a1 := (hpi e r).mp y.1
    have a2 := (hpi p q).mp q2
    refine ⟨q, a2.1, (x_or_bit _ _ _).mpr ⟨r, a1.1, ?_⟩⟩
    unfold g_ah3
    have : g_ah2 T b p q r = true := by unfold g_ah2; simp [q1, a2.2]
    rw [if_pos this, x_mk_bit]
    unfold g_ah1
    simp [h1, a1.2]
    simpa using h2
  · rintro ⟨q, hq, h⟩
    obtain ⟨r, hr, h⟩ := (x_or_bit _ _ _).mp h
    unfold g_ah3 at h
    by_cases c : g_ah2 T b p q r = true
    · rw [if_pos c, x_mk_bit, Bool.and_eq_true, decide_eq_true_eq] at h
      unfold g_ah2 at c
      simp only [Bool.and_eq_true, Bool.not_eq_true', decide_eq_false_iff_not] at c
      have h2 := h.2
      unfold g_ah1 at h2
      simp only [Bool.and_eq_true, Bool.not_eq_true', decide_eq_false_iff_not] at h2
      refine ⟨h.1, by simp [h2.1], ?_⟩
      unfold g_aw
      rw [decide_eq_true_eq]
      refine x_f1_ex (k := r) hr ?_
      simp only [Bool.and_eq_true, Bool.not_eq_true', decide_eq_false_iff_not]
      refine ⟨(hpi e r).mpr ⟨hr, h2.2⟩, (x_and_ne (g_in_lt w r)).mpr ⟨q, by omega, c.1, (hpi p q).mpr ⟨hq, c.2⟩⟩⟩
    · rw [if_neg c, Nat.zero_testBit] at h
      cases h
theorem g_pi_lt (w : wT T) (p : Nat) : g_pi T b p < 2 ^ 4 := Nat.lt_of_lt_of_le (x_mk_lt _ _) (Nat.pow_le_pow_right (by decide) (wT_b w).2.2.1)
theorem s4_ah (w : wT T) (h : cP T P S) (hv : cV T b t S) {p : Nat} (hp : p < g_np T b) : f_X4_piecesAhead P (nI p) S = some (nI (g_ah T b p), S) := by
  have h0 := wT_b w
  have hn := g_np_le (b := b) w
  rw [← g_ah_eq w]
  unfold f_X4_piecesAhead
  rw [s4_pi w h hv hp, Option.bind_some]
  refine x_for (F := fun n k => f_X4_piecesAhead_13 P n (nI p) (nI (g_pi T b p)) (nI (x_mk (fun e => !decide (e = p) && g_aw T (g_pi T b e) (g_pi T b p)) k)) (nI k) S) (N := g_np T b) ?_ ?_ (d := g_np T b) (a := 0) (n := 1000) (by omega) (by omega)
  · intro n
    simp (disch := omega) only [f_X4_piecesAhead_13, x_l0, x_l1, x_l2, x_l3, x_l4, x_l5, x_l6, x_l7, x_l8, x_l9, x_l10, x_l12, x_l13, x_l14, x_l16, x_l18, x_l20, x_l22, x_l32, x_l36, x_l48, x_l50, x_l54, x_l57, x_l59, x_l74, x_l81, x_l99, x_l104, x_l107, x_l110, x_l112, x_l115, x_l117, x_l162, x_l255, x_l512, x_l99999, x_l1000000, nI_leI, nI_ltI, nI_eq, nI_add, pk_mul, nI_clamp, x_in, x_bit, x_b0, x_b1, x_b0n, fa_or, fa_and, fb_xorI, x_an, Option.bind_some, b_has8, b_has9, ↓reduceIte, not_true_eq_false, not_false_eq_true, x_nn, Bool.false_eq_true, x_ar_k, x_ar_in, x_ar_w, b_wk, b_wj, b_wh, b_w2, x_ar_2, if_pos, if_neg, hv.1]
  · intro n k hk
    have b1 := g_pi_lt (b := b) w k
    have aw := s4_aw (i := g_pi T b k) (o := g_pi T b p) w h (by omega)
    simp (disch := omega) only [f_X4_piecesAhead_13, x_l0, x_l1, x_l2, x_l3, x_l4, x_l5, x_l6, x_l7, x_l8, x_l9, x_l10, x_l12, x_l13, x_l14, x_l16, x_l18, x_l20, x_l22, x_l32, x_l36, x_l48, x_l50, x_l54, x_l57, x_l59, x_l74, x_l81, x_l99, x_l104, x_l107, x_l110, x_l112, x_l115, x_l117, x_l162, x_l255, x_l512, x_l99999, x_l1000000, nI_leI, nI_ltI, nI_eq, nI_add, pk_mul, nI_clamp, x_in, x_bit, x_b0, x_b1, x_b0n, fa_or, fa_and, fb_xorI, x_an, Option.bind_some, b_has8, b_has9, ↓reduceIte, not_true_eq_false, not_false_eq_true, x_nn, Bool.false_eq_true, x_ar_k, x_ar_in, x_ar_w, b_wk, b_wj, b_wh, b_w2, x_ar_2, if_pos, if_neg, hv.1, s4_pi w h hv hk, aw, x_mk]
    by_cases c1 : k = p
    · simp [c1]
    · by_cases c2 : g_aw T (g_pi T b k) (g_pi T b p) = true
      · simp [c1, c2]
      · simp [c1, c2]
theorem s4_po (w : wT T) (hv : cV T b t S) {c : Nat} (hc : c < T 1) : f_X4_pieceOf (nI c) S = some (if b.testBit c = true then nI (g_po T b c) else -nI 9, S) := by
  have h0 := wT_b w
  have hn := g_np_le (b := b) w
  unfold f_X4_pieceOf
  have hh := x_find (F := fun n k => f_X4_pieceOf_2 n (nI c) (nI k) S) (N := g_np T b) (p := fun p => (g_cu T b p).testBit c) (yes := fun p => some (nI p, S)) (no := some (-nI 9, S)) ?_ ?_ (d := g_np T b) (a := 0) (n := 1000) (by omega) (by omega)
  · refine Eq.trans hh ?_
    have bit : ∀ p, (g_cu T b p).testBit c = (b.testBit c && decide (g_root T b (T (22 + c)) = g_pr T b p)) := by
      intro p
      unfold g_cu
      rw [x_mk_bit]
      simp [hc]
    by_cases q : b.testBit c = true
    · have po := g_po_ok w hc q
      have e : x_fst (fun p => (g_cu T b p).testBit c) (g_np T b) (g_np T b) 0 = g_po T b c := by
        refine x_f1_eq po.1 ?_ (fun j hj => ?_)
        · rw [bit, q, po.2]; simp
        · rw [bit, q]
          have : ¬ g_root T b (T (22 + c)) = g_pr T b j := fun z => by
            rw [← po.2] at z
            have := g_pr_inj po.1 (by omega) z
            omega
          simp [this]
      rw [e, if_pos po.1, if_pos q]
    · have e : x_fst (fun p => (g_cu T b p).testBit c) (g_np T b) (g_np T b) 0 = g_np T b := x_f1_none (fun k hk => by rw [bit]; simp [q])
      rw [e, if_neg (by omega), if_neg q]
  · intro n
    simp (disch := omega) only [f_X4_pieceOf_2, x_l0, x_l1, x_l2, x_l3, x_l4, x_l5, x_l6, x_l7, x_l8, x_l9, x_l10, x_l12, x_l13, x_l14, x_l16, x_l18, x_l20, x_l22, x_l32, x_l36, x_l48, x_l50, x_l54, x_l57, x_l59, x_l74, x_l81, x_l99, x_l104, x_l107, x_l110, x_l112, x_l115, x_l117, x_l162, x_l255, x_l512, x_l99999, x_l1000000, nI_leI, nI_ltI, nI_eq, nI_add, pk_mul, nI_clamp, x_in, x_bit, x_b0, x_b1, x_b0n, fa_or, fa_and, fb_xorI, x_an, Option.bind_some, b_has8, b_has9, ↓reduceIte, not_true_eq_false, not_false_eq_true, x_nn, Bool.false_eq_true, x_ar_k, x_ar_in, x_ar_w, b_wk, b_wj, b_wh, b_w2, x_ar_2, if_pos, if_neg, hv.1]
  · intro n k hk
    have b1 := g_cu_lt (b := b) w k
    simp (disch := omega) only [f_X4_pieceOf_2, x_l0, x_l1, x_l2, x_l3, x_l4, x_l5, x_l6, x_l7, x_l8, x_l9, x_l10, x_l12, x_l13, x_l14, x_l16, x_l18, x_l20, x_l22, x_l32, x_l36, x_l48, x_l50, x_l54, x_l57, x_l59, x_l74, x_l81, x_l99, x_l104, x_l107, x_l110, x_l112, x_l115, x_l117, x_l162, x_l255, x_l512, x_l99999, x_l1000000, nI_leI, nI_ltI, nI_eq, nI_add, pk_mul, nI_clamp, x_in, x_bit, x_b0, x_b1, x_b0n, fa_or, fa_and, fb_xorI, x_an, Option.bind_some, b_has8, b_has9, ↓reduceIte, not_true_eq_false, not_false_eq_true, x_nn, Bool.false_eq_true, x_ar_k, x_ar_in, x_ar_w, b_wk, b_wj, b_wh, b_w2, x_ar_2, if_pos, if_neg, hv.1, (hv.2 k hk).1]
    by_cases c1 : (g_cu T b k).testBit c = true
    · simp [c1]
    · simp [c1]
end AH
