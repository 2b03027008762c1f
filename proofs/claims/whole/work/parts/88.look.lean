/-! ===== the class's survey ===== -/
/-- the survey is right -/
def cS (T : Nat → Nat) (b t : Nat) (S : zS) : Prop := cT T b t S ∧ (∀ p, p < g_np T b → S.1 62 p = nI (g_lp T 4 (g_od T b p))) ∧ (∀ k, k < 9 → S.1 64 k = g_pa T b (g_np T b) k) ∧ S.1 57 10 = nI (g_tw T b t) ∧ (g_tw T b t ≠ 1000000 → ∀ k, k < g_np T b → S.1 65 k = nI (g_oc T b t k))
def wS (q _j : Nat) : Prop := 57 ≤ q ∧ q ≤ 68
section LK
variable {T : Nat → Nat} {b t P : Nat} {S : zS}
theorem cS_fr {W : Nat → Nat → Prop} {S' : zS} (h : cS T b t S) (hf : x_fr W S S') (hw : ∀ q j, (q = 57 ∧ (j = 1 ∨ j = 10)) ∨ (58 ≤ q ∧ q ≤ 65) → ¬ W q j) : cS T b t S' := by
  refine ⟨cT_fr h.1 hf (fun q j hq => hw q j (by omega)), fun p hp => ?_, fun k hk => ?_, ?_, fun h1 k hk => ?_⟩
  · rw [hf.2 _ _ (hw 62 p (by omega))]; exact h.2.1 p hp
  · rw [hf.2 _ _ (hw 64 k (by omega))]; exact h.2.2.1 k hk
  · rw [hf.2 _ _ (hw 57 10 (by omega))]; exact h.2.2.2.1
  · rw [hf.2 _ _ (hw 65 k (by omega))]; exact h.2.2.2.2 h1 k hk
theorem g_np_0 (h : T 0 = 0) : g_np T b = 0 := by unfold g_np; rw [h]; rfl
theorem g_tw_0 (h : g_np T b = 0) : g_tw T b t = 0 := by
  unfold g_tw
  rw [h]
  exact g_lt_0 4 t
theorem g_pp_cong (w : wT T) {s j : Nat} (hs : g_ev T s j) (hj : j ≤ 4) {π ρ : Nat → Int32} {k : Nat} (h : π k = ρ k) : g_pp T j s π k = g_pp T j s ρ k := by
  by_cases c : s.testBit k = true
  · obtain ⟨m, _, _, h3⟩ := g_pp_in w j s k hs hj c
    rw [(h3 _).1, (h3 _).1]
  · rw [g_pp_out w j s π k hs hj c, g_pp_out w j s ρ k hs hj c, h]
theorem s4_look25 (w : wT T) (hc : cP T P S) (hP : P = 3 ∨ P = 17) (ht : 0 < T 0 → t < T 0 ∧ S.1 32 1 = nI t) (hv : cV T b t S) (h64 : ∀ k, k < 9 → S.1 64 k = -nI 9) : ∃ S', f_X4_look_25 P 32 1000 (nI 0) S = some ((), S') ∧ x_fr wS S S' ∧ cS T b t S' ∧ S'.1 57 0 = nI 1 := by
  have h0 := wT_b w
  have hN := g_np_le (b := b) w
  refine x_forI (F := fun n k S => f_X4_look_25 P 32 n (nI k) S) (N := g_np T b) (I := fun p S1 => x_fr wS S S1 ∧ cV T b t S1 ∧ (∀ q, q < p → S1.1 62 q = nI (g_lp T 4 (g_od T b q)) ∧ S1.1 63 q = nI (g_ah T b q)) ∧ (∀ k, k < 9 → S1.1 64 k = g_pa T b p k)) (G := fun γ => ∃ S', γ = some ((), S') ∧ x_fr wS S S' ∧ cS T b t S' ∧ S'.1 57 0 = nI 1) ?_ ?_ (d := g_np T b) (a := 0) (n := 1000) (S := S) (by omega) (by omega) ⟨x_fr_rf, hv, fun q hq => absurd hq (Nat.not_lt_zero q), h64⟩
  · intro n S1 ⟨h1, h2, h3, h4⟩
    have hc1 : cP T P S1 := cP_fr hc h1 (fun q j q1 q2 q3 => by unfold wS at q3; omega) (by omega)
    have hT1 : cT T b t S1 := ⟨h2, fun p hp => (h3 p hp).2⟩
    have e571 := h2.1
    show ∃ S', f_X4_look_25 P 32 (n + 1) (nI (g_np T b)) S1 = _ ∧ _
    rw [f_X4_look_25, e571, if_pos (nI_le (Nat.le_refl _) (by omega))]
    by_cases c : g_np T b = 0
    · rw [s4_tour0 hT1 c, Option.bind_some]
      refine ⟨_, rfl, x_fr_w (x_fr_w h1 ⟨by omega, by omega⟩) ⟨by omega, by omega⟩, ?_, b_wh⟩
      have e := g_tw_0 (T := T) (b := b) (t := t) c
      refine ⟨cT_fr hT1 (x_fr_w (x_fr_w (W := fun q j => q = 57 ∧ (j = 10 ∨ j = 0)) x_fr_rf ⟨rfl, Or.inl rfl⟩) ⟨rfl, Or.inr rfl⟩) (fun q j q1 q2 => by omega), fun p hp => by omega, fun k hk => ?_, ?_, fun _ k hk => by omega⟩
      · rw [b_wk (by omega), b_wk (by omega)]; exact h4 k hk
      · rw [b_wj (by omega), b_wh, e]
    · have t0 : 0 < T 0 := by
        by_cases z : T 0 = 0
        · exact absurd (g_np_0 z) c
        · omega
      obtain ⟨htl, hs⟩ := ht t0
      have hs1 : S1.1 32 1 = nI t := by rw [h1.2 _ _ (by unfold wS; omega)]; exact hs
      rw [hs1, s4_tour w hc1.1 hT1 hP htl, Option.bind_some]
      have fr := x_fr_cTo (T := T) (b := b) (t := t) (S := S1)
      refine ⟨_, rfl, x_fr_w (x_fr_tr h1 (x_fr_sub fr (fun q j hq => by unfold wS; omega))) ⟨by omega, by omega⟩, ?_, b_wh⟩
      have fr2 := x_fr_w (x_fr_sub fr (V := fun q j => (q = 57 ∧ (j = 10 ∨ j = 0)) ∨ q = 65) (fun q j hq => by omega)) (q := 57) (i := 0) (x := 1) (Or.inl ⟨rfl, Or.inr rfl⟩)
      refine ⟨cT_fr hT1 fr2 (fun q j q1 q2 => by omega), fun p hp => ?_, fun k hk => ?_, ?_, fun hne k hk => ?_⟩
      · rw [fr2.2 _ _ (by omega)]; exact (h3 p hp).1
      · rw [fr2.2 _ _ (by omega)]; exact h4 k hk
      · rw [b_wj (by omega)]
        unfold cTo
        by_cases q : g_tw T b t = 1000000
        · rw [if_pos q, b_wh, q]
        · rw [if_neg q, x_ar_k (by omega), b_wh]
      · rw [b_wk (by omega)]
        unfold cTo
        rw [if_neg hne, x_ar_in hk]
  · intro n p S1 hp ⟨h1, h2, h3, h4⟩ go
    have hc1 : cP T P S1 := cP_fr hc h1 (fun q j q1 q2 q3 => by unfold wS at q3; omega) (by omega)
    have e571 := h2.1
    have ev := g_od_ev (b := b) w p
    have e60 := (h2.2 p hp).2.1
    have lp : f_X4_leastPairs 6 P (nI (g_od T b p)) (nI 0) S1 = some (nI (g_lp T 4 (g_od T b p)), S1) := s4_lp w hc1.1 4 6 (g_od T b p) (by omega) (by omega) ev.1 ev.2.1
    have hc2 : cP T P (z_w S1 62 p (nI (g_lp T 4 (g_od T b p)))) := cP_fr hc1 (x_fr_w (W := fun q _ => q = 62) x_fr_rf rfl) (fun q j q1 q2 q3 => by omega) (by omega)
    have pu := s4_pu w hP (b_ct (g_od T b p) 9 / 2) (g_od T b p) 0 1000 _ hc2.1 ev (by have := x_ct9 (g_od T b p); omega) (by omega)
    have pu' : f_X4_pairUp P (nI (g_od T b p)) (nI (g_lp T 4 (g_od T b p))) (z_w S1 62 p (nI (g_lp T 4 (g_od T b p)))) = some ((), x_ar (z_w S1 62 p (nI (g_lp T 4 (g_od T b p)))) 64 9 (g_pp T (b_ct (g_od T b p) 9 / 2) (g_od T b p) ((z_w S1 62 p (nI (g_lp T 4 (g_od T b p)))).1 64))) := pu
    have hc3 : cP T P (x_ar (z_w S1 62 p (nI (g_lp T 4 (g_od T b p)))) 64 9 (g_pp T (b_ct (g_od T b p) 9 / 2) (g_od T b p) ((z_w S1 62 p (nI (g_lp T 4 (g_od T b p)))).1 64))) := cP_fr hc2 (x_fr_a (W := fun q _ => q = 64) x_fr_rf (fun _ _ => rfl)) (fun q j q1 q2 q3 => by omega) (by omega)
    have fr3 : x_fr (fun q _ => q = 62 ∨ q = 64) S1 (x_ar (z_w S1 62 p (nI (g_lp T 4 (g_od T b p)))) 64 9 (g_pp T (b_ct (g_od T b p) 9 / 2) (g_od T b p) ((z_w S1 62 p (nI (g_lp T 4 (g_od T b p)))).1 64))) := x_fr_a (x_fr_w x_fr_rf (Or.inl rfl)) (fun _ _ => Or.inr rfl)
    have hv3 : cV T b t (x_ar (z_w S1 62 p (nI (g_lp T 4 (g_od T b p)))) 64 9 (g_pp T (b_ct (g_od T b p) 9 / 2) (g_od T b p) ((z_w S1 62 p (nI (g_lp T 4 (g_od T b p)))).1 64))) := by
      refine ⟨?_, fun q hq => ⟨?_, ?_, ?_⟩⟩
      · rw [fr3.2 _ _ (by omega)]; exact h2.1
      · rw [fr3.2 _ _ (by omega)]; exact (h2.2 q hq).1
      · rw [fr3.2 _ _ (by omega)]; exact (h2.2 q hq).2.1
      · rw [fr3.2 _ _ (by omega)]; exact (h2.2 q hq).2.2
    have ah := s4_ah w hc3 hv3 hp
    show ∃ S', f_X4_look_25 P 32 (n + 1) (nI p) S1 = _ ∧ _
    have e : f_X4_look_25 P 32 (n + 1) (nI p) S1 = f_X4_look_25 P 32 n (nI (p + 1)) (z_w (x_ar (z_w S1 62 p (nI (g_lp T 4 (g_od T b p)))) 64 9 (g_pp T (b_ct (g_od T b p) 9 / 2) (g_od T b p) ((z_w S1 62 p (nI (g_lp T 4 (g_od T b p)))).1 64))) 63 p (nI (g_ah T b p))) := by
      rw [f_X4_look_25, e571, if_neg (nI_ge hp (by omega)), if_pos ((x_in (by omega)).mpr (by omega)), nI_clamp (by omega), e60, x_l0, lp, Option.bind_some, if_pos ((x_in (by omega)).mpr (by omega)), if_pos ((x_in (by omega)).mpr (by omega)), if_pos ((x_in (by omega)).mpr (by omega)), b_wk (by omega), b_wh, e60, pu', Option.bind_some]
      dsimp only
      rw [ah, Option.bind_some, if_pos ((x_in (by omega)).mpr (by omega))]
      simp (disch := omega) only [x_l1, nI_add]
    rw [e]
    apply go
    have fr4 := x_fr_w (x_fr_sub fr3 (V := fun q _ => q = 62 ∨ q = 63 ∨ q = 64) (fun q j hq => by omega)) (q := 63) (i := p) (x := nI (g_ah T b p)) (Or.inr (Or.inl rfl))
    refine ⟨x_fr_tr h1 (x_fr_sub fr4 (fun q j hq => by unfold wS; omega)), ⟨?_, fun q hq => ⟨?_, ?_, ?_⟩⟩, fun q hq => ⟨?_, ?_⟩, fun k hk => ?_⟩
    · rw [fr4.2 _ _ (by omega)]; exact h2.1
    · rw [fr4.2 _ _ (by omega)]; exact (h2.2 q hq).1
    · rw [fr4.2 _ _ (by omega)]; exact (h2.2 q hq).2.1
    · rw [fr4.2 _ _ (by omega)]; exact (h2.2 q hq).2.2
    · rw [b_wk (by omega), x_ar_k (by omega)]
      by_cases c : q = p
      · subst c; rw [b_wh]
      · rw [b_wj c]; exact (h3 q (by omega)).1
    · by_cases c : q = p
      · subst c; rw [b_wh]
      · rw [b_wj c, x_ar_k (by omega), b_wk (by omega)]; exact (h3 q (by omega)).2
    · rw [b_wk (by omega), x_ar_in hk, g_pa]
      refine g_pp_cong w ev (x_ct9 _) ?_
      rw [b_wk (by omega)]
      exact h4 k hk
theorem s4_look (w : wT T) (hc : cP T P S) (hP : P = 3 ∨ P = 17) (hb : b < 2 ^ 31) (hl : S.1 32 0 = nI b) (ht : 0 < T 0 → t < T 0 ∧ S.1 32 1 = nI t) (hf : S.1 57 0 = nI 0 ∨ (S.1 57 0 = nI 1 ∧ cS T b t S)) : ∃ S', f_X4_look P 32 S = some ((), S') ∧ x_fr wS S S' ∧ cS T b t S' ∧ S'.1 57 0 = nI 1 := by
  have h0 := wT_b w
  rcases hf with hf | ⟨hf, hs⟩
  · obtain ⟨S1, e1, f1, v1⟩ := s4_find w hc.1 hP hb hl ht
    have wl : ∀ q j, wV q j → wS q j := fun q j hq => by unfold wV at hq; unfold wS; omega
    have f2 : x_fr wS S (x_ar S1 64 9 (fun _ => -nI 9)) := x_fr_a (x_fr_sub f1 wl) (fun j _ => ⟨by omega, by omega⟩)
    have hv2 : cV T b t (x_ar S1 64 9 (fun _ => -nI 9)) := by
      refine ⟨?_, fun q hq => ⟨?_, ?_, ?_⟩⟩
      · rw [x_ar_k (by omega)]; exact v1.1
      · rw [x_ar_k (by omega)]; exact (v1.2 q hq).1
      · rw [x_ar_k (by omega)]; exact (v1.2 q hq).2.1
      · rw [x_ar_k (by omega)]; exact (v1.2 q hq).2.2
    have hc2 : cP T P (x_ar S1 64 9 (fun _ => -nI 9)) := cP_fr hc f2 (fun q j q1 q2 q3 => by unfold wS at q3; omega) (by omega)
    obtain ⟨S', e2, f3, c3, d3⟩ := s4_look25 w hc2 hP (fun z => ⟨(ht z).1, by rw [f2.2 _ _ (by unfold wS; omega)]; exact (ht z).2⟩) hv2 (fun k hk => x_ar_in hk)
    refine ⟨S', ?_, x_fr_tr f2 f3, c3, d3⟩
    have ef : f_J7_fill_53178 64 9 (-9) S1 = some ((), x_ar S1 64 9 (fun _ => -nI 9)) := s_fill 64 9 (by omega) (-nI 9) S1
    rw [f_X4_look, hf, if_pos (c := nI 0 = 0) nI_0, e1, Option.bind_some, ef, Option.bind_some]
    exact e2
  · refine ⟨S, ?_, x_fr_rf, hs, hf⟩
    rw [f_X4_look, hf, if_neg (c := nI 1 = 0) (by decide)]
theorem s8_surveyed (w : wT T) (hP2 : S.2.1 = P) (hc : cP T P S) (hP : P = 3 ∨ P = 17) (hb : b < 2 ^ 31) (hl : S.1 32 0 = nI b) (ht : 0 < T 0 → t < T 0 ∧ S.1 32 1 = nI t) (hf : S.1 57 0 = nI 0 ∨ (S.1 57 0 = nI 1 ∧ cS T b t S)) : ∃ S', f_X8_surveyed S = some ((), S') ∧ x_fr wS S S' ∧ cS T b t S' ∧ S'.1 57 0 = nI 1 := by
  obtain ⟨S', e, r⟩ := s4_look w hc hP hb hl ht hf
  refine ⟨S', ?_, r⟩
  have hz : z_isP S.2.1 := by rw [hP2]; rcases hP with rfl | rfl <;> decide
  rw [f_X8_surveyed, if_pos hz, hP2, e, Option.bind_some]
theorem s4_hasT (h : cV T b t S) (w : wT T) {p : Nat} (hp : p < g_np T b) : f_X4_hasPiece (nI p) S = some (nI 1, S) := by
  have hN := g_np_le (b := b) w
  have e := h.1
  simp (disch := omega) only [f_X4_hasPiece, x_l0, x_l1, x_l2, x_l3, x_l4, x_l5, x_l6, x_l7, x_l8, x_l9, x_l10, x_l12, x_l13, x_l14, x_l16, x_l18, x_l20, x_l22, x_l32, x_l36, x_l48, x_l50, x_l54, x_l57, x_l59, x_l74, x_l81, x_l99, x_l104, x_l107, x_l110, x_l112, x_l115, x_l117, x_l162, x_l255, x_l512, x_l99999, x_l1000000, nI_leI, nI_ltI, nI_eq, nI_add, pk_mul, nI_clamp, x_in, x_bit, x_b0, x_b1, x_b0n, fa_or, fa_and, fb_xorI, x_an, Option.bind_some, b_has8, b_has9, ↓reduceIte, not_true_eq_false, not_false_eq_true, x_nn, Bool.false_eq_true, x_ar_k, x_ar_in, x_ar_w, b_wk, b_wj, b_wh, b_w2, x_ar_2, if_pos, if_neg, e]
theorem s4_hasF (h : cV T b t S) (w : wT T) {v : Int32} (hv : ¬ ∃ p, p < g_np T b ∧ v = nI p) : f_X4_hasPiece v S = some (nI 0, S) := by
  have hN := g_np_le (b := b) w
  unfold f_X4_hasPiece
  rw [h.1]
  rcases pk_ix v (n := g_np T b) (by omega) with h1 | h1 | ⟨j, hj, rfl⟩
  · rw [if_pos h1]; rfl
  · by_cases h0 : v < 0
    · rw [if_pos h0]; rfl
    · rw [if_neg h0, if_pos h1]; rfl
  · exact absurd ⟨j, hj, rfl⟩ hv
theorem s4_startOf (h : cV T b t S) (w : wT T) {p : Nat} (hp : p < g_np T b) : f_X4_startOf (nI p) S = some (nI (g_st T b t p), S) := by
  have hN := g_np_le (b := b) w
  have e := (h.2 p hp).2.2
  have e2 := s4_hasT h w hp
  simp (disch := omega) only [f_X4_startOf, x_l0, x_l1, x_l2, x_l3, x_l4, x_l5, x_l6, x_l7, x_l8, x_l9, x_l10, x_l12, x_l13, x_l14, x_l16, x_l18, x_l20, x_l22, x_l32, x_l36, x_l48, x_l50, x_l54, x_l57, x_l59, x_l74, x_l81, x_l99, x_l104, x_l107, x_l110, x_l112, x_l115, x_l117, x_l162, x_l255, x_l512, x_l99999, x_l1000000, nI_leI, nI_ltI, nI_eq, nI_add, pk_mul, nI_clamp, x_in, x_bit, x_b0, x_b1, x_b0n, fa_or, fa_and, fb_xorI, x_an, Option.bind_some, b_has8, b_has9, ↓reduceIte, not_true_eq_false, not_false_eq_true, x_nn, Bool.false_eq_true, x_ar_k, x_ar_in, x_ar_w, b_wk, b_wj, b_wh, b_w2, x_ar_2, if_pos, if_neg, e, e2]
/-- how many steps a round has -/
def g_ns (T : Nat → Nat) (b p : Nat) : Nat := b_ct (g_cu T b p) 14 + b_ct (g_od T b p) 14 / 2
theorem s4_stepsOf (h : cV T b t S) (w : wT T) {p : Nat} (hp : p < g_np T b) : f_X4_stepsOf (nI p) S = some (nI (g_ns T b p), S) := by
  have hN := g_np_le (b := b) w
  have e := h.2 p hp
  have e1 := e.1
  have e3 := e.2.1
  have e2 := s4_hasT h w hp
  have c1 := g_cu_lt (b := b) w p
  have c2 := g_od_lt (T := T) (b := b) p
  have b1 := b_bc c1 S
  have b2 := b_bc (b := g_od T b p) (by omega) S
  have l1 : b_ct (g_cu T b p) 14 ≤ 14 := fb_ct_le _ _
  have l2 : b_ct (g_od T b p) 14 ≤ 14 := fb_ct_le _ _
  simp (disch := omega) only [f_X4_stepsOf, x_l0, x_l1, x_l2, x_l3, x_l4, x_l5, x_l6, x_l7, x_l8, x_l9, x_l10, x_l12, x_l13, x_l14, x_l16, x_l18, x_l20, x_l22, x_l32, x_l36, x_l48, x_l50, x_l54, x_l57, x_l59, x_l74, x_l81, x_l99, x_l104, x_l107, x_l110, x_l112, x_l115, x_l117, x_l162, x_l255, x_l512, x_l99999, x_l1000000, nI_leI, nI_ltI, nI_eq, nI_add, pk_mul, nI_clamp, x_in, x_bit, x_b0, x_b1, x_b0n, fa_or, fa_and, fb_xorI, x_an, Option.bind_some, b_has8, b_has9, ↓reduceIte, not_true_eq_false, not_false_eq_true, x_nn, Bool.false_eq_true, x_ar_k, x_ar_in, x_ar_w, b_wk, b_wj, b_wh, b_w2, x_ar_2, if_pos, if_neg, e1, e2, e3, b1, b2, pk_div]
  rfl
def g_id (T : Nat → Nat) (b t : Nat) : Nat → Nat
  | 0 => g_tw T b t
  | p + 1 => g_id T b t p + g_lp T 4 (g_od T b p)
theorem g_id_le (w : wT T) (hw : g_tw T b t ≤ 1000000) : ∀ p, p ≤ 4 → g_id T b t p ≤ 1000000 * (p + 1)
  | 0, _ => by rw [g_id]; omega
  | p + 1, hp => by
    have := g_id_le w hw p (by omega)
    have l := g_lp_le (T := T) 4 (g_od T b p)
    rw [g_id]
    omega
theorem s4_idle (h : cS T b t S) (w : wT T) : f_X4_idle S = some (nI (g_id T b t (g_np T b)), S) := by
  have hN := g_np_le (b := b) w
  rw [f_X4_idle, h.2.2.2.1]
  have tl : g_tw T b t ≤ 1000000 := g_lt_le _ _ _
  have e571 := h.1.1.1
  refine x_for (F := fun n p => f_X4_idle_7 n (nI (g_id T b t p)) (nI p) S) (N := g_np T b) ?_ ?_ (d := g_np T b) (a := 0) (n := 1000) (by omega) (by omega)
  · intro n
    simp (disch := omega) only [f_X4_idle_7, x_l0, x_l1, x_l2, x_l3, x_l4, x_l5, x_l6, x_l7, x_l8, x_l9, x_l10, x_l12, x_l13, x_l14, x_l16, x_l18, x_l20, x_l22, x_l32, x_l36, x_l48, x_l50, x_l54, x_l57, x_l59, x_l74, x_l81, x_l99, x_l104, x_l107, x_l110, x_l112, x_l115, x_l117, x_l162, x_l255, x_l512, x_l99999, x_l1000000, nI_leI, nI_ltI, nI_eq, nI_add, pk_mul, nI_clamp, x_in, x_bit, x_b0, x_b1, x_b0n, fa_or, fa_and, fb_xorI, x_an, Option.bind_some, b_has8, b_has9, ↓reduceIte, not_true_eq_false, not_false_eq_true, x_nn, Bool.false_eq_true, x_ar_k, x_ar_in, x_ar_w, b_wk, b_wj, b_wh, b_w2, x_ar_2, if_pos, if_neg, e571]
  · intro n p hp
    have e := h.2.1 p hp
    have l1 := g_id_le (b := b) (t := t) w tl p (by omega)
    have l := g_lp_le (T := T) 4 (g_od T b p)
    simp (disch := omega) only [f_X4_idle_7, x_l0, x_l1, x_l2, x_l3, x_l4, x_l5, x_l6, x_l7, x_l8, x_l9, x_l10, x_l12, x_l13, x_l14, x_l16, x_l18, x_l20, x_l22, x_l32, x_l36, x_l48, x_l50, x_l54, x_l57, x_l59, x_l74, x_l81, x_l99, x_l104, x_l107, x_l110, x_l112, x_l115, x_l117, x_l162, x_l255, x_l512, x_l99999, x_l1000000, nI_leI, nI_ltI, nI_eq, nI_add, pk_mul, nI_clamp, x_in, x_bit, x_b0, x_b1, x_b0n, fa_or, fa_and, fb_xorI, x_an, Option.bind_some, b_has8, b_has9, ↓reduceIte, not_true_eq_false, not_false_eq_true, x_nn, Bool.false_eq_true, x_ar_k, x_ar_in, x_ar_w, b_wk, b_wj, b_wh, b_w2, x_ar_2, if_pos, if_neg, e571, e, g_id]
end LK
