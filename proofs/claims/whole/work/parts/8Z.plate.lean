/-! ===== plate ===== -/
def g_B0 : Nat → Nat := fun _ => 0
def g_A0 : gA := gA.mk g_B0 0 0 0 0 0 0 0
theorem uB_00 : uB g_B0 := ⟨⟨Nat.zero_le _, Nat.zero_le _, Nat.zero_le _, Nat.zero_le _⟩, fun k hk => absurd hk (Nat.not_lt_zero k), fun c hc => absurd hc (Nat.not_lt_zero c), fun c d _ hd => absurd hd (Nat.not_lt_zero d), fun p hp => absurd hp (Nat.not_lt_zero p), fun p i hp _ => absurd hp (Nat.not_lt_zero p), fun p i hp _ => absurd hp (Nat.not_lt_zero p)⟩
theorem g_run_ok {X : Nat → Nat} {len : Nat} : ∀ n (A A' : gA), uA A → g_run X len n A = Sum.inr A' → uA A' ∧ A'.I = 0
  | 0, A, A', _, h => by cases h
  | n + 1, A, A', w, h => by
    rw [g_run] at h
    by_cases k0 : t_k X len A.P = 0
    · rw [if_pos k0] at h
      by_cases i0 : A.I = 0
      · rw [if_pos i0] at h
        cases h
        exact ⟨w, i0⟩
      · rw [if_neg i0] at h; cases h
    · rw [if_neg k0] at h
      rcases hs : g_stp A (t_k X len A.P) (t_v X len A.P) (t_n X len A.P) with _ | A1
      · rw [hs] at h; cases h
      · rw [hs] at h
        exact g_run_ok n A1 A' (uA_stp w (fun q => t_k1 q) hs).1 h
section PLT
variable {S : zS}
theorem s9_beg0 : f_X9_begins S = some ((), z_w (x_ar S 90 74 (fun _ => nI 0)) 87 8 (nI 0)) := by
  have hh := x_for (F := fun n k => f_X9_begins_2 n (nI k) (x_ar S 90 k (fun _ => nI 0))) (N := 74) (fin := some ((), z_w (x_ar S 90 74 (fun _ => nI 0)) 87 8 (nI 0))) ?_ ?_ (d := 74) (a := 0) (n := 1000) (by omega) (by omega)
  · rw [x_ar_0] at hh
    exact hh
  · intro n
    simp (disch := omega) only [f_X9_begins_2, x_l0, x_l1, x_l2, x_l3, x_l4, x_l5, x_l6, x_l7, x_l8, x_l9, x_l10, x_l12, x_l13, x_l14, x_l16, x_l18, x_l20, x_l22, x_l32, x_l36, x_l48, x_l50, x_l54, x_l57, x_l59, x_l74, x_l81, x_l99, x_l104, x_l107, x_l110, x_l112, x_l115, x_l117, x_l162, x_l255, x_l512, x_l99999, x_l1000000, nI_leI, nI_ltI, nI_eq, nI_add, pk_mul, nI_clamp, x_in, x_bit, x_b0, x_b1, x_b0n, fa_or, fa_and, fb_xorI, x_an, Option.bind_some, b_has8, b_has9, ↓reduceIte, not_true_eq_false, not_false_eq_true, x_nn, Bool.false_eq_true, x_ar_k, x_ar_in, x_ar_w, b_wk, b_wj, b_wh, b_w2, x_ar_2, if_pos, if_neg]
  · intro n k hk
    simp (disch := omega) only [f_X9_begins_2, x_l0, x_l1, x_l2, x_l3, x_l4, x_l5, x_l6, x_l7, x_l8, x_l9, x_l10, x_l12, x_l13, x_l14, x_l16, x_l18, x_l20, x_l22, x_l32, x_l36, x_l48, x_l50, x_l54, x_l57, x_l59, x_l74, x_l81, x_l99, x_l104, x_l107, x_l110, x_l112, x_l115, x_l117, x_l162, x_l255, x_l512, x_l99999, x_l1000000, nI_leI, nI_ltI, nI_eq, nI_add, pk_mul, nI_clamp, x_in, x_bit, x_b0, x_b1, x_b0n, fa_or, fa_and, fb_xorI, x_an, Option.bind_some, b_has8, b_has9, ↓reduceIte, not_true_eq_false, not_false_eq_true, x_nn, Bool.false_eq_true, x_ar_k, x_ar_in, x_ar_w, b_wk, b_wj, b_wh, b_w2, x_ar_2, if_pos, if_neg]
    rw [x_ar_s S 90 k (fun _ => nI 0)]
theorem s1_wipe {Q : Nat} (hQ : Q = 3 ∨ Q = 17) (h4 : S.1 31 4 = nI 0) (h8 : S.1 31 8 = nI 0) : ∃ S', f_X1_wipe Q S = some ((), S') ∧ x_fr (fun q _ => Q ≤ q ∧ q ≤ Q + 13) S S' ∧ cA g_A0 Q S' := by
  have fl := s_fill (Q + 3) 9 (by omega) 0 (z_w (z_w (z_w (z_w (z_w S Q 0 0) Q 4 0) Q 7 0) Q 12 0) Q 13 0)
  have fr : x_fr (fun q _ => Q ≤ q ∧ q ≤ Q + 13) S (x_ar (z_w (z_w (z_w (z_w (z_w S Q 0 0) Q 4 0) Q 7 0) Q 12 0) Q 13 0) (Q + 3) 9 (fun _ => (0 : Int32))) := x_fr_a (x_fr_w (x_fr_w (x_fr_w (x_fr_w (x_fr_w x_fr_rf ⟨by omega, by omega⟩) ⟨by omega, by omega⟩) ⟨by omega, by omega⟩) ⟨by omega, by omega⟩) ⟨by omega, by omega⟩) (fun _ _ => ⟨by omega, by omega⟩)
  refine ⟨_, ?_, fr, ⟨⟨?_, ?_, ?_, ?_, ?_⟩, fun k hk => absurd hk (Nat.not_lt_zero k), fun k hk => ?_, fun p hp => absurd hp (Nat.not_lt_zero p)⟩, fun q => absurd (show (0 : Nat) = 112 from q) (by decide), ?_, fun q => absurd rfl q, fun q => absurd rfl q, ?_⟩
  · rw [f_X1_wipe, fl, Option.bind_some]
  · rw [x_ar_k (by omega), b_wj (by omega), b_wj (by omega), b_wj (by omega), b_wj (by omega), b_wh]; rfl
  · rw [x_ar_k (by omega), b_wj (by omega), b_wj (by omega), b_wj (by omega), b_wh]; rfl
  · rw [x_ar_k (by omega), b_wj (by omega), b_wj (by omega), b_wh]; rfl
  · rw [x_ar_k (by omega), b_wj (by omega), b_wh]; rfl
  · rw [x_ar_k (by omega), b_wh]; rfl
  · rw [x_ar_in hk]
    have e : g_M g_B0 16383 k = 0 := by
      apply Nat.eq_of_testBit_eq
      intro i
      rw [g_Mj (B := g_B0) (Nat.zero_le _), Nat.zero_testBit]
      have : ¬ g_cut g_B0 k i < g_B0 1 := Nat.not_lt_zero _
      rw [decide_eq_false this, Bool.and_false]
    show (0 : Int32) = nI (g_M g_B0 16383 k)
    rw [e]
    rfl
  · rw [fr.2 _ _ (by omega)]; exact h4
  · rw [fr.2 _ _ (by omega)]; exact h8
/-- the class: a plate is begun on -/
theorem s2_begin {T : Nat → Nat} {Q : Nat} (w : wT T) (hQ : Q = 3 ∨ Q = 17) (h : cP0 T Q S) : ∃ S', f_X2_beginOn 32 Q S = some ((), S') ∧ x_fr wE2 S S' ∧ cPl (g_P0 T) 32 S' := by
  have h0 := wT_b w
  have p14 : (2 : Nat) ^ T 1 ≤ 2 ^ 14 := Nat.pow_le_pow_right (by decide) h0.2.1
  have pp := Nat.two_pow_pos (T 1)
  have sh : (1 : Int32) <<< (nI (T 1) &&& 31) - 1 = nI (2 ^ T 1 - 1) := by
    have : (nI 1 <<< (nI (T 1) &&& 31)) - nI 1 = nI (2 ^ T 1 - 1) := by rw [x_bit (by omega), pk_sub (by omega)]
    exact this
  have b26 : ∀ (x : Int32), x = (if T 0 = 0 then -nI 9 else nI 0) → ∃ S', f_X2_beginOn_26 32 Q x (z_w S 32 0 (nI (2 ^ T 1 - 1))) = some ((), S') ∧ x_fr wE2 S S' ∧ cPl (g_P0 T) 32 S' := fun x hx => by
    have fl := s_fill 33 9 (by omega) (-nI 9) (z_w (z_w (z_w (z_w S 32 0 (nI (2 ^ T 1 - 1))) 32 1 x) 32 2 0) 32 3 0)
    have fl' : f_J7_fill_53178 (32 + 1) 9 (-9) (z_w (z_w (z_w (z_w S 32 0 (nI (2 ^ T 1 - 1))) 32 1 x) 32 2 0) 32 3 0) = some ((), x_ar (z_w (z_w (z_w (z_w S 32 0 (nI (2 ^ T 1 - 1))) 32 1 x) 32 2 0) 32 3 0) 33 9 (fun _ => -nI 9)) := fl
    refine ⟨_, by rw [f_X2_beginOn_26, fl', Option.bind_some], x_fr_a (x_fr_w (x_fr_w (x_fr_w (x_fr_w x_fr_rf (Or.inl rfl)) (Or.inl rfl)) (Or.inl rfl)) (Or.inl rfl)) (fun _ _ => Or.inr rfl), fun j hj => ?_, fun k hk => ?_⟩
    · rw [x_ar_k (by omega)]
      rcases (by omega : j = 0 ∨ j = 1 ∨ j = 2 ∨ j = 3) with rfl | rfl | rfl | rfl
      · rw [b_wj (by omega), b_wj (by omega), b_wj (by omega), b_wh]; rfl
      · rw [b_wj (by omega), b_wj (by omega), b_wh, hx]; rfl
      · rw [b_wj (by omega), b_wh]; rfl
      · rw [b_wh]; rfl
    · show (x_ar _ 33 9 _).1 33 k = _
      rw [x_ar_in hk]
      unfold g_P0
      rw [if_neg (by omega), if_neg (by omega), if_neg (by omega), if_neg (by omega)]
  rw [f_X2_beginOn, h.1.2.1, sh, b_wk (by omega), h.1.1]
  by_cases z : T 0 = 0
  · rw [if_pos (show nI (T 0) ≤ 0 from nI_le (b := 0) (by omega) (by omega))]
    exact b26 (-9) (by rw [if_pos z]; rfl)
  · rw [if_neg (show ¬ nI (T 0) ≤ 0 from nI_ge (a := 0) (by omega) (by omega))]
    exact b26 0 (by rw [if_neg z]; rfl)
end PLT
def g_nD (D : gD) (T : Nat → Nat) : gD := gD.mk T D.X 0 (g_P0 T) D.U 0 D.I 0 0 D.A D.B D.H
theorem wD_nD {D : gD} {τ : Nat} {T : Nat → Nat} (w : wT T) : wD (g_nD D T) τ :=
  ⟨w, wPl_0 w τ, Nat.zero_le _, fun i hi => absurd hi (Nat.not_lt_zero i), Nat.zero_le _, fun k hk => absurd hk (Nat.not_lt_zero k), by show 0 < 4; omega, fun i _ hk => absurd (show (0 : Nat).testBit i = true from hk) (by rw [Nat.zero_testBit]; decide), ⟨Nat.zero_le _, fun e he => absurd he (Nat.not_lt_zero e)⟩⟩
theorem z_plate {D : gD} {τ : Nat} (hw : wD D τ) : zSim D τ f_X8_plate f_X9_plate := by
  have hl := hw.2.2.2.2.1
  have hx := hw.2.2.2.2.2.1
  have h0 := wT_b hw.1
  have ua0 : uA g_A0 := uA_0 uB_00 (Nat.zero_le 1)
  -- the class's reading
  have rd8 : ∀ S, CI D S → ∃ P, (P = 3 ∨ P = 17) ∧ S.2 = (P, 20 - P) ∧ (∀ f, g_run D.X D.len (D.len + 1) g_A0 = Sum.inl f → ∃ S', f_X3_read (S.1 1 1) (20 - P) S = some (nI f, S') ∧ x_fr (wRd (20 - P)) S S' ∧ f ≤ D.len) ∧ (∀ A', g_run D.X D.len (D.len + 1) g_A0 = Sum.inr A' → ∃ S', f_X3_read (S.1 1 1) (20 - P) S = some (-1, S') ∧ x_fr (wRd (20 - P)) S S' ∧ cP (g_srt A'.B) (20 - P) S' ∧ S'.1 (20 - P) 13 = nI A'.M) := fun S hS => by
    obtain ⟨P, nx, hP, h2, h3, h4, h5, h6, h7, h8, h9⟩ := hS
    have hQ : 20 - P = 3 ∨ 20 - P = 17 := by omega
    generalize hq : 20 - P = Q at *
    have fa : x_fr (wRd Q) S (z_w (z_w (z_w S 31 1 0) 31 4 0) 31 8 0) := x_fr_w (x_fr_w (x_fr_w x_fr_rf (Or.inl rfl)) (Or.inl rfl)) (Or.inl rfl)
    have v1 : (z_w (z_w (z_w S 31 1 0) 31 4 0) 31 8 0).1 31 1 = nI 0 := by rw [b_wj (by omega), b_wj (by omega), b_wh]; rfl
    obtain ⟨S1, r1, f1, c1⟩ := s1_wipe (S := z_w (z_w (z_w S 31 1 0) 31 4 0) 31 8 0) hQ (by rw [b_wj (by omega), b_wh]; rfl) b_wh
    have f1R : x_fr (wRd Q) S S1 := x_fr_tr fa (x_fr_sub f1 (fun q j hq => Or.inr hq))
    have rn := s3_run (X := D.X) (len := D.len) hl hx hQ (D.len + 1) g_A0 S1 0 1000 ua0 c1 (by rw [f1.2 _ _ (by omega)]; exact v1) (fun k hk => by rw [f1R.2 _ _ (by unfold wRd; omega)]; exact h6.2 k hk) (Nat.zero_le _) (Nat.le_refl _) (by omega) (by omega) (Nat.le_refl _)
    refine ⟨P, hP, by rw [hq]; exact h2, fun f hf => ?_, fun A' hA => ?_⟩
    · obtain ⟨fl, S2, r2, f2⟩ := rn.1 f hf
      rw [hq]
      refine ⟨S2, ?_, x_fr_tr f1R f2, fl⟩
      rw [f_X3_read, r1, Option.bind_some, h6.1]
      exact r2
    · obtain ⟨S2, r2, f2, c2, u2, i2, m2⟩ := rn.2 A' hA
      obtain ⟨S3, r3, f3, p3⟩ := s1_settle u2.1 hQ c2.1
      rw [hq]
      refine ⟨S3, ?_, x_fr_tr (x_fr_tr f1R f2) (x_fr_sub f3 (fun q j hq => by unfold wSe at hq; unfold wRd; omega)), p3, ?_⟩
      · rw [f_X3_read, r1, Option.bind_some, h6.1]
        refine Eq.trans r2 ?_
        rw [f_X3_read_63, c2.2.2.1, i2, if_pos (c := nI 0 = 0) nI_0, r3, Option.bind_some]
      · rw [f3.2 _ _ (by unfold wSe; omega)]; exact c2.1.1.2.2.2.2
  -- the reference's reading
  have rd9 : ∀ S, MI D S → ∃ S3, f_X9_plate S = f_X9_plate_25 1000 (nI 0) S3 ∧ x_fr (fun q j => wG q j ∨ (q = 87 ∧ j = 0)) S S3 ∧ mG S3 (f_X9_plate_25 1000 (nI 0) S3) (g_run D.X D.len (D.len + 1) g_A0) := fun S hS => by
    have fa : x_fr (fun q j => wG q j ∨ (q = 87 ∧ j = 0)) S (z_w (x_ar (z_w (z_w (z_w S 87 0 0) 87 7 (-1)) 87 3 0) 90 74 (fun _ => nI 0)) 87 8 (nI 0)) := x_fr_w (x_fr_a (x_fr_w (x_fr_w (x_fr_w x_fr_rf (Or.inr ⟨rfl, rfl⟩)) (Or.inl (Or.inl ⟨rfl, by omega, by omega⟩))) (Or.inl (Or.inl ⟨rfl, by omega, by omega⟩))) (fun _ _ => Or.inl (Or.inr rfl))) (Or.inl (Or.inl ⟨rfl, by omega, by omega⟩))
    have v7 : (z_w (x_ar (z_w (z_w (z_w S 87 0 0) 87 7 (-1)) 87 3 0) 90 74 (fun _ => nI 0)) 87 8 (nI 0)).1 87 7 = -nI 1 := by rw [b_wj (by omega), x_ar_k (by omega), b_wj (by omega), b_wh]; rfl
    have v3 : (z_w (x_ar (z_w (z_w (z_w S 87 0 0) 87 7 (-1)) 87 3 0) 90 74 (fun _ => nI 0)) 87 8 (nI 0)).1 87 3 = nI 0 := by rw [b_wj (by omega), x_ar_k (by omega), b_wh]; rfl
    have v8 : (z_w (x_ar (z_w (z_w (z_w S 87 0 0) 87 7 (-1)) 87 3 0) 90 74 (fun _ => nI 0)) 87 8 (nI 0)).1 87 8 = nI 0 := b_wh
    have v90 : ∀ j, j < 74 → (z_w (x_ar (z_w (z_w (z_w S 87 0 0) 87 7 (-1)) 87 3 0) 90 74 (fun _ => nI 0)) 87 8 (nI 0)).1 90 j = nI (g_B0 j) := fun j hj => by rw [b_wk (by omega), x_ar_in hj]; rfl
    have e1 : f_X9_plate S = (f_X9_advances (z_w (x_ar (z_w (z_w (z_w S 87 0 0) 87 7 (-1)) 87 3 0) 90 74 (fun _ => nI 0)) 87 8 (nI 0))).bind (fun r22 => f_X9_plate_25 1000 0 r22.2) := by
      rw [f_X9_plate, s9_beg0, Option.bind_some]
    generalize z_w (x_ar (z_w (z_w (z_w S 87 0 0) 87 7 (-1)) 87 3 0) 90 74 (fun _ => nI 0)) 87 8 (nI 0) = S1 at *
    have h2 : S1.1 87 2 = nI D.len := by rw [fa.2 _ _ (by unfold wG; omega)]; exact hS.2.2.2.2.1.1
    have ht : ∀ k, k < D.len → S1.1 88 k = nI (D.X k) := fun k hk => by rw [fa.2 _ _ (by unfold wG; omega)]; exact hS.2.2.2.2.1.2 k hk
    obtain ⟨S3, r3, f3, t3⟩ := s9_adv hl hx ht h2 (Nat.zero_le _) v3
    refine ⟨S3, ?_, x_fr_tr fa (x_fr_sub (wT9_G f3) (fun q j hq => Or.inl hq)), ?_⟩
    · rw [e1, r3, Option.bind_some]
      rfl
    · refine s9_read hl hx 1000 g_B0 0 0 0 0 0 0 S3 (D.len + 1) uB_00 (Nat.zero_le 1) (Nat.le_refl 0) (Nat.zero_le _) ⟨?_, fun j hj => ?_, ?_, ?_, fun k hk => ?_, t3⟩ (by omega) (by omega)
      · rw [f3.2 _ _ (by unfold wT9; omega)]; exact v7
      · rw [f3.2 _ _ (by unfold wT9; omega)]; exact v90 j hj
      · rw [f3.2 _ _ (by unfold wT9; omega)]; exact v8
      · rw [f3.2 _ _ (by unfold wT9; omega)]; exact h2
      · rw [f3.2 _ _ (by unfold wT9; omega)]; exact ht k hk
  rcases hr : g_run D.X D.len (D.len + 1) g_A0 with f | A'
  · refine ⟨-nI 10 - nI f, D, wD_mono hw (by omega), fun S hS => ?_, fun S hS => ?_⟩
    · obtain ⟨P, hP, h2, k1, _⟩ := rd8 S hS
      obtain ⟨S', r1, f1, fl⟩ := k1 f hr
      have hz : z_isP (20 - P) := by omega
      obtain ⟨P', nx, hP', h2', h3, h4, h5, h6, h7, h8, h9⟩ := hS
      have eP : P' = P := by rw [h2] at h2'; exact (congrArg Prod.fst h2').symm
      subst eP
      refine ⟨S', ?_, ⟨P', nx, hP, f1.1.trans h2, cP_fr h3 f1 (fun q j q1 q2 q3 => by unfold wRd at q3; omega) h0.2.2.1, cPl_fr h4 f1 (fun k j q1 q2 => by unfold wRd at q2; omega), ⟨h5.1, ?_, ?_, fun i hi => cPl_fr (h5.2.2.2 i hi) f1 (fun k j q1 q2 => by unfold wRd at q2; omega)⟩, ⟨?_, fun k hk => ?_⟩, ⟨?_, fun i hi hk => cPl_fr (h7.2 i hi hk) f1 (fun k j q1 q2 => by unfold wRd at q2; omega)⟩, cZ_fr h8 f1 (fun q j q1 q2 => by unfold wRd at q2; omega), cFr_fr h9 f1 (fun q j q1 q2 => by unfold wRd at q2; omega)⟩, yC_fr f1 (fun q j q1 q2 => by unfold wRd at q2; omega)⟩
      · have e22 : S.2.2 = 20 - P' := by rw [h2]
        have n1 : ¬ nI f = -1 := by
          rw [fa_eq, nI_toInt (by omega)]
          have : ((-1 : Int32)).toInt = -1 := by decide
          omega
        rw [f_X8_plate, e22, if_pos hz, r1, Option.bind_some, if_neg n1]
        rfl
      · rw [f1.2 _ _ (by unfold wRd; omega)]; exact h5.2.1
      · rw [f1.2 _ _ (by unfold wRd; omega)]; exact h5.2.2.1
      · rw [f1.2 _ _ (by unfold wRd; omega)]; exact h6.1
      · rw [f1.2 _ _ (by unfold wRd; omega)]; exact h6.2 k hk
      · rw [f1.2 _ _ (by unfold wRd; omega)]; exact h7.1
    · obtain ⟨S3, e3, f3, g3⟩ := rd9 S hS
      rw [hr] at g3
      obtain ⟨S', r4, f4⟩ := g3
      have fA : x_fr (fun q j => wG q j ∨ (q = 87 ∧ j = 0)) S S' := x_fr_tr f3 (x_fr_sub f4 (fun q j hq => Or.inl hq))
      refine ⟨S', e3.trans r4, ⟨fun i hi => ?_, fun p hp => ?_, mPl_fr hS.2.2.1 fA (fun j q => by unfold wG at q; omega), ⟨?_, fun i hi => mPl_fr (hS.2.2.2.1.2 i hi) fA (fun j q => by unfold wG at q; omega)⟩, ⟨?_, fun k hk => ?_⟩, fun i hi => ⟨?_, fun hk => mPl_fr ((hS.2.2.2.2.2.1 i hi).2 hk) fA (fun j q => by unfold wG at q; omega)⟩, mZ_fr hS.2.2.2.2.2.2 fA (fun q j q1 q2 => by unfold wG at q2; omega)⟩, yM_fr fA (fun q j h1 h2 => by unfold wG at h2; omega)⟩
      · rw [fA.2 _ _ (by unfold wG; omega)]; exact hS.1 i hi
      · rw [fA.2 _ _ (by unfold wG; omega)]; exact hS.2.1 p hp
      · rw [fA.2 _ _ (by unfold wG; omega)]; exact hS.2.2.2.1.1
      · rw [fA.2 _ _ (by unfold wG; omega)]; exact hS.2.2.2.2.1.1
      · rw [fA.2 _ _ (by unfold wG; omega)]; exact hS.2.2.2.2.1.2 k hk
      · rw [fA.2 _ _ (by unfold wG; omega)]; exact (hS.2.2.2.2.2.1 i hi).1
  · have uo := g_run_ok _ _ _ ua0 hr
    have wT' := g_srt_w uo.1.1
    have h0' := wT_b wT'
    refine ⟨nI A'.M, g_nD D (g_srt A'.B), wD_nD wT', fun S hS => ?_, fun S hS => ?_⟩
    · obtain ⟨P, hP, h2, _, k2⟩ := rd8 S hS
      obtain ⟨S1, r1, f1, p1, m1⟩ := k2 A' hr
      obtain ⟨P', nx, hP', h2', h3, h4, h5, h6, h7, h8, h9⟩ := hS
      have eP : P' = P := by rw [h2] at h2'; exact (congrArg Prod.fst h2').symm
      subst eP
      have hQ : 20 - P' = 3 ∨ 20 - P' = 17 := by omega
      have e22 : S.2.2 = 20 - P' := by rw [h2]
      have e12 : S1.2 = (P', 20 - P') := f1.1.trans h2
      -- the plates change places
      have fs : ∀ q j, ((S1.1, 20 - P', P') : zS).1 q j = S1.1 q j := fun _ _ => rfl
      obtain ⟨S2, r2, f2, c2⟩ := s2_begin (S := z_w ((S1.1, 20 - P', P') : zS) 1 1 0) wT' hQ (by
        have q := cP0_fr (S := ((S1.1, 20 - P', P') : zS)) (S' := z_w ((S1.1, 20 - P', P') : zS) 1 1 0) (P := 20 - P') (T := g_srt A'.B) p1.1 (x_fr_w (W := fun q _ => q = 1) x_fr_rf rfl) (fun q j q1 q2 q3 => by omega) h0'.2.2.1
        exact q)
      have fB : ∀ q j, ¬ (q = 1 ∨ q = 32 ∨ q = 33 ∨ (q = 34 ∧ j = 2) ∨ (q = 75 ∧ j = 0) ∨ q = 57 ∨ q = 69) → (z_w (z_w (z_w (z_w (z_w S2 34 2 0) 75 0 0) 1 8 0) 57 0 0) 69 0 (-9)).1 q j = S1.1 q j := fun q j hq => by
        rw [b_wk (by omega), b_wk (by omega), b_wk (by omega)]
        by_cases z1 : q = 75
        · subst z1
          rw [b_wj (by omega), b_wk (by omega), f2.2 _ _ (by unfold wE2; omega), b_wk (by omega)]
        · rw [b_wk z1]
          by_cases z2 : q = 34
          · subst z2
            rw [b_wj (by omega), f2.2 _ _ (by unfold wE2; omega), b_wk (by omega)]
          · rw [b_wk z2, f2.2 _ _ (by unfold wE2; omega), b_wk (by omega)]
      have fx : x_fr (fun q j => q = 1 ∨ q = 32 ∨ q = 33 ∨ (q = 34 ∧ j = 2) ∨ (q = 75 ∧ j = 0) ∨ q = 57 ∨ q = 69) ((S1.1, 20 - P', P') : zS) (z_w (z_w (z_w (z_w (z_w S2 34 2 0) 75 0 0) 1 8 0) 57 0 0) 69 0 (-9)) := ⟨f2.1, fB⟩
      have s2' : (z_w (z_w (z_w (z_w (z_w S2 34 2 0) 75 0 0) 1 8 0) 57 0 0) 69 0 (-9)).2 = (20 - P', P') := fx.1
      have cl : x_fr (fun q j => q = 34 ∨ q = 75 ∨ q = 1 ∨ q = 57 ∨ q = 69) S2 (z_w (z_w (z_w (z_w (z_w S2 34 2 0) 75 0 0) 1 8 0) 57 0 0) 69 0 (-9)) := x_fr_w (x_fr_w (x_fr_w (x_fr_w (x_fr_w x_fr_rf (by omega)) (by omega)) (by omega)) (by omega)) (by omega)
      refine ⟨z_w (z_w (z_w (z_w (z_w S2 34 2 0) 75 0 0) 1 8 0) 57 0 0) 69 0 (-9), ?_, ⟨20 - P', nx, hQ, ?_, ?_, cPl_fr c2 cl (fun k j q1 q2 => by omega), ⟨h5.1, ?_, ?_, fun i hi => absurd hi (Nat.not_lt_zero i)⟩, ⟨?_, fun k hk => absurd hk (Nat.not_lt_zero k)⟩, ⟨?_, fun i _ hk => absurd (show (0 : Nat).testBit i = true from hk) (by rw [Nat.zero_testBit]; decide)⟩, ⟨?_, fun e he => absurd he (Nat.not_lt_zero e)⟩, cFr_out _⟩, fun q j hq => ?_⟩
      · have z1 : z_isP P' := hP
        have z2 : z_isP (20 - P') := hQ
        have e13 : (z_w (z_w (z_w (z_w (z_w S2 34 2 0) 75 0 0) 1 8 0) 57 0 0) 69 0 (-9)).1 (20 - P') 13 = nI A'.M := by rw [fB _ _ (by omega)]; exact m1
        rw [f_X8_plate, e22, if_pos z2, r1, Option.bind_some, if_pos rfl]
        dsimp only
        rw [e12, if_pos z1, if_pos z2]
        have z3 : z_isP ((z_w ((S1.1, 20 - P', P') : zS) 1 1 0).2.1) := z2
        rw [if_pos z3]
        have r2' : f_X2_beginOn 32 ((z_w ((S1.1, 20 - P', P') : zS) 1 1 0).2.1) (z_w ((S1.1, 20 - P', P') : zS) 1 1 0) = some ((), S2) := r2
        rw [r2', Option.bind_some, f_X0_lose, Option.bind_some, f_X7_lose, Option.bind_some, f_X8_outdate, Option.bind_some]
        dsimp only
        rw [s2', if_pos z2, e13]
      · rw [s2', show 20 - (20 - P') = P' from by omega]
      · exact cP_fr (S := ((S1.1, 20 - P', P') : zS)) p1 fx (fun q j q1 q2 q3 => by omega) h0'.2.2.1
      · rw [fB _ _ (by omega), f1.2 _ _ (by unfold wRd; omega)]; exact h5.2.1
      · rw [b_wk (by omega), b_wk (by omega), b_wk (by omega), b_wk (by omega), b_wh]; rfl
      · rw [b_wk (by omega), b_wk (by omega), b_wj (by omega), b_wk (by omega), b_wk (by omega), f2.2 _ _ (by unfold wE2; omega), b_wh]; rfl
      · rw [b_wk (by omega), b_wk (by omega), b_wh]; rfl
      · rw [b_wk (by omega), b_wk (by omega), b_wk (by omega), b_wh]; rfl
      · rw [fB _ _ (by omega), f1.2 _ _ (by unfold wRd; omega)]
    · obtain ⟨S3, e3, f3, g3⟩ := rd9 S hS
      rw [hr] at g3
      obtain ⟨S4, r4, f4, w4, b4⟩ := g3
      obtain ⟨S5, r5, f5, b5⟩ := s9_sorts uo.1.1 b4
      obtain ⟨S6, r6, f6, m6, i6, p6, q1, q2, q3, q4, q5⟩ := s9_settles wT' b5
      refine ⟨S6, ?_, ⟨m6, i6, p6, ⟨q3, fun i hi => absurd hi (Nat.not_lt_zero i)⟩, ⟨q1, fun k hk => absurd hk (Nat.not_lt_zero k)⟩, fun i hi => ⟨?_, fun hk => absurd (show (0 : Nat).testBit i = true from hk) (by rw [Nat.zero_testBit]; decide)⟩, ⟨q2, fun e he => absurd he (Nat.not_lt_zero e)⟩⟩, ?_⟩
      · rw [e3, r4, f_X9_plate_100, s9_well w4, Option.bind_some, if_neg (c := nI 1 = 0) (by decide)]
        dsimp only
        rw [r5, Option.bind_some]
        dsimp only
        rw [r6, Option.bind_some]
      · show S6.1 94 i = (if (0 : Nat).testBit i = true then nI 1 else nI 0)
        rw [Nat.zero_testBit, if_neg (by decide)]
        rcases (by omega : i = 0 ∨ i = 1) with rfl | rfl
        · exact q4
        · exact q5
      · refine ⟨f6.1.trans (f5.1.trans (f4.1.trans f3.1)), fun q j hq => ?_⟩
        rw [f6.2 _ _ (by unfold wSt; omega), f5.2 _ _ (by omega), f4.2 _ _ (by unfold wG; omega), f3.2 _ _ (by unfold wG; omega)]
