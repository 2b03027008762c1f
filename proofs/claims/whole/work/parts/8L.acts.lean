/-! ===== burns, moves, follows ===== -/
def g_act (D : gD) (Pl' : Nat → Int32) : gD := gD.mk D.T D.X D.len Pl' (g_pU D.U D.sz D.Pl) (g_pz D.sz) D.I D.kb D.m D.A D.B D.H
noncomputable def g_mb (T : Nat → Nat) (Pl : Nat → Int32) (v : Nat) : Bool := decide (g_cut T (g_to Pl) v < T 1) && (g_lf Pl).testBit (g_cut T (g_to Pl) v) && !g_wf T (b_an (g_lf Pl) (2 ^ g_cut T (g_to Pl) v))
section AC
variable {D : gD} {τ v : Nat} {S : zS}
theorem wD_act {Pl' : Nat → Int32} (hw : wD D τ) (hp : wPl D.T (τ + 60) Pl') : wD (g_act D Pl') (τ + 60) := by
  have hw2 := wD_mono hw (σ := τ + 60) (by omega)
  have hs := hw.2.2.1
  refine ⟨hw2.1, hp, ?_, fun i hi => ?_, hw2.2.2.2.2.1, hw2.2.2.2.2.2.1, hw2.2.2.2.2.2.2.1, hw2.2.2.2.2.2.2.2.1, hw2.2.2.2.2.2.2.2.2⟩
  · show g_pz D.sz ≤ 10
    unfold g_pz
    split <;> omega
  · have hi' : i < g_pz D.sz := hi
    show wPl D.T (τ + 60) (g_pU D.U D.sz D.Pl i)
    unfold g_pz at hi'
    unfold g_pU
    by_cases c : D.sz < 10
    · rw [if_pos c] at hi' ⊢
      by_cases e : i = D.sz
      · rw [if_pos e]; exact hw2.2.1
      · rw [if_neg e]; exact hw2.2.2.2.1 i (by omega)
    · rw [if_neg c] at hi' ⊢
      by_cases e : i = 9
      · rw [if_pos e]; exact hw2.2.1
      · rw [if_neg e]; exact hw2.2.2.2.1 (i + 1) (by omega)
/-- the class: remembered, done, outdated -/
theorem CI_act {S1 S2 : zS} {Pl' : Nat → Int32} {nx' : Nat} (hw : wD D τ) (h : CI D S) (f1 : x_fr wA S S1) (u1 : cUr (g_pU D.U D.sz D.Pl) (g_pz D.sz) nx' S1) (f2 : x_fr wE2 S1 S2) (c2 : cPl Pl' 32 S2) : CI (g_act D Pl') (z_w (z_w S2 57 0 0) 69 0 (-9)) ∧ yC S (z_w (z_w S2 57 0 0) 69 0 (-9)) := by
  have h0 := wT_b hw.1
  obtain ⟨P, nx, hP, h2, h3, h4, h5, h6, h7, h8, h9⟩ := h
  have fo : x_fr (fun q _ => q = 57 ∨ q = 69) S2 (z_w (z_w S2 57 0 0) 69 0 (-9)) := x_fr_w (x_fr_w x_fr_rf (Or.inl rfl)) (Or.inr rfl)
  have fB : x_fr (fun q _ => q = 32 ∨ q = 33 ∨ q = 57 ∨ q = 69) S1 (z_w (z_w S2 57 0 0) 69 0 (-9)) := x_fr_tr (x_fr_sub f2 (fun q j hq => by unfold wE2 at hq; omega)) (x_fr_sub fo (fun q j hq => by omega))
  have fA : x_fr (fun q _ => q = 32 ∨ q = 33 ∨ q = 34 ∨ (36 ≤ q ∧ q ≤ 55) ∨ q = 57 ∨ q = 69) S (z_w (z_w S2 57 0 0) 69 0 (-9)) := x_fr_tr (x_fr_sub f1 (fun q j hq => by unfold wA at hq; omega)) (x_fr_sub fB (fun q j hq => by omega))
  refine ⟨⟨P, nx', hP, fA.1.trans h2, cP_fr h3 fA (fun q j q1 q2 q3 => by omega) h0.2.2.1, cPl_fr c2 fo (fun k j q1 q2 => by omega), ⟨u1.1, ?_, ?_, fun i hi => cPl_fr (u1.2.2.2 i hi) fB (fun k j q1 q2 => by omega)⟩, ⟨?_, fun k hk => ?_⟩, ⟨?_, fun i hi hk => cPl_fr (h7.2 i hi hk) fA (fun k j q1 q2 => by omega)⟩, cZ_fr h8 fA (fun q j q1 q2 => by omega), cFr_out _⟩, yC_fr fA (fun q j h1 h2 => by omega)⟩
  · rw [fB.2 _ _ (by omega)]; exact u1.2.1
  · rw [fB.2 _ _ (by omega)]; exact u1.2.2.1
  · rw [fA.2 _ _ (by omega)]; exact h6.1
  · rw [fA.2 _ _ (by omega)]; exact h6.2 k hk
  · rw [fA.2 _ _ (by omega)]; exact h7.1
theorem CI_move (hw : wD D τ) (hτ : τ < 2 ^ 20) (h : CI D S) (hv : v < D.T 0) : ∃ S', f_X8_moveTo (nI v) S = some ((), S') ∧ CI (g_act D (g_mP D.T D.Pl (g_to D.Pl) v)) S' ∧ yC S S' := by
  have w := hw.1
  have h0 := wT_b w
  have ht := wPl_to w hw.2.1 (by omega)
  obtain ⟨P, nx, hP, h2, h3, h4, h5, h6, h7, h8, h9⟩ := id h
  obtain ⟨S1, nx', r1, f1, u1⟩ := s0_rem h5 h4 (wPl_just hw.2.1) hw.2.2.1
  have hP1 := cP0_fr h3.1 f1 (fun q j q1 q2 q3 => by unfold wA at q3; omega) h0.2.2.1
  have h41 := cPl_fr h4 f1 (fun k j q1 q2 => by unfold wA at q2; omega)
  obtain ⟨S2, r2, f2, c2⟩ := s2_move hw.2.1 w hτ hP1 h41 ht.1 hv ht.2
  have e21 : S1.2.1 = P := by rw [f1.1, h2]
  refine ⟨_, ?_, CI_act hw h f1 u1 f2 c2⟩
  rw [f_X8_moveTo, r1, Option.bind_some]
  dsimp only
  rw [e21, if_pos (show z_isP P from hP), r2, Option.bind_some, f_X8_outdate, Option.bind_some]
theorem g_cut_ne {T : Nat → Nat} {u v : Nat} (w : wT T) (h : g_cut T u v < T 1) : u ≠ v := by
  have y : g_adj T (g_cut T u v) u v = true := x_f1_yes h
  have c := wT_c w h
  unfold g_adj at y
  simp only [Bool.or_eq_true, Bool.and_eq_true, beq_iff_eq] at y
  omega
theorem CI_burn (hw : wD D τ) (hτ : τ < 2 ^ 20) (h : CI D S) (hv : v < D.T 0) : (g_mb D.T D.Pl v = true → ∃ S', f_X8_burnTo (nI v) S = some (nI 1, S') ∧ CI (g_act D (g_bP D.T D.Pl (g_to D.Pl) v (g_cut D.T (g_to D.Pl) v))) S' ∧ yC S S') ∧ (¬ g_mb D.T D.Pl v = true → f_X8_burnTo (nI v) S = some (nI 0, S)) := by
  have w := hw.1
  have h0 := wT_b w
  have ht := wPl_to w hw.2.1 (by omega)
  have hl := wPl_lf w hw.2.1
  obtain ⟨P, nx, hP, h2, h3, h4, h5, h6, h7, h8, h9⟩ := id h
  have e21 : S.2.1 = P := by rw [h2]
  have hz : z_isP P := hP
  have e1 : S.1 32 1 = nI (g_to D.Pl) := (h4.1 1 (by omega)).trans ht.2
  have e0 : S.1 32 0 = nI (g_lf D.Pl) := (h4.1 0 (by omega)).trans hl.1
  have cb := s1_cutB (a := g_to D.Pl) (b := v) w h3.1 (by omega) (by omega)
  constructor
  · intro hm
    unfold g_mb at hm
    rw [Bool.and_eq_true, Bool.and_eq_true, decide_eq_true_eq, Bool.not_eq_true'] at hm
    obtain ⟨⟨m1, m2⟩, m3⟩ := hm
    have huv := g_cut_ne w m1
    have ml := s2_ml (p0 := 32) w h3 e0 hl.2.2 (c := g_cut D.T (g_to D.Pl) v) (by omega)
    rw [m3, if_neg (by decide)] at ml
    obtain ⟨S1, nx', r1, f1, u1⟩ := s0_rem h5 h4 (wPl_just hw.2.1) hw.2.2.1
    have hP1 := cP0_fr h3.1 f1 (fun q j q1 q2 q3 => by unfold wA at q3; omega) h0.2.2.1
    have h41 := cPl_fr h4 f1 (fun k j q1 q2 => by unfold wA at q2; omega)
    obtain ⟨S2, r2, f2, c2⟩ := s2_burn (c := g_cut D.T (g_to D.Pl) v) hw.2.1 w hτ hP hP1 h41 ht.1 hv huv ht.2 (by omega)
    have e212 : S1.2.1 = P := by rw [f1.1, h2]
    refine ⟨_, ?_, CI_act hw h f1 u1 f2 c2⟩
    rw [f_X8_burnTo, e21, if_pos hz, e1, cb, Option.bind_some, if_pos m1, if_neg (show ¬ nI (g_cut D.T (g_to D.Pl) v) = -9 from nI_n9 (by omega))]
    dsimp only
    rw [e0, b_has8 (by omega) (by omega), Option.bind_some, if_pos m2, if_neg (c := nI 1 = 0) (by decide)]
    dsimp only
    rw [e21, if_pos hz, ml, Option.bind_some, if_neg (c := nI 1 = 0) (by decide)]
    dsimp only
    rw [r1, Option.bind_some]
    dsimp only
    rw [e212, if_pos hz, r2, Option.bind_some, f_X8_outdate, Option.bind_some]
    rfl
  · intro hm
    rw [f_X8_burnTo, e21, if_pos hz, e1, cb, Option.bind_some]
    by_cases m1 : g_cut D.T (g_to D.Pl) v < D.T 1
    · rw [if_pos m1, if_neg (show ¬ nI (g_cut D.T (g_to D.Pl) v) = -9 from nI_n9 (by omega))]
      dsimp only
      rw [e0, b_has8 (by omega) (by omega), Option.bind_some]
      by_cases m2 : (g_lf D.Pl).testBit (g_cut D.T (g_to D.Pl) v) = true
      · have m3 : g_wf D.T (b_an (g_lf D.Pl) (2 ^ g_cut D.T (g_to D.Pl) v)) = true := by
          unfold g_mb at hm
          rw [decide_eq_true m1, m2] at hm
          simpa using hm
        have ml := s2_ml (p0 := 32) w h3 e0 hl.2.2 (c := g_cut D.T (g_to D.Pl) v) (by omega)
        rw [m3, if_pos rfl] at ml
        rw [if_pos m2, if_neg (c := nI 1 = 0) (by decide)]
        dsimp only
        rw [e21, if_pos hz, ml, Option.bind_some, if_pos (c := nI 0 = 0) nI_0]
        rfl
      · rw [if_neg m2, if_pos (c := nI 0 = 0) nI_0]
        rfl
    · rw [if_neg m1, if_pos (show (-nI 9 : Int32) = -9 from rfl)]
      rfl
/-! the reference -/
theorem MI_act {S1 S2 : zS} {Pl' : Nat → Int32} (h : MI D S) (f1 : x_fr wC S S1) (u1 : mUr (g_pU D.U D.sz D.Pl) (g_pz D.sz) S1) (f2 : x_fr (fun q j => q = 91) S1 S2) (c2 : mPl Pl' 91 0 S2) : MI (g_act D Pl') S2 ∧ yM S S2 := by
  have fA : x_fr (fun q j => q = 91 ∨ q = 92 ∨ (q = 87 ∧ j = 13)) S S2 := x_fr_tr (x_fr_sub f1 (fun q j hq => by unfold wC at hq; omega)) (x_fr_sub f2 (fun q j hq => by omega))
  refine ⟨⟨fun e he => ?_, fun p hp => ?_, c2, ⟨?_, fun e he => mPl_fr (u1.2 e he) f2 (fun j q => by omega)⟩, ⟨?_, fun k hk => ?_⟩, fun e he => ⟨?_, fun hk => mPl_fr ((h.2.2.2.2.2.1 e he).2 hk) fA (fun j q => by omega)⟩, mZ_fr h.2.2.2.2.2.2 fA (fun q j q1 q2 => by omega)⟩, yM_fr fA (fun q j h1 h2 => by omega)⟩
  · rw [fA.2 _ _ (by omega)]; exact h.1 e he
  · rw [fA.2 _ _ (by omega)]; exact h.2.1 p hp
  · rw [f2.2 _ _ (by omega)]; exact u1.1
  · rw [fA.2 _ _ (by omega)]; exact h.2.2.2.2.1.1
  · rw [fA.2 _ _ (by omega)]; exact h.2.2.2.2.1.2 k hk
  · rw [fA.2 _ _ (by omega)]; exact (h.2.2.2.2.2.1 e he).1
theorem MI_move (hw : wD D τ) (hτ : τ < 2 ^ 20) (h : MI D S) (hv : v < D.T 0) : ∃ S', f_X9_move (nI v) S = some (g_mP D.T D.Pl (g_to D.Pl) v 2, S') ∧ MI (g_act D (g_mP D.T D.Pl (g_to D.Pl) v)) S' ∧ yM S S' := by
  have w := hw.1
  have h0 := wT_b w
  have ht := wPl_to w hw.2.1 (by omega)
  have l3 := wPl_tm hτ hw.2.1
  have lw := g_way_le w ht.1 hv
  obtain ⟨S1, r1, f1, u1⟩ := s9_notes h.2.2.2.1 h.2.2.1 hw.2.2.1
  have p91 : ∀ j, j < 13 → S1.1 91 j = D.Pl j := fun j hj => by
    have := h.2.2.1 j hj
    rw [Nat.zero_add] at this
    rw [f1.2 _ _ (by unfold wC; omega)]
    exact this
  have hm1 : mT D.T 89 S1 := fun j hj => by rw [f1.2 _ _ (by unfold wC; omega)]; exact h.1 j hj
  have e1 : S1.1 91 1 = nI (g_to D.Pl) := (p91 1 (by omega)).trans ht.2
  have e2 : S1.1 91 2 = nI (g_tm D.Pl) := (p91 2 (by omega)).trans l3.1
  have f2 : x_fr (fun q j => q = 91) S1 (z_w (z_w (z_w S1 91 2 (nI (g_tm D.Pl + g_way D.T (g_to D.Pl) v))) 91 1 (nI v)) 91 3 (nI 0)) := x_fr_w (x_fr_w (x_fr_w x_fr_rf rfl) rfl) rfl
  have c2 : mPl (g_mP D.T D.Pl (g_to D.Pl) v) 91 0 (z_w (z_w (z_w S1 91 2 (nI (g_tm D.Pl + g_way D.T (g_to D.Pl) v))) 91 1 (nI v)) 91 3 (nI 0)) := fun j hj => by
    rw [Nat.zero_add]
    unfold g_mP
    by_cases j3 : j = 3
    · rw [j3, b_wh, if_pos rfl]
    · rw [b_wj j3, if_neg j3]
      by_cases j1 : j = 1
      · rw [j1, b_wh, if_pos rfl]
      · rw [b_wj j1, if_neg j1]
        by_cases j2 : j = 2
        · rw [j2, b_wh, if_pos rfl]
        · rw [b_wj j2, if_neg j2]; exact p91 j hj
  refine ⟨_, ?_, MI_act h f1 u1 f2 c2⟩
  have e := c2 2 (by omega)
  rw [Nat.zero_add] at e
  rw [f_X9_move, r1, Option.bind_some]
  dsimp only
  rw [e1, s9_way w hm1 ht.1 hv, Option.bind_some]
  dsimp only
  rw [e2, nI_add, show (0 : Int32) = nI 0 from rfl, e]
theorem MI_mb (hw : wD D τ) (h : MI D S) (hv : v < D.T 0) : f_X9_mayBurn (nI v) S = some (if g_mb D.T D.Pl v = true then nI 1 else nI 0, S) := by
  have w := hw.1
  have h0 := wT_b w
  have ht := wPl_to w hw.2.1 (by omega)
  have hl := wPl_lf w hw.2.1
  have e1 : S.1 91 1 = nI (g_to D.Pl) := (h.2.2.1 1 (by omega)).trans ht.2
  have e0 : S.1 91 0 = nI (g_lf D.Pl) := (h.2.2.1 0 (by omega)).trans hl.1
  have cb := s9_cut (u := g_to D.Pl) (v := v) w h.1 (by omega) (by omega)
  unfold g_mb
  rw [f_X9_mayBurn, e1, cb, Option.bind_some]
  by_cases m1 : g_cut D.T (g_to D.Pl) v < D.T 1
  · rw [if_pos m1, if_neg (show ¬ nI (g_cut D.T (g_to D.Pl) v) < 0 from nI_nlt (b := 0) (by omega) (by omega)), decide_eq_true m1, Bool.true_and]
    dsimp only
    rw [e0, b_has9 (by omega) (by omega), Option.bind_some]
    by_cases m2 : (g_lf D.Pl).testBit (g_cut D.T (g_to D.Pl) v) = true
    · have wf := s9_wf (b := b_an (g_lf D.Pl) (2 ^ g_cut D.T (g_to D.Pl) v)) w h.1 h.2.1 (b_an_lt hl.2.2)
      rw [if_pos m2, if_neg (c := nI 1 = 0) (by decide), m2, Bool.true_and]
      dsimp only
      rw [e0, show (1 : Int32) = nI 1 from rfl, x_bit (by omega), x_an (by omega), wf, Option.bind_some]
      by_cases m3 : g_wf D.T (b_an (g_lf D.Pl) (2 ^ g_cut D.T (g_to D.Pl) v)) = true
      · rw [if_pos m3, if_neg (c := nI 1 = 0) (by decide), m3]
        rfl
      · have m3' : g_wf D.T (b_an (g_lf D.Pl) (2 ^ g_cut D.T (g_to D.Pl) v)) = false := by simpa using m3
        rw [if_neg m3, if_pos (c := nI 0 = 0) nI_0, m3']
        rfl
    · have m2' : (g_lf D.Pl).testBit (g_cut D.T (g_to D.Pl) v) = false := by simpa using m2
      rw [if_neg m2, if_pos (c := nI 0 = 0) nI_0, m2', Bool.false_and]
      rfl
  · rw [if_neg m1, if_pos (show (-nI 1 : Int32) < 0 from by decide), decide_eq_false m1, Bool.false_and]
    rfl
theorem MI_burn (hw : wD D τ) (hτ : τ < 2 ^ 20) (h : MI D S) (hv : v < D.T 0) (hm : g_mb D.T D.Pl v = true) : ∃ S', f_X9_burn (nI v) S = some (g_bP D.T D.Pl (g_to D.Pl) v (g_cut D.T (g_to D.Pl) v) 2, S') ∧ MI (g_act D (g_bP D.T D.Pl (g_to D.Pl) v (g_cut D.T (g_to D.Pl) v))) S' ∧ yM S S' := by
  have w := hw.1
  have h0 := wT_b w
  have ht := wPl_to w hw.2.1 (by omega)
  have hl := wPl_lf w hw.2.1
  have l3 := wPl_tm hτ hw.2.1
  have lw := g_way_le w ht.1 hv
  have lb := g_bg_le hw.2.1 w hτ ht.1 hv
  unfold g_mb at hm
  rw [Bool.and_eq_true, Bool.and_eq_true, decide_eq_true_eq, Bool.not_eq_true'] at hm
  obtain ⟨⟨m1, m2⟩, m3⟩ := hm
  have huv := g_cut_ne w m1
  obtain ⟨S1, r1, f1, u1⟩ := s9_notes h.2.2.2.1 h.2.2.1 hw.2.2.1
  have hp1 : mPl D.Pl 91 0 S1 := mPl_fr h.2.2.1 f1 (fun j q => by unfold wC at q; omega)
  have p91 : ∀ j, j < 13 → S1.1 91 j = D.Pl j := fun j hj => by
    have := hp1 j hj
    rw [Nat.zero_add] at this
    exact this
  have hm1 : mT D.T 89 S1 := fun j hj => by rw [f1.2 _ _ (by unfold wC; omega)]; exact h.1 j hj
  have e1 : S1.1 91 1 = nI (g_to D.Pl) := (p91 1 (by omega)).trans ht.2
  have e0 : S1.1 91 0 = nI (g_lf D.Pl) := (p91 0 (by omega)).trans hl.1
  have bg := s9_begins hw.2.1 w hτ hm1 hp1 ht.1 hv
  have cb := s9_cut (u := g_to D.Pl) (v := v) w hm1 (by omega) (by omega)
  rw [if_pos m1] at cb
  generalize hc : g_cut D.T (g_to D.Pl) v = c at *
  have hmw : mT D.T 89 (z_w (z_w S1 91 0 (nI (b_an (g_lf D.Pl) (2 ^ c)))) 91 (4 + g_to D.Pl) (nI (g_bg D.T D.Pl (g_to D.Pl) v))) := fun j hj => by rw [b_wk (by omega), b_wk (by omega)]; exact hm1 j hj
  have wy := s9_way w hmw ht.1 hv
  have f2 : x_fr (fun q j => q = 91) S1 (z_w (z_w (z_w (z_w (z_w (z_w S1 91 0 (nI (b_an (g_lf D.Pl) (2 ^ c)))) 91 (4 + g_to D.Pl) (nI (g_bg D.T D.Pl (g_to D.Pl) v))) 91 2 (nI (g_bg D.T D.Pl (g_to D.Pl) v + g_way D.T (g_to D.Pl) v))) 91 (4 + v) (nI (g_bg D.T D.Pl (g_to D.Pl) v + g_way D.T (g_to D.Pl) v))) 91 1 (nI v)) 91 3 (nI 1)) := x_fr_w (x_fr_w (x_fr_w (x_fr_w (x_fr_w (x_fr_w x_fr_rf rfl) rfl) rfl) rfl) rfl) rfl
  have c2 : mPl (g_bP D.T D.Pl (g_to D.Pl) v c) 91 0 (z_w (z_w (z_w (z_w (z_w (z_w S1 91 0 (nI (b_an (g_lf D.Pl) (2 ^ c)))) 91 (4 + g_to D.Pl) (nI (g_bg D.T D.Pl (g_to D.Pl) v))) 91 2 (nI (g_bg D.T D.Pl (g_to D.Pl) v + g_way D.T (g_to D.Pl) v))) 91 (4 + v) (nI (g_bg D.T D.Pl (g_to D.Pl) v + g_way D.T (g_to D.Pl) v))) 91 1 (nI v)) 91 3 (nI 1)) := fun j hj => by
    rw [Nat.zero_add]
    unfold g_bP
    by_cases j3 : j = 3
    · rw [j3, b_wh, if_pos rfl]
    · rw [b_wj j3, if_neg j3]
      by_cases j1 : j = 1
      · rw [j1, b_wh, if_pos rfl]
      · rw [b_wj j1, if_neg j1]
        by_cases j0 : j = 0
        · rw [j0, b_wj (by omega), b_wj (by omega), b_wj (by omega), b_wh, if_pos rfl]
        · rw [if_neg j0]
          by_cases jv : j = 4 + v
          · rw [jv, b_wh, if_pos rfl]
          · rw [b_wj jv, if_neg jv]
            by_cases j2 : j = 2
            · rw [j2, b_wh, if_pos rfl]
            · rw [b_wj j2, if_neg j2]
              by_cases ju : j = 4 + g_to D.Pl
              · rw [ju, b_wh, if_pos rfl]
              · rw [b_wj ju, b_wj j0, if_neg ju]; exact p91 j hj
  refine ⟨_, ?_, MI_act h f1 u1 f2 c2⟩
  have e := c2 2 (by omega)
  rw [Nat.zero_add] at e
  rw [f_X9_burn, r1, Option.bind_some]
  dsimp only
  rw [e1, bg, Option.bind_some]
  dsimp only
  rw [cb, Option.bind_some, show (4 : Int32) = nI 4 from rfl, nI_add, nI_add, if_pos ((x_in (by omega)).mpr (by omega)), nI_clamp (by omega)]
  dsimp only
  rw [e0, show (1 : Int32) = nI 1 from rfl, x_bit (by omega), x_an (by omega), wy, Option.bind_some, if_pos ((x_in (by omega)).mpr (by omega)), nI_clamp (by omega)]
  dsimp only
  rw [nI_add, b_wh, e]
theorem CI_pl {D' : gD} {S' : zS} (h : CI D' S') {j : Nat} (hj : j < 4) : S'.1 32 j = D'.Pl j := by
  obtain ⟨P, nx, hP, h2, h3, h4, _⟩ := h
  exact h4.1 j hj
theorem MI_pl {D' : gD} {S' : zS} (h : MI D' S') {j : Nat} (hj : j < 13) : S'.1 91 j = D'.Pl j := by
  have := h.2.2.1 j hj
  rw [Nat.zero_add] at this
  exact this
theorem z_moves (hw : wD D τ) (hτ : τ < 2 ^ 20) (a1 : Int32) : zSim D τ (f_X8_moves a1) (f_X9_moves a1) := by
  have w := hw.1
  have h0 := wT_b w
  by_cases hk : ∃ k, k < D.T 0 ∧ a1 = nI k
  · obtain ⟨v, hv, rfl⟩ := hk
    have ht := wPl_to w hw.2.1 (by omega)
    by_cases c : v = g_to D.Pl
    · refine zSim_lk hw (-nI 1) (fun S hS => ⟨S, ?_, hS, yC_rf⟩) (fun S hS => ⟨z_w S 87 0 0, ?_, fr_th⟩)
      · have ep := CI_pl hS (j := 1) (by omega)
        obtain ⟨P, nx, hP, h2, h3, h4, h5, h6, h7, h8, h9⟩ := hS
        have e21 : S.2.1 = P := by rw [h2]
        rw [f_X8_moves, e21, if_pos (show z_isP P from hP), s1_hasT w h3.1 hv, Option.bind_some, if_neg (c := nI 1 = 0) (by decide)]
        dsimp only
        rw [ep, ht.2, c, if_pos rfl]
        rfl
      · have hm := MI_th hS
        rw [f_X9_moves, s9_isC (T := D.T) (by omega) hm.1 hv, Option.bind_some, if_neg (c := nI 1 = 0) (by decide)]
        dsimp only
        rw [MI_pl hm (j := 1) (by omega), ht.2, c, if_pos rfl]
        rfl
    · have ne : ¬ nI v = nI (g_to D.Pl) := fun z => c (nI_inj9 (by omega) (by omega) z)
      refine ⟨g_mP D.T D.Pl (g_to D.Pl) v 2, g_act D (g_mP D.T D.Pl (g_to D.Pl) v), wD_act hw (wPl_m hw.2.1 w hτ ht.1 hv), fun S hS => ?_, fun S hS => ?_⟩
      · obtain ⟨S', r1, c1, y1⟩ := CI_move hw hτ hS hv
        have ep := CI_pl hS (j := 1) (by omega)
        refine ⟨S', ?_, c1, y1⟩
        obtain ⟨P, nx, hP, h2, h3, h4, h5, h6, h7, h8, h9⟩ := hS
        have e21 : S.2.1 = P := by rw [h2]
        rw [f_X8_moves, e21, if_pos (show z_isP P from hP), s1_hasT w h3.1 hv, Option.bind_some, if_neg (c := nI 1 = 0) (by decide)]
        dsimp only
        rw [ep, ht.2, if_neg ne, r1, Option.bind_some, CI_pl c1 (j := 2) (by omega)]
        rfl
      · obtain ⟨S', r1, c1, y1⟩ := MI_move hw hτ (MI_th hS) hv
        refine ⟨S', ?_, c1, ⟨y1.1, fun q j hq => by rw [y1.2 q j hq, b_wk (by omega)]⟩⟩
        have hm := MI_th hS
        rw [f_X9_moves, s9_isC (T := D.T) (by omega) hm.1 hv, Option.bind_some, if_neg (c := nI 1 = 0) (by decide)]
        dsimp only
        rw [MI_pl hm (j := 1) (by omega), ht.2, if_neg ne, r1, Option.bind_some]
  · refine zSim_lk hw (-nI 1) (fun S hS => ⟨S, ?_, hS, yC_rf⟩) (fun S hS => ⟨z_w S 87 0 0, ?_, fr_th⟩)
    · obtain ⟨P, nx, hP, h2, h3, h4, h5, h6, h7, h8, h9⟩ := hS
      have e21 : S.2.1 = P := by rw [h2]
      rw [f_X8_moves, e21, if_pos (show z_isP P from hP), s1_hasF w h3.1 hk, Option.bind_some, if_pos (c := nI 0 = 0) nI_0]
      rfl
    · have hm := MI_th hS
      rw [f_X9_moves, s9_isCF (T := D.T) (by omega) hm.1 hk, Option.bind_some, if_pos (c := nI 0 = 0) nI_0]
      rfl
theorem z_burns (hw : wD D τ) (hτ : τ < 2 ^ 20) (a1 : Int32) : zSim D τ (f_X8_burns a1) (f_X9_burns a1) := by
  have w := hw.1
  have h0 := wT_b w
  by_cases hk : ∃ k, k < D.T 0 ∧ a1 = nI k
  · obtain ⟨v, hv, rfl⟩ := hk
    have ht := wPl_to w hw.2.1 (by omega)
    by_cases c : v = g_to D.Pl
    · refine zSim_lk hw (-nI 1) (fun S hS => ⟨S, ?_, hS, yC_rf⟩) (fun S hS => ⟨z_w S 87 0 0, ?_, fr_th⟩)
      · have ep := CI_pl hS (j := 1) (by omega)
        obtain ⟨P, nx, hP, h2, h3, h4, h5, h6, h7, h8, h9⟩ := hS
        have e21 : S.2.1 = P := by rw [h2]
        rw [f_X8_burns, e21, if_pos (show z_isP P from hP), s1_hasT w h3.1 hv, Option.bind_some, if_neg (c := nI 1 = 0) (by decide)]
        dsimp only
        rw [ep, ht.2, c, if_pos rfl]
        rfl
      · have hm := MI_th hS
        rw [f_X9_burns, s9_isC (T := D.T) (by omega) hm.1 hv, Option.bind_some, if_neg (c := nI 1 = 0) (by decide)]
        dsimp only
        rw [MI_pl hm (j := 1) (by omega), ht.2, c, if_pos rfl]
        rfl
    · have ne : ¬ nI v = nI (g_to D.Pl) := fun z => c (nI_inj9 (by omega) (by omega) z)
      by_cases mb : g_mb D.T D.Pl v = true
      · refine ⟨g_bP D.T D.Pl (g_to D.Pl) v (g_cut D.T (g_to D.Pl) v) 2, g_act D (g_bP D.T D.Pl (g_to D.Pl) v (g_cut D.T (g_to D.Pl) v)), wD_act hw (wPl_b hw.2.1 w hτ ht.1 hv), fun S hS => ?_, fun S hS => ?_⟩
        · obtain ⟨S', r1, c1, y1⟩ := (CI_burn hw hτ hS hv).1 mb
          have ep := CI_pl hS (j := 1) (by omega)
          refine ⟨S', ?_, c1, y1⟩
          obtain ⟨P, nx, hP, h2, h3, h4, h5, h6, h7, h8, h9⟩ := hS
          have e21 : S.2.1 = P := by rw [h2]
          rw [f_X8_burns, e21, if_pos (show z_isP P from hP), s1_hasT w h3.1 hv, Option.bind_some, if_neg (c := nI 1 = 0) (by decide)]
          dsimp only
          rw [ep, ht.2, if_neg ne, r1, Option.bind_some, if_neg (c := nI 1 = 0) (by decide), CI_pl c1 (j := 2) (by omega)]
          rfl
        · obtain ⟨S', r1, c1, y1⟩ := MI_burn hw hτ (MI_th hS) hv mb
          refine ⟨S', ?_, c1, ⟨y1.1, fun q j hq => by rw [y1.2 q j hq, b_wk (by omega)]⟩⟩
          have hm := MI_th hS
          have mm := MI_mb hw hm hv
          rw [if_pos mb] at mm
          rw [f_X9_burns, s9_isC (T := D.T) (by omega) hm.1 hv, Option.bind_some, if_neg (c := nI 1 = 0) (by decide)]
          dsimp only
          rw [MI_pl hm (j := 1) (by omega), ht.2, if_neg ne, mm, Option.bind_some, if_neg (c := nI 1 = 0) (by decide)]
          dsimp only
          rw [r1, Option.bind_some]
      · refine zSim_lk hw (-nI 2) (fun S hS => ⟨S, ?_, hS, yC_rf⟩) (fun S hS => ⟨z_w S 87 0 0, ?_, fr_th⟩)
        · have r1 := (CI_burn hw hτ hS hv).2 mb
          have ep := CI_pl hS (j := 1) (by omega)
          obtain ⟨P, nx, hP, h2, h3, h4, h5, h6, h7, h8, h9⟩ := hS
          have e21 : S.2.1 = P := by rw [h2]
          rw [f_X8_burns, e21, if_pos (show z_isP P from hP), s1_hasT w h3.1 hv, Option.bind_some, if_neg (c := nI 1 = 0) (by decide)]
          dsimp only
          rw [ep, ht.2, if_neg ne, r1, Option.bind_some, if_pos (c := nI 0 = 0) nI_0]
          rfl
        · have hm := MI_th hS
          have mm := MI_mb hw hm hv
          rw [if_neg mb] at mm
          rw [f_X9_burns, s9_isC (T := D.T) (by omega) hm.1 hv, Option.bind_some, if_neg (c := nI 1 = 0) (by decide)]
          dsimp only
          rw [MI_pl hm (j := 1) (by omega), ht.2, if_neg ne, mm, Option.bind_some, if_pos (c := nI 0 = 0) nI_0]
          rfl
  · refine zSim_lk hw (-nI 1) (fun S hS => ⟨S, ?_, hS, yC_rf⟩) (fun S hS => ⟨z_w S 87 0 0, ?_, fr_th⟩)
    · obtain ⟨P, nx, hP, h2, h3, h4, h5, h6, h7, h8, h9⟩ := hS
      have e21 : S.2.1 = P := by rw [h2]
      rw [f_X8_burns, e21, if_pos (show z_isP P from hP), s1_hasF w h3.1 hk, Option.bind_some, if_pos (c := nI 0 = 0) nI_0]
      rfl
    · have hm := MI_th hS
      rw [f_X9_burns, s9_isCF (T := D.T) (by omega) hm.1 hk, Option.bind_some, if_pos (c := nI 0 = 0) nI_0]
      rfl
theorem g_E_T0 {T : Nat → Nat} {b p κ x y : Nat} (w : wT T) (h : g_E T b p κ x y = true) : y < T 0 := by
  have h1 := g_E_w w κ x y h
  rcases (by omega : κ = 0 ∨ κ = 1) with rfl | rfl
  · rw [g_E_0] at h
    exact (g_M_in w h).2.1
  · have h2 := (g_E_1m w).mp h1.2.2.2.2
    have h3 := g_od_bit.mp h2.1
    exact g_deg_in w (by omega : 0 < g_deg T b y)
theorem g_np_pos {T : Nat → Nat} {b : Nat} (w : wT T) (hb : b < 2 ^ T 1) (h : b ≠ 0) : 0 < g_np T b := by
  obtain ⟨c, hc, hbit⟩ := x_ne0 hb h
  have := (g_po_ok w hc hbit).1
  omega
theorem z_follows (hw : wD D τ) (hτ : τ < 2 ^ 20) : zSim D τ f_X8_follows f_X9_follows := by
  have w := hw.1
  have h0 := wT_b w
  have hl := wPl_lf w hw.2.1
  have tl : g_tw D.T (g_lf D.Pl) (g_to D.Pl) ≤ 1000000 := g_lt_le _ _ _
  by_cases z : g_lf D.Pl = 0
  · refine zSim_lk hw (-nI 2) (fun S hS => ⟨S, ?_, hS, yC_rf⟩) (fun S hS => ⟨z_w S 87 0 0, ?_, fr_th⟩)
    · rw [f_X8_follows, CI_pl hS (j := 0) (by omega), hl.1, z, if_pos (c := nI 0 = 0) nI_0]
      rfl
    · rw [f_X9_follows, MI_pl (MI_th hS) (j := 0) (by omega), hl.1, z, if_pos (c := nI 0 = 0) nI_0]
      rfl
  · have npp := g_np_pos w hl.2.1 z
    have ht := wPl_to w hw.2.1 (np_pos npp)
    have nz : ¬ nI (g_lf D.Pl) = 0 := nI_ne0 (by omega) (by omega)
    by_cases c : g_tw D.T (g_lf D.Pl) (g_to D.Pl) = 1000000
    · refine zSim_lk hw (-nI 2) (fun S hS => ?_) (fun S hS => ?_)
      · obtain ⟨S', sv, ci, cs, fs⟩ := CI_survey hw hS
        refine ⟨S', ?_, ci, yC_wS fs⟩
        rw [f_X8_follows, CI_pl hS (j := 0) (by omega), hl.1, if_neg nz, sv, Option.bind_some]
        dsimp only
        rw [cs.2.2.2.1, c, if_neg (by decide)]
        rfl
      · have hm := MI_th hS
        obtain ⟨S', e, f, q, _⟩ := s9_tours w hm.1 ((hm.2.2.1 0 (by omega)).trans hl.1) hm.2.1 (by omega) ht.1 ((hm.2.2.1 1 (by omega)).trans ht.2)
        refine ⟨S', ?_, x_fr_tr fr_th (x_fr_sub f (fun q j hq => by unfold wTp at hq; unfold wQ; omega))⟩
        rw [f_X9_follows, MI_pl hm (j := 0) (by omega), hl.1, if_neg nz, e, Option.bind_some, if_pos c, if_pos (c := nI 0 = 0) nI_0]
        rfl
    · have oc := (g_os_step w ht.1 c npp).1
      have stl := g_st_lt w ht.1 oc
      have c8 : ∀ S, CI D S → ∃ S', f_X8_surveyed S = some ((), S') ∧ CI D S' ∧ cS D.T (g_lf D.Pl) (g_to D.Pl) S' ∧ yC S S' ∧ f_X8_follows S = (if nI (g_st D.T (g_lf D.Pl) (g_to D.Pl) (g_oc D.T (g_lf D.Pl) (g_to D.Pl) 0)) = nI (g_to D.Pl) then (if z_isP S'.2.1 then ((f_X5_go S'.2.1 (nI (g_oc D.T (g_lf D.Pl) (g_to D.Pl) 0)) S').bind (fun r77 => (f_X8_burnTo (r77.2.1 70 0) r77.2).bind (fun r90 => if r90.1 = 0 then (some ((-2), r90.2)) else (some (r90.2.1 32 1, r90.2))))) else none) else ((f_X8_moveTo (nI (g_st D.T (g_lf D.Pl) (g_to D.Pl) (g_oc D.T (g_lf D.Pl) (g_to D.Pl) 0))) S').bind (fun r56 => some (r56.2.1 32 1, r56.2)))) := fun S hS => by
        obtain ⟨S', sv, ci, cs, fs⟩ := CI_survey hw hS
        refine ⟨S', sv, ci, cs, yC_wS fs, ?_⟩
        rw [f_X8_follows, CI_pl hS (j := 0) (by omega), hl.1, if_neg nz, sv, Option.bind_some]
        dsimp only
        rw [cs.2.2.2.1, if_pos (show nI (g_tw D.T (g_lf D.Pl) (g_to D.Pl)) < 1000000 from nI_lt (b := 1000000) (by omega) (by omega)), cs.2.2.2.2 c 0 npp, s4_startOf cs.1.1 w oc, Option.bind_some]
        dsimp only
        rw [CI_pl ci (j := 1) (by omega), ht.2]
      have m9 : ∀ S, MI D S → ∃ S', MI D S' ∧ mQ D.T (g_lf D.Pl) S' ∧ yM S S' ∧ f_X9_follows S = (if nI (g_st D.T (g_lf D.Pl) (g_to D.Pl) (g_oc D.T (g_lf D.Pl) (g_to D.Pl) 0)) = nI (g_to D.Pl) then ((f_X9_rounds (nI (g_oc D.T (g_lf D.Pl) (g_to D.Pl) 0)) S').bind (fun r64 => (f_X9_mayBurn (r64.2.1 103 0) r64.2).bind (fun r77 => if r77.1 = 0 then (some ((-2), r77.2)) else ((f_X9_burn (r64.2.1 103 0) r77.2).bind (fun r88 => some (r88.2.1 91 1, r88.2)))))) else ((f_X9_move (nI (g_st D.T (g_lf D.Pl) (g_to D.Pl) (g_oc D.T (g_lf D.Pl) (g_to D.Pl) 0))) S').bind (fun r51 => some (r51.2.1 91 1, r51.2)))) := fun S hS => by
        have hm := MI_th hS
        obtain ⟨S', e, f, q, g⟩ := s9_tours w hm.1 ((hm.2.2.1 0 (by omega)).trans hl.1) hm.2.1 (by omega) ht.1 ((hm.2.2.1 1 (by omega)).trans ht.2)
        have fq := x_fr_tr fr_th (x_fr_sub f (V := wQ) (fun q j hq => by unfold wTp at hq; unfold wQ; omega))
        have hm2 := MI_work hS fq
        have e91 : S'.1 91 1 = nI (g_to D.Pl) := (MI_pl hm2 (by omega)).trans ht.2
        have st := s9_st w q (by omega) ht.1 e91 oc
        refine ⟨S', hm2, q, yM_fr fq (fun q j h1 h2 => by unfold wQ at h2; omega), ?_⟩
        rw [f_X9_follows, MI_pl hm (j := 0) (by omega), hl.1, if_neg nz, e, Option.bind_some, if_neg c, if_neg (c := nI 1 = 0) (by decide)]
        dsimp only
        rw [(g c).2 0 npp, st, Option.bind_some]
        dsimp only
        rw [e91, st, Option.bind_some]
      generalize hp : g_oc D.T (g_lf D.Pl) (g_to D.Pl) 0 = p at *
      by_cases s : g_st D.T (g_lf D.Pl) (g_to D.Pl) p = g_to D.Pl
      · have wl := g_wl_ok (t := g_to D.Pl) w oc (n := 0) (Nat.zero_le _)
        have np := g_ns_pos w oc
        have so := (wl.2.2 np).2.1
        have hv : g_wt D.T (g_lf D.Pl) (g_to D.Pl) p 0 < D.T 0 := by
          unfold g_so at so
          rw [Bool.and_eq_true] at so
          exact g_E_T0 w so.1
        generalize hvv : g_wt D.T (g_lf D.Pl) (g_to D.Pl) p 0 = v at *
        by_cases mb : g_mb D.T D.Pl v = true
        · refine ⟨nI v, g_act D (g_bP D.T D.Pl (g_to D.Pl) v (g_cut D.T (g_to D.Pl) v)), wD_act hw (wPl_b hw.2.1 w hτ ht.1 hv), fun S hS => ?_, fun S hS => ?_⟩
          · obtain ⟨S', sv, ci, cs, ys, eq⟩ := c8 S hS
            obtain ⟨P, nx, hP, h2, _⟩ := id ci
            have e21 : S'.2.1 = P := by rw [h2]
            obtain ⟨S2, e2, ci2, wr, f2⟩ := CI_go hw ci cs oc e21
            obtain ⟨S3, e3, ci3, y3⟩ := (CI_burn hw hτ ci2 hv).1 mb
            refine ⟨S3, ?_, ci3, fun q j hq => by rw [y3 q j hq, f2.2 _ _ (by unfold wW; omega), ys q j hq]⟩
            rw [eq, s, if_pos rfl, e21, if_pos (show z_isP P from hP), e2, Option.bind_some]
            dsimp only
            rw [(wr.2 0 np).1, hvv, e3, Option.bind_some, if_neg (c := nI 1 = 0) (by decide), CI_pl ci3 (j := 1) (by omega)]
            rfl
          · obtain ⟨S', hm2, q, ys, eq⟩ := m9 S hS
            obtain ⟨S2, e2, f2, wr⟩ := s9_rounds (t := g_to D.Pl) w q (by omega) ht.1 ((MI_pl hm2 (by omega)).trans ht.2) oc
            have hm3 := MI_work hm2 (x_fr_sub f2 (fun q j hq => by unfold wR at hq; omega))
            have mm := MI_mb hw hm3 hv
            rw [if_pos mb] at mm
            obtain ⟨S3, e3, mi3, y3⟩ := MI_burn hw hτ hm3 hv mb
            refine ⟨S3, ?_, mi3, ⟨y3.1.trans (f2.1.trans ys.1), fun q j hq => by rw [y3.2 q j hq, f2.2 _ _ (by unfold wR; omega), ys.2 q j hq]⟩⟩
            rw [eq, s, if_pos rfl, e2, Option.bind_some]
            dsimp only
            rw [(wr.2 0 np).1, hvv, mm, Option.bind_some, if_neg (c := nI 1 = 0) (by decide)]
            dsimp only
            rw [e3, Option.bind_some, MI_pl mi3 (j := 1) (by omega)]
            rfl
        · refine ⟨-nI 2, D, wD_mono hw (by omega), fun S hS => ?_, fun S hS => ?_⟩
          · obtain ⟨S', sv, ci, cs, ys, eq⟩ := c8 S hS
            obtain ⟨P, nx, hP, h2, _⟩ := id ci
            have e21 : S'.2.1 = P := by rw [h2]
            obtain ⟨S2, e2, ci2, wr, f2⟩ := CI_go hw ci cs oc e21
            have e3 := (CI_burn hw hτ ci2 hv).2 mb
            refine ⟨S2, ?_, ci2, fun q j hq => by rw [f2.2 _ _ (by unfold wW; omega), ys q j hq]⟩
            rw [eq, s, if_pos rfl, e21, if_pos (show z_isP P from hP), e2, Option.bind_some]
            dsimp only
            rw [(wr.2 0 np).1, hvv, e3, Option.bind_some, if_pos (c := nI 0 = 0) nI_0]
            rfl
          · obtain ⟨S', hm2, q, ys, eq⟩ := m9 S hS
            obtain ⟨S2, e2, f2, wr⟩ := s9_rounds (t := g_to D.Pl) w q (by omega) ht.1 ((MI_pl hm2 (by omega)).trans ht.2) oc
            have hm3 := MI_work hm2 (x_fr_sub f2 (fun q j hq => by unfold wR at hq; omega))
            have mm := MI_mb hw hm3 hv
            rw [if_neg mb] at mm
            refine ⟨S2, ?_, hm3, ⟨f2.1.trans ys.1, fun q j hq => by rw [f2.2 _ _ (by unfold wR; omega), ys.2 q j hq]⟩⟩
            rw [eq, s, if_pos rfl, e2, Option.bind_some]
            dsimp only
            rw [(wr.2 0 np).1, hvv, mm, Option.bind_some, if_pos (c := nI 0 = 0) nI_0]
            rfl
      · have ne : ¬ nI (g_st D.T (g_lf D.Pl) (g_to D.Pl) p) = nI (g_to D.Pl) := fun z => s (nI_inj9 (by omega) (by omega) z)
        refine ⟨nI (g_st D.T (g_lf D.Pl) (g_to D.Pl) p), g_act D (g_mP D.T D.Pl (g_to D.Pl) (g_st D.T (g_lf D.Pl) (g_to D.Pl) p)), wD_act hw (wPl_m hw.2.1 w hτ ht.1 stl), fun S hS => ?_, fun S hS => ?_⟩
        · obtain ⟨S', sv, ci, cs, ys, eq⟩ := c8 S hS
          obtain ⟨S2, e2, ci2, y2⟩ := CI_move hw hτ ci stl
          refine ⟨S2, ?_, ci2, fun q j hq => by rw [y2 q j hq, ys q j hq]⟩
          rw [eq, if_neg ne, e2, Option.bind_some, CI_pl ci2 (j := 1) (by omega)]
          rfl
        · obtain ⟨S', hm2, q, ys, eq⟩ := m9 S hS
          obtain ⟨S2, e2, mi2, y2⟩ := MI_move hw hτ hm2 stl
          refine ⟨S2, ?_, mi2, ⟨y2.1.trans ys.1, fun q j hq => by rw [y2.2 q j hq, ys.2 q j hq]⟩⟩
          rw [eq, if_neg ne, e2, Option.bind_some, MI_pl mi2 (j := 1) (by omega)]
          rfl
end AC
