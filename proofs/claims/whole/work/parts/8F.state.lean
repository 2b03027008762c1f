/-! ===== how things stand, on both sides ===== -/
def gD : Type := (Nat → Nat) × (Nat → Nat) × Nat × (Nat → Int32) × (Nat → Nat → Int32) × Nat × (Nat → Nat → Int32) × Nat × Nat × (Nat → Nat) × (Nat → Nat) × (Nat → Nat)
def gD.T (D : gD) : Nat → Nat := D.1
def gD.X (D : gD) : Nat → Nat := D.2.1
def gD.len (D : gD) : Nat := D.2.2.1
def gD.Pl (D : gD) : Nat → Int32 := D.2.2.2.1
def gD.U (D : gD) : Nat → Nat → Int32 := D.2.2.2.2.1
def gD.sz (D : gD) : Nat := D.2.2.2.2.2.1
def gD.I (D : gD) : Nat → Nat → Int32 := D.2.2.2.2.2.2.1
def gD.kb (D : gD) : Nat := D.2.2.2.2.2.2.2.1
def gD.m (D : gD) : Nat := D.2.2.2.2.2.2.2.2.1
def gD.A (D : gD) : Nat → Nat := D.2.2.2.2.2.2.2.2.2.1
def gD.B (D : gD) : Nat → Nat := D.2.2.2.2.2.2.2.2.2.2.1
def gD.H (D : gD) : Nat → Nat := D.2.2.2.2.2.2.2.2.2.2.2
def gD.mk (T : Nat → Nat) (X : Nat → Nat) (len : Nat) (Pl : Nat → Int32) (U : Nat → Nat → Int32) (sz : Nat) (I : Nat → Nat → Int32) (kb : Nat) (m : Nat) (A : Nat → Nat) (B : Nat → Nat) (H : Nat → Nat) : gD := (T, X, len, Pl, U, sz, I, kb, m, A, B, H)
def g_lf (Pl : Nat → Int32) : Nat := (Pl 0).toNatClampNeg
def g_to (Pl : Nat → Int32) : Nat := (Pl 1).toNatClampNeg
def g_tm (Pl : Nat → Int32) : Nat := (Pl 2).toNatClampNeg
/-- a plight is well-formed; its times are τ at most -/
def wPl (T : Nat → Nat) (τ : Nat) (Pl : Nat → Int32) : Prop := (∃ b, b < 2 ^ T 1 ∧ Pl 0 = nI b) ∧ ((T 0 = 0 ∧ Pl 1 = -nI 9) ∨ ∃ t, t < T 0 ∧ Pl 1 = nI t) ∧ (∃ x, x ≤ τ ∧ Pl 2 = nI x) ∧ (Pl 3 = nI 0 ∨ Pl 3 = nI 1) ∧ ∀ k, k < 9 → Pl (4 + k) = -nI 9 ∨ ∃ x, x ≤ τ ∧ Pl (4 + k) = nI x
def cPl (Pl : Nat → Int32) (q : Nat) (S : zS) : Prop := (∀ j, j < 4 → S.1 q j = Pl j) ∧ ∀ k, k < 9 → S.1 (q + 1) k = Pl (4 + k)
def mPl (Pl : Nat → Int32) (Q o : Nat) (S : zS) : Prop := ∀ j, j < 13 → S.1 Q (o + j) = Pl j
def wD (D : gD) (τ : Nat) : Prop := wT D.T ∧ wPl D.T τ D.Pl ∧ D.sz ≤ 10 ∧ (∀ i, i < D.sz → wPl D.T τ (D.U i)) ∧ D.len ≤ 110 ∧ (∀ k, k < D.len → D.X k ≤ 255) ∧ D.kb < 4 ∧ (∀ i, i < 2 → D.kb.testBit i = true → wPl D.T τ (D.I i)) ∧ wZ D.T D.m D.A D.B D.H
/-- what was worked out before may be used -/
def cFr (D : gD) (S : zS) : Prop := (S.1 57 0 = nI 0 ∨ (S.1 57 0 = nI 1 ∧ cS D.T (g_lf D.Pl) (g_to D.Pl) S)) ∧ (S.1 69 0 = -nI 9 ∨ ∃ p, p < g_np D.T (g_lf D.Pl) ∧ S.1 69 0 = nI p ∧ cWR D.T (g_lf D.Pl) (g_to D.Pl) p S)
def cU (D : gD) (nx : Nat) (S : zS) : Prop := nx < 10 ∧ S.1 34 1 = nI nx ∧ S.1 34 2 = nI D.sz ∧ ∀ i, i < D.sz → cPl (D.U i) (36 + 2 * ((nx + 10 - D.sz + i) % 10)) S
def cX (D : gD) (S : zS) : Prop := S.1 1 1 = nI D.len ∧ ∀ k, k < D.len → S.1 2 k = nI (D.X k)
def cI (D : gD) (S : zS) : Prop := S.1 1 8 = nI D.kb ∧ ∀ i, i < 2 → D.kb.testBit i = true → cPl (D.I i) (83 + 2 * i) S
def CI (D : gD) (S : zS) : Prop := ∃ P nx, (P = 3 ∨ P = 17) ∧ S.2 = (P, 20 - P) ∧ cP D.T P S ∧ cPl D.Pl 32 S ∧ cU D nx S ∧ cX D S ∧ cI D S ∧ cZ D.m D.A D.B D.H S ∧ cFr D S
def mU (D : gD) (S : zS) : Prop := S.1 87 13 = nI D.sz ∧ ∀ i, i < D.sz → mPl (D.U i) 92 (13 * i) S
def mX (D : gD) (S : zS) : Prop := S.1 87 2 = nI D.len ∧ ∀ k, k < D.len → S.1 88 k = nI (D.X k)
def mI (D : gD) (S : zS) : Prop := ∀ i, i < 2 → S.1 94 i = (if D.kb.testBit i = true then nI 1 else nI 0) ∧ (D.kb.testBit i = true → mPl (D.I i) 93 (13 * i) S)
def MI (D : gD) (S : zS) : Prop := mT D.T 89 S ∧ (∀ p, p < D.T 2 → S.1 98 p = nI (g_in D.T p)) ∧ mPl D.Pl 91 0 S ∧ mU D S ∧ mX D S ∧ mI D S ∧ mZ D.m D.A D.B D.H S
/-- a call of the class leaves the reference alone, and the other way round -/
def yC (S S' : zS) : Prop := ∀ q j, 87 ≤ q → S'.1 q j = S.1 q j
def yM (S S' : zS) : Prop := S'.2 = S.2 ∧ ∀ q j, q < 87 → S'.1 q j = S.1 q j
def zSim (D : gD) (τ : Nat) (f8 f9 : zS → Option (Int32 × zS)) : Prop := ∃ r D', wD D' (τ + 60) ∧ (∀ S, CI D S → ∃ S', f8 S = some (r, S') ∧ CI D' S' ∧ yC S S') ∧ (∀ S, MI D S → ∃ S', f9 S = some (r, S') ∧ MI D' S' ∧ yM S S')
section ST
variable {D : gD} {S S' : zS} {τ : Nat}
theorem yC_fr {W : Nat → Nat → Prop} (hf : x_fr W S S') (hw : ∀ q j, 87 ≤ q → ¬ W q j) : yC S S' := fun q j hq => hf.2 q j (hw q j hq)
theorem yM_fr {W : Nat → Nat → Prop} (hf : x_fr W S S') (hw : ∀ q j, q < 87 → ¬ W q j) : yM S S' := ⟨hf.1, fun q j hq => hf.2 q j (hw q j hq)⟩
theorem yC_rf : yC S S := fun _ _ _ => rfl
theorem yM_rf : yM S S := ⟨rfl, fun _ _ _ => rfl⟩
theorem cPl_fr {Pl : Nat → Int32} {q : Nat} {W : Nat → Nat → Prop} (h : cPl Pl q S) (hf : x_fr W S S') (hw : ∀ k j, k = q ∨ k = q + 1 → ¬ W k j) : cPl Pl q S' :=
  ⟨fun j hj => by rw [hf.2 _ _ (hw q j (by omega))]; exact h.1 j hj, fun k hk => by rw [hf.2 _ _ (hw (q + 1) k (by omega))]; exact h.2 k hk⟩
theorem mPl_fr {Pl : Nat → Int32} {Q o : Nat} {W : Nat → Nat → Prop} (h : mPl Pl Q o S) (hf : x_fr W S S') (hw : ∀ j, ¬ W Q j) : mPl Pl Q o S' := fun j hj => by rw [hf.2 _ _ (hw (o + j))]; exact h j hj
theorem MI_yC (h : MI D S) (hy : yC S S') : MI D S' := by
  obtain ⟨h1, h2, h3, h4, h5, h6, h7⟩ := h
  refine ⟨fun j hj => ?_, fun p hp => ?_, fun j hj => ?_, ⟨?_, fun i hi j hj => ?_⟩, ⟨?_, fun k hk => ?_⟩, fun i hi => ⟨?_, fun hk j hj => ?_⟩, ?_, fun e he => ⟨?_, ?_, ?_⟩⟩
  · rw [hy _ _ (by omega)]; exact h1 j hj
  · rw [hy _ _ (by omega)]; exact h2 p hp
  · rw [hy _ _ (by omega)]; exact h3 j hj
  · rw [hy _ _ (by omega)]; exact h4.1
  · rw [hy _ _ (by omega)]; exact h4.2 i hi j hj
  · rw [hy _ _ (by omega)]; exact h5.1
  · rw [hy _ _ (by omega)]; exact h5.2 k hk
  · rw [hy _ _ (by omega)]; exact (h6 i hi).1
  · rw [hy _ _ (by omega)]; exact (h6 i hi).2 hk j hj
  · rw [hy _ _ (by omega)]; exact h7.1
  · rw [hy _ _ (by omega)]; exact (h7.2 e he).1
  · rw [hy _ _ (by omega)]; exact (h7.2 e he).2.1
  · rw [hy _ _ (by omega)]; exact (h7.2 e he).2.2
theorem cFr_fr {W : Nat → Nat → Prop} (h : cFr D S) (hf : x_fr W S S') (hw : ∀ q j, 57 ≤ q ∧ q ≤ 71 → ¬ W q j) : cFr D S' := by
  refine ⟨?_, ?_⟩
  · rcases h.1 with q | q
    · exact Or.inl (by rw [hf.2 _ _ (hw 57 0 (by omega))]; exact q)
    · exact Or.inr ⟨by rw [hf.2 _ _ (hw 57 0 (by omega))]; exact q.1, cS_fr q.2 hf (fun q j h1 => hw q j (by omega))⟩
  · rcases h.2 with q | ⟨p, hp, q1, q2⟩
    · exact Or.inl (by rw [hf.2 _ _ (hw 69 0 (by omega))]; exact q)
    · refine Or.inr ⟨p, hp, by rw [hf.2 _ _ (hw 69 0 (by omega))]; exact q1, by rw [hf.2 _ _ (hw 69 1 (by omega))]; exact q2.1, fun i hi => ⟨?_, ?_⟩⟩
      · rw [hf.2 _ _ (hw 70 i (by omega))]; exact (q2.2 i hi).1
      · rw [hf.2 _ _ (hw 71 i (by omega))]; exact (q2.2 i hi).2
/-- the class: only what is worked out, and rows used on the way, has changed -/
theorem CI_work (h : CI D S) (hT : D.T 2 ≤ 4) (hf : x_fr (fun q _ => (57 ≤ q ∧ q ≤ 74) ∨ (79 ≤ q ∧ q ≤ 82)) S S') (hc : cFr D S') : CI D S' := by
  obtain ⟨P, nx, hP, h2, h3, h4, h5, h6, h7, h8, h9⟩ := h
  refine ⟨P, nx, hP, hf.1.trans h2, cP_fr h3 hf (fun q j q1 q2 q3 => by omega) hT, cPl_fr h4 hf (fun k j q1 q2 => by omega), ⟨h5.1, ?_, ?_, fun i hi => cPl_fr (h5.2.2.2 i hi) hf (fun k j q1 q2 => by omega)⟩, ⟨?_, fun k hk => ?_⟩, ⟨?_, fun i hi hk => cPl_fr (h7.2 i hi hk) hf (fun k j q1 q2 => by omega)⟩, cZ_fr h8 hf (fun q j q1 q2 => by omega), hc⟩
  · rw [hf.2 _ _ (by omega)]; exact h5.2.1
  · rw [hf.2 _ _ (by omega)]; exact h5.2.2.1
  · rw [hf.2 _ _ (by omega)]; exact h6.1
  · rw [hf.2 _ _ (by omega)]; exact h6.2 k hk
  · rw [hf.2 _ _ (by omega)]; exact h7.1
theorem CI_yM (h : CI D S) (hT : D.T 2 ≤ 4) (hy : yM S S') : CI D S' := by
  have hf : x_fr (fun q _ => 87 ≤ q) S S' := ⟨hy.1, fun q j hq => hy.2 q j (by omega)⟩
  obtain ⟨P, nx, hP, h2, h3, h4, h5, h6, h7, h8, h9⟩ := h
  refine ⟨P, nx, hP, hf.1.trans h2, cP_fr h3 hf (fun q j q1 q2 q3 => by omega) hT, cPl_fr h4 hf (fun k j q1 q2 => by omega), ⟨h5.1, ?_, ?_, fun i hi => cPl_fr (h5.2.2.2 i hi) hf (fun k j q1 q2 => by omega)⟩, ⟨?_, fun k hk => ?_⟩, ⟨?_, fun i hi hk => cPl_fr (h7.2 i hi hk) hf (fun k j q1 q2 => by omega)⟩, cZ_fr h8 hf (fun q j q1 q2 => by omega), cFr_fr h9 hf (fun q j q1 q2 => by omega)⟩
  · rw [hf.2 _ _ (by omega)]; exact h5.2.1
  · rw [hf.2 _ _ (by omega)]; exact h5.2.2.1
  · rw [hf.2 _ _ (by omega)]; exact h6.1
  · rw [hf.2 _ _ (by omega)]; exact h6.2 k hk
  · rw [hf.2 _ _ (by omega)]; exact h7.1
/-- the reference: only rows used on the way have changed -/
theorem MI_work (h : MI D S) (hf : x_fr (fun q j => (q = 87 ∧ (j = 0 ∨ 20 ≤ j)) ∨ 99 ≤ q) S S') : MI D S' := by
  obtain ⟨h1, h2, h3, h4, h5, h6, h7⟩ := h
  refine ⟨fun j hj => ?_, fun p hp => ?_, fun j hj => ?_, ⟨?_, fun i hi j hj => ?_⟩, ⟨?_, fun k hk => ?_⟩, fun i hi => ⟨?_, fun hk j hj => ?_⟩, ?_, fun e he => ⟨?_, ?_, ?_⟩⟩
  · rw [hf.2 _ _ (by omega)]; exact h1 j hj
  · rw [hf.2 _ _ (by omega)]; exact h2 p hp
  · rw [hf.2 _ _ (by omega)]; exact h3 j hj
  · rw [hf.2 _ _ (by omega)]; exact h4.1
  · rw [hf.2 _ _ (by omega)]; exact h4.2 i hi j hj
  · rw [hf.2 _ _ (by omega)]; exact h5.1
  · rw [hf.2 _ _ (by omega)]; exact h5.2 k hk
  · rw [hf.2 _ _ (by omega)]; exact (h6 i hi).1
  · rw [hf.2 _ _ (by omega)]; exact (h6 i hi).2 hk j hj
  · rw [hf.2 _ _ (by omega)]; exact h7.1
  · rw [hf.2 _ _ (by omega)]; exact (h7.2 e he).1
  · rw [hf.2 _ _ (by omega)]; exact (h7.2 e he).2.1
  · rw [hf.2 _ _ (by omega)]; exact (h7.2 e he).2.2
theorem wPl_mono {T : Nat → Nat} {Pl : Nat → Int32} {σ : Nat} (h : wPl T τ Pl) (hs : τ ≤ σ) : wPl T σ Pl := by
  obtain ⟨h1, h2, ⟨x, hx, h3⟩, h4, h5⟩ := h
  refine ⟨h1, h2, ⟨x, by omega, h3⟩, h4, fun k hk => ?_⟩
  rcases h5 k hk with q | ⟨y, hy, q⟩
  · exact Or.inl q
  · exact Or.inr ⟨y, by omega, q⟩
theorem wD_mono {σ : Nat} (h : wD D τ) (hs : τ ≤ σ) : wD D σ :=
  ⟨h.1, wPl_mono h.2.1 hs, h.2.2.1, fun i hi => wPl_mono (h.2.2.2.1 i hi) hs, h.2.2.2.2.1, h.2.2.2.2.2.1, h.2.2.2.2.2.2.1, fun i hi hk => wPl_mono (h.2.2.2.2.2.2.2.1 i hi hk) hs, h.2.2.2.2.2.2.2.2⟩
theorem wPl_lf {T : Nat → Nat} {Pl : Nat → Int32} (w : wT T) (h : wPl T τ Pl) : Pl 0 = nI (g_lf Pl) ∧ g_lf Pl < 2 ^ T 1 ∧ g_lf Pl < 2 ^ 14 := by
  obtain ⟨⟨b, hb, e⟩, _⟩ := h
  have h0 := wT_b w
  have l : (2 : Nat) ^ T 1 ≤ 2 ^ 14 := Nat.pow_le_pow_right (by decide) (by omega)
  have e2 : g_lf Pl = b := by unfold g_lf; rw [e, nI_clamp (by omega)]
  rw [e2]
  exact ⟨e, hb, by omega⟩
theorem wPl_to {T : Nat → Nat} {Pl : Nat → Int32} (w : wT T) (h : wPl T τ Pl) : 0 < T 0 → g_to Pl < T 0 ∧ Pl 1 = nI (g_to Pl) := by
  intro hp
  have h0 := wT_b w
  rcases h.2.1 with q | ⟨t, ht, e⟩
  · omega
  · have e2 : g_to Pl = t := by unfold g_to; rw [e, nI_clamp (by omega)]
    rw [e2]
    exact ⟨ht, e⟩
theorem wPl_tm {T : Nat → Nat} {Pl : Nat → Int32} (hτ : τ < 2 ^ 20) (h : wPl T τ Pl) : Pl 2 = nI (g_tm Pl) ∧ g_tm Pl ≤ τ := by
  obtain ⟨x, hx, e⟩ := h.2.2.1
  have e2 : g_tm Pl = x := by unfold g_tm; rw [e, nI_clamp (by omega)]
  rw [e2]
  exact ⟨e, hx⟩
/-- a look that changes nothing -/
theorem zSim_look {f8 f9 : zS → Option (Int32 × zS)} (hw : wD D τ) (r : Int32) (h8 : ∀ S, CI D S → ∃ S', f8 S = some (r, S') ∧ CI D S' ∧ yC S S') (h9 : ∀ S, MI D S → ∃ S', f9 S = some (r, S') ∧ x_fr (fun q j => (q = 87 ∧ (j = 0 ∨ 20 ≤ j)) ∨ 99 ≤ q) S S') : zSim D τ f8 f9 := by
  refine ⟨r, D, wD_mono hw (by omega), h8, fun S hS => ?_⟩
  obtain ⟨S', e, f⟩ := h9 S hS
  exact ⟨S', e, MI_work hS f, yM_fr f (fun q j h1 h2 => by omega)⟩
/-- the class's survey, as a call finds it -/
theorem CI_survey (hw : wD D τ) (h : CI D S) : ∃ S', f_X8_surveyed S = some ((), S') ∧ CI D S' ∧ cS D.T (g_lf D.Pl) (g_to D.Pl) S' ∧ x_fr wS S S' := by
  have h0 := wT_b hw.1
  have hl := wPl_lf hw.1 hw.2.1
  have ht := wPl_to hw.1 hw.2.1
  obtain ⟨P, nx, hP, h2, h3, h4, h5, h6, h7, h8, h9⟩ := id h
  have l32 : S.1 32 0 = nI (g_lf D.Pl) := (h4.1 0 (by omega)).trans hl.1
  obtain ⟨S', e, f, c, d⟩ := s8_surveyed (b := g_lf D.Pl) (t := g_to D.Pl) hw.1 (by rw [h2]) h3 hP (by omega) l32 (fun z => ⟨(ht z).1, (h4.1 1 (by omega)).trans (ht z).2⟩) h9.1
  refine ⟨S', e, CI_work h (by omega) (x_fr_sub f (fun q j hq => by unfold wS at hq; omega)) ⟨Or.inr ⟨d, c⟩, ?_⟩, c, f⟩
  rcases h9.2 with q | ⟨p, hp, q1, q2⟩
  · exact Or.inl (by rw [f.2 _ _ (by unfold wS; omega)]; exact q)
  · refine Or.inr ⟨p, hp, by rw [f.2 _ _ (by unfold wS; omega)]; exact q1, by rw [f.2 _ _ (by unfold wS; omega)]; exact q2.1, fun i hi => ⟨?_, ?_⟩⟩
    · rw [f.2 _ _ (by unfold wS; omega)]; exact (q2.2 i hi).1
    · rw [f.2 _ _ (by unfold wS; omega)]; exact (q2.2 i hi).2
/-- the reference's pieces, as a call finds them -/
theorem MI_pieces (hw : wD D τ) (h : MI D S) : ∃ S', f_X9_pieces (z_w S 87 0 0) = some ((), S') ∧ x_fr (fun q j => (q = 87 ∧ (j = 0 ∨ j = 23)) ∨ q = 99 ∨ q = 100) S S' ∧ mQ D.T (g_lf D.Pl) S' := by
  have hl := wPl_lf hw.1 hw.2.1
  have fr0 : x_fr (fun q j => (q = 87 ∧ (j = 0 ∨ j = 23)) ∨ q = 99 ∨ q = 100) S (z_w S 87 0 0) := x_fr_w x_fr_rf (Or.inl ⟨rfl, Or.inl rfl⟩)
  have hm : mT D.T 89 (z_w S 87 0 0) := fun j hj => by rw [b_wk (by omega)]; exact h.1 j hj
  have h91 : (z_w S 87 0 0).1 91 0 = nI (g_lf D.Pl) := by rw [b_wk (by omega)]; exact (h.2.2.1 0 (by omega)).trans hl.1
  have hin : ∀ p, p < D.T 2 → (z_w S 87 0 0).1 98 p = nI (g_in D.T p) := fun p hp => by rw [b_wk (by omega)]; exact h.2.1 p hp
  have e := s9_pieces hw.1 hm h91 (by omega)
  refine ⟨_, e, ?_, mQ_pieces hm h91 hin⟩
  exact x_fr_w (x_fr_a (x_fr_a fr0 (fun _ _ => Or.inr (Or.inl rfl))) (fun _ _ => Or.inr (Or.inr rfl))) (Or.inl ⟨rfl, Or.inr rfl⟩)
end ST
