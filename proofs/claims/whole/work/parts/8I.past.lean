/-! ===== plights kept and taken back ===== -/
theorem b_wrow {S : zS} {q i k : Nat} {x : Int32} (h : k ≠ q) : (z_w S q i x).1 k = S.1 k := funext (fun _ => b_wk h)
def wB (p : Nat) (q _j : Nat) : Prop := q = p ∨ q = p + 1
theorem s2_become {S : zS} {p0 p1 : Nat} {Pl : Nat → Int32} (h : cPl Pl p1 S) (hj : Pl 3 = nI 0 ∨ Pl 3 = nI 1) (h1 : p0 ≠ p1) (h2 : p0 + 1 ≠ p1) (h3 : p1 + 1 ≠ p0) : ∃ S', f_X2_become p0 p1 S = some ((), S') ∧ x_fr (wB p0) S S' ∧ cPl Pl p0 S' := by
  have e3 := h.1 3 (by omega)
  have hj' : Pl 3 = 0 ∨ Pl 3 = 1 := hj
  have z0 : (0 : Int32).toNatClampNeg = 0 := by decide
  have z9 : (9 : Int32).toNatClampNeg = 9 := by decide
  unfold f_X2_become
  simp (disch := omega) only [b_wk, b_wrow, e3, if_pos hj', z0, z9]
  refine ⟨_, rfl, ⟨rfl, fun q j hq => ?_⟩, fun j hj => ?_, fun k hk => ?_⟩
  · unfold wB at hq
    show z_ui _ (p0 + 1) _ q j = _
    unfold z_ui
    rw [if_neg (by omega), b_wk (by omega), b_wk (by omega), b_wk (by omega), b_wk (by omega)]
  · show z_ui _ (p0 + 1) _ p0 j = _
    unfold z_ui
    rw [if_neg (by omega)]
    rcases (by omega : j = 0 ∨ j = 1 ∨ j = 2 ∨ j = 3) with rfl | rfl | rfl | rfl
    · rw [b_wj (by omega), b_wj (by omega), b_wj (by omega), b_wh]; exact h.1 0 (by omega)
    · rw [b_wj (by omega), b_wj (by omega), b_wh]; exact h.1 1 (by omega)
    · rw [b_wj (by omega), b_wh]; exact h.1 2 (by omega)
    · rw [b_wh]
  · show z_ui _ (p0 + 1) _ (p0 + 1) k = _
    unfold z_ui va_cpy
    rw [if_pos rfl, if_pos ⟨by omega, by omega⟩, Nat.sub_zero, Nat.zero_add]
    exact h.2 k hk
def g_pU (U : Nat → Nat → Int32) (sz : Nat) (Pl : Nat → Int32) : Nat → Nat → Int32 := fun i => if sz < 10 then (if i = sz then Pl else U i) else (if i = 9 then Pl else U (i + 1))
def g_pz (sz : Nat) : Nat := if sz < 10 then sz + 1 else 10
def cUr (U : Nat → Nat → Int32) (sz nx : Nat) (S : zS) : Prop := nx < 10 ∧ S.1 34 1 = nI nx ∧ S.1 34 2 = nI sz ∧ ∀ i, i < sz → cPl (U i) (36 + 2 * ((nx + 10 - sz + i) % 10)) S
def wA (q _j : Nat) : Prop := q = 34 ∨ (36 ≤ q ∧ q ≤ 55)
theorem s0_rem {S : zS} {U : Nat → Nat → Int32} {sz nx : Nat} {Pl : Nat → Int32} (h : cUr U sz nx S) (hp : cPl Pl 32 S) (hj : Pl 3 = nI 0 ∨ Pl 3 = nI 1) (hs : sz ≤ 10) : ∃ S' nx', f_X0_remember 32 S = some ((), S') ∧ x_fr wA S S' ∧ cUr (g_pU U sz Pl) (g_pz sz) nx' S' := by
  obtain ⟨hn, e1, e2, hu⟩ := h
  obtain ⟨S1, r1, f1, c1⟩ := s2_become (p0 := 36 + 2 * nx) hp hj (by omega) (by omega) (by omega)
  have e1' : S1.1 34 1 = nI nx := by rw [f1.2 _ _ (by unfold wB; omega)]; exact e1
  have e2' : S1.1 34 2 = nI sz := by rw [f1.2 _ _ (by unfold wB; omega)]; exact e2
  have r35 : ∀ t : Nat, f_X0_remember_35 32 (nI t) S1 = some ((), z_w (z_w S1 34 1 (nI t)) 34 2 (nI (g_pz sz))) := fun t => by
    rw [f_X0_remember_35, b_wj (by omega), e2', show (1 : Int32) = nI 1 from rfl, nI_add]
    unfold g_pz
    by_cases c : sz < 10
    · rw [if_pos c, if_neg (show ¬ (10 : Int32) < nI (sz + 1) from nI_nlt (a := 10) (by omega) (by omega))]
    · rw [if_neg c, if_pos (show (10 : Int32) < nI (sz + 1) from nI_lt (a := 10) (by omega) (by omega))]
      rfl
  refine ⟨z_w (z_w S1 34 1 (nI ((nx + 1) % 10))) 34 2 (nI (g_pz sz)), (nx + 1) % 10, ?_, ?_, ?_⟩
  · rw [f_X0_remember, e1, if_pos ((x_in (by omega)).mpr hn), nI_clamp (by omega), r1, Option.bind_some]
    dsimp only
    rw [e1', show (1 : Int32) = nI 1 from rfl, nI_add, ← r35]
    by_cases c : 10 ≤ nx + 1
    · rw [if_pos (show (10 : Int32) ≤ nI (nx + 1) from nI_le (a := 10) c (by omega)), show (nx + 1) % 10 = 0 from by omega]
      rfl
    · rw [if_neg (show ¬ (10 : Int32) ≤ nI (nx + 1) from nI_ge (b := 10) (by omega) (by omega)), show (nx + 1) % 10 = nx + 1 from by omega]
  · exact x_fr_w (x_fr_w (x_fr_sub f1 (fun q j hq => by unfold wB at hq; unfold wA; omega)) (Or.inl rfl)) (Or.inl rfl)
  · refine ⟨Nat.mod_lt _ (by omega), ?_, b_wh, fun i hi => ?_⟩
    · rw [b_wj (by omega), b_wh]
    · have fw : x_fr (fun q _ => q = 34) S1 (z_w (z_w S1 34 1 (nI ((nx + 1) % 10))) 34 2 (nI (g_pz sz))) := x_fr_w (x_fr_w x_fr_rf rfl) rfl
      refine cPl_fr ?_ fw (fun k j q1 q2 => by omega)
      unfold g_pz at hi ⊢
      unfold g_pU
      by_cases c : sz < 10
      · rw [if_pos c] at hi
        rw [if_pos c, if_pos c]
        by_cases e : i = sz
        · rw [if_pos e, show ((nx + 1) % 10 + 10 - (sz + 1) + i) % 10 = nx from by omega]
          exact c1
        · rw [if_neg e, show ((nx + 1) % 10 + 10 - (sz + 1) + i) % 10 = (nx + 10 - sz + i) % 10 from by omega]
          exact cPl_fr (hu i (by omega)) f1 (fun k j q1 q2 => by unfold wB at q2; omega)
      · rw [if_neg c] at hi
        rw [if_neg c, if_neg c]
        have s10 : sz = 10 := by omega
        by_cases e : i = 9
        · rw [if_pos e, show ((nx + 1) % 10 + 10 - 10 + i) % 10 = nx from by omega]
          exact c1
        · rw [if_neg e, show ((nx + 1) % 10 + 10 - 10 + i) % 10 = (nx + 10 - sz + (i + 1)) % 10 from by omega]
          exact cPl_fr (hu (i + 1) (by omega)) f1 (fun k j q1 q2 => by unfold wB at q2; omega)
def mUr (U : Nat → Nat → Int32) (sz : Nat) (S : zS) : Prop := S.1 87 13 = nI sz ∧ ∀ i, i < sz → mPl (U i) 92 (13 * i) S
def wC (q j : Nat) : Prop := q = 92 ∨ (q = 87 ∧ j = 13)
theorem s9_n46 {S : zS} {m : Nat} (hm : S.1 87 13 = nI m) (hm2 : m < 10) : ∃ S', f_X9_notes_46 1000 (nI 0) S = some ((), z_w S' 87 13 (nI (m + 1))) ∧ x_fr (fun q j => q = 92 ∧ 13 * m ≤ j ∧ j < 13 * m + 13) S S' ∧ ∀ i, i < 13 → S'.1 92 (13 * m + i) = S.1 91 i := by
  refine x_forI (F := fun n k S => f_X9_notes_46 n (nI k) S) (N := 13) (I := fun k S1 => x_fr (fun q j => q = 92 ∧ 13 * m ≤ j ∧ j < 13 * m + 13) S S1 ∧ ∀ i, i < k → S1.1 92 (13 * m + i) = S.1 91 i) (G := fun γ => ∃ S', γ = some ((), z_w S' 87 13 (nI (m + 1))) ∧ x_fr (fun q j => q = 92 ∧ 13 * m ≤ j ∧ j < 13 * m + 13) S S' ∧ ∀ i, i < 13 → S'.1 92 (13 * m + i) = S.1 91 i) ?_ ?_ (d := 13) (a := 0) (n := 1000) (S := S) (by omega) (by omega) ⟨x_fr_rf, fun i hi => absurd hi (Nat.not_lt_zero i)⟩
  · intro n S1 ⟨h1, h2⟩
    have e : S1.1 87 13 = nI m := by rw [h1.2 _ _ (by omega)]; exact hm
    refine ⟨S1, ?_, h1, h2⟩
    show f_X9_notes_46 (n + 1) (nI 13) S1 = _
    rw [f_X9_notes_46, if_pos (show (13 : Int32) ≤ nI 13 from nI_le (Nat.le_refl 13) (by omega)), e, show (1 : Int32) = nI 1 from rfl, nI_add]
  · intro n k S1 hk ⟨h1, h2⟩ go
    have e : S1.1 87 13 = nI m := by rw [h1.2 _ _ (by omega)]; exact hm
    have i1 : (13 : Int32) * nI m + nI k = nI (13 * m + k) := by rw [show (13 : Int32) = nI 13 from rfl, pk_mul, nI_add]
    show ∃ S', f_X9_notes_46 (n + 1) (nI k) S1 = _ ∧ _
    rw [f_X9_notes_46, if_neg (show ¬ (13 : Int32) ≤ nI k from nI_ge (b := 13) (by omega) (by omega)), if_pos ((x_in (by omega)).mpr hk), e, i1, if_pos ((x_in (by omega)).mpr (by omega)), nI_clamp (by omega), nI_clamp (by omega), show (1 : Int32) = nI 1 from rfl, nI_add]
    apply go
    refine ⟨x_fr_w h1 ⟨rfl, by omega, by omega⟩, fun i hi => ?_⟩
    by_cases c : i = k
    · subst c; rw [b_wh]; exact h1.2 _ _ (by omega)
    · rw [b_wj (by omega)]; exact h2 i (by omega)
theorem s9_notes {S : zS} {U : Nat → Nat → Int32} {sz : Nat} {Pl : Nat → Int32} (h : mUr U sz S) (hp : mPl Pl 91 0 S) (hs : sz ≤ 10) : ∃ S', f_X9_notes S = some ((), S') ∧ x_fr wC S S' ∧ mUr (g_pU U sz Pl) (g_pz sz) S' := by
  have p91 : ∀ j, j < 13 → S.1 91 j = Pl j := fun j hj => by have := hp j hj; rw [Nat.zero_add] at this; exact this
  by_cases c : sz = 10
  · subst c
    have sh : f_X9_notes_11 1000 (nI 0) S = f_X9_notes_46 1000 (nI 0) (z_w (x_ar S 92 117 (fun k => S.1 92 (k + 13))) 87 13 (nI 9)) := by
      have hh := x_for (F := fun n k => f_X9_notes_11 n (nI k) (x_ar S 92 k (fun k => S.1 92 (k + 13)))) (N := 117) (fin := f_X9_notes_46 1000 (nI 0) (z_w (x_ar S 92 117 (fun k => S.1 92 (k + 13))) 87 13 (nI 9))) ?_ ?_ (d := 117) (a := 0) (n := 1000) (by omega) (by omega)
      · rw [x_ar_0] at hh
        exact hh
      · intro n
        simp (disch := omega) only [f_X9_notes_11, x_l0, x_l1, x_l2, x_l3, x_l4, x_l5, x_l6, x_l7, x_l8, x_l9, x_l10, x_l12, x_l13, x_l14, x_l16, x_l18, x_l20, x_l22, x_l32, x_l36, x_l48, x_l50, x_l54, x_l57, x_l59, x_l74, x_l81, x_l99, x_l104, x_l107, x_l110, x_l112, x_l115, x_l117, x_l162, x_l255, x_l512, x_l99999, x_l1000000, nI_leI, nI_ltI, nI_eq, nI_add, pk_mul, nI_clamp, x_in, x_bit, x_b0, x_b1, x_b0n, fa_or, fa_and, fb_xorI, x_an, Option.bind_some, b_has8, b_has9, ↓reduceIte, not_true_eq_false, not_false_eq_true, x_nn, Bool.false_eq_true, x_ar_k, x_ar_in, x_ar_w, b_wk, b_wj, b_wh, b_w2, x_ar_2, if_pos, if_neg]
      · intro n k hk
        have e : (x_ar S 92 k (fun k => S.1 92 (k + 13))).1 92 (k + 13) = S.1 92 (k + 13) := if_neg (by omega)
        have e2 := x_ar_s S 92 k (fun k => S.1 92 (k + 13))
        simp (disch := omega) only [f_X9_notes_11, x_l0, x_l1, x_l2, x_l3, x_l4, x_l5, x_l6, x_l7, x_l8, x_l9, x_l10, x_l12, x_l13, x_l14, x_l16, x_l18, x_l20, x_l22, x_l32, x_l36, x_l48, x_l50, x_l54, x_l57, x_l59, x_l74, x_l81, x_l99, x_l104, x_l107, x_l110, x_l112, x_l115, x_l117, x_l162, x_l255, x_l512, x_l99999, x_l1000000, nI_leI, nI_ltI, nI_eq, nI_add, pk_mul, nI_clamp, x_in, x_bit, x_b0, x_b1, x_b0n, fa_or, fa_and, fb_xorI, x_an, Option.bind_some, b_has8, b_has9, ↓reduceIte, not_true_eq_false, not_false_eq_true, x_nn, Bool.false_eq_true, x_ar_k, x_ar_in, x_ar_w, b_wk, b_wj, b_wh, b_w2, x_ar_2, if_pos, if_neg, e]
        rw [e2]
    obtain ⟨S1, r1, f1, g1⟩ := s9_n46 (S := z_w (x_ar S 92 117 (fun k => S.1 92 (k + 13))) 87 13 (nI 9)) (m := 9) b_wh (by omega)
    refine ⟨z_w S1 87 13 (nI 10), ?_, ?_, b_wh, fun i hi j hj => ?_⟩
    · rw [f_X9_notes, h.1, if_pos (show nI 10 = 10 from rfl)]
      exact sh.trans r1
    · exact x_fr_w (x_fr_tr (x_fr_w (x_fr_a x_fr_rf (fun _ _ => Or.inl rfl)) (Or.inr ⟨rfl, rfl⟩)) (x_fr_sub f1 (fun q j hq => Or.inl hq.1))) (Or.inr ⟨rfl, rfl⟩)
    · have hi' : i < 10 := hi
      unfold g_pU
      rw [b_wk (by omega), if_neg (by omega)]
      by_cases e : i = 9
      · subst e
        rw [if_pos rfl, g1 j hj, b_wk (by omega), x_ar_k (by omega)]
        exact p91 j hj
      · rw [if_neg e, f1.2 _ _ (by omega), b_wk (by omega), x_ar_in (by omega), show 13 * i + j + 13 = 13 * (i + 1) + j from by omega]
        exact h.2 (i + 1) (by omega) j hj
  · obtain ⟨S1, r1, f1, g1⟩ := s9_n46 h.1 (by omega)
    refine ⟨z_w S1 87 13 (nI (sz + 1)), ?_, x_fr_w (x_fr_sub f1 (fun q j hq => Or.inl hq.1)) (Or.inr ⟨rfl, rfl⟩), ?_, fun i hi j hj => ?_⟩
    · rw [f_X9_notes, h.1, if_neg (show ¬ nI sz = 10 from fun z => c ((nI_eq (b := 10) (by omega) (by omega)).mp z))]
      exact r1
    · unfold g_pz
      rw [b_wh, if_pos (by omega)]
    · unfold g_pz at hi
      rw [if_pos (by omega)] at hi
      unfold g_pU
      rw [b_wk (by omega), if_pos (by omega)]
      by_cases e : i = sz
      · subst e
        rw [if_pos rfl, g1 j hj]
        exact p91 j hj
      · rw [if_neg e, f1.2 _ _ (by omega)]
        exact h.2 i (by omega) j hj
section PA
variable {D : gD} {τ : Nat}
theorem wPl_just {T : Nat → Nat} {Pl : Nat → Int32} (h : wPl T τ Pl) : Pl 3 = nI 0 ∨ Pl 3 = nI 1 := h.2.2.2.1
/-- nothing worked out is left -/
theorem cFr_out {S : zS} (D : gD) : cFr D (z_w (z_w S 57 0 0) 69 0 (-9)) := by
  refine ⟨Or.inl ?_, Or.inl b_wh⟩
  rw [b_wk (by omega), b_wh]
  rfl
theorem z_undo (hw : wD D τ) : zSim D τ f_X8_undo f_X9_undo := by
  have w := hw.1
  have h0 := wT_b w
  have hs := hw.2.2.1
  by_cases c : D.sz = 0
  · refine zSim_lk hw (-nI 2) (fun S hS => ⟨S, ?_, hS, yC_rf⟩) (fun S hS => ⟨z_w S 87 0 0, ?_, fr_th⟩)
    · obtain ⟨P, nx, hP, h2, h3, h4, h5, h6, h7, h8, h9⟩ := hS
      rw [f_X8_undo, f_X0_restore, h5.2.2.1, c, if_neg (by decide), Option.bind_some, if_pos rfl]
      rfl
    · have hm := MI_th hS
      rw [f_X9_undo, hm.2.2.2.1.1, c, if_pos (c := nI 0 = 0) nI_0]
      rfl
  · have hwU := hw.2.2.2.1 (D.sz - 1) (by omega)
    refine ⟨nI (D.sz - 1), gD.mk D.T D.X D.len (D.U (D.sz - 1)) D.U (D.sz - 1) D.I D.kb D.m D.A D.B D.H, ?_, fun S hS => ?_, fun S hS => ?_⟩
    · have hw2 := wD_mono hw (σ := τ + 60) (by omega)
      exact ⟨hw2.1, hw2.2.2.2.1 (D.sz - 1) (by omega), by show D.sz - 1 ≤ 10; omega, fun i hi => hw2.2.2.2.1 i (by have : i < D.sz - 1 := hi; omega), hw2.2.2.2.2.1, hw2.2.2.2.2.2.1, hw2.2.2.2.2.2.2.1, hw2.2.2.2.2.2.2.2.1, hw2.2.2.2.2.2.2.2.2⟩
    · obtain ⟨P, nx, hP, h2, h3, h4, h5, h6, h7, h8, h9⟩ := hS
      obtain ⟨hn, e1, e2, hu⟩ := h5
      have fr1 : x_fr (fun q _ => q = 34) S (z_w (z_w S 34 1 (nI ((nx + 9) % 10))) 34 2 (nI (D.sz - 1))) := x_fr_w (x_fr_w x_fr_rf rfl) rfl
      have row : cPl (D.U (D.sz - 1)) (36 + 2 * ((nx + 9) % 10)) (z_w (z_w S 34 1 (nI ((nx + 9) % 10))) 34 2 (nI (D.sz - 1))) := by
        have := hu (D.sz - 1) (by omega)
        rw [show (nx + 10 - D.sz + (D.sz - 1)) % 10 = (nx + 9) % 10 from by omega] at this
        exact cPl_fr this fr1 (fun k j q1 q2 => by omega)
      have v1 : (z_w (z_w S 34 1 (nI ((nx + 9) % 10))) 34 2 (nI (D.sz - 1))).1 34 1 = nI ((nx + 9) % 10) := by rw [b_wj (by omega), b_wh]
      have v2 : (z_w (z_w S 34 1 (nI ((nx + 9) % 10))) 34 2 (nI (D.sz - 1))).1 34 2 = nI (D.sz - 1) := b_wh
      have r28 : f_X0_restore_28 32 (nI ((nx + 9) % 10)) S = (f_X2_become 32 (36 + 2 * ((nx + 9) % 10)) (z_w (z_w S 34 1 (nI ((nx + 9) % 10))) 34 2 (nI (D.sz - 1)))).bind (fun r51 => some (1, r51.2)) := by
        have es : (z_w S 34 1 (nI ((nx + 9) % 10))).1 34 2 - 1 = nI (D.sz - 1) := by
          rw [b_wj (by omega), e2]
          exact pk_sub (b := 1) (by omega)
        rw [f_X0_restore_28, es, v1, if_pos ((x_in (by omega)).mpr (by omega)), nI_clamp (by omega)]
      obtain ⟨S2, r2, f2, c2⟩ := s2_become (p0 := 32) row (wPl_just hwU) (by omega) (by omega) (by omega)
      have fA : x_fr (fun q _ => q = 32 ∨ q = 33 ∨ q = 34 ∨ q = 57 ∨ q = 69) S (z_w (z_w S2 57 0 0) 69 0 (-9)) := x_fr_w (x_fr_w (x_fr_tr (x_fr_sub fr1 (fun q j hq => by omega)) (x_fr_sub f2 (fun q j hq => by unfold wB at hq; omega))) (by omega)) (by omega)
      have fo : x_fr (fun q _ => q = 57 ∨ q = 69) S2 (z_w (z_w S2 57 0 0) 69 0 (-9)) := x_fr_w (x_fr_w x_fr_rf (Or.inl rfl)) (Or.inr rfl)
      refine ⟨z_w (z_w S2 57 0 0) 69 0 (-9), ?_, ⟨P, (nx + 9) % 10, hP, fA.1.trans h2, cP_fr h3 fA (fun q j q1 q2 q3 => by omega) h0.2.2.1, cPl_fr c2 fo (fun k j q1 q2 => by omega), ⟨Nat.mod_lt _ (by omega), ?_, ?_, fun i hi => ?_⟩, ⟨?_, fun k hk => ?_⟩, ⟨?_, fun i hi hk => cPl_fr (h7.2 i hi hk) fA (fun k j q1 q2 => by omega)⟩, cZ_fr h8 fA (fun q j q1 q2 => by omega), cFr_out _⟩, yC_fr fA (fun q j h1 h2 => by omega)⟩
      · have e34 : (z_w (z_w S2 57 0 0) 69 0 (-9)).1 34 2 = nI (D.sz - 1) := by rw [fo.2 _ _ (by omega), f2.2 _ _ (by unfold wB; omega)]; exact v2
        have rs : f_X0_restore 32 S = some (nI 1, S2) := by
          rw [f_X0_restore, e2, if_pos (show (0 : Int32) < nI D.sz from nI_lt (a := 0) (by omega) (by omega)), e1]
          by_cases z : nx = 0
          · rw [if_pos (show nI nx ≤ 0 from nI_le (b := 0) (by omega) (by omega))]
            have : (9 : Int32) = nI ((nx + 9) % 10) := by rw [z]; rfl
            rw [this, r28, r2]
            rfl
          · have : nI nx - 1 = nI ((nx + 9) % 10) := by
              have q : nI nx - nI 1 = nI (nx - 1) := pk_sub (by omega)
              rw [show (nx + 9) % 10 = nx - 1 from by omega]
              exact q
            rw [if_neg (show ¬ nI nx ≤ 0 from nI_ge (a := 0) (by omega) (by omega)), this, r28, r2]
            rfl
        rw [f_X8_undo, rs, Option.bind_some, if_neg (c := nI 1 = 0) (by decide), f_X8_outdate, Option.bind_some]
        dsimp only
        rw [e34]
      · rw [fo.2 _ _ (by omega), f2.2 _ _ (by unfold wB; omega)]; exact v1
      · rw [fo.2 _ _ (by omega), f2.2 _ _ (by unfold wB; omega)]; exact v2
      · have hi' : i < D.sz - 1 := hi
        have := hu i (by omega)
        show cPl (D.U i) (36 + 2 * (((nx + 9) % 10 + 10 - (D.sz - 1) + i) % 10)) _
        rw [show ((nx + 9) % 10 + 10 - (D.sz - 1) + i) % 10 = (nx + 10 - D.sz + i) % 10 from by omega]
        exact cPl_fr this fA (fun k j q1 q2 => by omega)
      · rw [fA.2 _ _ (by omega)]; exact h6.1
      · rw [fA.2 _ _ (by omega)]; exact h6.2 k hk
      · rw [fA.2 _ _ (by omega)]; exact h7.1
    · have hm := MI_th hS
      have e13 := hm.2.2.2.1.1
      have es : (z_w S 87 0 0).1 87 13 - 1 = nI (D.sz - 1) := by
        rw [e13]
        exact pk_sub (b := 1) (by omega)
      have fr1 : x_fr (fun q j => q = 87 ∧ (j = 0 ∨ j = 13)) S (z_w (z_w S 87 0 0) 87 13 (nI (D.sz - 1))) := x_fr_w (x_fr_w x_fr_rf ⟨rfl, Or.inl rfl⟩) ⟨rfl, Or.inr rfl⟩
      have run : ∃ S', f_X9_undo_27 1000 (nI 0) (z_w (z_w S 87 0 0) 87 13 (nI (D.sz - 1))) = some (nI (D.sz - 1), S') ∧ x_fr (fun q j => (q = 87 ∧ (j = 0 ∨ j = 13)) ∨ (q = 91 ∧ j < 13)) S S' ∧ S'.1 87 13 = nI (D.sz - 1) ∧ mPl (D.U (D.sz - 1)) 91 0 S' := by
        refine x_forI (F := fun n k S => f_X9_undo_27 n (nI k) S) (N := 13) (I := fun k S1 => x_fr (fun q j => (q = 87 ∧ (j = 0 ∨ j = 13)) ∨ (q = 91 ∧ j < 13)) S S1 ∧ S1.1 87 13 = nI (D.sz - 1) ∧ ∀ i, i < k → S1.1 91 i = D.U (D.sz - 1) i) (G := fun γ => ∃ S', γ = some (nI (D.sz - 1), S') ∧ x_fr (fun q j => (q = 87 ∧ (j = 0 ∨ j = 13)) ∨ (q = 91 ∧ j < 13)) S S' ∧ S'.1 87 13 = nI (D.sz - 1) ∧ mPl (D.U (D.sz - 1)) 91 0 S') ?_ ?_ (d := 13) (a := 0) (n := 1000) (by omega) (by omega) ⟨x_fr_sub fr1 (fun q j hq => Or.inl hq), b_wh, fun i hi => absurd hi (Nat.not_lt_zero i)⟩
        · intro n S1 ⟨g1, g2, g3⟩
          refine ⟨S1, ?_, g1, g2, fun j hj => by rw [Nat.zero_add]; exact g3 j hj⟩
          show f_X9_undo_27 (n + 1) (nI 13) S1 = _
          rw [f_X9_undo_27, if_pos (show (13 : Int32) ≤ nI 13 from nI_le (Nat.le_refl 13) (by omega)), g2]
        · intro n k S1 hk ⟨g1, g2, g3⟩ go
          have i1 : (13 : Int32) * nI (D.sz - 1) + nI k = nI (13 * (D.sz - 1) + k) := by rw [show (13 : Int32) = nI 13 from rfl, pk_mul, nI_add]
          show ∃ S', f_X9_undo_27 (n + 1) (nI k) S1 = _ ∧ _
          rw [f_X9_undo_27, if_neg (show ¬ (13 : Int32) ≤ nI k from nI_ge (b := 13) (by omega) (by omega)), g2, i1, if_pos ((x_in (by omega)).mpr (by omega)), if_pos ((x_in (by omega)).mpr hk), nI_clamp (by omega), nI_clamp (by omega), show (1 : Int32) = nI 1 from rfl, nI_add]
          apply go
          refine ⟨x_fr_w g1 (Or.inr ⟨rfl, hk⟩), by rw [b_wk (by omega)]; exact g2, fun i hi => ?_⟩
          by_cases z : i = k
          · subst z
            rw [b_wh, g1.2 _ _ (by omega)]
            exact hS.2.2.2.1.2 (D.sz - 1) (by omega) i hk
          · rw [b_wj z]; exact g3 i (by omega)
      obtain ⟨S', r1, f1, g1, g2⟩ := run
      refine ⟨S', ?_, ⟨fun j hj => ?_, fun p hp => ?_, g2, ⟨g1, fun i hi j hj => ?_⟩, ⟨?_, fun k hk => ?_⟩, fun i hi => ⟨?_, fun hk j hj => ?_⟩, mZ_fr hS.2.2.2.2.2.2 f1 (fun q j q1 q2 => by omega)⟩, yM_fr f1 (fun q j h1 h2 => by omega)⟩
      · rw [f_X9_undo, e13, if_neg (nI_ne0 (by omega) (by omega))]
        rw [e13] at es
        rw [es]
        exact r1
      · rw [f1.2 _ _ (by omega)]; exact hS.1 j hj
      · rw [f1.2 _ _ (by omega)]; exact hS.2.1 p hp
      · have hi' : i < D.sz - 1 := hi
        rw [f1.2 _ _ (by omega)]; exact hS.2.2.2.1.2 i (by omega) j hj
      · rw [f1.2 _ _ (by omega)]; exact hS.2.2.2.2.1.1
      · rw [f1.2 _ _ (by omega)]; exact hS.2.2.2.2.1.2 k hk
      · rw [f1.2 _ _ (by omega)]; exact (hS.2.2.2.2.2.1 i hi).1
      · rw [f1.2 _ _ (by omega)]; exact (hS.2.2.2.2.2.1 i hi).2 hk j hj
end PA
