/-! ===== the reference sorts and settles ===== -/
section SET
variable {B T : Nat → Nat} {S : zS}
theorem g_tk_id (w : uB B) (j : Nat) : g_tk B (g_ky B) j = B j := by
  have wb := w.1
  unfold g_tk
  by_cases c1 : 22 ≤ j ∧ j < 22 + B 1
  · rw [if_pos c1, (g_ky_lh w (show j - 22 < B 1 by omega)).1, show 22 + (j - 22) = j from by omega]
  · rw [if_neg c1]
    by_cases c2 : 36 ≤ j ∧ j < 36 + B 1
    · rw [if_pos c2, (g_ky_lh w (show j - 36 < B 1 by omega)).2, show 36 + (j - 36) = j from by omega]
    · rw [if_neg c2]
theorem s9_srt14 (w : uB B) {K : Nat → Nat} (pm : x_pm (g_ky B) K (B 1)) (h : ∀ j, j < 74 → S.1 90 j = nI (g_tk B K j)) (hB : 0 < B 1) (r : Nat) (K2 : Int32 → zS → Option (Unit × zS)) {G : Option (Unit × zS) → Prop} (go : ∀ S', x_fr (fun q _ => q = 90) S S' → (∀ j, j < 74 → S'.1 90 j = nI (g_tk B (x_ps K (B 1 - 1)) j)) → G (K2 (nI (r + 1)) S')) : G (f_X9_sorts_14 K2 1000 (nI r) (nI 0) S) := by
  have wb := w.1
  refine x_forI (F := fun n c S => f_X9_sorts_14 K2 n (nI r) (nI c) S) (N := B 1 - 1) (I := fun c S1 => x_fr (fun q _ => q = 90) S S1 ∧ ∀ j, j < 74 → S1.1 90 j = nI (g_tk B (x_ps K c) j)) (G := G) ?_ ?_ (d := B 1 - 1) (a := 0) (n := 1000) (S := S) (by omega) (by omega) ⟨x_fr_rf, h⟩
  · intro n S1 ⟨h1, h2⟩
    have e1 : S1.1 90 1 = nI (B 1) := by rw [h2 1 (by omega), g_tk_o (by omega) wb.2.1]
    show G (f_X9_sorts_14 K2 (n + 1) (nI r) (nI (B 1 - 1)) S1)
    rw [f_X9_sorts_14, e1, show (1 : Int32) = nI 1 from rfl, nI_add, if_pos (nI_le (by omega) (by omega)), nI_add]
    exact go S1 h1 h2
  · intro n c S1 hc ⟨h1, h2⟩ nx
    have e1 : S1.1 90 1 = nI (B 1) := by rw [h2 1 (by omega), g_tk_o (by omega) wb.2.1]
    have pmc := x_pm_ps pm c (by omega)
    have kl : ∀ i, i < B 1 → x_ps K c i < 200 := fun i hi => by
      obtain ⟨j, hj, e⟩ := pmc.1 i hi
      have := w.2.2.1 j hj
      rw [e]
      unfold g_ky
      omega
    have k1 := kl c (by omega)
    have k2 := kl (c + 1) (by omega)
    have a1 : S1.1 90 (22 + c) = nI (x_ps K c c / 16) := by rw [h2 _ (by omega), g_tk_l (by omega)]
    have a2 : S1.1 90 (36 + c) = nI (x_ps K c c % 16) := by rw [h2 _ (by omega), g_tk_h (by omega) wb.2.1]
    have a3 : S1.1 90 (22 + c + 1) = nI (x_ps K c (c + 1) / 16) := by rw [h2 _ (by omega), Nat.add_assoc, g_tk_l (by omega)]
    have a4 : S1.1 90 (36 + c + 1) = nI (x_ps K c (c + 1) % 16) := by rw [h2 _ (by omega), Nat.add_assoc, g_tk_h (by omega) wb.2.1]
    have ky : ∀ y, y < 200 → (16 : Int32) * nI (y / 16) + nI (y % 16) = nI y := fun y hy => by
      rw [show (16 : Int32) = nI 16 from rfl, pk_mul, nI_add]
      exact congrArg nI (by omega)
    show G (f_X9_sorts_14 K2 (n + 1) (nI r) (nI c) S1)
    rw [f_X9_sorts_14, e1, show (1 : Int32) = nI 1 from rfl, nI_add, if_neg (nI_ge (by omega) (by omega)), show (22 : Int32) = nI 22 from rfl, show (36 : Int32) = nI 36 from rfl, nI_add, nI_add, nI_add, nI_add, if_pos ((x_in (by omega)).mpr (by omega)), if_pos ((x_in (by omega)).mpr (by omega)), if_pos ((x_in (by omega)).mpr (by omega)), if_pos ((x_in (by omega)).mpr (by omega)), nI_clamp (by omega), nI_clamp (by omega), nI_clamp (by omega), nI_clamp (by omega), a1, a2, a3, a4, ky _ k1, ky _ k2]
    have ps : x_ps K (c + 1) = x_sw (x_ps K c) c := rfl
    by_cases z : x_ps K c (c + 1) < x_ps K c c
    · rw [if_neg (nI_ge z (by omega)), if_pos ((x_in (by omega)).mpr (by omega)), if_pos ((x_in (by omega)).mpr (by omega)), if_pos ((x_in (by omega)).mpr (by omega)), if_pos ((x_in (by omega)).mpr (by omega)), if_pos ((x_in (by omega)).mpr (by omega)), if_pos ((x_in (by omega)).mpr (by omega)), if_pos ((x_in (by omega)).mpr (by omega)), if_pos ((x_in (by omega)).mpr (by omega)), b_wj (by omega), a4]
      apply nx
      refine ⟨x_fr_w (x_fr_w (x_fr_w (x_fr_w h1 rfl) rfl) rfl) rfl, fun j hj => ?_⟩
      have sw : ∀ i, x_ps K (c + 1) i = if i = c + 1 then x_ps K c c else if i = c then x_ps K c (c + 1) else x_ps K c i := fun i => by rw [ps, x_sw_at, if_pos z]
      by_cases j1 : j = 36 + c + 1
      · rw [j1, b_wh, Nat.add_assoc, g_tk_h (by omega) wb.2.1, sw, if_pos rfl]
      · rw [b_wj j1]
        by_cases j2 : j = 22 + c + 1
        · rw [j2, b_wh, Nat.add_assoc, g_tk_l (by omega), sw, if_pos rfl]
        · rw [b_wj j2]
          by_cases j3 : j = 36 + c
          · rw [j3, b_wh, g_tk_h (by omega) wb.2.1, sw, if_neg (by omega), if_pos rfl]
          · rw [b_wj j3]
            by_cases j4 : j = 22 + c
            · rw [j4, b_wh, g_tk_l (by omega), sw, if_neg (by omega), if_pos rfl]
            · rw [b_wj j4, h2 j hj]
              congr 1
              unfold g_tk
              by_cases q1 : 22 ≤ j ∧ j < 22 + B 1
              · rw [if_pos q1, if_pos q1, sw, if_neg (by omega), if_neg (by omega)]
              · rw [if_neg q1, if_neg q1]
                by_cases q2 : 36 ≤ j ∧ j < 36 + B 1
                · rw [if_pos q2, if_pos q2, sw, if_neg (by omega), if_neg (by omega)]
                · rw [if_neg q2, if_neg q2]
    · have e : x_ps K (c + 1) = x_ps K c := by rw [ps]; unfold x_sw; rw [if_neg z]
      rw [if_pos (nI_le (by omega) (by omega))]
      apply nx
      refine ⟨h1, fun j hj => ?_⟩
      rw [e]; exact h2 j hj
theorem s9_sorts (w : uB B) (h : ∀ j, j < 74 → S.1 90 j = nI (B j)) : ∃ S', f_X9_sorts S = some ((), S') ∧ x_fr (fun q _ => q = 90) S S' ∧ ∀ j, j < 74 → S'.1 90 j = nI (g_srt B j) := by
  have wb := w.1
  refine x_forI (F := fun n r S => f_X9_sorts_2 n (nI r) S) (N := B 1) (I := fun r S1 => x_fr (fun q _ => q = 90) S S1 ∧ ∀ j, j < 74 → S1.1 90 j = nI (g_tk B (x_rd (g_ky B) (B 1) r) j)) (G := fun γ => ∃ S', γ = some ((), S') ∧ x_fr (fun q _ => q = 90) S S' ∧ ∀ j, j < 74 → S'.1 90 j = nI (g_srt B j)) ?_ ?_ (d := B 1) (a := 0) (n := 1000) (S := S) (by omega) (by omega) ⟨x_fr_rf, fun j hj => by
    show S.1 90 j = nI (g_tk B (g_ky B) j)
    rw [g_tk_id w]; exact h j hj⟩
  · intro n S1 ⟨h1, h2⟩
    have e1 : S1.1 90 1 = nI (B 1) := by rw [h2 1 (by omega), g_tk_o (by omega) wb.2.1]
    refine ⟨S1, ?_, h1, h2⟩
    show f_X9_sorts_2 (n + 1) (nI (B 1)) S1 = _
    rw [f_X9_sorts_2, e1, if_pos (nI_le (Nat.le_refl _) (by omega))]
  · intro n r S1 hr ⟨h1, h2⟩ go
    have e1 : S1.1 90 1 = nI (B 1) := by rw [h2 1 (by omega), g_tk_o (by omega) wb.2.1]
    show ∃ S', f_X9_sorts_2 (n + 1) (nI r) S1 = _ ∧ _
    rw [f_X9_sorts_2, e1, if_neg (nI_ge hr (by omega))]
    exact s9_srt14 (G := fun γ => ∃ S', γ = some ((), S') ∧ x_fr (fun q _ => q = 90) S S' ∧ ∀ j, j < 74 → S'.1 90 j = nI (g_srt B j)) w (x_pm_rd (g_ky_pm w) r) h2 (by omega) r (f_X9_sorts_2 n) (fun S' f1 g1 => go S' ⟨x_fr_tr h1 f1, g1⟩)
/-- how a plate begins -/
def g_P0 (T : Nat → Nat) : Nat → Int32 := fun j => if j = 0 then nI (2 ^ T 1 - 1) else if j = 1 then (if T 0 = 0 then -nI 9 else nI 0) else if j = 2 then nI 0 else if j = 3 then nI 0 else -nI 9
theorem wPl_0 (w : wT T) (τ : Nat) : wPl T τ (g_P0 T) := by
  have p := Nat.two_pow_pos (T 1)
  refine ⟨⟨2 ^ T 1 - 1, by omega, rfl⟩, ?_, ⟨0, Nat.zero_le _, rfl⟩, Or.inl rfl, fun k hk => Or.inl ?_⟩
  · by_cases z : T 0 = 0
    · refine Or.inl ⟨z, ?_⟩
      unfold g_P0
      rw [if_neg (by omega), if_pos rfl, if_pos z]
    · refine Or.inr ⟨0, by omega, ?_⟩
      unfold g_P0
      rw [if_neg (by omega), if_pos rfl, if_neg z]
  · unfold g_P0
    rw [if_neg (by omega), if_neg (by omega), if_neg (by omega), if_neg (by omega)]
def wSt (q j : Nat) : Prop := (q = 87 ∧ (j = 2 ∨ j = 13 ∨ j = 19)) ∨ q = 89 ∨ q = 91 ∨ q = 94 ∨ q = 98
theorem s9_settles (w : wT T) (h : ∀ j, j < 74 → S.1 90 j = nI (T j)) : ∃ S', f_X9_settles S = some ((), S') ∧ x_fr wSt S S' ∧ mT T 89 S' ∧ (∀ p, p < T 2 → S'.1 98 p = nI (g_in T p)) ∧ mPl (g_P0 T) 91 0 S' ∧ S'.1 87 2 = nI 0 ∧ S'.1 87 19 = nI 0 ∧ S'.1 87 13 = nI 0 ∧ S'.1 94 0 = nI 0 ∧ S'.1 94 1 = nI 0 := by
  have h0 := wT_b w
  have p14 : (2 : Nat) ^ T 1 ≤ 2 ^ 14 := Nat.pow_le_pow_right (by decide) h0.2.1
  have pp := Nat.two_pow_pos (T 1)
  -- what is told
  have e2 : f_X9_settles S = f_X9_settles_2 1 (nI 74) (x_ar S 89 74 (fun j => S.1 90 j)) := by
    have hh := x_for (F := fun n k => f_X9_settles_2 n (nI k) (x_ar S 89 k (fun j => S.1 90 j))) (N := 74) (fin := f_X9_settles_2 1 (nI 74) (x_ar S 89 74 (fun j => S.1 90 j))) ?_ ?_ (d := 74) (a := 0) (n := 1000) (by omega) (by omega)
    · rw [x_ar_0] at hh
      exact hh
    · intro n
      rw [f_X9_settles_2, f_X9_settles_2, if_pos (show (74 : Int32) ≤ nI 74 from nI_le (Nat.le_refl 74) (by omega)), if_pos (show (74 : Int32) ≤ nI 74 from nI_le (Nat.le_refl 74) (by omega))]
    · intro n k hk
      have e := x_ar_s S 89 k (fun j => S.1 90 j)
      rw [f_X9_settles_2, if_neg (show ¬ (74 : Int32) ≤ nI k from nI_ge (b := 74) (by omega) (by omega)), if_pos ((x_in (by omega)).mpr hk), if_pos ((x_in (by omega)).mpr hk), nI_clamp (by omega), x_ar_k (by omega), e, show (1 : Int32) = nI 1 from rfl, nI_add]
  have m1 : mT T 89 (x_ar S 89 74 (fun j => S.1 90 j)) := fun j hj => by rw [x_ar_in hj]; exact h j hj
  have f1 : x_fr wSt S (x_ar S 89 74 (fun j => S.1 90 j)) := x_fr_a x_fr_rf (fun _ _ => Or.inr (Or.inl rfl))
  rw [e2]
  generalize x_ar S 89 74 (fun j => S.1 90 j) = S1 at *
  have sh : (nI 1 <<< (nI (T 1) &&& 31)) - nI 1 = nI (2 ^ T 1 - 1) := by rw [x_bit (by omega), pk_sub (by omega)]
  -- the plight
  have e62 : f_X9_settles_2 1 (nI 74) S1 = f_X9_settles_79 1000 (nI 0) (z_w (z_w (z_w (z_w S1 91 0 (nI (2 ^ T 1 - 1))) 91 1 (if T 0 = 0 then -nI 9 else nI 0)) 91 2 (nI 0)) 91 3 (nI 0)) := by
    have s62 : ∀ (x : Int32) (S2 : zS), f_X9_settles_62 x 1 S2 = f_X9_settles_79 1000 (nI 0) (z_w (z_w (z_w S2 91 1 x) 91 2 (nI 0)) 91 3 (nI 0)) := fun x S2 => by
      rw [f_X9_settles_62, show (1 : Int32) = nI 1 from rfl, if_pos ((x_in (by omega)).mpr (by omega)), nI_clamp (by omega)]
      rfl
    rw [f_X9_settles_2, if_pos (show (74 : Int32) ≤ nI 74 from nI_le (Nat.le_refl 74) (by omega)), m1 1 (by omega), show (1 : Int32) <<< (nI (T 1) &&& 31) - 1 = nI (2 ^ T 1 - 1) from sh, b_wk (by omega), m1 0 (by omega)]
    by_cases z : T 0 = 0
    · rw [if_pos (show nI (T 0) = 0 by rw [z]; rfl), s62, if_pos z]
      rfl
    · rw [if_neg (nI_ne0 (by omega) (by omega)), s62, if_neg z]
      rfl
  rw [e62]
  have f2 : x_fr (fun q _ => q = 91) S1 (z_w (z_w (z_w (z_w S1 91 0 (nI (2 ^ T 1 - 1))) 91 1 (if T 0 = 0 then -nI 9 else nI 0)) 91 2 (nI 0)) 91 3 (nI 0)) := x_fr_w (x_fr_w (x_fr_w (x_fr_w x_fr_rf rfl) rfl) rfl) rfl
  have g2 : ∀ j, j < 4 → (z_w (z_w (z_w (z_w S1 91 0 (nI (2 ^ T 1 - 1))) 91 1 (if T 0 = 0 then -nI 9 else nI 0)) 91 2 (nI 0)) 91 3 (nI 0)).1 91 j = g_P0 T j := fun j hj => by
    rcases (by omega : j = 0 ∨ j = 1 ∨ j = 2 ∨ j = 3) with rfl | rfl | rfl | rfl
    · rw [b_wj (by omega), b_wj (by omega), b_wj (by omega), b_wh]; rfl
    · rw [b_wj (by omega), b_wj (by omega), b_wh]; rfl
    · rw [b_wj (by omega), b_wh]; rfl
    · rw [b_wh]; rfl
  generalize z_w (z_w (z_w (z_w S1 91 0 (nI (2 ^ T 1 - 1))) 91 1 (if T 0 = 0 then -nI 9 else nI 0)) 91 2 (nI 0)) 91 3 (nI 0) = S2 at *
  refine x_forI (F := fun n k S => f_X9_settles_79 n (nI k) S) (N := 9) (I := fun k S3 => x_fr (fun q j => q = 91 ∧ 4 ≤ j) S2 S3 ∧ ∀ i, i < k → S3.1 91 (4 + i) = -nI 9) (G := fun γ => ∃ S', γ = some ((), S') ∧ x_fr wSt S S' ∧ mT T 89 S' ∧ (∀ p, p < T 2 → S'.1 98 p = nI (g_in T p)) ∧ mPl (g_P0 T) 91 0 S' ∧ S'.1 87 2 = nI 0 ∧ S'.1 87 19 = nI 0 ∧ S'.1 87 13 = nI 0 ∧ S'.1 94 0 = nI 0 ∧ S'.1 94 1 = nI 0) ?_ ?_ (d := 9) (a := 0) (n := 1000) (S := S2) (by omega) (by omega) ⟨x_fr_rf, fun i hi => absurd hi (Nat.not_lt_zero i)⟩
  · intro n S3 ⟨h3, g3⟩
    have f3 : x_fr wSt S S3 := x_fr_tr f1 (x_fr_tr (x_fr_sub f2 (fun q j hq => Or.inr (Or.inr (Or.inl hq)))) (x_fr_sub h3 (fun q j hq => Or.inr (Or.inr (Or.inl hq.1)))))
    have m3 : mT T 89 S3 := fun j hj => by rw [h3.2 _ _ (by omega), f2.2 _ _ (by omega)]; exact m1 j hj
    have pl3 : mPl (g_P0 T) 91 0 S3 := fun j hj => by
      rw [Nat.zero_add]
      by_cases z : j < 4
      · rw [h3.2 _ _ (by omega)]; exact g2 j z
      · have := g3 (j - 4) (by omega)
        rw [show 4 + (j - 4) = j from by omega] at this
        rw [this]
        unfold g_P0
        rw [if_neg (by omega), if_neg (by omega), if_neg (by omega), if_neg (by omega)]
    show ∃ S', f_X9_settles_79 (n + 1) (nI 9) S3 = _ ∧ _
    rw [f_X9_settles_79, if_pos (show (9 : Int32) ≤ nI 9 from nI_le (Nat.le_refl 9) (by omega))]
    refine x_forI (F := fun n p S => f_X9_settles_103 n (nI p) S) (N := T 2) (I := fun p S4 => x_fr (fun q j => q = 98) S3 S4 ∧ ∀ i, i < p → S4.1 98 i = nI (g_in T i)) (G := fun γ => ∃ S', γ = some ((), S') ∧ x_fr wSt S S' ∧ mT T 89 S' ∧ (∀ p, p < T 2 → S'.1 98 p = nI (g_in T p)) ∧ mPl (g_P0 T) 91 0 S' ∧ S'.1 87 2 = nI 0 ∧ S'.1 87 19 = nI 0 ∧ S'.1 87 13 = nI 0 ∧ S'.1 94 0 = nI 0 ∧ S'.1 94 1 = nI 0) ?_ ?_ (d := T 2) (a := 0) (n := 1000) (S := S3) (by omega) (by omega) ⟨x_fr_rf, fun i hi => absurd hi (Nat.not_lt_zero i)⟩
    · intro n4 S4 ⟨h4, g4⟩
      have m4 : S4.1 89 2 = nI (T 2) := by rw [h4.2 _ _ (by omega)]; exact m3 2 (by omega)
      have f5 : x_fr (fun q j => (q = 87 ∧ (j = 2 ∨ j = 13 ∨ j = 19)) ∨ q = 94) S4 (z_w (z_w (z_w (z_w (z_w S4 87 2 0) 87 19 0) 87 13 0) 94 0 0) 94 1 0) := x_fr_w (x_fr_w (x_fr_w (x_fr_w (x_fr_w x_fr_rf (by omega)) (by omega)) (by omega)) (by omega)) (by omega)
      refine ⟨z_w (z_w (z_w (z_w (z_w S4 87 2 0) 87 19 0) 87 13 0) 94 0 0) 94 1 0, ?_, x_fr_tr f3 (x_fr_tr (x_fr_sub h4 (fun q j hq => by unfold wSt; omega)) (x_fr_sub f5 (fun q j hq => by unfold wSt; omega))), fun j hj => ?_, fun p hp => ?_, fun j hj => ?_, ?_, ?_, ?_, ?_, b_wh⟩
      · show f_X9_settles_103 (n4 + 1) (nI (T 2)) S4 = _
        rw [f_X9_settles_103, m4, if_pos (nI_le (Nat.le_refl _) (by omega))]
      · rw [f5.2 _ _ (by omega), h4.2 _ _ (by omega)]; exact m3 j hj
      · rw [f5.2 _ _ (by omega)]; exact g4 p hp
      · rw [f5.2 _ _ (by omega), h4.2 _ _ (by omega)]; exact pl3 j hj
      · rw [b_wk (by omega), b_wk (by omega), b_wj (by omega), b_wj (by omega), b_wh]; rfl
      · rw [b_wk (by omega), b_wk (by omega), b_wj (by omega), b_wh]; rfl
      · rw [b_wk (by omega), b_wk (by omega), b_wh]; rfl
      · rw [b_wj (by omega), b_wh]; rfl
    · intro n4 p S4 hp ⟨h4, g4⟩ go
      have m4 : ∀ j, j < 74 → S4.1 89 j = nI (T j) := fun j hj => by rw [h4.2 _ _ (by omega)]; exact m3 j hj
      have inn : f_X9_settles_122 (f_X9_settles_103 n4) 1000 (nI p) (nI 0) (z_w S4 98 p (nI (x_mk (g_inp T p) 0))) = f_X9_settles_103 n4 (nI (p + 1)) (z_w S4 98 p (nI (x_mk (g_inp T p) (T 2)))) := by
        refine x_for (F := fun n q => f_X9_settles_122 (f_X9_settles_103 n4) n (nI p) (nI q) (z_w S4 98 p (nI (x_mk (g_inp T p) q)))) (N := T 2) ?_ ?_ (d := T 2) (a := 0) (n := 1000) (by omega) (by omega)
        · intro n5
          rw [f_X9_settles_122, b_wk (by omega), m4 2 (by omega), if_pos (nI_le (Nat.le_refl _) (by omega)), show (1 : Int32) = nI 1 from rfl, nI_add]
        · intro n5 q hq
          have ml := x_mk_31 (g_inp T p) (n := q) (by omega)
          have mm : mT T 89 (z_w S4 98 p (nI (x_mk (g_inp T p) q))) := fun j hj => by rw [b_wk (by omega)]; exact m4 j hj
          have r160 : ∀ y : Nat, f_X9_settles_160 (f_X9_settles_103 n4) (f_X9_settles_122 (f_X9_settles_103 n4) n5) (nI p) (nI q) (nI y) (nI (x_mk (g_inp T p) q)) (nI p) (z_w S4 98 p (nI (x_mk (g_inp T p) q))) = f_X9_settles_122 (f_X9_settles_103 n4) n5 (nI p) (nI (q + 1)) (z_w S4 98 p (nI (x_mk (g_inp T p) q ||| y))) := fun y => by
            rw [f_X9_settles_160, if_pos ((x_in (by omega)).mpr (by omega)), nI_clamp (by omega), fa_or, z_ww, show (1 : Int32) = nI 1 from rfl, nI_add]
          rw [f_X9_settles_122, b_wk (by omega), m4 2 (by omega), if_neg (nI_ge hq (by omega)), if_pos ((x_in (by omega)).mpr (by omega)), nI_clamp (by omega), b_wh]
          have inp : g_inp T p q = (!decide (q = p) && g_rnd T q (g_rg T p 0)) := rfl
          by_cases z : p = q
          · have no : ¬ g_inp T p q = true := by rw [inp, decide_eq_true z.symm]; simp
            rw [if_pos (show nI p = nI q by rw [z]), show (0 : Int32) = nI 0 from rfl, r160 0, Nat.or_zero, x_mk_no no]
          · rw [if_neg (show ¬ nI p = nI q from fun y => z ((nI_eq (by omega) (by omega)).mp y)), s9_within w mm hp hq, Option.bind_some]
            by_cases y : g_rnd T q (g_rg T p 0) = true
            · have yes : g_inp T p q = true := by rw [inp, decide_eq_false (fun e => z e.symm), y]; rfl
              rw [if_pos y, if_neg (c := nI 1 = 0) (by decide), show (1 : Int32) = nI 1 from rfl, x_bit (by omega)]
              dsimp only
              rw [r160, x_mk_yes yes]
            · have no : ¬ g_inp T p q = true := by rw [inp]; simp [y]
              rw [if_neg y, if_pos (c := nI 0 = 0) nI_0, show (0 : Int32) = nI 0 from rfl]
              dsimp only
              rw [r160 0, Nat.or_zero, x_mk_no no]
      show ∃ S', f_X9_settles_103 (n4 + 1) (nI p) S4 = _ ∧ _
      rw [f_X9_settles_103, m4 2 (by omega), if_neg (nI_ge hp (by omega)), if_pos ((x_in (by omega)).mpr (by omega)), nI_clamp (by omega)]
      have inn' : f_X9_settles_122 (f_X9_settles_103 n4) 1000 (nI p) 0 (z_w S4 98 p 0) = f_X9_settles_103 n4 (nI (p + 1)) (z_w S4 98 p (nI (x_mk (g_inp T p) (T 2)))) := inn
      rw [inn']
      apply go
      refine ⟨x_fr_w h4 rfl, fun i hi => ?_⟩
      by_cases z : i = p
      · rw [z, b_wh]; rfl
      · rw [b_wj z]; exact g4 i (by omega)
  · intro n k S3 hk ⟨h3, g3⟩ go
    show ∃ S', f_X9_settles_79 (n + 1) (nI k) S3 = _ ∧ _
    rw [f_X9_settles_79, if_neg (show ¬ (9 : Int32) ≤ nI k from nI_ge (b := 9) (by omega) (by omega)), show (4 : Int32) = nI 4 from rfl, nI_add, if_pos ((x_in (by omega)).mpr (by omega)), nI_clamp (by omega), show (1 : Int32) = nI 1 from rfl, nI_add]
    apply go
    refine ⟨x_fr_w h3 ⟨rfl, by omega⟩, fun i hi => ?_⟩
    by_cases z : i = k
    · rw [z, b_wh]; rfl
    · rw [b_wj (by omega)]; exact g3 i (by omega)
end SET
