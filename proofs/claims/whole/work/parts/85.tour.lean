/-! ===== the order of least moves ===== -/
def g_nx (T : Nat → Nat) (b p r : Nat) : Bool := r.testBit p && decide (g_ah T b p &&& r = 0)
def g_ltn (T : Nat → Nat) (b t : Nat) (R : Nat → Nat → Nat) (u r : Nat) : Nat → Nat
  | 0 => 1000000
  | p + 1 => if g_nx T b p r = true then (if g_way T u (g_st T b t p) + R (g_st T b t p) (b_an r (2 ^ p)) < g_ltn T b t R u r p then g_way T u (g_st T b t p) + R (g_st T b t p) (b_an r (2 ^ p)) else g_ltn T b t R u r p) else g_ltn T b t R u r p
def g_lt (T : Nat → Nat) (b t : Nat) : Nat → Nat → Nat → Nat
  | 0, _, _ => 0
  | f + 1, u, r => if r = 0 then 0 else g_ltn T b t (g_lt T b t f) u r (g_np T b)
def g_pkp (T : Nat → Nat) (b t f u r p : Nat) : Bool := g_nx T b p r && decide (g_way T u (g_st T b t p) + g_lt T b t (f - 1) (g_st T b t p) (b_an r (2 ^ p)) = g_lt T b t f u r)
def g_pk (T : Nat → Nat) (b t f u r : Nat) : Nat := x_f1 (g_pkp T b t f u r) (g_np T b)
/-- where the greedy one is after k -/
def g_os (T : Nat → Nat) (b t : Nat) : Nat → Nat × Nat
  | 0 => (t, 2 ^ g_np T b - 1)
  | k + 1 => (g_st T b t (g_pk T b t (4 - k) (g_os T b t k).1 (g_os T b t k).2), b_an (g_os T b t k).2 (2 ^ g_pk T b t (4 - k) (g_os T b t k).1 (g_os T b t k).2))
def g_oc (T : Nat → Nat) (b t k : Nat) : Nat := g_pk T b t (4 - k) (g_os T b t k).1 (g_os T b t k).2
/-- the tour's way; 1000000: there is none -/
def g_tw (T : Nat → Nat) (b t : Nat) : Nat := g_lt T b t 4 t (2 ^ g_np T b - 1)
section TR
variable {T : Nat → Nat} {b t P : Nat} {S : zS}
theorem g_ltn_le (R : Nat → Nat → Nat) (u r : Nat) : ∀ n, g_ltn T b t R u r n ≤ 1000000
  | 0 => Nat.le_refl _
  | p + 1 => by
    have := g_ltn_le R u r p
    rw [g_ltn]
    split
    · split <;> omega
    · exact this
theorem g_lt_le : ∀ f u r, g_lt T b t f u r ≤ 1000000
  | 0, _, _ => Nat.zero_le _
  | f + 1, u, r => by
    rw [g_lt]
    split
    · exact Nat.zero_le _
    · exact g_ltn_le _ _ _ _
theorem g_ltn_min {R : Nat → Nat → Nat} {u r : Nat} : ∀ {n p : Nat}, p < n → g_nx T b p r = true → g_ltn T b t R u r n ≤ g_way T u (g_st T b t p) + R (g_st T b t p) (b_an r (2 ^ p))
  | n + 1, p, hp, hx => by
    rw [g_ltn]
    by_cases e : p = n
    · subst e
      rw [if_pos hx]
      split <;> omega
    · have := g_ltn_min (R := R) (u := u) (n := n) (p := p) (by omega) hx
      split
      · split <;> omega
      · exact this
theorem g_ltn_at {R : Nat → Nat → Nat} {u r : Nat} : ∀ {n : Nat}, g_ltn T b t R u r n ≠ 1000000 → ∃ p, p < n ∧ g_nx T b p r = true ∧ g_way T u (g_st T b t p) + R (g_st T b t p) (b_an r (2 ^ p)) = g_ltn T b t R u r n
  | 0, h => absurd rfl h
  | n + 1, h => by
    rw [g_ltn] at h ⊢
    by_cases c : g_nx T b n r = true
    · rw [if_pos c] at h ⊢
      by_cases c2 : g_way T u (g_st T b t n) + R (g_st T b t n) (b_an r (2 ^ n)) < g_ltn T b t R u r n
      · rw [if_pos c2]
        exact ⟨n, by omega, c, rfl⟩
      · rw [if_neg c2] at h ⊢
        obtain ⟨k, hk, h1, h2⟩ := g_ltn_at h
        exact ⟨k, by omega, h1, h2⟩
    · rw [if_neg c] at h ⊢
      obtain ⟨k, hk, h1, h2⟩ := g_ltn_at h
      exact ⟨k, by omega, h1, h2⟩
theorem g_pk_ok {f u r : Nat} (hr : r ≠ 0) (h : g_lt T b t (f + 1) u r ≠ 1000000) : g_pk T b t (f + 1) u r < g_np T b ∧ g_nx T b (g_pk T b t (f + 1) u r) r = true ∧ g_way T u (g_st T b t (g_pk T b t (f + 1) u r)) + g_lt T b t f (g_st T b t (g_pk T b t (f + 1) u r)) (b_an r (2 ^ g_pk T b t (f + 1) u r)) = g_lt T b t (f + 1) u r := by
  have e : g_lt T b t (f + 1) u r = g_ltn T b t (g_lt T b t f) u r (g_np T b) := by rw [g_lt, if_neg hr]
  rw [e] at h
  obtain ⟨p, hp, h1, h2⟩ := g_ltn_at h
  have ex : g_pkp T b t (f + 1) u r p = true := by
    unfold g_pkp
    rw [h1, Nat.add_sub_cancel, e, h2]
    simp
  have lt : g_pk T b t (f + 1) u r < g_np T b := x_f1_ex hp ex
  have y := x_f1_yes lt
  unfold g_pkp at y
  rw [Bool.and_eq_true, decide_eq_true_eq] at y
  exact ⟨lt, y.1, y.2⟩
theorem g_pk_no {f u r p : Nat} (hr : r ≠ 0) (hp : p < g_pk T b t (f + 1) u r) (hx : g_nx T b p r = true) (hn : p < g_np T b) : g_lt T b t (f + 1) u r < g_way T u (g_st T b t p) + g_lt T b t f (g_st T b t p) (b_an r (2 ^ p)) := by
  have h := x_f1_no hp
  unfold g_pkp at h
  rw [hx, Nat.add_sub_cancel] at h
  have ne : ¬ g_way T u (g_st T b t p) + g_lt T b t f (g_st T b t p) (b_an r (2 ^ p)) = g_lt T b t (f + 1) u r := by simpa using h
  have e : g_lt T b t (f + 1) u r = g_ltn T b t (g_lt T b t f) u r (g_np T b) := by rw [g_lt, if_neg hr]
  have := g_ltn_min (T := T) (b := b) (t := t) (R := g_lt T b t f) (u := u) hn hx
  omega
/-! the class -/
def cT (T : Nat → Nat) (b t : Nat) (S : zS) : Prop := cV T b t S ∧ ∀ p, p < g_np T b → S.1 63 p = nI (g_ah T b p)
theorem s4_mb (w : wT T) (h : cT T b t S) {p r : Nat} (hp : p < g_np T b) (hr : r < 2 ^ 31) : f_X4_mayBeNext (nI p) (nI r) S = some (if g_nx T b p r = true then nI 1 else nI 0, S) := by
  have h0 := g_np_le (b := b) w
  have ha := g_ah_lt (b := b) w p
  have e := h.2 p hp
  have al : g_ah T b p &&& r < 2 ^ 4 := Nat.lt_of_le_of_lt Nat.and_le_left ha
  simp (disch := omega) only [f_X4_mayBeNext, x_l0, x_l1, x_l2, x_l3, x_l4, x_l5, x_l6, x_l7, x_l8, x_l9, x_l10, x_l12, x_l13, x_l14, x_l16, x_l18, x_l20, x_l22, x_l32, x_l36, x_l48, x_l50, x_l54, x_l57, x_l59, x_l74, x_l81, x_l99, x_l104, x_l107, x_l110, x_l112, x_l115, x_l117, x_l162, x_l255, x_l512, x_l99999, x_l1000000, nI_leI, nI_ltI, nI_eq, nI_add, pk_mul, nI_clamp, x_in, x_bit, x_b0, x_b1, x_b0n, fa_or, fa_and, fb_xorI, x_an, Option.bind_some, b_has8, b_has9, ↓reduceIte, not_true_eq_false, not_false_eq_true, x_nn, Bool.false_eq_true, x_ar_k, x_ar_in, x_ar_w, b_wk, b_wj, b_wh, b_w2, x_ar_2, if_pos, if_neg, e]
  unfold g_nx
  by_cases c : r.testBit p = true
  · by_cases c2 : g_ah T b p &&& r = 0 <;> simp [c, c2]
  · simp [c]
theorem s4_lt (w : wT T) (hc : cP0 T P S) (h : cT T b t S) (ht : t < T 0) : ∀ f n u r, f < n → f ≤ 4 → u < T 0 → r < 2 ^ 31 → f_X4_leastTour n P (nI u) (nI r) (nI (4 - f)) S = some (nI (g_lt T b t f u r), S)
  | 0, n, u, r, hn, _, hu, hr => by
    obtain ⟨n, rfl⟩ : ∃ m, n = m + 1 := ⟨n - 1, by omega⟩
    rw [f_X4_leastTour]
    unfold f_X4_leastTour_b
    by_cases e : r = 0
    · subst e
      rw [if_pos nI_0]
      rfl
    · rw [if_neg (nI_ne0 (by omega) (by omega)), if_neg (show ¬ nI (4 - 0) < 4 from nI_nlt (a := 4) (b := 4) (by omega) (by omega))]
      rfl
  | f + 1, n, u, r, hn, hf, hu, hr => by
    obtain ⟨n, rfl⟩ : ∃ m, n = m + 1 := ⟨n - 1, by omega⟩
    have h0 := wT_b w
    have hN := g_np_le (b := b) w
    rw [f_X4_leastTour]
    unfold f_X4_leastTour_b
    by_cases e : r = 0
    · subst e
      rw [if_pos nI_0, g_lt, if_pos rfl]
      rfl
    · rw [if_neg (nI_ne0 (by omega) (by omega)), if_pos (show nI (4 - (f + 1)) < 4 from nI_lt (b := 4) (by omega) (by omega)), g_lt, if_neg e]
      refine x_for (F := fun m k => f_X4_leastTour_19 P (f_X4_leastTour n) m (nI u) (nI r) (nI (4 - (f + 1))) (nI (g_ltn T b t (g_lt T b t f) u r k)) (nI k) S) (N := g_np T b) ?_ ?_ (d := g_np T b) (a := 0) (n := 1000) (by omega) (by omega)
      · intro m
        simp (disch := omega) only [f_X4_leastTour_19, x_l0, x_l1, x_l2, x_l3, x_l4, x_l5, x_l6, x_l7, x_l8, x_l9, x_l10, x_l12, x_l13, x_l14, x_l16, x_l18, x_l20, x_l22, x_l32, x_l36, x_l48, x_l50, x_l54, x_l57, x_l59, x_l74, x_l81, x_l99, x_l104, x_l107, x_l110, x_l112, x_l115, x_l117, x_l162, x_l255, x_l512, x_l99999, x_l1000000, nI_leI, nI_ltI, nI_eq, nI_add, pk_mul, nI_clamp, x_in, x_bit, x_b0, x_b1, x_b0n, fa_or, fa_and, fb_xorI, x_an, Option.bind_some, b_has8, b_has9, ↓reduceIte, not_true_eq_false, not_false_eq_true, x_nn, Bool.false_eq_true, x_ar_k, x_ar_in, x_ar_w, b_wk, b_wj, b_wh, b_w2, x_ar_2, if_pos, if_neg, h.1.1]
      · intro m k hk
        have gl := g_ltn_le (T := T) (b := b) (t := t) (g_lt T b t f) u r k
        have mb := s4_mb w h hk hr
        have st := (h.1.2 k hk).2.2
        have stl := g_st_lt w ht hk
        have ih := s4_lt w hc h ht f n (g_st T b t k) (b_an r (2 ^ k)) (by omega) (by omega) stl (b_an_lt hr)
        rw [show 4 - f = 4 - (f + 1) + 1 from by omega] at ih
        have wy := s1_way w hc hu stl
        have wl := g_way_le w hu stl
        have ll := g_lt_le (T := T) (b := b) (t := t) f (g_st T b t k) (b_an r (2 ^ k))
        have h571 := h.1.1
        by_cases c : g_nx T b k r = true
        · simp (disch := omega) only [f_X4_leastTour_19, x_l0, x_l1, x_l2, x_l3, x_l4, x_l5, x_l6, x_l7, x_l8, x_l9, x_l10, x_l12, x_l13, x_l14, x_l16, x_l18, x_l20, x_l22, x_l32, x_l36, x_l48, x_l50, x_l54, x_l57, x_l59, x_l74, x_l81, x_l99, x_l104, x_l107, x_l110, x_l112, x_l115, x_l117, x_l162, x_l255, x_l512, x_l99999, x_l1000000, nI_leI, nI_ltI, nI_eq, nI_add, pk_mul, nI_clamp, x_in, x_bit, x_b0, x_b1, x_b0n, fa_or, fa_and, fb_xorI, x_an, Option.bind_some, b_has8, b_has9, ↓reduceIte, not_true_eq_false, not_false_eq_true, x_nn, Bool.false_eq_true, x_ar_k, x_ar_in, x_ar_w, b_wk, b_wj, b_wh, b_w2, x_ar_2, x_leT, x_leF, x_ltT, x_ltF, x_eqT, x_eqF, h571, mb, c, st, wy, ih, g_ltn]
          by_cases q : g_way T u (g_st T b t k) + g_lt T b t f (g_st T b t k) (b_an r (2 ^ k)) < g_ltn T b t (g_lt T b t f) u r k
          · rw [if_pos q, if_pos q]
          · rw [if_neg q, if_neg q]
        · simp (disch := omega) only [f_X4_leastTour_19, x_l0, x_l1, x_l2, x_l3, x_l4, x_l5, x_l6, x_l7, x_l8, x_l9, x_l10, x_l12, x_l13, x_l14, x_l16, x_l18, x_l20, x_l22, x_l32, x_l36, x_l48, x_l50, x_l54, x_l57, x_l59, x_l74, x_l81, x_l99, x_l104, x_l107, x_l110, x_l112, x_l115, x_l117, x_l162, x_l255, x_l512, x_l99999, x_l1000000, nI_leI, nI_ltI, nI_eq, nI_add, pk_mul, nI_clamp, x_in, x_bit, x_b0, x_b1, x_b0n, fa_or, fa_and, fb_xorI, x_an, Option.bind_some, b_has8, b_has9, ↓reduceIte, not_true_eq_false, not_false_eq_true, x_nn, Bool.false_eq_true, x_ar_k, x_ar_in, x_ar_w, b_wk, b_wj, b_wh, b_w2, x_ar_2, x_leT, x_leF, x_ltT, x_ltF, x_eqT, x_eqF, h571, mb, c, g_ltn]
/-! the greedy one -/
theorem g_os_ok (w : wT T) (ht : t < T 0) (h : g_tw T b t ≠ 1000000) : ∀ k, k ≤ g_np T b → (g_os T b t k).1 < T 0 ∧ (g_os T b t k).2 < 2 ^ g_np T b ∧ b_ct (g_os T b t k).2 (g_np T b) + k = g_np T b ∧ g_lt T b t (4 - k) (g_os T b t k).1 (g_os T b t k).2 ≠ 1000000
  | 0, _ => by
    refine ⟨ht, ?_, ?_, h⟩
    · show 2 ^ g_np T b - 1 < 2 ^ g_np T b
      have := Nat.two_pow_pos (g_np T b)
      omega
    · show b_ct (2 ^ g_np T b - 1) (g_np T b) + 0 = g_np T b
      have e : b_ct (2 ^ g_np T b - 1) (g_np T b) = fb_ct (fun _ => true) (g_np T b) := fb_ct_cong (fun i hi => by rw [Nat.testBit_two_pow_sub_one]; simp [hi])
      have n := fb_ct_not (fun _ => true) (g_np T b)
      have z : fb_ct (fun _ => !true) (g_np T b) = 0 := fb_ct_zero.mpr (fun _ _ => rfl)
      have z2 : fb_ct (fun k => !(fun _ => true) k) (g_np T b) = 0 := z
      omega
  | k + 1, hk => by
    obtain ⟨h1, h2, h3, h4⟩ := g_os_ok w ht h k (by omega)
    have hN := g_np_le (b := b) w
    have r0 : (g_os T b t k).2 ≠ 0 := fun e => by
      have := (b_ct_0 h2).mpr e
      omega
    obtain ⟨f, hf⟩ : ∃ f, 4 - k = f + 1 := ⟨3 - k, by omega⟩
    rw [hf] at h4
    have ok := g_pk_ok r0 h4
    have e : g_pk T b t (4 - k) (g_os T b t k).1 (g_os T b t k).2 = g_pk T b t (f + 1) (g_os T b t k).1 (g_os T b t k).2 := by rw [hf]
    have hx := ok.2.1
    unfold g_nx at hx
    rw [Bool.and_eq_true] at hx
    have h31 : (g_os T b t k).2 < 2 ^ 31 := Nat.lt_of_lt_of_le h2 (Nat.pow_le_pow_right (by decide) (by omega))
    have ct := b_ct_an h31 ok.1 hx.1
    have l1 := g_lt_le (T := T) (b := b) (t := t) (f + 1) (g_os T b t k).1 (g_os T b t k).2
    rw [g_os, e]
    refine ⟨g_st_lt w ht ok.1, b_an_lt h2, by show b_ct (b_an _ _) _ + (k + 1) = _; omega, ?_⟩
    rw [show 4 - (k + 1) = f from by omega]
    show g_lt T b t f (g_st T b t (g_pk T b t (f + 1) (g_os T b t k).1 (g_os T b t k).2)) (b_an (g_os T b t k).2 (2 ^ g_pk T b t (f + 1) (g_os T b t k).1 (g_os T b t k).2)) ≠ 1000000
    omega
theorem g_os_step (w : wT T) (ht : t < T 0) (h : g_tw T b t ≠ 1000000) {k : Nat} (hk : k < g_np T b) : g_oc T b t k < g_np T b ∧ g_nx T b (g_oc T b t k) (g_os T b t k).2 = true ∧ g_way T (g_os T b t k).1 (g_st T b t (g_oc T b t k)) + g_lt T b t (3 - k) (g_st T b t (g_oc T b t k)) (b_an (g_os T b t k).2 (2 ^ g_oc T b t k)) = g_lt T b t (4 - k) (g_os T b t k).1 (g_os T b t k).2 ∧ (g_os T b t k).2 ≠ 0 := by
  obtain ⟨h1, h2, h3, h4⟩ := g_os_ok w ht h k (by omega)
  have hN := g_np_le (b := b) w
  have r0 : (g_os T b t k).2 ≠ 0 := fun e => by
    have := (b_ct_0 h2).mpr e
    omega
  unfold g_oc
  rw [show 4 - k = (3 - k) + 1 from by omega] at h4 ⊢
  have ok := g_pk_ok r0 h4
  exact ⟨ok.1, ok.2.1, ok.2.2, r0⟩
/-- the class's tour -/
def cTo (T : Nat → Nat) (b t : Nat) (S : zS) : zS := if g_tw T b t = 1000000 then z_w S 57 10 (nI 1000000) else x_ar (z_w S 57 10 (nI (g_tw T b t))) 65 (g_np T b) (fun k => nI (g_oc T b t k))
theorem cT_fr {W : Nat → Nat → Prop} {S' : zS} (h : cT T b t S) (hf : x_fr W S S') (hw : ∀ q j, (q = 57 ∧ j = 1) ∨ q = 58 ∨ q = 60 ∨ q = 61 ∨ q = 63 → ¬ W q j) : cT T b t S' := by
  refine ⟨⟨?_, fun p hp => ⟨?_, ?_, ?_⟩⟩, fun p hp => ?_⟩
  · rw [hf.2 _ _ (hw 57 1 (by omega))]; exact h.1.1
  · rw [hf.2 _ _ (hw 58 p (by omega))]; exact (h.1.2 p hp).1
  · rw [hf.2 _ _ (hw 60 p (by omega))]; exact (h.1.2 p hp).2.1
  · rw [hf.2 _ _ (hw 61 p (by omega))]; exact (h.1.2 p hp).2.2
  · rw [hf.2 _ _ (hw 63 p (by omega))]; exact h.2 p hp
theorem s4_tour52 (w : wT T) (hc : cP0 T P S) (h : cT T b t S) (hP : P = 3 ∨ P = 17) (ht : t < T 0) (hw : g_tw T b t ≠ 1000000) {k : Nat} (hk : k < g_np T b) (K : Int32 → Int32 → Int32 → Int32 → zS → Option (Unit × zS)) : f_X4_findTour_52 P K 1000 (nI (g_os T b t k).2) (nI (g_lt T b t (4 - k) (g_os T b t k).1 (g_os T b t k).2)) (nI (g_os T b t k).1) (nI k) (nI 0) S = K (nI (g_os T b t (k + 1)).2) (nI (g_lt T b t (4 - (k + 1)) (g_os T b t (k + 1)).1 (g_os T b t (k + 1)).2)) (nI (g_os T b t (k + 1)).1) (nI (k + 1)) (z_w S 65 k (nI (g_oc T b t k))) := by
  have h0 := wT_b w
  have hN := g_np_le (b := b) w
  obtain ⟨h1, h2, h3, h4⟩ := g_os_ok w ht hw k (by omega)
  obtain ⟨s1, s2, s3, s4⟩ := g_os_step w ht hw hk
  have e1 : g_os T b t (k + 1) = (g_st T b t (g_oc T b t k), b_an (g_os T b t k).2 (2 ^ g_oc T b t k)) := rfl
  rw [e1]
  unfold g_oc at s1 s2 s3 ⊢
  have h31 : (g_os T b t k).2 < 2 ^ 31 := Nat.lt_of_lt_of_le h2 (Nat.pow_le_pow_right (by decide) (by omega))
  generalize (g_os T b t k).1 = u at *
  generalize (g_os T b t k).2 = r at *
  have l0 := g_lt_le (T := T) (b := b) (t := t) (4 - k) u r
  have hh := x_find (F := fun n p => f_X4_findTour_52 P K n (nI r) (nI (g_lt T b t (4 - k) u r)) (nI u) (nI k) (nI p) S) (N := g_np T b) (p := g_pkp T b t (4 - k) u r) (yes := fun p => K (nI (b_an r (2 ^ p))) (nI (g_lt T b t (3 - k) (g_st T b t p) (b_an r (2 ^ p)))) (nI (g_st T b t p)) (nI (k + 1)) (z_w S 65 k (nI p))) (no := K (nI r) (nI (g_lt T b t (4 - k) u r)) (nI u) (nI (k + 1)) S) ?_ ?_ (d := g_np T b) (a := 0) (n := 1000) (by omega) (by omega)
  · refine Eq.trans hh ?_
    rw [show 4 - (k + 1) = 3 - k from by omega]
    exact if_pos s1
  · intro n
    have h571 := h.1.1
    simp (disch := omega) only [f_X4_findTour_52, x_l0, x_l1, x_l2, x_l3, x_l4, x_l5, x_l6, x_l7, x_l8, x_l9, x_l10, x_l12, x_l13, x_l14, x_l16, x_l18, x_l20, x_l22, x_l32, x_l36, x_l48, x_l50, x_l54, x_l57, x_l59, x_l74, x_l81, x_l99, x_l104, x_l107, x_l110, x_l112, x_l115, x_l117, x_l162, x_l255, x_l512, x_l99999, x_l1000000, nI_leI, nI_ltI, nI_eq, nI_add, pk_mul, nI_clamp, x_in, x_bit, x_b0, x_b1, x_b0n, fa_or, fa_and, fb_xorI, x_an, Option.bind_some, b_has8, b_has9, ↓reduceIte, not_true_eq_false, not_false_eq_true, x_nn, Bool.false_eq_true, x_ar_k, x_ar_in, x_ar_w, b_wk, b_wj, b_wh, b_w2, x_ar_2, if_pos, if_neg, h571]
  · intro n p hp
    have h571 := h.1.1
    have mb := s4_mb w h hp h31
    have st := (h.1.2 p hp).2.2
    have stl := g_st_lt w ht hp
    have wy := s1_way w hc h1 stl
    have wl := g_way_le w h1 stl
    have lt := s4_lt w hc h ht (3 - k) 6 (g_st T b t p) (b_an r (2 ^ p)) (by omega) (by omega) stl (b_an_lt h31)
    rw [show 4 - (3 - k) = k + 1 from by omega] at lt
    have ll := g_lt_le (T := T) (b := b) (t := t) (3 - k) (g_st T b t p) (b_an r (2 ^ p))
    by_cases c : g_nx T b p r = true
    · by_cases c2 : g_way T u (g_st T b t p) + g_lt T b t (3 - k) (g_st T b t p) (b_an r (2 ^ p)) = g_lt T b t (4 - k) u r
      · have y : g_pkp T b t (4 - k) u r p = true := by
          unfold g_pkp
          rw [show 4 - k - 1 = 3 - k from by omega]
          simp [c, c2]
        have e5 : nI (g_lt T b t (4 - k) u r) - nI (g_way T u (g_st T b t p)) = nI (g_lt T b t (3 - k) (g_st T b t p) (b_an r (2 ^ p))) := by
          rw [pk_sub (by omega)]
          exact congrArg nI (by omega)
        have hP2 : cP0 T P (z_w S 65 k (nI p)) := cP0_fr hc (x_fr_w (W := fun q _ => q = 65) x_fr_rf rfl) (fun q j q1 q2 => by omega) (by omega)
        have e6 := s1_way w hP2 h1 stl
        rw [if_pos y]
        simp (disch := omega) only [f_X4_findTour_52, x_l0, x_l1, x_l2, x_l3, x_l4, x_l5, x_l6, x_l7, x_l8, x_l9, x_l10, x_l12, x_l13, x_l14, x_l16, x_l18, x_l20, x_l22, x_l32, x_l36, x_l48, x_l50, x_l54, x_l57, x_l59, x_l74, x_l81, x_l99, x_l104, x_l107, x_l110, x_l112, x_l115, x_l117, x_l162, x_l255, x_l512, x_l99999, x_l1000000, nI_leI, nI_ltI, nI_eq, nI_add, pk_mul, nI_clamp, x_in, x_bit, x_b0, x_b1, x_b0n, fa_or, fa_and, fb_xorI, x_an, Option.bind_some, b_has8, b_has9, ↓reduceIte, not_true_eq_false, not_false_eq_true, x_nn, Bool.false_eq_true, x_ar_k, x_ar_in, x_ar_w, b_wk, b_wj, b_wh, b_w2, x_ar_2, x_leT, x_leF, x_ltT, x_ltF, x_eqT, x_eqF, h571, mb, c, st, wy, lt, e5, e6]
      · have y : ¬ g_pkp T b t (4 - k) u r p = true := by
          unfold g_pkp
          rw [show 4 - k - 1 = 3 - k from by omega]
          simp [c2]
        rw [if_neg y]
        simp (disch := omega) only [f_X4_findTour_52, x_l0, x_l1, x_l2, x_l3, x_l4, x_l5, x_l6, x_l7, x_l8, x_l9, x_l10, x_l12, x_l13, x_l14, x_l16, x_l18, x_l20, x_l22, x_l32, x_l36, x_l48, x_l50, x_l54, x_l57, x_l59, x_l74, x_l81, x_l99, x_l104, x_l107, x_l110, x_l112, x_l115, x_l117, x_l162, x_l255, x_l512, x_l99999, x_l1000000, nI_leI, nI_ltI, nI_eq, nI_add, pk_mul, nI_clamp, x_in, x_bit, x_b0, x_b1, x_b0n, fa_or, fa_and, fb_xorI, x_an, Option.bind_some, b_has8, b_has9, ↓reduceIte, not_true_eq_false, not_false_eq_true, x_nn, Bool.false_eq_true, x_ar_k, x_ar_in, x_ar_w, b_wk, b_wj, b_wh, b_w2, x_ar_2, x_leT, x_leF, x_ltT, x_ltF, x_eqT, x_eqF, h571, mb, c, st, wy, lt]
    · have y : ¬ g_pkp T b t (4 - k) u r p = true := by unfold g_pkp; simp [c]
      rw [if_neg y]
      simp (disch := omega) only [f_X4_findTour_52, x_l0, x_l1, x_l2, x_l3, x_l4, x_l5, x_l6, x_l7, x_l8, x_l9, x_l10, x_l12, x_l13, x_l14, x_l16, x_l18, x_l20, x_l22, x_l32, x_l36, x_l48, x_l50, x_l54, x_l57, x_l59, x_l74, x_l81, x_l99, x_l104, x_l107, x_l110, x_l112, x_l115, x_l117, x_l162, x_l255, x_l512, x_l99999, x_l1000000, nI_leI, nI_ltI, nI_eq, nI_add, pk_mul, nI_clamp, x_in, x_bit, x_b0, x_b1, x_b0n, fa_or, fa_and, fb_xorI, x_an, Option.bind_some, b_has8, b_has9, ↓reduceIte, not_true_eq_false, not_false_eq_true, x_nn, Bool.false_eq_true, x_ar_k, x_ar_in, x_ar_w, b_wk, b_wj, b_wh, b_w2, x_ar_2, x_leT, x_leF, x_ltT, x_ltF, x_eqT, x_eqF, h571, mb, c]
theorem x_fr_cTo : x_fr (fun q j => (q = 57 ∧ j = 10) ∨ q = 65) S (cTo T b t S) := by
  unfold cTo
  split
  · exact x_fr_w x_fr_rf (Or.inl ⟨rfl, rfl⟩)
  · exact x_fr_a (x_fr_w x_fr_rf (Or.inl ⟨rfl, rfl⟩)) (fun _ _ => Or.inr rfl)
theorem s4_tour (w : wT T) (hc : cP0 T P S) (h : cT T b t S) (hP : P = 3 ∨ P = 17) (ht : t < T 0) : f_X4_findTour P (nI t) S = some ((), cTo T b t S) := by
  have h0 := wT_b w
  have hN := g_np_le (b := b) w
  have p0 := Nat.two_pow_pos (g_np T b)
  have p1 : 2 ^ g_np T b ≤ 2 ^ 4 := Nat.pow_le_pow_right (by decide) hN
  have e0 : (nI 1 <<< (nI (g_np T b) &&& 31)) - nI 1 = nI (2 ^ g_np T b - 1) := by rw [x_bit (by omega), pk_sub (by omega)]
  have lt := s4_lt w hc h ht 4 6 t (2 ^ g_np T b - 1) (by omega) (by omega) ht (by omega)
  have lt' : f_X4_leastTour 6 P (nI t) (nI (2 ^ g_np T b - 1)) (nI 0) S = some (nI (g_tw T b t), S) := lt
  have h571 := h.1.1
  rw [f_X4_findTour]
  simp (disch := omega) only [x_l0, x_l1, h571, e0, lt', Option.bind_some, b_wh]
  have tl : g_tw T b t ≤ 1000000 := g_lt_le _ _ _
  by_cases c : g_tw T b t = 1000000
  · unfold cTo
    rw [if_pos c, c]
    rw [f_X4_findTour_33]
    simp (disch := omega) only [x_l0, x_l1, x_l2, x_l3, x_l4, x_l5, x_l6, x_l7, x_l8, x_l9, x_l10, x_l12, x_l13, x_l14, x_l16, x_l18, x_l20, x_l22, x_l32, x_l36, x_l48, x_l50, x_l54, x_l57, x_l59, x_l74, x_l81, x_l99, x_l104, x_l107, x_l110, x_l112, x_l115, x_l117, x_l162, x_l255, x_l512, x_l99999, x_l1000000, nI_leI, nI_ltI, nI_eq, nI_add, pk_mul, nI_clamp, x_in, x_bit, x_b0, x_b1, x_b0n, fa_or, fa_and, fb_xorI, x_an, Option.bind_some, b_has8, b_has9, ↓reduceIte, not_true_eq_false, not_false_eq_true, x_nn, Bool.false_eq_true, x_ar_k, x_ar_in, x_ar_w, b_wk, b_wj, b_wh, b_w2, x_ar_2, if_pos, if_neg, h571]
    split <;> rfl
  · unfold cTo
    rw [if_neg c]
    have hT2 : ∀ k, cT T b t (x_ar (z_w S 57 10 (nI (g_tw T b t))) 65 k (fun k => nI (g_oc T b t k))) := fun k => cT_fr h (x_fr_a (x_fr_w (W := fun q j => (q = 57 ∧ j = 10) ∨ q = 65) x_fr_rf (Or.inl ⟨rfl, rfl⟩)) (fun _ _ => Or.inr rfl)) (fun q j h1 h2 => by omega)
    have hP2 : ∀ k, cP0 T P (x_ar (z_w S 57 10 (nI (g_tw T b t))) 65 k (fun k => nI (g_oc T b t k))) := fun k => cP0_fr hc (x_fr_a (x_fr_w (W := fun q j => (q = 57 ∧ j = 10) ∨ q = 65) x_fr_rf (Or.inl ⟨rfl, rfl⟩)) (fun _ _ => Or.inr rfl)) (fun q j q1 q2 h2 => by omega) (by omega)
    have hh := x_for (F := fun n k => f_X4_findTour_33 P n (nI (g_os T b t k).2) (nI (g_lt T b t (4 - k) (g_os T b t k).1 (g_os T b t k).2)) (nI (g_os T b t k).1) (nI k) (x_ar (z_w S 57 10 (nI (g_tw T b t))) 65 k (fun k => nI (g_oc T b t k)))) (N := g_np T b) (fin := some ((), x_ar (z_w S 57 10 (nI (g_tw T b t))) 65 (g_np T b) (fun k => nI (g_oc T b t k)))) ?_ ?_ (d := g_np T b) (a := 0) (n := 1000) (by omega) (by omega)
    · rw [x_ar_0] at hh
      exact hh
    · intro n
      have e := (hT2 (g_np T b)).1.1
      rw [f_X4_findTour_33, e, if_pos (nI_le (Nat.le_refl _) (by omega))]
    · intro n k hk
      have e := (hT2 k).1.1
      obtain ⟨h1, h2, h3, h4⟩ := g_os_ok w ht c k (by omega)
      have ll := g_lt_le (T := T) (b := b) (t := t) (4 - k) (g_os T b t k).1 (g_os T b t k).2
      have t5 := s4_tour52 w (hP2 k) (hT2 k) hP ht c hk (f_X4_findTour_33 P n)
      rw [x_ar_s] at t5
      rw [f_X4_findTour_33, e, if_neg (nI_ge hk (by omega)), x_l1000000, if_neg (nI_ge (by omega) (by omega))]
      exact t5
/-- with no piece -/
theorem s4_tour0 (h : cT T b t S) (hn : g_np T b = 0) (x : Int32) : f_X4_findTour P x S = some ((), z_w S 57 10 (nI 0)) := by
  have h571 := h.1.1
  rw [hn] at h571
  have e0 : ((1 : Int32) <<< (nI 0 &&& 31)) - 1 = nI 0 := by decide
  rw [f_X4_findTour, h571, e0]
  have e1 : f_X4_leastTour 6 P x (nI 0) 0 S = some (nI 0, S) := rfl
  rw [e1, Option.bind_some]
  dsimp only
  rw [f_X4_findTour_33, b_wj (by omega), h571, if_pos (by decide)]
end TR
