/-! ===== the reference's tour ===== -/
section TU
variable {T : Nat → Nat} {b t : Nat} {S : zS}
theorem mQ_fr {W : Nat → Nat → Prop} {S' : zS} (h : mQ T b S) (hf : x_fr W S S') (w : wT T) (hw : ∀ q j, q = 89 ∨ (q = 91 ∧ j = 0) ∨ q = 99 ∨ (q = 87 ∧ j = 23) ∨ q = 100 ∨ q = 98 → ¬ W q j) : mQ T b S' := by
  refine ⟨fun j hj => ?_, ?_, fun j hj => ?_, ?_, fun p hp => ?_, fun p hp => ?_⟩
  · rw [hf.2 _ _ (hw 89 j (by omega))]; exact h.1 j hj
  · rw [hf.2 _ _ (hw 91 0 (by omega))]; exact h.2.1
  · rw [hf.2 _ _ (hw 99 j (by omega))]; exact h.2.2.1 j hj
  · rw [hf.2 _ _ (hw 87 23 (by omega))]; exact h.2.2.2.1
  · rw [hf.2 _ _ (hw 100 p (by omega))]; exact h.2.2.2.2.1 p hp
  · rw [hf.2 _ _ (hw 98 p (by omega))]; exact h.2.2.2.2.2 p hp
theorem s9_t130 (w : wT T) (h : mQ T b S) (hb : b < 2 ^ 31) (ht : t < T 0) (hs : S.1 91 1 = nI t) {o : Nat → Nat} {k m u z : Nat} (hk : k < g_np T b) (hp : o k < g_np T b) (hu : u < T 0) (hz : z ≤ 200) (K37 : Int32 → Int32 → zS → Option (Int32 × zS)) (K67 : Int32 → Int32 → Int32 → Int32 → Int32 → Int32 → Int32 → Int32 → Int32 → zS → Option (Int32 × zS)) (v1 v2 v3 v4 t0 : Int32) : f_X9_tours_130 K37 K67 v1 v2 v3 v4 (nI m) (nI u) (nI z) (nI k) (nI (o k)) t0 (x_ar S 106 k (fun k => nI (o k))) = K67 v1 v2 v3 v4 (nI (m ||| 2 ^ o k)) (nI (g_st T b t (o k))) (nI (z + g_way T u (g_st T b t (o k)))) t0 (nI (k + 1)) (x_ar S 106 (k + 1) (fun k => nI (o k))) := by
  have hN := g_np_le (b := b) w
  have hf : x_fr (fun q _ => q = 106) S (x_ar S 106 (k + 1) (fun k => nI (o k))) := x_fr_a x_fr_rf (fun _ _ => rfl)
  have h2 := mQ_fr h hf w (fun q j q1 q2 => by omega)
  have hs2 : (x_ar S 106 (k + 1) (fun k => nI (o k))).1 91 1 = nI t := by rw [x_ar_k (by omega)]; exact hs
  have stl := g_st_lt w ht hp
  have st := s9_st w h2 hb ht hs2 hp
  have wy := s9_way w h2.1 hu stl
  have wl := g_way_le w hu stl
  have e := x_ar_s S 106 k (fun k => nI (o k))
  rw [f_X9_tours_130, if_pos ((x_in (by omega)).mpr (by omega)), nI_clamp (by omega), e, st, Option.bind_some]
  dsimp only
  rw [wy, Option.bind_some]
  dsimp only
  rw [st, Option.bind_some]
  simp (disch := omega) only [x_l1, x_bit, fa_or, nI_add]
theorem x_pw (N k : Nat) (hN : N ≤ 4) : N ^ k ≤ 4 ^ k := Nat.pow_le_pow_left hN k
theorem s9_t67 (w : wT T) (h : mQ T b S) (hb : b < 2 ^ 31) (ht : t < T 0) (hs : S.1 91 1 = nI t) {r bw : Nat} (hr : r < g_np T b ^ g_np T b) (hbw : S.1 87 32 = nI bw) (hb2 : bw ≤ 99999) (A : Int32) (K : Int32 → Int32 → zS → Option (Int32 × zS)) : f_X9_tours_67 K 1000 A (nI r) (nI r) (nI (g_np T b ^ g_np T b)) (nI 0) (nI t) (nI 0) (nI 1) (nI 0) S = K A (nI (r + 1)) (if g_rok T b t r = true ∧ g_rv T b t r < bw then x_ar (z_w (x_ar S 106 (g_np T b) (fun k => nI (x_dg (g_np T b) r k))) 87 32 (nI (g_rv T b t r))) 107 (g_np T b) (fun k => nI (x_dg (g_np T b) r k)) else x_ar S 106 (g_np T b) (fun k => nI (x_dg (g_np T b) r k))) := by
  have hN := g_np_le (b := b) w
  have hdl : ∀ k, k < g_np T b → x_dg (g_np T b) r k < g_np T b := fun k hk => x_dg_lt (by omega)
  have hfr : ∀ k, x_fr (fun q _ => q = 106) S (x_ar S 106 k (fun k => nI (x_dg (g_np T b) r k))) := fun k => x_fr_a x_fr_rf (fun _ _ => rfl)
  have hQ : ∀ k, mQ T b (x_ar S 106 k (fun k => nI (x_dg (g_np T b) r k))) := fun k => mQ_fr h (hfr k) w (fun q j q1 q2 => by omega)
  have hA : g_np T b ^ g_np T b ≤ 256 := Nat.le_trans (x_pw _ _ hN) (Nat.pow_le_pow_right (by decide) hN)
  have hh := x_for (F := fun n k => f_X9_tours_67 K n A (nI r) (nI (r % g_np T b ^ (g_np T b - k))) (nI (g_np T b ^ (g_np T b - k))) (nI (g_re T b t (x_dg (g_np T b) r) k).1) (nI (g_re T b t (x_dg (g_np T b) r) k).2.1) (nI (g_re T b t (x_dg (g_np T b) r) k).2.2.1) (if (g_re T b t (x_dg (g_np T b) r) k).2.2.2 = true then nI 1 else nI 0) (nI k) (x_ar S 106 k (fun k => nI (x_dg (g_np T b) r k)))) (N := g_np T b) (fin := K A (nI (r + 1)) (if g_rok T b t r = true ∧ g_rv T b t r < bw then x_ar (z_w (x_ar S 106 (g_np T b) (fun k => nI (x_dg (g_np T b) r k))) 87 32 (nI (g_rv T b t r))) 107 (g_np T b) (fun k => nI (x_dg (g_np T b) r k)) else x_ar S 106 (g_np T b) (fun k => nI (x_dg (g_np T b) r k)))) ?_ ?_ (d := g_np T b) (a := 0) (n := 1000) (by omega) (by omega)
  · rw [x_ar_0, Nat.sub_zero, Nat.mod_eq_of_lt hr] at hh
    exact hh
  · intro n
    have e23 := (hQ (g_np T b)).2.2.2.1
    have e32 : (x_ar S 106 (g_np T b) (fun k => nI (x_dg (g_np T b) r k))).1 87 32 = nI bw := by rw [x_ar_k (by omega)]; exact hbw
    have i := (g_re_inv w ht hdl (g_np T b) (Nat.le_refl _)).2.2.1
    rw [f_X9_tours_67, e23, if_pos (nI_le (Nat.le_refl _) (by omega))]
    by_cases c : g_rok T b t r = true
    · have c' : (g_re T b t (x_dg (g_np T b) r) (g_np T b)).2.2.2 = true := c
      rw [c', if_neg (by decide), e32]
      by_cases c2 : g_rv T b t r < bw
      · have c2' : (g_re T b t (x_dg (g_np T b) r) (g_np T b)).2.2.1 < bw := c2
        rw [if_neg (nI_ge c2' (by omega)), if_pos ⟨c, c2⟩]
        show f_X9_tours_204 K 1000 A (nI r) (nI 0) (z_w (x_ar S 106 (g_np T b) (fun k => nI (x_dg (g_np T b) r k))) 87 32 (nI (g_rv T b t r))) = _
        have hh := x_for (F := fun n k => f_X9_tours_204 K n A (nI r) (nI k) (x_ar (z_w (x_ar S 106 (g_np T b) (fun k => nI (x_dg (g_np T b) r k))) 87 32 (nI (g_rv T b t r))) 107 k (fun k => nI (x_dg (g_np T b) r k)))) (N := g_np T b) (fin := K A (nI (r + 1)) (x_ar (z_w (x_ar S 106 (g_np T b) (fun k => nI (x_dg (g_np T b) r k))) 87 32 (nI (g_rv T b t r))) 107 (g_np T b) (fun k => nI (x_dg (g_np T b) r k)))) ?_ ?_ (d := g_np T b) (a := 0) (n := 1000) (by omega) (by omega)
        · rw [x_ar_0] at hh
          exact hh
        · intro n
          have e5 := h.2.2.2.1
          simp (disch := omega) only [f_X9_tours_204, x_l0, x_l1, x_l2, x_l3, x_l4, x_l5, x_l6, x_l7, x_l8, x_l9, x_l10, x_l12, x_l13, x_l14, x_l16, x_l18, x_l20, x_l22, x_l32, x_l36, x_l48, x_l50, x_l54, x_l57, x_l59, x_l74, x_l81, x_l99, x_l104, x_l107, x_l110, x_l112, x_l115, x_l117, x_l162, x_l255, x_l512, x_l99999, x_l1000000, nI_leI, nI_ltI, nI_eq, nI_add, pk_mul, nI_clamp, x_in, x_bit, x_b0, x_b1, x_b0n, fa_or, fa_and, fb_xorI, x_an, Option.bind_some, b_has8, b_has9, ↓reduceIte, not_true_eq_false, not_false_eq_true, x_nn, Bool.false_eq_true, x_ar_k, x_ar_in, x_ar_w, b_wk, b_wj, b_wh, b_w2, x_ar_2, if_pos, if_neg, e5]
        · intro n k hk
          have e5 := h.2.2.2.1
          have e6 := x_ar_s (z_w (x_ar S 106 (g_np T b) (fun k => nI (x_dg (g_np T b) r k))) 87 32 (nI (g_rv T b t r))) 107 k (fun k => nI (x_dg (g_np T b) r k))
          simp (disch := omega) only [f_X9_tours_204, x_l0, x_l1, x_l2, x_l3, x_l4, x_l5, x_l6, x_l7, x_l8, x_l9, x_l10, x_l12, x_l13, x_l14, x_l16, x_l18, x_l20, x_l22, x_l32, x_l36, x_l48, x_l50, x_l54, x_l57, x_l59, x_l74, x_l81, x_l99, x_l104, x_l107, x_l110, x_l112, x_l115, x_l117, x_l162, x_l255, x_l512, x_l99999, x_l1000000, nI_leI, nI_ltI, nI_eq, nI_add, pk_mul, nI_clamp, x_in, x_bit, x_b0, x_b1, x_b0n, fa_or, fa_and, fb_xorI, x_an, Option.bind_some, b_has8, b_has9, ↓reduceIte, not_true_eq_false, not_false_eq_true, x_nn, Bool.false_eq_true, x_ar_k, x_ar_in, x_ar_w, b_wk, b_wj, b_wh, b_w2, x_ar_2, if_pos, if_neg, e5]
          rw [e6]
      · have c2' : ¬ (g_re T b t (x_dg (g_np T b) r) (g_np T b)).2.2.1 < bw := c2
        rw [if_pos (nI_le (by omega) (by omega)), if_neg (fun q => c2 q.2)]
        simp (disch := omega) only [x_l1, nI_add]
    · have c' : ¬ (g_re T b t (x_dg (g_np T b) r) (g_np T b)).2.2.2 = true := c
      rw [if_neg c', if_pos (c := nI 0 = 0) nI_0, if_neg (fun q => c q.1)]
      simp (disch := omega) only [x_l1, nI_add]
  · intro n k hk
    have e23 := (hQ k).2.2.2.1
    obtain ⟨i1, i2, i3, i4⟩ := g_re_inv w ht hdl k (by omega)
    have p1 : 2 ^ g_np T b ≤ 2 ^ 4 := Nat.pow_le_pow_right (by decide) hN
    have hu : g_np T b ^ (g_np T b - k) ≤ 256 := Nat.le_trans (x_pw _ _ hN) (Nat.pow_le_pow_right (n := 4) (by decide) (show g_np T b - k ≤ 4 by omega))
    have hu1 : g_np T b ^ (g_np T b - k) = g_np T b ^ (g_np T b - k - 1) * g_np T b := by
      rw [← Nat.pow_succ, show (g_np T b - k - 1).succ = g_np T b - k from by omega]
    have hu0 : 0 < g_np T b ^ (g_np T b - k - 1) := Nat.pow_pos (by omega)
    have hu2 : g_np T b ^ (g_np T b - k - 1) ≤ g_np T b ^ (g_np T b - k) := Nat.pow_le_pow_right (by omega) (by omega)
    have eU : nI (g_np T b ^ (g_np T b - k)) / nI (g_np T b) = nI (g_np T b ^ (g_np T b - k - 1)) := by
      rw [pk_div (by omega) (by omega) (by omega), hu1, Nat.mul_div_cancel _ (by omega)]
    have hl : r % g_np T b ^ (g_np T b - k) ≤ r := Nat.mod_le _ _
    have eR := pk_rem (a := r % g_np T b ^ (g_np T b - k)) (d := g_np T b ^ (g_np T b - k - 1)) (by omega) hu0 (by omega)
    have eR2 : r % g_np T b ^ (g_np T b - k) % g_np T b ^ (g_np T b - k - 1) = r % g_np T b ^ (g_np T b - (k + 1)) := by
      rw [Nat.mod_mod_of_dvd _ ⟨g_np T b, hu1⟩]
      rfl
    have eD : nI (r % g_np T b ^ (g_np T b - k)) / nI (g_np T b ^ (g_np T b - k - 1)) = nI (x_dg (g_np T b) r k) := by
      rw [pk_div (by omega) hu0 (by omega), hu1, Nat.mod_mul_right_div_self]
      rfl
    rw [eR2] at eR
    have hp := hdl k hk
    have t130 := fun v3 v4 t0 => s9_t130 w h hb ht hs (o := x_dg (g_np T b) r) (k := k) (m := (g_re T b t (x_dg (g_np T b) r) k).1) (u := (g_re T b t (x_dg (g_np T b) r) k).2.1) (z := (g_re T b t (x_dg (g_np T b) r) k).2.2.1) hk hp i2 (by omega) K (f_X9_tours_67 K n) A (nI r) v3 v4 t0
    have fin : ∀ v3 v4 t0, f_X9_tours_67 K n A (nI r) v3 v4 (nI ((g_re T b t (x_dg (g_np T b) r) k).1 ||| 2 ^ x_dg (g_np T b) r k)) (nI (g_st T b t (x_dg (g_np T b) r k))) (nI ((g_re T b t (x_dg (g_np T b) r) k).2.2.1 + g_way T (g_re T b t (x_dg (g_np T b) r) k).2.1 (g_st T b t (x_dg (g_np T b) r k)))) t0 (nI (k + 1)) (x_ar S 106 (k + 1) (fun k => nI (x_dg (g_np T b) r k))) = f_X9_tours_67 K n A (nI r) v3 v4 (nI (g_re T b t (x_dg (g_np T b) r) (k + 1)).1) (nI (g_re T b t (x_dg (g_np T b) r) (k + 1)).2.1) (nI (g_re T b t (x_dg (g_np T b) r) (k + 1)).2.2.1) t0 (nI (k + 1)) (x_ar S 106 (k + 1) (fun k => nI (x_dg (g_np T b) r k))) := fun _ _ _ => rfl
    have e4 : g_np T b ^ (g_np T b - k - 1) = g_np T b ^ (g_np T b - (k + 1)) := rfl
    have is1 : (g_re T b t (x_dg (g_np T b) r) (k + 1)).2.2.2 = ((g_re T b t (x_dg (g_np T b) r) k).2.2.2 && !(g_re T b t (x_dg (g_np T b) r) k).1.testBit (x_dg (g_np T b) r k) && decide (b_an (g_ah T b (x_dg (g_np T b) r k)) (g_re T b t (x_dg (g_np T b) r) k).1 = 0)) := rfl
    rw [f_X9_tours_67, e23, if_neg (nI_ge hk (by omega)), if_neg (nI_ne0 (by omega) (by omega)), eU, if_neg (nI_ne0 (by omega) (by omega)), if_neg (nI_ne0 (by omega) (by omega)), eR, eD]
    have ah := s9_ah w (hQ k) hb hp
    have al := g_ah_lt (b := b) w (x_dg (g_np T b) r k)
    have anl := b_an_le (g_ah T b (x_dg (g_np T b) r k)) (g_re T b t (x_dg (g_np T b) r) k).1
    by_cases c : (g_re T b t (x_dg (g_np T b) r) k).2.2.2 = true
    · rw [c] at is1
      rw [if_pos c, if_neg (by decide), b_has9 (by omega) (by omega), Option.bind_some]
      dsimp only
      by_cases c2 : (g_re T b t (x_dg (g_np T b) r) k).1.testBit (x_dg (g_np T b) r k) = true
      · rw [c2] at is1
        have is2 : ¬ (g_re T b t (x_dg (g_np T b) r) (k + 1)).2.2.2 = true := by rw [is1]; simp
        rw [if_pos c2, if_neg (by decide), t130, fin, if_neg is2]
        rfl
      · have c2' : (g_re T b t (x_dg (g_np T b) r) k).1.testBit (x_dg (g_np T b) r k) = false := by simpa using c2
        rw [c2'] at is1
        rw [if_neg c2, if_pos (c := nI 0 = 0) nI_0, ah, Option.bind_some]
        dsimp only
        have ean : nI (g_ah T b (x_dg (g_np T b) r k)) &&& (nI (g_re T b t (x_dg (g_np T b) r) k).1 ^^^ (-1)) = nI (b_an (g_ah T b (x_dg (g_np T b) r k)) (g_re T b t (x_dg (g_np T b) r) k).1) := x_an (by omega)
        rw [ean]
        by_cases c3 : b_an (g_ah T b (x_dg (g_np T b) r k)) (g_re T b t (x_dg (g_np T b) r) k).1 = 0
        · have is2 : (g_re T b t (x_dg (g_np T b) r) (k + 1)).2.2.2 = true := by rw [is1, c3]; simp
          rw [c3, if_pos (c := nI 0 = 0) nI_0, t130, fin, if_pos is2]
          rfl
        · have is2 : ¬ (g_re T b t (x_dg (g_np T b) r) (k + 1)).2.2.2 = true := by rw [is1]; simp [c3]
          rw [if_neg (nI_ne0 (by omega) (by omega)), t130, fin, if_neg is2]
          rfl
    · have is2 : ¬ (g_re T b t (x_dg (g_np T b) r) (k + 1)).2.2.2 = true := by rw [is1]; simp [c]
      rw [if_neg c, if_pos (c := nI 0 = 0) nI_0, t130, fin, if_neg is2]
      rfl
def wTo (q j : Nat) : Prop := (q = 87 ∧ j = 32) ∨ q = 106 ∨ q = 107
theorem s9_tour37 (w : wT T) (h : mQ T b S) (hb : b < 2 ^ 31) (ht : t < T 0) (hs : S.1 91 1 = nI t) : ∃ S', f_X9_tours_37 1000 (nI (g_np T b ^ g_np T b)) (nI 0) (z_w S 87 32 (nI 99999)) = some (if g_tw T b t = 1000000 then nI 0 else nI 1, S') ∧ x_fr wTo S S' ∧ (g_tw T b t ≠ 1000000 → S'.1 87 32 = nI (g_tw T b t) ∧ ∀ k, k < g_np T b → S'.1 107 k = nI (g_oc T b t k)) := by
  have hN := g_np_le (b := b) w
  have hA : g_np T b ^ g_np T b ≤ 256 := Nat.le_trans (x_pw _ _ hN) (Nat.pow_le_pow_right (by decide) hN)
  refine x_forI (F := fun n k S => f_X9_tours_37 n (nI (g_np T b ^ g_np T b)) (nI k) S) (N := g_np T b ^ g_np T b) (I := fun k S1 => x_fr wTo S S1 ∧ S1.1 87 32 = nI (x_fm (g_rok T b t) (g_rv T b t) k).1 ∧ ((x_fm (g_rok T b t) (g_rv T b t) k).1 < 99999 → ∀ i, i < g_np T b → S1.1 107 i = nI (x_dg (g_np T b) (x_fm (g_rok T b t) (g_rv T b t) k).2 i))) (G := fun γ => ∃ S', γ = some (if g_tw T b t = 1000000 then nI 0 else nI 1, S') ∧ x_fr wTo S S' ∧ (g_tw T b t ≠ 1000000 → S'.1 87 32 = nI (g_tw T b t) ∧ ∀ k, k < g_np T b → S'.1 107 k = nI (g_oc T b t k))) ?_ ?_ (d := g_np T b ^ g_np T b) (a := 0) (n := 1000) (S := z_w S 87 32 (nI 99999)) (by omega) (by omega) ?_
  · intro n S1 ⟨h1, h2, h3⟩
    have gr := g_rows (b := b) w ht
    refine ⟨S1, ?_, h1, fun hne => ?_⟩
    · show f_X9_tours_37 (n + 1) (nI (g_np T b ^ g_np T b)) (nI (g_np T b ^ g_np T b)) S1 = _
      rw [f_X9_tours_37, if_pos (nI_le (Nat.le_refl _) (by omega)), h2, x_l99999]
      by_cases c : g_tw T b t = 1000000
      · rw [gr.1 c, if_pos c, if_pos (nI_le (Nat.le_refl _) (by omega))]
        rfl
      · obtain ⟨q1, R, q2, _⟩ := gr.2 c
        rw [q2, if_neg c, if_neg (nI_ge (by show g_tw T b t < 99999; omega) (by omega))]
        rfl
    · obtain ⟨q1, R, q2, q3⟩ := gr.2 hne
      rw [q2] at h2 h3
      refine ⟨h2, fun k hk => ?_⟩
      rw [h3 q1 k hk]
      exact congrArg nI (q3 k hk)
  · intro n k S1 hk ⟨h1, h2, h3⟩ go
    have hQ := mQ_fr h h1 w (fun q j q1 q2 => by unfold wTo at q2; omega)
    have hs1 : S1.1 91 1 = nI t := by rw [h1.2 _ _ (by unfold wTo; omega)]; exact hs
    have bl : (x_fm (g_rok T b t) (g_rv T b t) k).1 ≤ 99999 := by
      rcases x_fm_ok (g_rok T b t) (g_rv T b t) k with q | q <;> omega
    have t67 := s9_t67 w hQ hb ht hs1 hk h2 bl (nI (g_np T b ^ g_np T b)) (f_X9_tours_37 n)
    have e1 : f_X9_tours_37 (n + 1) (nI (g_np T b ^ g_np T b)) (nI k) S1 = f_X9_tours_67 (f_X9_tours_37 n) 1000 (nI (g_np T b ^ g_np T b)) (nI k) (nI k) (nI (g_np T b ^ g_np T b)) (nI 0) (nI t) (nI 0) (nI 1) (nI 0) S1 := by
      rw [f_X9_tours_37, if_neg (nI_ge hk (by omega)), hs1]
      rfl
    show ∃ S', f_X9_tours_37 (n + 1) (nI (g_np T b ^ g_np T b)) (nI k) S1 = _ ∧ _
    rw [e1, t67]
    apply go
    by_cases c : g_rok T b t k = true ∧ g_rv T b t k < (x_fm (g_rok T b t) (g_rv T b t) k).1
    · have e2 : x_fm (g_rok T b t) (g_rv T b t) (k + 1) = (g_rv T b t k, k) := by rw [x_fm, if_pos c]
      rw [if_pos c, e2]
      refine ⟨x_fr_a (x_fr_w (x_fr_a h1 (fun _ _ => Or.inr (Or.inl rfl))) (Or.inl ⟨rfl, rfl⟩)) (fun _ _ => Or.inr (Or.inr rfl)), ?_, fun _ i hi => ?_⟩
      · rw [x_ar_k (by omega), b_wh]
      · rw [x_ar_in hi]
    · have e2 : x_fm (g_rok T b t) (g_rv T b t) (k + 1) = x_fm (g_rok T b t) (g_rv T b t) k := by rw [x_fm, if_neg c]
      rw [if_neg c, e2]
      refine ⟨x_fr_a h1 (fun _ _ => Or.inr (Or.inl rfl)), ?_, fun q i hi => ?_⟩
      · rw [x_ar_k (by omega)]; exact h2
      · rw [x_ar_k (by omega)]; exact h3 q i hi
  · refine ⟨x_fr_w x_fr_rf (Or.inl ⟨rfl, rfl⟩), b_wh, fun q => ?_⟩
    exact absurd q (Nat.lt_irrefl _)
def wTp (q j : Nat) : Prop := (q = 87 ∧ (j = 32 ∨ j = 23)) ∨ q = 99 ∨ q = 100 ∨ q = 106 ∨ q = 107
theorem s9_tours (w : wT T) (h : mT T 89 S) (hl : S.1 91 0 = nI b) (hi : ∀ p, p < T 2 → S.1 98 p = nI (g_in T p)) (hb : b < 2 ^ 31) (ht : t < T 0) (hs : S.1 91 1 = nI t) : ∃ S', f_X9_tours S = some (if g_tw T b t = 1000000 then nI 0 else nI 1, S') ∧ x_fr wTp S S' ∧ mQ T b S' ∧ (g_tw T b t ≠ 1000000 → S'.1 87 32 = nI (g_tw T b t) ∧ ∀ k, k < g_np T b → S'.1 107 k = nI (g_oc T b t k)) := by
  have hN := g_np_le (b := b) w
  have hA : ∀ k, k ≤ g_np T b → g_np T b ^ k ≤ 256 := fun k hk => Nat.le_trans (x_pw _ _ hN) (Nat.pow_le_pow_right (n := 4) (by decide) (show k ≤ 4 by omega))
  have hQ := mQ_pieces h hl hi
  have hf : x_fr wTp S (z_w (x_ar (x_ar S 99 9 (fun j => nI (g_root T b j))) 100 (g_np T b) (fun p => nI (g_pr T b p))) 87 23 (nI (g_np T b))) := x_fr_w (x_fr_a (x_fr_a x_fr_rf (fun _ _ => Or.inr (Or.inl rfl))) (fun _ _ => Or.inr (Or.inr (Or.inl rfl)))) (Or.inl ⟨rfl, Or.inr rfl⟩)
  rw [f_X9_tours, s9_pieces w h hl hb, Option.bind_some]
  generalize z_w (x_ar (x_ar S 99 9 (fun j => nI (g_root T b j))) 100 (g_np T b) (fun p => nI (g_pr T b p))) 87 23 (nI (g_np T b)) = S1 at *
  have hs1 : S1.1 91 1 = nI t := by rw [hf.2 _ _ (by unfold wTp; omega)]; exact hs
  obtain ⟨S', r1, r2, r3⟩ := s9_tour37 w hQ hb ht hs1
  have e23 := hQ.2.2.2.1
  have e : f_X9_tours_8 1000 1 0 S1 = some (if g_tw T b t = 1000000 then nI 0 else nI 1, S') := by
    rw [← r1]
    refine x_for (F := fun n k => f_X9_tours_8 n (nI (g_np T b ^ k)) (nI k) S1) (N := g_np T b) ?_ ?_ (d := g_np T b) (a := 0) (n := 1000) (by omega) (by omega)
    · intro n
      rw [f_X9_tours_8, e23, if_pos (nI_le (Nat.le_refl _) (by omega))]
      rfl
    · intro n k hk
      have l1 := hA (k + 1) hk
      rw [Nat.pow_succ] at l1
      rw [f_X9_tours_8, e23, if_neg (nI_ge hk (by omega)), pk_mul]
      simp (disch := omega) only [x_l1, nI_add, Nat.pow_succ]
  refine ⟨S', e, x_fr_tr hf (x_fr_sub r2 (fun q j hq => by unfold wTo at hq; unfold wTp; omega)), mQ_fr hQ r2 w (fun q j q1 q2 => by unfold wTo at q2; omega), r3⟩
end TU
