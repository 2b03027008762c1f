/-! ===== pairs of least way ===== -/
/-- the least of way u k and what R says of the rest, over the k < n of o; z where there is none -/
def g_mn (T : Nat → Nat) (R : Nat → Nat) (u o z : Nat) : Nat → Nat
  | 0 => z
  | k + 1 => if o.testBit k = true then (if g_way T u k + R (b_an o (2 ^ k)) < g_mn T R u o z k then g_way T u k + R (b_an o (2 ^ k)) else g_mn T R u o z k) else g_mn T R u o z k
def g_lp (T : Nat → Nat) : Nat → Nat → Nat
  | 0, _ => 0
  | f + 1, s => if s = 0 then 0 else g_mn T (g_lp T f) (x_low s) (b_an s (2 ^ x_low s)) 1000000 9
section LP
variable {T : Nat → Nat} {P : Nat} {S : zS}
theorem g_mn_le (R : Nat → Nat) (u o z : Nat) : ∀ n, g_mn T R u o z n ≤ z
  | 0 => Nat.le_refl z
  | k + 1 => by
    have := g_mn_le R u o z k
    rw [g_mn]
    split
    · split <;> omega
    · exact this
theorem g_lp_le : ∀ f s, g_lp T f s ≤ 1000000
  | 0, _ => Nat.zero_le _
  | f + 1, s => by
    rw [g_lp]
    split
    · exact Nat.zero_le _
    · exact g_mn_le _ _ _ _ _
theorem g_mn_cong {R Q : Nat → Nat} {u o z : Nat} : ∀ {n : Nat}, (∀ k, k < n → o.testBit k = true → R (b_an o (2 ^ k)) = Q (b_an o (2 ^ k))) → g_mn T R u o z n = g_mn T Q u o z n
  | 0, _ => rfl
  | k + 1, h => by
    rw [g_mn, g_mn, g_mn_cong (fun j hj => h j (by omega))]
    by_cases c : o.testBit k = true
    · rw [if_pos c, if_pos c, h k (by omega) c]
    · rw [if_neg c, if_neg c]
/-- where there is one the start doesn't matter -/
theorem g_mn_z {R : Nat → Nat} {u o y z m : Nat} (hy : m < y) (hz : m < z) : ∀ n, (∀ k, k < n → o.testBit k = true → g_way T u k + R (b_an o (2 ^ k)) ≤ m) → ((∃ k, k < n ∧ o.testBit k = true) → g_mn T R u o y n = g_mn T R u o z n ∧ g_mn T R u o y n ≤ m) ∧ ((¬ ∃ k, k < n ∧ o.testBit k = true) → g_mn T R u o y n = y ∧ g_mn T R u o z n = z)
  | 0, _ => ⟨fun ⟨k, hk, _⟩ => absurd hk (Nat.not_lt_zero k), fun _ => ⟨rfl, rfl⟩⟩
  | n + 1, h => by
    have ih := g_mn_z hy hz n (fun k hk => h k (by omega))
    rw [g_mn, g_mn]
    by_cases c : o.testBit n = true
    · rw [if_pos c, if_pos c]
      refine ⟨fun _ => ?_, fun q => absurd ⟨n, by omega, c⟩ q⟩
      have hn := h n (by omega) c
      by_cases e : ∃ k, k < n ∧ o.testBit k = true
      · have i := ih.1 e
        rw [← i.1]
        refine ⟨rfl, ?_⟩
        split <;> omega
      · have i := ih.2 e
        rw [i.1, i.2, if_pos (by omega), if_pos (by omega)]
        exact ⟨rfl, hn⟩
    · rw [if_neg c, if_neg c]
      constructor
      · rintro ⟨k, hk, hb⟩
        by_cases e : k = n
        · subst e; exact absurd hb c
        · exact ih.1 ⟨k, by omega, hb⟩
      · intro q
        exact ih.2 (fun ⟨k, hk, hb⟩ => q ⟨k, by omega, hb⟩)
theorem g_mn_attain {R : Nat → Nat} {u o z : Nat} : ∀ {n : Nat}, g_mn T R u o z n ≠ z → ∃ k, k < n ∧ o.testBit k = true ∧ g_way T u k + R (b_an o (2 ^ k)) = g_mn T R u o z n
  | 0, h => absurd rfl h
  | n + 1, h => by
    rw [g_mn] at h ⊢
    by_cases c : o.testBit n = true
    · rw [if_pos c] at h ⊢
      by_cases c2 : g_way T u n + R (b_an o (2 ^ n)) < g_mn T R u o z n
      · rw [if_pos c2]
        exact ⟨n, by omega, c, rfl⟩
      · rw [if_neg c2] at h ⊢
        obtain ⟨k, hk, h1, h2⟩ := g_mn_attain h
        exact ⟨k, by omega, h1, h2⟩
    · rw [if_neg c] at h ⊢
      obtain ⟨k, hk, h1, h2⟩ := g_mn_attain h
      exact ⟨k, by omega, h1, h2⟩
theorem b_ct_an {s i n : Nat} (hs : s < 2 ^ 31) (hi : i < n) (h : s.testBit i = true) : b_ct (b_an s (2 ^ i)) n + 1 = b_ct s n := by
  unfold b_ct
  have h1 := fb_ct_upd (fun k => s.testBit k) false (i := i) hi
  rw [h, if_pos rfl, if_neg (by decide)] at h1
  rw [← Nat.add_zero (fb_ct (fun i => s.testBit i) n), ← h1]
  refine congrArg (· + 1) (fb_ct_cong (fun k _ => ?_))
  rw [b_an_bit hs, Nat.testBit_two_pow]
  by_cases e : k = i
  · subst e; simp
  · have : ¬ i = k := fun q => e q.symm
    simp [e, this]
theorem x_an_bit {s i j : Nat} (hs : s < 2 ^ 31) : (b_an s (2 ^ i)).testBit j = true ↔ s.testBit j = true ∧ j ≠ i := by
  rw [b_an_bit hs, Nat.testBit_two_pow]
  simp only [Bool.and_eq_true, Bool.not_eq_true', decide_eq_false_iff_not]
  constructor
  · exact fun h => ⟨h.1, fun q => h.2 q.symm⟩
  · exact fun h => ⟨h.1, fun q => h.2 q.symm⟩
theorem b_ct_0 {s n : Nat} (hs : s < 2 ^ n) : b_ct s n = 0 ↔ s = 0 := by
  constructor
  · intro h
    refine Classical.byContradiction (fun q => ?_)
    obtain ⟨i, hi, hb⟩ := x_ne0 hs q
    have : 0 < b_ct s n := fb_ct_pos.mpr ⟨i, hi, hb⟩
    omega
  · intro h
    subst h
    exact fb_ct_zero.mpr (fun k _ => Nat.zero_testBit k)
/-- a set of corners that can be paired -/
def g_ev (T : Nat → Nat) (s : Nat) (j : Nat) : Prop := s < 2 ^ 9 ∧ (∀ i, s.testBit i = true → i < T 0) ∧ b_ct s 9 = 2 * j
theorem g_ev_rest (w : wT T) {s j : Nat} (h : g_ev T s (j + 1)) {k : Nat} (hk : (b_an s (2 ^ x_low s)).testBit k = true) : s ≠ 0 ∧ x_low s < T 0 ∧ k < T 0 ∧ k ≠ x_low s ∧ x_low s < k ∧ s.testBit k = true ∧ g_ev T (b_an (b_an s (2 ^ x_low s)) (2 ^ k)) j := by
  have h0 := wT_b w
  have hs31 : s < 2 ^ 31 := Nat.lt_trans h.1 (by decide)
  have hk2 := (x_an_bit hs31).mp hk
  have hs0 : s ≠ 0 := by
    intro e
    rw [e, Nat.zero_testBit] at hk2
    cases hk2.1
  have hl := x_low_yes hs0 h.1
  have lt : x_low s < k := by
    by_cases q : k < x_low s
    · have := hl.2.2 k q
      rw [hk2.1] at this
      cases this
    · omega
  have o31 : b_an s (2 ^ x_low s) < 2 ^ 31 := b_an_lt hs31
  have c1 := b_ct_an hs31 hl.1 hl.2.1
  have c2 := b_ct_an o31 (i := k) (n := 9) (by have := h.2.1 k hk2.1; omega) hk
  refine ⟨hs0, h.2.1 _ hl.2.1, h.2.1 k hk2.1, hk2.2, lt, hk2.1, b_an_lt (b_an_lt h.1), fun i hi => ?_, ?_⟩
  · exact h.2.1 i ((x_an_bit hs31).mp ((x_an_bit o31).mp hi).1).1
  · have := h.2.2
    omega
theorem g_ev_ex (w : wT T) {s j : Nat} (h : g_ev T s (j + 1)) : ∃ k, k < 9 ∧ (b_an s (2 ^ x_low s)).testBit k = true := by
  have hs31 : s < 2 ^ 31 := Nat.lt_trans h.1 (by decide)
  have hs0 : s ≠ 0 := by
    intro e
    have := (b_ct_0 h.1).mpr e
    have := h.2.2
    omega
  have hl := x_low_yes hs0 h.1
  have c1 := b_ct_an hs31 hl.1 hl.2.1
  refine x_ne0 (b_an_lt h.1) (fun e => ?_)
  have c2 := (b_ct_0 (n := 9) (b_an_lt h.1)).mpr e
  have := h.2.2
  omega
theorem g_lp_ev (w : wT T) : ∀ j f s, g_ev T s j → j ≤ f → g_lp T f s ≤ 40 * j ∧ g_lp T f s = g_lp T j s
  | 0, f, s, h, _ => by
    have e : s = 0 := (b_ct_0 h.1).mp h.2.2
    subst e
    cases f with
    | zero => exact ⟨Nat.le_refl _, rfl⟩
    | succ f =>
      have e0 : g_lp T (f + 1) 0 = 0 := if_pos rfl
      rw [e0]
      exact ⟨Nat.le_refl _, rfl⟩
  | j + 1, f, s, h, hf => by
    have h0 := wT_b w
    obtain ⟨f, rfl⟩ : ∃ g, f = g + 1 := ⟨f - 1, by omega⟩
    have hx := g_ev_ex w h
    obtain ⟨k0, hk0, hb0⟩ := hx
    have hs0 := (g_ev_rest w h hb0).1
    rw [g_lp, if_neg hs0, g_lp, if_neg hs0]
    have cg : g_mn T (g_lp T f) (x_low s) (b_an s (2 ^ x_low s)) 1000000 9 = g_mn T (g_lp T j) (x_low s) (b_an s (2 ^ x_low s)) 1000000 9 := g_mn_cong (fun k _ hk => (g_lp_ev w j f _ (g_ev_rest w h hk).2.2.2.2.2.2 (by omega)).2)
    have hz := g_mn_z (T := T) (R := g_lp T j) (u := x_low s) (o := b_an s (2 ^ x_low s)) (y := 1000000) (z := 1000000) (m := 40 * (j + 1)) (by have := h.2.2; have : b_ct s 9 ≤ 9 := fb_ct_le _ _; omega) (by have := h.2.2; have : b_ct s 9 ≤ 9 := fb_ct_le _ _; omega) 9 (fun k _ hk => by
      have r := g_ev_rest w h hk
      have l1 := g_way_le w r.2.1 r.2.2.1
      have l2 := (g_lp_ev w j j _ r.2.2.2.2.2.2 (Nat.le_refl j)).1
      omega)
    rw [cg]
    exact ⟨(hz.1 ⟨k0, hk0, hb0⟩).2, rfl⟩
/-- the class's least way -/
theorem s4_lp (w : wT T) (h : cP0 T P S) : ∀ f n s, f < n → f ≤ 4 → s < 2 ^ 9 → (∀ i, s.testBit i = true → i < T 0) → f_X4_leastPairs n P (nI s) (nI (4 - f)) S = some (nI (g_lp T f s), S)
  | 0, n, s, hn, _, hs, _ => by
    obtain ⟨n, rfl⟩ : ∃ m, n = m + 1 := ⟨n - 1, by omega⟩
    rw [f_X4_leastPairs]
    unfold f_X4_leastPairs_b
    by_cases e : s = 0
    · subst e
      rw [if_pos nI_0]
      rfl
    · rw [if_neg (nI_ne0 (by omega) (by omega)), if_neg (show ¬ nI (4 - 0) < 4 from nI_nlt (a := 4) (b := 4) (by omega) (by omega))]
      rfl
  | f + 1, n, s, hn, hf, hs, hT => by
    obtain ⟨n, rfl⟩ : ∃ m, n = m + 1 := ⟨n - 1, by omega⟩
    have h0 := wT_b w
    rw [f_X4_leastPairs]
    unfold f_X4_leastPairs_b
    by_cases e : s = 0
    · subst e
      rw [if_pos nI_0, g_lp, if_pos rfl]
      rfl
    · have hl := x_low_yes e hs
      have hs31 : s < 2 ^ 31 := Nat.lt_trans hs (by decide)
      rw [if_neg (nI_ne0 (by omega) (by omega)), if_pos (show nI (4 - (f + 1)) < 4 from nI_lt (b := 4) (by omega) (by omega)), b_tz e hs, Option.bind_some, x_l1, x_bit (by omega), x_an hs31, g_lp, if_neg e]
      have ho9 : b_an s (2 ^ x_low s) < 2 ^ 9 := b_an_lt hs
      have hoT : ∀ i, (b_an s (2 ^ x_low s)).testBit i = true → i < T 0 := fun i hi => hT i ((x_an_bit hs31).mp hi).1
      have hlT := hT _ hl.2.1
      generalize x_low s = u at *
      generalize b_an s (2 ^ u) = o at *
      refine x_for (F := fun m k => f_X4_leastPairs_32 P (f_X4_leastPairs n) m (nI (4 - (f + 1))) (nI u) (nI o) (nI (g_mn T (g_lp T f) u o 1000000 k)) (nI k) S) (N := 9) ?_ ?_ (d := 9) (a := 0) (n := 1000) (by omega) (by omega)
      · intro m
        simp (disch := omega) only [f_X4_leastPairs_32, x_l0, x_l1, x_l2, x_l3, x_l4, x_l5, x_l6, x_l7, x_l8, x_l9, x_l10, x_l12, x_l13, x_l14, x_l16, x_l18, x_l20, x_l22, x_l32, x_l36, x_l48, x_l50, x_l54, x_l57, x_l59, x_l74, x_l81, x_l99, x_l104, x_l107, x_l110, x_l112, x_l115, x_l117, x_l162, x_l255, x_l512, x_l99999, x_l1000000, nI_leI, nI_ltI, nI_eq, nI_add, pk_mul, nI_clamp, x_in, x_bit, x_b0, x_b1, x_b0n, fa_or, fa_and, fb_xorI, x_an, Option.bind_some, b_has8, b_has9, ↓reduceIte, not_true_eq_false, not_false_eq_true, x_nn, Bool.false_eq_true, x_ar_k, x_ar_in, x_ar_w, b_wk, b_wj, b_wh, b_w2, x_ar_2, if_pos, if_neg]
      · intro m k hk
        have gl := g_mn_le (T := T) (g_lp T f) u o 1000000 k
        by_cases c : o.testBit k = true
        · have hkT := hoT k c
          have o31 : o < 2 ^ 31 := Nat.lt_trans ho9 (by decide)
          have ih := s4_lp w h f n (b_an o (2 ^ k)) (by omega) (by omega) (b_an_lt ho9) (fun i hi => hoT i ((x_an_bit o31).mp hi).1)
          have e4 : 4 - (f + 1) + 1 = 4 - f := by omega
          have l1 := g_lp_le (T := T) f (b_an o (2 ^ k))
          have l2 := g_way_le w hlT hkT
          simp (disch := omega) only [f_X4_leastPairs_32, x_l0, x_l1, x_l2, x_l3, x_l4, x_l5, x_l6, x_l7, x_l8, x_l9, x_l10, x_l12, x_l13, x_l14, x_l16, x_l18, x_l20, x_l22, x_l32, x_l36, x_l48, x_l50, x_l54, x_l57, x_l59, x_l74, x_l81, x_l99, x_l104, x_l107, x_l110, x_l112, x_l115, x_l117, x_l162, x_l255, x_l512, x_l99999, x_l1000000, nI_leI, nI_ltI, nI_eq, nI_add, pk_mul, nI_clamp, x_in, x_bit, x_b0, x_b1, x_b0n, fa_or, fa_and, fb_xorI, x_an, Option.bind_some, b_has8, b_has9, ↓reduceIte, not_true_eq_false, not_false_eq_true, x_nn, Bool.false_eq_true, x_ar_k, x_ar_in, x_ar_w, b_wk, b_wj, b_wh, b_w2, x_ar_2, if_pos, if_neg, c, s1_way w h hlT hkT, e4, ih, x_ifI, g_mn]
        · simp (disch := omega) only [f_X4_leastPairs_32, x_l0, x_l1, x_l2, x_l3, x_l4, x_l5, x_l6, x_l7, x_l8, x_l9, x_l10, x_l12, x_l13, x_l14, x_l16, x_l18, x_l20, x_l22, x_l32, x_l36, x_l48, x_l50, x_l54, x_l57, x_l59, x_l74, x_l81, x_l99, x_l104, x_l107, x_l110, x_l112, x_l115, x_l117, x_l162, x_l255, x_l512, x_l99999, x_l1000000, nI_leI, nI_ltI, nI_eq, nI_add, pk_mul, nI_clamp, x_in, x_bit, x_b0, x_b1, x_b0n, fa_or, fa_and, fb_xorI, x_an, Option.bind_some, b_has8, b_has9, ↓reduceIte, not_true_eq_false, not_false_eq_true, x_nn, Bool.false_eq_true, x_ar_k, x_ar_in, x_ar_w, b_wk, b_wj, b_wh, b_w2, x_ar_2, if_pos, if_neg, c, g_mn]
end LP
