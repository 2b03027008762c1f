/-! ===== the reference's rows of orders ===== -/
def x_dg (N r k : Nat) : Nat := r / N ^ (N - k - 1) % N
def x_hv (N : Nat) (o : Nat → Nat) : Nat → Nat
  | 0 => 0
  | k + 1 => x_hv N o k * N + o k
theorem x_hv_lt {N : Nat} {o : Nat → Nat} (ho : ∀ k, k < N → o k < N) : ∀ k, k ≤ N → x_hv N o k < N ^ k
  | 0, _ => Nat.one_pos
  | k + 1, hk => by
    have ih := x_hv_lt ho k (by omega)
    have h := ho k (by omega)
    rw [x_hv, Nat.pow_succ]
    calc x_hv N o k * N + o k < x_hv N o k * N + N := by omega
      _ = (x_hv N o k + 1) * N := by rw [Nat.succ_mul]
      _ ≤ N ^ k * N := Nat.mul_le_mul_right N ih
theorem x_hv_div {N : Nat} {o : Nat → Nat} (ho : ∀ k, k < N → o k < N) : ∀ j, j ≤ N → x_hv N o N / N ^ j = x_hv N o (N - j)
  | 0, _ => by rw [Nat.pow_zero, Nat.div_one, Nat.sub_zero]
  | j + 1, hj => by
    rw [Nat.pow_succ, ← Nat.div_div_eq_div_mul, x_hv_div ho j (by omega)]
    obtain ⟨i, hi⟩ : ∃ i, N - j = i + 1 := ⟨N - j - 1, by omega⟩
    rw [hi, show N - (j + 1) = i from by omega, x_hv, Nat.mul_comm, Nat.mul_add_div (by omega), Nat.div_eq_of_lt (ho i (by omega)), Nat.add_zero]
theorem x_hv_dg {N : Nat} {o : Nat → Nat} (ho : ∀ k, k < N → o k < N) {k : Nat} (hk : k < N) : x_dg N (x_hv N o N) k = o k := by
  unfold x_dg
  rw [x_hv_div ho _ (by omega), show N - (N - k - 1) = k + 1 from by omega, x_hv, Nat.mul_add_mod_of_lt' (ho k hk)]
where
  Nat.mul_add_mod_of_lt' {a n b : Nat} (h : b < n) : (a * n + b) % n = b := by
    rw [Nat.mul_comm, Nat.mul_add_mod, Nat.mod_eq_of_lt h]
theorem x_lex {N : Nat} : ∀ d r R, d ≤ N → r / N ^ d = R / N ^ d → r < R → ∃ j, j < d ∧ r / N ^ (j + 1) = R / N ^ (j + 1) ∧ r / N ^ j < R / N ^ j
  | 0, r, R, _, h, hl => by rw [Nat.pow_zero, Nat.div_one, Nat.div_one] at h; omega
  | d + 1, r, R, hd, h, hl => by
    by_cases c : r / N ^ d = R / N ^ d
    · obtain ⟨j, h1, h2⟩ := x_lex d r R (by omega) c hl
      exact ⟨j, by omega, h2⟩
    · have : r / N ^ d ≤ R / N ^ d := Nat.div_le_div_right (by omega)
      exact ⟨d, by omega, h, by omega⟩
theorem x_lexd {N r R : Nat} (hN : 0 < N) (hr : r < N ^ N) (hR : R < N ^ N) (h : r < R) : ∃ k, k < N ∧ (∀ i, i < k → x_dg N r i = x_dg N R i) ∧ x_dg N r k < x_dg N R k := by
  obtain ⟨j, h1, h2, h3⟩ := x_lex N r R (Nat.le_refl N) (by rw [Nat.div_eq_of_lt hr, Nat.div_eq_of_lt hR]) h
  refine ⟨N - j - 1, by omega, fun i hi => ?_, ?_⟩
  · unfold x_dg
    rw [show N - i - 1 = (j + 1) + (N - i - 1 - (j + 1)) from by omega, Nat.pow_add, ← Nat.div_div_eq_div_mul, ← Nat.div_div_eq_div_mul, h2]
  · unfold x_dg
    rw [show N - (N - j - 1) - 1 = j from by omega]
    rw [Nat.pow_succ, ← Nat.div_div_eq_div_mul, ← Nat.div_div_eq_div_mul] at h2
    have e1 := Nat.div_add_mod (r / N ^ j) N
    have e2 := Nat.div_add_mod (R / N ^ j) N
    rw [h2] at e1
    omega
def x_fm (ok : Nat → Bool) (v : Nat → Nat) : Nat → Nat × Nat
  | 0 => (99999, 0)
  | n + 1 => if ok n = true ∧ v n < (x_fm ok v n).1 then (v n, n) else x_fm ok v n
theorem x_fm_ok (ok : Nat → Bool) (v : Nat → Nat) : ∀ n, ((x_fm ok v n).1 = 99999 ∧ ∀ r, r < n → ok r = true → 99999 ≤ v r) ∨ ((x_fm ok v n).1 < 99999 ∧ (x_fm ok v n).2 < n ∧ ok (x_fm ok v n).2 = true ∧ v (x_fm ok v n).2 = (x_fm ok v n).1 ∧ ∀ r, r < n → ok r = true → (x_fm ok v n).1 ≤ v r ∧ (r < (x_fm ok v n).2 → (x_fm ok v n).1 < v r))
  | 0 => Or.inl ⟨rfl, fun r hr => absurd hr (Nat.not_lt_zero r)⟩
  | n + 1 => by
    have ih := x_fm_ok ok v n
    rw [x_fm]
    by_cases c : ok n = true ∧ v n < (x_fm ok v n).1
    · rw [if_pos c]
      refine Or.inr ⟨?_, by show n < n + 1; omega, c.1, rfl, fun r hr hk => ?_⟩
      · show v n < 99999
        rcases ih with ih | ih <;> omega
      · show v n ≤ v r ∧ (r < n → v n < v r)
        by_cases e : r = n
        · subst e; exact ⟨Nat.le_refl _, fun q => by omega⟩
        · rcases ih with ih | ih
          · have := ih.2 r (by omega) hk
            omega
          · have := (ih.2.2.2.2 r (by omega) hk).1
            omega
    · rw [if_neg c]
      rcases ih with ih | ih
      · refine Or.inl ⟨ih.1, fun r hr hk => ?_⟩
        by_cases e : r = n
        · subst e
          have : ¬ v r < (x_fm ok v r).1 := fun q => c ⟨hk, q⟩
          omega
        · exact ih.2 r (by omega) hk
      · refine Or.inr ⟨ih.1, by omega, ih.2.2.1, ih.2.2.2.1, fun r hr hk => ?_⟩
        by_cases e : r = n
        · subst e
          have : ¬ v r < (x_fm ok v r).1 := fun q => c ⟨hk, q⟩
          have := ih.2.1
          omega
        · exact ih.2.2.2.2 r (by omega) hk
theorem x_fm_eq {ok : Nat → Bool} {v : Nat → Nat} {n R : Nat} (hR : R < n) (h1 : ok R = true) (h2 : v R < 99999) (h3 : ∀ r, r < n → ok r = true → v R ≤ v r ∧ (r < R → v R < v r)) : x_fm ok v n = (v R, R) := by
  rcases x_fm_ok ok v n with h | h
  · have := h.2 R hR h1
    omega
  · have a1 := h.2.2.2.2 R hR h1
    have a2 := h3 _ h.2.1 h.2.2.1
    have e1 := h.2.2.2.1
    have e : (x_fm ok v n).2 = R := by
      by_cases q : (x_fm ok v n).2 < R
      · have := a2.2 q; omega
      · by_cases q2 : R < (x_fm ok v n).2
        · have := a1.2 q2; omega
        · omega
    rw [e] at e1
    exact Prod.ext e1.symm e
/-- what comes of a row of pieces: met, where, sum, whether it is an order -/
def g_re (T : Nat → Nat) (b t : Nat) (o : Nat → Nat) : Nat → Nat × Nat × Nat × Bool
  | 0 => (0, t, 0, true)
  | k + 1 => ((g_re T b t o k).1 ||| 2 ^ o k, g_st T b t (o k), (g_re T b t o k).2.2.1 + g_way T (g_re T b t o k).2.1 (g_st T b t (o k)), (g_re T b t o k).2.2.2 && !(g_re T b t o k).1.testBit (o k) && decide (b_an (g_ah T b (o k)) (g_re T b t o k).1 = 0))
section RE
variable {T : Nat → Nat} {b t : Nat} {S : zS}
theorem g_re_cong {o o' : Nat → Nat} : ∀ {k : Nat}, (∀ i, i < k → o i = o' i) → g_re T b t o k = g_re T b t o' k
  | 0, _ => rfl
  | k + 1, h => by rw [g_re, g_re, g_re_cong (fun i hi => h i (by omega)), h k (by omega)]
theorem g_ah_np (w : wT T) (p : Nat) : g_ah T b p < 2 ^ g_np T b := x_or_lt (fun q _ => x_or_lt (fun r _ => by
  unfold g_ah3
  split
  · exact x_mk_lt _ _
  · exact Nat.two_pow_pos _))
theorem g_re_inv (w : wT T) (ht : t < T 0) {o : Nat → Nat} (ho : ∀ k, k < g_np T b → o k < g_np T b) : ∀ k, k ≤ g_np T b → (g_re T b t o k).1 < 2 ^ g_np T b ∧ (g_re T b t o k).2.1 < T 0 ∧ (g_re T b t o k).2.2.1 ≤ 40 * k ∧ ((g_re T b t o k).2.2.2 = true → b_ct (b_an (2 ^ g_np T b - 1) (g_re T b t o k).1) (g_np T b) + k = g_np T b)
  | 0, _ => by
    have hN := g_np_le (b := b) w
    refine ⟨Nat.two_pow_pos _, ht, Nat.le_refl _, fun _ => ?_⟩
    show b_ct (b_an (2 ^ g_np T b - 1) 0) (g_np T b) + 0 = g_np T b
    have p1 : 2 ^ g_np T b ≤ 2 ^ 4 := Nat.pow_le_pow_right (by decide) hN
    have e : b_ct (b_an (2 ^ g_np T b - 1) 0) (g_np T b) = fb_ct (fun _ => true) (g_np T b) := fb_ct_cong (fun i hi => by rw [b_an_bit (by omega), Nat.testBit_two_pow_sub_one]; simp [hi])
    have n := fb_ct_not (fun _ => true) (g_np T b)
    have z : fb_ct (fun _ => !true) (g_np T b) = 0 := fb_ct_zero.mpr (fun _ _ => rfl)
    omega
  | k + 1, hk => by
    obtain ⟨h1, h2, h3, h4⟩ := g_re_inv w ht ho k (by omega)
    have hN := g_np_le (b := b) w
    have hok := ho k (by omega)
    have p1 : 2 ^ g_np T b ≤ 2 ^ 4 := Nat.pow_le_pow_right (by decide) hN
    have stl := g_st_lt w ht hok
    have wl := g_way_le w h2 stl
    rw [g_re]
    refine ⟨b_or_lt h1 (Nat.pow_lt_pow_right (by decide) hok), stl, by show _ + _ ≤ _; omega, fun hi => ?_⟩
    have hi' : ((g_re T b t o k).2.2.2 && !(g_re T b t o k).1.testBit (o k) && decide (b_an (g_ah T b (o k)) (g_re T b t o k).1 = 0)) = true := hi
    rw [Bool.and_eq_true, Bool.and_eq_true, Bool.not_eq_true'] at hi'
    have ih := h4 hi'.1.1
    have e : b_an (2 ^ g_np T b - 1) ((g_re T b t o k).1 ||| 2 ^ o k) = b_an (b_an (2 ^ g_np T b - 1) (g_re T b t o k).1) (2 ^ o k) := by
      apply Nat.eq_of_testBit_eq
      intro i
      rw [b_an_bit (by omega), b_an_bit (b_an_lt (n := 31) (by omega)), b_an_bit (by omega), Nat.testBit_or, Bool.not_or, Bool.and_assoc]
    show b_ct (b_an (2 ^ g_np T b - 1) ((g_re T b t o k).1 ||| 2 ^ o k)) (g_np T b) + (k + 1) = g_np T b
    rw [e]
    have ct := b_ct_an (s := b_an (2 ^ g_np T b - 1) (g_re T b t o k).1) (i := o k) (n := g_np T b) (b_an_lt (n := 31) (by omega)) hok (by
      rw [b_an_bit (by omega), Nat.testBit_two_pow_sub_one, hi'.1.2]
      simp [hok])
    omega
theorem g_re_rest (w : wT T) (o : Nat → Nat) (k : Nat) : b_an (2 ^ g_np T b - 1) (g_re T b t o (k + 1)).1 = b_an (b_an (2 ^ g_np T b - 1) (g_re T b t o k).1) (2 ^ o k) := by
  have hN := g_np_le (b := b) w
  have p1 : 2 ^ g_np T b ≤ 2 ^ 4 := Nat.pow_le_pow_right (by decide) hN
  apply Nat.eq_of_testBit_eq
  intro i
  show (b_an (2 ^ g_np T b - 1) ((g_re T b t o k).1 ||| 2 ^ o k)).testBit i = _
  rw [b_an_bit (by omega), b_an_bit (b_an_lt (n := 31) (by omega)), b_an_bit (by omega), Nat.testBit_or, Bool.not_or, Bool.and_assoc]
theorem g_re_nx (w : wT T) {m p : Nat} (hp : p < g_np T b) : g_nx T b p (b_an (2 ^ g_np T b - 1) m) = (!m.testBit p && decide (b_an (g_ah T b p) m = 0)) := by
  have hN := g_np_le (b := b) w
  have p1 : 2 ^ g_np T b ≤ 2 ^ 4 := Nat.pow_le_pow_right (by decide) hN
  have ha := g_ah_np (b := b) w p
  have e1 : (b_an (2 ^ g_np T b - 1) m).testBit p = !m.testBit p := by rw [b_an_bit (by omega), Nat.testBit_two_pow_sub_one]; simp [hp]
  have e2 : g_ah T b p &&& b_an (2 ^ g_np T b - 1) m = b_an (g_ah T b p) m := by
    apply Nat.eq_of_testBit_eq
    intro i
    rw [Nat.testBit_and, b_an_bit (by omega), b_an_bit (by omega), Nat.testBit_two_pow_sub_one]
    by_cases hi : i < g_np T b
    · simp [hi]
    · rw [b_bit_hi ha (by omega)]; rfl
  unfold g_nx
  rw [e1, e2]
/-- no order is shorter -/
theorem g_re_min (w : wT T) (ht : t < T 0) {o : Nat → Nat} (ho : ∀ k, k < g_np T b → o k < g_np T b) (hi : (g_re T b t o (g_np T b)).2.2.2 = true) : ∀ d k, k + d = g_np T b → (g_re T b t o k).2.2.2 = true ∧ (g_re T b t o k).2.2.1 + g_lt T b t (4 - k) (g_re T b t o k).2.1 (b_an (2 ^ g_np T b - 1) (g_re T b t o k).1) ≤ (g_re T b t o (g_np T b)).2.2.1
  | 0, k, hk => by
    have hN := g_np_le (b := b) w
    have e : k = g_np T b := by omega
    subst e
    have h4 := (g_re_inv w ht ho (g_np T b) (Nat.le_refl _)).2.2.2 hi
    have p0 := Nat.two_pow_pos (g_np T b)
    have r0 : b_an (2 ^ g_np T b - 1) (g_re T b t o (g_np T b)).1 = 0 := (b_ct_0 (n := g_np T b) (b_an_lt (by omega))).mp (by omega)
    refine ⟨hi, ?_⟩
    rw [r0]
    have : g_lt T b t (4 - g_np T b) (g_re T b t o (g_np T b)).2.1 0 = 0 := by
      cases (4 - g_np T b) with
      | zero => rfl
      | succ f => exact if_pos rfl
    omega
  | d + 1, k, hk => by
    have hN := g_np_le (b := b) w
    obtain ⟨h1, h2⟩ := g_re_min w ht ho hi d (k + 1) (by omega)
    rw [g_re_rest w] at h2
    have hok := ho k (by omega)
    have h1' : ((g_re T b t o k).2.2.2 && !(g_re T b t o k).1.testBit (o k) && decide (b_an (g_ah T b (o k)) (g_re T b t o k).1 = 0)) = true := h1
    rw [Bool.and_assoc, Bool.and_eq_true, ← g_re_nx w hok] at h1'
    refine ⟨h1'.1, ?_⟩
    have p0 := Nat.two_pow_pos (g_np T b)
    have h4 := (g_re_inv w ht ho k (by omega)).2.2.2 h1'.1
    have r0 : b_an (2 ^ g_np T b - 1) (g_re T b t o k).1 ≠ 0 := fun e => by
      have := (b_ct_0 (n := g_np T b) (b_an_lt (by omega : 2 ^ g_np T b - 1 < 2 ^ g_np T b))).mpr e
      omega
    have e : g_lt T b t (4 - k) (g_re T b t o k).2.1 (b_an (2 ^ g_np T b - 1) (g_re T b t o k).1) = g_ltn T b t (g_lt T b t (3 - k)) (g_re T b t o k).2.1 (b_an (2 ^ g_np T b - 1) (g_re T b t o k).1) (g_np T b) := by
      rw [show 4 - k = (3 - k) + 1 from by omega, g_lt, if_neg r0]
    have mn := g_ltn_min (T := T) (b := b) (t := t) (R := g_lt T b t (3 - k)) (u := (g_re T b t o k).2.1) hok h1'.2
    have h2' : (g_re T b t o k).2.2.1 + g_way T (g_re T b t o k).2.1 (g_st T b t (o k)) + g_lt T b t (3 - k) (g_st T b t (o k)) (b_an (b_an (2 ^ g_np T b - 1) (g_re T b t o k).1) (2 ^ o k)) ≤ (g_re T b t o (g_np T b)).2.2.1 := by
      rw [show 3 - k = 4 - (k + 1) from by omega]
      exact h2
    omega
/-- the greedy one is an order, of least way -/
theorem g_re_oc (w : wT T) (ht : t < T 0) (h : g_tw T b t ≠ 1000000) : ∀ k, k ≤ g_np T b → (g_re T b t (g_oc T b t) k).2.2.2 = true ∧ (g_re T b t (g_oc T b t) k).2.1 = (g_os T b t k).1 ∧ b_an (2 ^ g_np T b - 1) (g_re T b t (g_oc T b t) k).1 = (g_os T b t k).2 ∧ (g_re T b t (g_oc T b t) k).2.2.1 + g_lt T b t (4 - k) (g_os T b t k).1 (g_os T b t k).2 = g_tw T b t
  | 0, _ => by
    have hN := g_np_le (b := b) w
    have p1 : 2 ^ g_np T b ≤ 2 ^ 4 := Nat.pow_le_pow_right (by decide) hN
    refine ⟨rfl, rfl, ?_, Nat.zero_add _⟩
    show b_an (2 ^ g_np T b - 1) 0 = 2 ^ g_np T b - 1
    apply Nat.eq_of_testBit_eq
    intro i
    rw [b_an_bit (by omega)]
    simp
  | k + 1, hk => by
    obtain ⟨h1, h2, h3, h4⟩ := g_re_oc w ht h k (by omega)
    obtain ⟨s1, s2, s3, s4⟩ := g_os_step w ht h (show k < g_np T b by omega)
    have hN := g_np_le (b := b) w
    have e1 : g_os T b t (k + 1) = (g_st T b t (g_oc T b t k), b_an (g_os T b t k).2 (2 ^ g_oc T b t k)) := rfl
    refine ⟨?_, by rw [e1]; rfl, by rw [g_re_rest w, h3, e1], ?_⟩
    · show ((g_re T b t (g_oc T b t) k).2.2.2 && !(g_re T b t (g_oc T b t) k).1.testBit (g_oc T b t k) && decide (b_an (g_ah T b (g_oc T b t k)) (g_re T b t (g_oc T b t) k).1 = 0)) = true
      rw [Bool.and_assoc, ← g_re_nx w s1, h1, h3, s2]
      rfl
    · rw [e1]
      show (g_re T b t (g_oc T b t) k).2.2.1 + g_way T (g_re T b t (g_oc T b t) k).2.1 (g_st T b t (g_oc T b t k)) + g_lt T b t (4 - (k + 1)) (g_st T b t (g_oc T b t k)) (b_an (g_os T b t k).2 (2 ^ g_oc T b t k)) = g_tw T b t
      rw [h2, show 4 - (k + 1) = 3 - k from by omega]
      omega
def g_rok (T : Nat → Nat) (b t r : Nat) : Bool := (g_re T b t (x_dg (g_np T b) r) (g_np T b)).2.2.2
def g_rv (T : Nat → Nat) (b t r : Nat) : Nat := (g_re T b t (x_dg (g_np T b) r) (g_np T b)).2.2.1
theorem x_dg_lt {N r k : Nat} (h : 0 < N) : x_dg N r k < N := Nat.mod_lt _ h
theorem g_lt_0 (f u : Nat) : g_lt T b t f u 0 = 0 := by
  cases f with
  | zero => rfl
  | succ f => exact if_pos rfl
/-- first the row of the greedy one -/
theorem g_rows (w : wT T) (ht : t < T 0) : (g_tw T b t = 1000000 → (x_fm (g_rok T b t) (g_rv T b t) (g_np T b ^ g_np T b)).1 = 99999) ∧ (g_tw T b t ≠ 1000000 → g_tw T b t < 99999 ∧ ∃ R, x_fm (g_rok T b t) (g_rv T b t) (g_np T b ^ g_np T b) = (g_tw T b t, R) ∧ ∀ k, k < g_np T b → x_dg (g_np T b) R k = g_oc T b t k) := by
  have hN := g_np_le (b := b) w
  have hr : ∀ r k, k < g_np T b → x_dg (g_np T b) r k < g_np T b := fun r k hk => x_dg_lt (by omega)
  have lo : ∀ r, g_rok T b t r = true → g_tw T b t ≤ g_rv T b t r ∧ g_rv T b t r ≤ 160 := fun r h => by
    have m := (g_re_min w ht (hr r) h (g_np T b) 0 (by omega)).2
    have i := (g_re_inv w ht (hr r) (g_np T b) (Nat.le_refl _)).2.2.1
    have e : b_an (2 ^ g_np T b - 1) (g_re T b t (x_dg (g_np T b) r) 0).1 = 2 ^ g_np T b - 1 := by
      have p1 : 2 ^ g_np T b ≤ 2 ^ 4 := Nat.pow_le_pow_right (by decide) hN
      show b_an (2 ^ g_np T b - 1) 0 = 2 ^ g_np T b - 1
      apply Nat.eq_of_testBit_eq
      intro i
      rw [b_an_bit (by omega)]
      simp
    rw [e] at m
    have z : (g_re T b t (x_dg (g_np T b) r) 0).2.2.1 = 0 := rfl
    rw [z, Nat.zero_add] at m
    refine ⟨m, ?_⟩
    show (g_re T b t (x_dg (g_np T b) r) (g_np T b)).2.2.1 ≤ 160
    omega
  constructor
  · intro h
    rcases x_fm_ok (g_rok T b t) (g_rv T b t) (g_np T b ^ g_np T b) with q | q
    · exact q.1
    · have := lo _ q.2.2.1
      omega
  · intro h
    have ho : ∀ k, k < g_np T b → g_oc T b t k < g_np T b := fun k hk => (g_os_step w ht h hk).1
    have hd : ∀ k, k < g_np T b → x_dg (g_np T b) (x_hv (g_np T b) (g_oc T b t) (g_np T b)) k = g_oc T b t k := fun k hk => x_hv_dg ho hk
    have ce : g_re T b t (x_dg (g_np T b) (x_hv (g_np T b) (g_oc T b t) (g_np T b))) (g_np T b) = g_re T b t (g_oc T b t) (g_np T b) := g_re_cong hd
    obtain ⟨a1, a2, a3, a4⟩ := g_re_oc w ht h (g_np T b) (Nat.le_refl _)
    have z0 : (g_os T b t (g_np T b)).2 = 0 := by
      have k1 := g_os_ok w ht h (g_np T b) (Nat.le_refl _)
      exact (b_ct_0 k1.2.1).mp (by omega)
    rw [z0, g_lt_0, Nat.add_zero] at a4
    have okR : g_rok T b t (x_hv (g_np T b) (g_oc T b t) (g_np T b)) = true := by unfold g_rok; rw [ce]; exact a1
    have vR : g_rv T b t (x_hv (g_np T b) (g_oc T b t) (g_np T b)) = g_tw T b t := by unfold g_rv; rw [ce]; exact a4
    have l1 := lo _ okR
    have lR := x_hv_lt ho (g_np T b) (Nat.le_refl _)
    refine ⟨by omega, x_hv (g_np T b) (g_oc T b t) (g_np T b), ?_, hd⟩
    rw [← vR]
    refine x_fm_eq lR okR (by omega) (fun r hr1 hr2 => ⟨by have := lo r hr2; omega, fun hlt => ?_⟩)
    rw [vR]
    by_cases n0 : g_np T b = 0
    · exfalso
      rw [n0] at hlt
      exact Nat.not_lt_zero _ hlt
    obtain ⟨k, hk, k1, k2⟩ := x_lexd (by omega) hr1 lR hlt
    rw [hd k hk] at k2
    have pre : g_re T b t (x_dg (g_np T b) r) k = g_re T b t (g_oc T b t) k := g_re_cong (fun i hi => by rw [k1 i hi, hd i (by omega)])
    obtain ⟨c1, c2, c3, c4⟩ := g_re_oc w ht h k (by omega)
    have m := g_re_min w ht (hr r) hr2 (g_np T b - (k + 1)) (k + 1) (by omega)
    have m1 := m.1
    have m2 := m.2
    rw [g_re_rest w] at m2
    have m1' : ((g_re T b t (x_dg (g_np T b) r) k).2.2.2 && !(g_re T b t (x_dg (g_np T b) r) k).1.testBit (x_dg (g_np T b) r k) && decide (b_an (g_ah T b (x_dg (g_np T b) r k)) (g_re T b t (x_dg (g_np T b) r) k).1 = 0)) = true := m1
    rw [Bool.and_assoc, Bool.and_eq_true, ← g_re_nx w (hr r k hk), pre, c3] at m1'
    have m2' : (g_re T b t (x_dg (g_np T b) r) k).2.2.1 + g_way T (g_re T b t (x_dg (g_np T b) r) k).2.1 (g_st T b t (x_dg (g_np T b) r k)) + g_lt T b t (4 - (k + 1)) (g_st T b t (x_dg (g_np T b) r k)) (b_an (b_an (2 ^ g_np T b - 1) (g_re T b t (x_dg (g_np T b) r) k).1) (2 ^ x_dg (g_np T b) r k)) ≤ g_rv T b t r := m2
    rw [pre, c2, c3, show 4 - (k + 1) = 3 - k from by omega] at m2'
    have no := g_pk_no (T := T) (b := b) (t := t) (f := 3 - k) (u := (g_os T b t k).1) (p := x_dg (g_np T b) r k) (g_os_step w ht h hk).2.2.2 (by
      rw [show 3 - k + 1 = 4 - k from by omega]
      exact k2) m1'.2 (hr r k hk)
    rw [show 3 - k + 1 = 4 - k from by omega] at no
    omega
end RE
