/-! ===== the reference's roots ===== -/
def g_r1 (T : Nat → Nat) (b : Nat) (ρ : Nat → Nat) : Nat → (Nat → Nat)
  | 0 => ρ
  | c + 1 => if b.testBit c = true then (fun j => if j = T (36 + c) ∨ j = T (22 + c) then (if g_r1 T b ρ c (T (36 + c)) ≤ g_r1 T b ρ c (T (22 + c)) then g_r1 T b ρ c (T (36 + c)) else g_r1 T b ρ c (T (22 + c))) else g_r1 T b ρ c j) else g_r1 T b ρ c
def g_rr (T : Nat → Nat) (b : Nat) : Nat → (Nat → Nat)
  | 0 => fun j => j
  | r + 1 => g_r1 T b (g_rr T b r) (T 1)
def g_root (T : Nat → Nat) (b : Nat) : Nat → Nat := g_rr T b 9
section RT
variable {T : Nat → Nat} {b : Nat} {S : zS}
theorem g_r1_step (ρ : Nat → Nat) (c j : Nat) : g_r1 T b ρ (c + 1) j ≤ g_r1 T b ρ c j := by
  rw [g_r1]
  by_cases h : b.testBit c = true
  · rw [if_pos h]
    show (if _ then _ else _) ≤ _
    by_cases h2 : j = T (36 + c) ∨ j = T (22 + c)
    · rw [if_pos h2]
      rcases h2 with rfl | rfl <;> split <;> omega
    · rw [if_neg h2]; exact Nat.le_refl _
  · rw [if_neg h]; exact Nat.le_refl _
theorem g_r1_mono (ρ : Nat → Nat) (j c : Nat) : ∀ d, g_r1 T b ρ (c + d) j ≤ g_r1 T b ρ c j
  | 0 => Nat.le_refl _
  | d + 1 => Nat.le_trans (g_r1_step ρ (c + d) j) (g_r1_mono ρ j c d)
theorem g_r1_edge (ρ : Nat → Nat) {d c u v : Nat} (hd : d < c) (hb : b.testBit d = true) (ha : g_adj T d u v = true) : g_r1 T b ρ c v ≤ ρ u := by
  have h1 : g_r1 T b ρ c v ≤ g_r1 T b ρ (d + 1) v := by
    have := g_r1_mono (T := T) (b := b) ρ v (d + 1) (c - (d + 1))
    rw [show d + 1 + (c - (d + 1)) = c from by omega] at this
    exact this
  have h2 : g_r1 T b ρ (d + 1) v ≤ g_r1 T b ρ d u := by
    rw [g_r1, if_pos hb]
    show (if _ then _ else _) ≤ _
    unfold g_adj at ha
    simp only [Bool.or_eq_true, Bool.and_eq_true, beq_iff_eq] at ha
    rw [if_pos (by omega)]
    rcases ha with ⟨rfl, rfl⟩ | ⟨rfl, rfl⟩ <;> split <;> omega
  have h3 : g_r1 T b ρ d u ≤ ρ u := by
    have := g_r1_mono (T := T) (b := b) ρ u 0 d
    rw [Nat.zero_add] at this
    exact this
  omega
theorem g_r1_inv (w : wT T) {ρ : Nat → Nat} (h : ∀ j, ρ j ≤ j ∧ x_con (g_M T b) j (ρ j)) : ∀ c, c ≤ T 1 → ∀ j, g_r1 T b ρ c j ≤ j ∧ x_con (g_M T b) j (g_r1 T b ρ c j)
  | 0, _ => h
  | c + 1, hc => by
    have ih := g_r1_inv w h c (by omega)
    intro j
    refine ⟨Nat.le_trans (g_r1_step ρ c j) (ih j).1, ?_⟩
    rw [g_r1]
    by_cases hb : b.testBit c = true
    · rw [if_pos hb]
      show x_con _ j (if _ then _ else _)
      have e1 : (g_M T b (T (22 + c))).testBit (T (36 + c)) = true := (g_M_bit w).mpr ⟨c, by omega, hb, by unfold g_adj; simp⟩
      have e2 := g_M_sy w _ _ e1
      by_cases h2 : j = T (36 + c) ∨ j = T (22 + c)
      · rw [if_pos h2]
        have i1 := (ih (T (36 + c))).2
        have i2 := (ih (T (22 + c))).2
        rcases h2 with rfl | rfl
        · split
          · exact i1
          · exact x_con_tr (x_con_st x_con_rf e2) i2
        · split
          · exact x_con_tr (x_con_st x_con_rf e1) i1
          · exact i2
      · rw [if_neg h2]; exact (ih j).2
    · rw [if_neg hb]; exact (ih j).2
theorem g_rr_inv (w : wT T) : ∀ r j, g_rr T b r j ≤ j ∧ x_con (g_M T b) j (g_rr T b r j)
  | 0, j => ⟨Nat.le_refl j, x_con_rf⟩
  | r + 1, j => g_r1_inv w (fun j => g_rr_inv w r j) (T 1) (Nat.le_refl _) j
theorem g_rr_found (w : wT T) {j : Nat} (hj : j < 9) : ∀ r k, (x_rs (g_M T b) j r).1.testBit k = true → g_rr T b r k ≤ j
  | 0, k, h => by
    rw [x_rs, Nat.testBit_two_pow] at h
    have e : j = k := by simpa using h
    subst e
    exact Nat.le_refl j
  | r + 1, k, h => by
    have h1 : (x_rs (g_M T b) j (r + 1)).1 = (x_rs (g_M T b) j r).1 ||| x_by (g_M T b) (x_rs (g_M T b) j r).2 := rfl
    rw [h1, Nat.testBit_or, Bool.or_eq_true] at h
    have inv := x_rs_inv (M := g_M T b) (fun x _ => g_M_lt b x) hj r
    rcases h with h | h
    · have ih := g_rr_found w hj r k h
      have := g_r1_mono (T := T) (b := b) (g_rr T b r) k 0 (T 1)
      rw [Nat.zero_add] at this
      exact Nat.le_trans this ih
    · obtain ⟨x, _, q1, q2⟩ := (x_by_bit _ _ _).mp h
      have ih := g_rr_found w hj r x (inv.2.2.1 x q1)
      obtain ⟨d, hd, hb, ha⟩ := (g_M_bit w).mp q2
      exact Nat.le_trans (g_r1_edge (g_rr T b r) hd hb ha) ih
theorem g_root_le (w : wT T) {j k : Nat} (hj : j < 9) (h : x_con (g_M T b) j k) : g_root T b k ≤ j :=
  g_rr_found w hj 9 k ((g_reach_bit (fun x _ => g_M_lt b x) hj).mpr h)
theorem g_root_con (w : wT T) (k : Nat) : x_con (g_M T b) k (g_root T b k) := (g_rr_inv w 9 k).2
theorem g_root_self (w : wT T) (k : Nat) : g_root T b k ≤ k := (g_rr_inv w 9 k).1
theorem g_root_eq (w : wT T) {u v : Nat} (hu : u < 9) (hv : v < 9) : g_root T b u = g_root T b v ↔ x_con (g_M T b) u v := by
  have sy := fun {x y : Nat} => x_con_sy (M := g_M T b) (a := x) (b := y) (g_M_sy w)
  constructor
  · intro h
    have h1 := g_root_con (b := b) w u
    have h2 := g_root_con (b := b) w v
    rw [h] at h1
    exact x_con_tr h1 (sy h2)
  · intro h
    have l1 := g_root_le w (b := b) (j := g_root T b u) (k := v) (by have := g_root_self (b := b) w u; omega) (x_con_tr (sy (g_root_con w u)) h)
    have l2 := g_root_le w (b := b) (j := g_root T b v) (k := u) (by have := g_root_self (b := b) w v; omega) (x_con_tr (sy (g_root_con w v)) (sy h))
    omega
theorem s9_roots_in (w : wT T) (h : mT T 89 S) (hb : b < 2 ^ 31) {ρ : Nat → Nat} (hρ : ∀ j, ρ j ≤ j ∧ x_con (g_M T b) j (ρ j)) (r : Nat) (K : Int32 → Int32 → zS → Option (Unit × zS)) : f_X9_roots_31 K 1000 (nI b) (nI r) (nI 0) (x_ar S 99 9 (fun j => nI (ρ j))) = K (nI b) (nI (r + 1)) (x_ar S 99 9 (fun j => nI (g_r1 T b ρ (T 1) j))) := by
  have h0 := wT_b w
  refine x_for (F := fun n c => f_X9_roots_31 K n (nI b) (nI r) (nI c) (x_ar S 99 9 (fun j => nI (g_r1 T b ρ c j)))) (N := T 1) ?_ ?_ (d := T 1) (a := 0) (n := 1000) (by omega) (by omega)
  · intro n
    have y := h 1 (by omega)
    simp (disch := omega) only [f_X9_roots_31, x_l0, x_l1, x_l2, x_l3, x_l4, x_l5, x_l6, x_l7, x_l8, x_l9, x_l10, x_l12, x_l13, x_l14, x_l16, x_l18, x_l20, x_l22, x_l32, x_l36, x_l48, x_l50, x_l54, x_l57, x_l59, x_l74, x_l81, x_l99, x_l104, x_l107, x_l110, x_l112, x_l115, x_l117, x_l162, x_l255, x_l512, x_l99999, x_l1000000, nI_leI, nI_ltI, nI_eq, nI_add, pk_mul, nI_clamp, x_in, x_bit, x_b0, x_b1, x_b0n, fa_or, fa_and, fb_xorI, x_an, Option.bind_some, b_has8, b_has9, ↓reduceIte, not_true_eq_false, not_false_eq_true, x_ar_k, y, if_pos, if_neg]
  · intro n c hc
    have x := wT_c w hc
    have y := h 1 (by omega)
    have y1 := h (22 + c) (by omega)
    have y2 := h (36 + c) (by omega)
    have i1 := (g_r1_inv w hρ c (by omega) (T (22 + c))).1
    have i2 := (g_r1_inv w hρ c (by omega) (T (36 + c))).1
    simp (disch := omega) only [f_X9_roots_31, f_X9_roots_105, x_l0, x_l1, x_l2, x_l3, x_l4, x_l5, x_l6, x_l7, x_l8, x_l9, x_l10, x_l12, x_l13, x_l14, x_l16, x_l18, x_l20, x_l22, x_l32, x_l36, x_l48, x_l50, x_l54, x_l57, x_l59, x_l74, x_l81, x_l99, x_l104, x_l107, x_l110, x_l112, x_l115, x_l117, x_l162, x_l255, x_l512, x_l99999, x_l1000000, nI_leI, nI_ltI, nI_eq, nI_add, pk_mul, nI_clamp, x_in, x_bit, x_b0, x_b1, x_b0n, fa_or, fa_and, fb_xorI, x_an, Option.bind_some, b_has8, b_has9, ↓reduceIte, not_true_eq_false, not_false_eq_true, x_ar_k, x_ar_in, x_ar_w, y, y1, y2, if_pos, if_neg]
    by_cases c1 : b.testBit c = true
    · have e : x_ar S 99 9 (fun j => nI (g_r1 T b ρ (c + 1) j)) = x_ar S 99 9 (upd (upd (fun j => nI (g_r1 T b ρ c j)) (T (22 + c)) (nI (if g_r1 T b ρ c (T (36 + c)) ≤ g_r1 T b ρ c (T (22 + c)) then g_r1 T b ρ c (T (36 + c)) else g_r1 T b ρ c (T (22 + c))))) (T (36 + c)) (nI (if g_r1 T b ρ c (T (36 + c)) ≤ g_r1 T b ρ c (T (22 + c)) then g_r1 T b ρ c (T (36 + c)) else g_r1 T b ρ c (T (22 + c))))) := by
        refine x_ar_g (fun j _ => ?_)
        rw [g_r1, if_pos c1]
        unfold upd
        by_cases q1 : j = T (36 + c)
        · simp [q1]
        · by_cases q2 : j = T (22 + c)
          · simp [q2]
          · simp [q1, q2]
      rw [e]
      by_cases c2 : g_r1 T b ρ c (T (36 + c)) ≤ g_r1 T b ρ c (T (22 + c))
      · simp [c1, c2]
      · simp [c1, c2]
    · have e : g_r1 T b ρ (c + 1) = g_r1 T b ρ c := by rw [g_r1, if_neg c1]
      rw [e]
      simp [c1]
theorem s9_roots (w : wT T) (h : mT T 89 S) (hb : b < 2 ^ 31) : f_X9_roots (nI b) S = some ((), x_ar S 99 9 (fun j => nI (g_root T b j))) := by
  unfold f_X9_roots
  have h1 := x_for (F := fun n k => f_X9_roots_2 n (nI b) (nI k) (x_ar S 99 k (fun j => nI j))) (N := 9) (fin := f_X9_roots_23 1000 (nI b) (nI 0) (x_ar S 99 9 (fun j => nI j))) ?_ ?_ (d := 9) (a := 0) (n := 1000) (by omega) (by omega)
  · rw [x_ar_0] at h1
    refine Eq.trans h1 ?_
    refine x_for (F := fun n r => f_X9_roots_23 n (nI b) (nI r) (x_ar S 99 9 (fun j => nI (g_rr T b r j)))) (N := 9) ?_ ?_ (d := 9) (a := 0) (n := 1000) (by omega) (by omega)
    · intro n
      simp (disch := omega) only [f_X9_roots_23, x_l0, x_l1, x_l2, x_l3, x_l4, x_l5, x_l6, x_l7, x_l8, x_l9, x_l10, x_l12, x_l13, x_l14, x_l16, x_l18, x_l20, x_l22, x_l32, x_l36, x_l48, x_l50, x_l54, x_l57, x_l59, x_l74, x_l81, x_l99, x_l104, x_l107, x_l110, x_l112, x_l115, x_l117, x_l162, x_l255, x_l512, x_l99999, x_l1000000, nI_leI, nI_ltI, nI_eq, nI_add, pk_mul, nI_clamp, x_in, x_bit, x_b0, x_b1, x_b0n, fa_or, fa_and, fb_xorI, x_an, Option.bind_some, b_has8, b_has9, ↓reduceIte, not_true_eq_false, not_false_eq_true, if_pos, if_neg]
      rfl
    · intro n r hr
      have e := s9_roots_in w h hb (fun j => g_rr_inv w r j) r (f_X9_roots_23 n)
      simp (disch := omega) only [f_X9_roots_23, x_l0, x_l1, x_l2, x_l3, x_l4, x_l5, x_l6, x_l7, x_l8, x_l9, x_l10, x_l12, x_l13, x_l14, x_l16, x_l18, x_l20, x_l22, x_l32, x_l36, x_l48, x_l50, x_l54, x_l57, x_l59, x_l74, x_l81, x_l99, x_l104, x_l107, x_l110, x_l112, x_l115, x_l117, x_l162, x_l255, x_l512, x_l99999, x_l1000000, nI_leI, nI_ltI, nI_eq, nI_add, pk_mul, nI_clamp, x_in, x_bit, x_b0, x_b1, x_b0n, fa_or, fa_and, fb_xorI, x_an, Option.bind_some, b_has8, b_has9, ↓reduceIte, not_true_eq_false, not_false_eq_true, if_pos, if_neg]
      exact e
  · intro n
    simp (disch := omega) only [f_X9_roots_2, x_l0, x_l1, x_l2, x_l3, x_l4, x_l5, x_l6, x_l7, x_l8, x_l9, x_l10, x_l12, x_l13, x_l14, x_l16, x_l18, x_l20, x_l22, x_l32, x_l36, x_l48, x_l50, x_l54, x_l57, x_l59, x_l74, x_l81, x_l99, x_l104, x_l107, x_l110, x_l112, x_l115, x_l117, x_l162, x_l255, x_l512, x_l99999, x_l1000000, nI_leI, nI_ltI, nI_eq, nI_add, pk_mul, nI_clamp, x_in, x_bit, x_b0, x_b1, x_b0n, fa_or, fa_and, fb_xorI, x_an, Option.bind_some, b_has8, b_has9, ↓reduceIte, not_true_eq_false, not_false_eq_true, if_pos, if_neg]
  · intro n k hk
    simp (disch := omega) only [f_X9_roots_2, x_l0, x_l1, x_l2, x_l3, x_l4, x_l5, x_l6, x_l7, x_l8, x_l9, x_l10, x_l12, x_l13, x_l14, x_l16, x_l18, x_l20, x_l22, x_l32, x_l36, x_l48, x_l50, x_l54, x_l57, x_l59, x_l74, x_l81, x_l99, x_l104, x_l107, x_l110, x_l112, x_l115, x_l117, x_l162, x_l255, x_l512, x_l99999, x_l1000000, nI_leI, nI_ltI, nI_eq, nI_add, pk_mul, nI_clamp, x_in, x_bit, x_b0, x_b1, x_b0n, fa_or, fa_and, fb_xorI, x_an, Option.bind_some, b_has8, b_has9, ↓reduceIte, not_true_eq_false, not_false_eq_true, if_pos, if_neg]
    rw [x_ar_s S 99 k (fun j => nI j)]
end RT
/-! ===== the reference's open ways ===== -/
def mO (E : Nat → Nat → Nat → Bool) (S : zS) : Prop := ∀ k u v, k < 2 → u < 9 → v < 9 → S.1 105 (81 * k + 9 * u + v) = if E k u v = true then nI 1 else nI 0
def g_MO (E : Nat → Nat → Nat → Bool) (u : Nat) : Nat := x_mk (fun v => E 0 u v || E 1 u v) 9
def g_p (M : Nat → Nat) (m : Nat) : Nat → Nat
  | 0 => m
  | u + 1 => g_p M m u ||| (if (g_p M m u).testBit u = true then M u else 0)
def g_mm (M : Nat → Nat) (a : Nat) : Nat → Nat
  | 0 => 2 ^ a
  | r + 1 => g_p M (g_mm M a r) 9
section OP
variable {E : Nat → Nat → Nat → Bool} {S : zS}
theorem g_MO_lt (u : Nat) : g_MO E u < 2 ^ 9 := x_mk_lt _ _
theorem g_MO_bit {u v : Nat} (hv : v < 9) : (g_MO E u).testBit v = (E 0 u v || E 1 u v) := by
  unfold g_MO
  rw [x_mk_bit]
  simp [hv]
theorem s9_isOpen (h : mO E S) {k u v : Nat} (hk : k < 2) (hu : u < 9) (hv : v < 9) : f_X9_isOpen (nI u) (nI v) (nI k) S = some (if E k u v = true then nI 1 else nI 0, S) := by
  have e := h k u v hk hu hv
  simp (disch := omega) only [f_X9_isOpen, x_l0, x_l1, x_l2, x_l3, x_l4, x_l5, x_l6, x_l7, x_l8, x_l9, x_l10, x_l12, x_l13, x_l14, x_l16, x_l18, x_l20, x_l22, x_l32, x_l36, x_l48, x_l50, x_l54, x_l57, x_l59, x_l74, x_l81, x_l99, x_l104, x_l107, x_l110, x_l112, x_l115, x_l117, x_l162, x_l255, x_l512, x_l99999, x_l1000000, nI_leI, nI_ltI, nI_eq, nI_add, pk_mul, nI_clamp, x_in, x_bit, x_b0, x_b1, x_b0n, fa_or, fa_and, fb_xorI, x_an, Option.bind_some, b_has8, b_has9, ↓reduceIte, not_true_eq_false, not_false_eq_true, e, if_pos, if_neg]
  by_cases c : E k u v = true
  · simp [c]
  · simp [c]
theorem g_p_sup (M : Nat → Nat) (m : Nat) : ∀ u i, m.testBit i = true → (g_p M m u).testBit i = true
  | 0, _, h => h
  | u + 1, i, h => by rw [g_p, Nat.testBit_or, g_p_sup M m u i h]; rfl
theorem g_p_edge (M : Nat → Nat) (m : Nat) {x i : Nat} (hx : m.testBit x = true) (hi : (M x).testBit i = true) : ∀ u, x < u → (g_p M m u).testBit i = true
  | 0, h => by omega
  | u + 1, h => by
    rw [g_p, Nat.testBit_or]
    by_cases e : x = u
    · subst e
      rw [if_pos (g_p_sup M m x x hx), hi]
      simp
    · rw [g_p_edge M m hx hi u (by omega)]; rfl
theorem g_p_con {M : Nat → Nat} {a m : Nat} (hm : ∀ i, m.testBit i = true → x_con M a i) : ∀ u i, (g_p M m u).testBit i = true → x_con M a i
  | 0, i, h => hm i h
  | u + 1, i, h => by
    rw [g_p, Nat.testBit_or, Bool.or_eq_true] at h
    rcases h with h | h
    · exact g_p_con hm u i h
    · by_cases c : (g_p M m u).testBit u = true
      · rw [if_pos c] at h
        exact x_con_st (g_p_con hm u u c) h
      · rw [if_neg c, Nat.zero_testBit] at h
        cases h
theorem g_mm_con {M : Nat → Nat} {a : Nat} : ∀ r i, (g_mm M a r).testBit i = true → x_con M a i
  | 0, i, h => by
    rw [g_mm, Nat.testBit_two_pow] at h
    have e : a = i := by simpa using h
    subst e
    exact x_con_rf
  | r + 1, i, h => g_p_con (fun i hi => g_mm_con r i hi) 9 i h
theorem g_mm_found {M : Nat → Nat} {a : Nat} (hM : ∀ x, x < 9 → M x < 2 ^ 9) (ha : a < 9) : ∀ r i, (x_rs M a r).1.testBit i = true → (g_mm M a r).testBit i = true
  | 0, _, h => h
  | r + 1, i, h => by
    have h1 : (x_rs M a (r + 1)).1 = (x_rs M a r).1 ||| x_by M (x_rs M a r).2 := rfl
    rw [h1, Nat.testBit_or, Bool.or_eq_true] at h
    have inv := x_rs_inv hM ha r
    rcases h with h | h
    · exact g_p_sup M _ 9 i (g_mm_found hM ha r i h)
    · obtain ⟨x, hx, q1, q2⟩ := (x_by_bit _ _ _).mp h
      exact g_p_edge M _ (g_mm_found hM ha r x (inv.2.2.1 x q1)) q2 9 hx
theorem g_mm_bit {M : Nat → Nat} {a : Nat} (hM : ∀ x, x < 9 → M x < 2 ^ 9) (ha : a < 9) {i : Nat} : (g_mm M a 9).testBit i = true ↔ x_con M a i :=
  ⟨g_mm_con 9 i, fun h => g_mm_found hM ha 9 i ((g_reach_bit hM ha).mpr h)⟩
theorem g_p_lt {M : Nat → Nat} {m : Nat} (hM : ∀ x, x < 9 → M x < 2 ^ 9) (hm : m < 2 ^ 9) : ∀ u, u ≤ 9 → g_p M m u < 2 ^ 9
  | 0, _ => hm
  | u + 1, hu => by
    rw [g_p]
    refine b_or_lt (g_p_lt hM hm u (by omega)) ?_
    split
    · exact hM u (by omega)
    · decide
theorem g_mm_lt {M : Nat → Nat} {a : Nat} (hM : ∀ x, x < 9 → M x < 2 ^ 9) (ha : a < 9) : ∀ r, g_mm M a r < 2 ^ 9
  | 0 => Nat.pow_lt_pow_right (by decide) ha
  | r + 1 => g_p_lt hM (g_mm_lt hM ha r) 9 (by omega)
/-- a row of the pass -/
theorem s9_all_25 (h : mO E S) {m r u : Nat} (hm : m < 2 ^ 9) (hu : u < 9) (K6 : Int32 → Int32 → zS → Option (Int32 × zS)) (K15 : Int32 → Int32 → Int32 → zS → Option (Int32 × zS)) : f_X9_isAllFrom_25 K6 K15 1000 (nI m) (nI r) (nI u) (nI 0) S = K15 (nI (m ||| (if m.testBit u = true then g_MO E u else 0))) (nI r) (nI (u + 1)) S := by
  by_cases c : m.testBit u = true
  · rw [if_pos c]
    have h1 := x_for (F := fun n v => f_X9_isAllFrom_25 K6 K15 n (nI (m ||| x_mk (fun v => E 0 u v || E 1 u v) v)) (nI r) (nI u) (nI v) S) (N := 9) (fin := K15 (nI (m ||| g_MO E u)) (nI r) (nI (u + 1)) S) ?_ ?_ (d := 9) (a := 0) (n := 1000) (by omega) (by omega)
    · rw [x_mk, Nat.or_zero] at h1
      exact h1
    · intro n
      simp (disch := omega) only [f_X9_isAllFrom_25, x_l0, x_l1, x_l2, x_l3, x_l4, x_l5, x_l6, x_l7, x_l8, x_l9, x_l10, x_l12, x_l13, x_l14, x_l16, x_l18, x_l20, x_l22, x_l32, x_l36, x_l48, x_l50, x_l54, x_l57, x_l59, x_l74, x_l81, x_l99, x_l104, x_l107, x_l110, x_l112, x_l115, x_l117, x_l162, x_l255, x_l512, x_l99999, x_l1000000, nI_leI, nI_ltI, nI_eq, nI_add, pk_mul, nI_clamp, x_in, x_bit, x_b0, x_b1, x_b0n, fa_or, fa_and, fb_xorI, x_an, Option.bind_some, b_has8, b_has9, ↓reduceIte, not_true_eq_false, not_false_eq_true, if_pos, if_neg]
      rfl
    · intro n v hv
      have hb : m ||| x_mk (fun v => E 0 u v || E 1 u v) v < 2 ^ 31 := b_or_lt (by omega) (x_mk_31 _ (by omega))
      have ht : (m ||| x_mk (fun v => E 0 u v || E 1 u v) v).testBit u = true := by rw [Nat.testBit_or, c]; rfl
      simp (disch := omega) only [f_X9_isAllFrom_25, x_l0, x_l1, x_l2, x_l3, x_l4, x_l5, x_l6, x_l7, x_l8, x_l9, x_l10, x_l12, x_l13, x_l14, x_l16, x_l18, x_l20, x_l22, x_l32, x_l36, x_l48, x_l50, x_l54, x_l57, x_l59, x_l74, x_l81, x_l99, x_l104, x_l107, x_l110, x_l112, x_l115, x_l117, x_l162, x_l255, x_l512, x_l99999, x_l1000000, nI_leI, nI_ltI, nI_eq, nI_add, pk_mul, nI_clamp, x_in, x_bit, x_b0, x_b1, x_b0n, fa_or, fa_and, fb_xorI, x_an, Option.bind_some, b_has8, b_has9, ↓reduceIte, not_true_eq_false, not_false_eq_true, s9_isOpen h, ht, if_pos, if_neg, Nat.or_zero, Nat.or_assoc]
      by_cases c1 : E 0 u v = true
      · simp only [c1, x_mk, Bool.true_or]; simp
      · by_cases c2 : E 1 u v = true
        · simp only [c1, c2, x_mk, Bool.or_true]; simp
        · simp only [c1, c2, x_mk]; simp
  · rw [if_neg c, Nat.or_zero]
    refine x_for (F := fun n v => f_X9_isAllFrom_25 K6 K15 n (nI m) (nI r) (nI u) (nI v) S) (N := 9) ?_ ?_ (d := 9) (a := 0) (n := 1000) (by omega) (by omega)
    · intro n
      simp (disch := omega) only [f_X9_isAllFrom_25, x_l0, x_l1, x_l2, x_l3, x_l4, x_l5, x_l6, x_l7, x_l8, x_l9, x_l10, x_l12, x_l13, x_l14, x_l16, x_l18, x_l20, x_l22, x_l32, x_l36, x_l48, x_l50, x_l54, x_l57, x_l59, x_l74, x_l81, x_l99, x_l104, x_l107, x_l110, x_l112, x_l115, x_l117, x_l162, x_l255, x_l512, x_l99999, x_l1000000, nI_leI, nI_ltI, nI_eq, nI_add, pk_mul, nI_clamp, x_in, x_bit, x_b0, x_b1, x_b0n, fa_or, fa_and, fb_xorI, x_an, Option.bind_some, b_has8, b_has9, ↓reduceIte, not_true_eq_false, not_false_eq_true, if_pos, if_neg]
    · intro n v hv
      simp (disch := omega) only [f_X9_isAllFrom_25, x_l0, x_l1, x_l2, x_l3, x_l4, x_l5, x_l6, x_l7, x_l8, x_l9, x_l10, x_l12, x_l13, x_l14, x_l16, x_l18, x_l20, x_l22, x_l32, x_l36, x_l48, x_l50, x_l54, x_l57, x_l59, x_l74, x_l81, x_l99, x_l104, x_l107, x_l110, x_l112, x_l115, x_l117, x_l162, x_l255, x_l512, x_l99999, x_l1000000, nI_leI, nI_ltI, nI_eq, nI_add, pk_mul, nI_clamp, x_in, x_bit, x_b0, x_b1, x_b0n, fa_or, fa_and, fb_xorI, x_an, Option.bind_some, b_has8, b_has9, ↓reduceIte, not_true_eq_false, not_false_eq_true, if_pos, if_neg, Nat.or_zero, c]
      simp
theorem s9_all_15 (h : mO E S) {m r : Nat} (hm : m < 2 ^ 9) (K6 : Int32 → Int32 → zS → Option (Int32 × zS)) : f_X9_isAllFrom_15 K6 1000 (nI m) (nI r) (nI 0) S = K6 (nI (g_p (g_MO E) m 9)) (nI (r + 1)) S := by
  refine x_for (F := fun n u => f_X9_isAllFrom_15 K6 n (nI (g_p (g_MO E) m u)) (nI r) (nI u) S) (N := 9) ?_ ?_ (d := 9) (a := 0) (n := 1000) (by omega) (by omega)
  · intro n
    simp (disch := omega) only [f_X9_isAllFrom_15, x_l0, x_l1, x_l2, x_l3, x_l4, x_l5, x_l6, x_l7, x_l8, x_l9, x_l10, x_l12, x_l13, x_l14, x_l16, x_l18, x_l20, x_l22, x_l32, x_l36, x_l48, x_l50, x_l54, x_l57, x_l59, x_l74, x_l81, x_l99, x_l104, x_l107, x_l110, x_l112, x_l115, x_l117, x_l162, x_l255, x_l512, x_l99999, x_l1000000, nI_leI, nI_ltI, nI_eq, nI_add, pk_mul, nI_clamp, x_in, x_bit, x_b0, x_b1, x_b0n, fa_or, fa_and, fb_xorI, x_an, Option.bind_some, b_has8, b_has9, ↓reduceIte, not_true_eq_false, not_false_eq_true, if_pos, if_neg]
  · intro n u hu
    have hb := g_p_lt (M := g_MO E) (m := m) (fun x _ => g_MO_lt x) hm u (by omega)
    simp (disch := omega) only [f_X9_isAllFrom_15, x_l0, x_l1, x_l2, x_l3, x_l4, x_l5, x_l6, x_l7, x_l8, x_l9, x_l10, x_l12, x_l13, x_l14, x_l16, x_l18, x_l20, x_l22, x_l32, x_l36, x_l48, x_l50, x_l54, x_l57, x_l59, x_l74, x_l81, x_l99, x_l104, x_l107, x_l110, x_l112, x_l115, x_l117, x_l162, x_l255, x_l512, x_l99999, x_l1000000, nI_leI, nI_ltI, nI_eq, nI_add, pk_mul, nI_clamp, x_in, x_bit, x_b0, x_b1, x_b0n, fa_or, fa_and, fb_xorI, x_an, Option.bind_some, b_has8, b_has9, ↓reduceIte, not_true_eq_false, not_false_eq_true, s9_all_25 h hb hu, if_pos, if_neg]
    rfl
def x_al (p : Nat → Bool) : Nat → Bool
  | 0 => true
  | n + 1 => x_al p n && p n
theorem x_al_iff {p : Nat → Bool} : ∀ {n : Nat}, x_al p n = true ↔ ∀ k, k < n → p k = true
  | 0 => ⟨fun _ k hk => by omega, fun _ => rfl⟩
  | n + 1 => by
    rw [x_al, Bool.and_eq_true, x_al_iff]
    constructor
    · rintro ⟨h1, h2⟩ k hk
      by_cases e : k = n
      · subst e; exact h2
      · exact h1 k (by omega)
    · exact fun h => ⟨fun k hk => h k (by omega), h n (by omega)⟩
def g_q (E : Nat → Nat → Nat → Bool) (m u v : Nat) : Bool := m.testBit u || (!E 0 u v && !E 1 u v)
theorem s9_all_109 (h : mO E S) {m u : Nat} (hm : m < 2 ^ 9) (hu : u < 9) (z : Bool) (K : Int32 → Int32 → Int32 → zS → Option (Int32 × zS)) : f_X9_isAllFrom_109 K 1000 (nI m) (if z = true then nI 1 else nI 0) (nI u) (nI 0) S = K (nI m) (if (z && x_al (g_q E m u) 9) = true then nI 1 else nI 0) (nI (u + 1)) S := by
  have h1 := x_for (F := fun n v => f_X9_isAllFrom_109 K n (nI m) (if (z && x_al (g_q E m u) v) = true then nI 1 else nI 0) (nI u) (nI v) S) (N := 9) (fin := K (nI m) (if (z && x_al (g_q E m u) 9) = true then nI 1 else nI 0) (nI (u + 1)) S) ?_ ?_ (d := 9) (a := 0) (n := 1000) (by omega) (by omega)
  · simp only [x_al, Bool.and_true] at h1
    exact h1
  · intro n
    simp (disch := omega) only [f_X9_isAllFrom_109, x_l0, x_l1, x_l2, x_l3, x_l4, x_l5, x_l6, x_l7, x_l8, x_l9, x_l10, x_l12, x_l13, x_l14, x_l16, x_l18, x_l20, x_l22, x_l32, x_l36, x_l48, x_l50, x_l54, x_l57, x_l59, x_l74, x_l81, x_l99, x_l104, x_l107, x_l110, x_l112, x_l115, x_l117, x_l162, x_l255, x_l512, x_l99999, x_l1000000, nI_leI, nI_ltI, nI_eq, nI_add, pk_mul, nI_clamp, x_in, x_bit, x_b0, x_b1, x_b0n, fa_or, fa_and, fb_xorI, x_an, Option.bind_some, b_has8, b_has9, ↓reduceIte, not_true_eq_false, not_false_eq_true, if_pos, if_neg]
  · intro n v hv
    have e : x_al (g_q E m u) (v + 1) = (x_al (g_q E m u) v && g_q E m u v) := rfl
    simp (disch := omega) only [f_X9_isAllFrom_109, x_l0, x_l1, x_l2, x_l3, x_l4, x_l5, x_l6, x_l7, x_l8, x_l9, x_l10, x_l12, x_l13, x_l14, x_l16, x_l18, x_l20, x_l22, x_l32, x_l36, x_l48, x_l50, x_l54, x_l57, x_l59, x_l74, x_l81, x_l99, x_l104, x_l107, x_l110, x_l112, x_l115, x_l117, x_l162, x_l255, x_l512, x_l99999, x_l1000000, nI_leI, nI_ltI, nI_eq, nI_add, pk_mul, nI_clamp, x_in, x_bit, x_b0, x_b1, x_b0n, fa_or, fa_and, fb_xorI, x_an, Option.bind_some, b_has8, b_has9, ↓reduceIte, not_true_eq_false, not_false_eq_true, s9_isOpen h, if_pos, if_neg]
    rw [e]
    unfold g_q
    by_cases c : (z && x_al (fun v => m.testBit u || (!E 0 u v && !E 1 u v)) v) = true
    · by_cases c0 : m.testBit u = true
      · simp [c, c0] at *
        simp [c]
      · by_cases c1 : E 0 u v = true
        · simp [c, c0, c1]
        · by_cases c2 : E 1 u v = true
          · simp [c, c0, c1, c2]
          · simp [c0, c1, c2] at *
            simp [c]
    · have : (z && (x_al (fun v => m.testBit u || (!E 0 u v && !E 1 u v)) v && (m.testBit u || (!E 0 u v && !E 1 u v)))) = false := by
        rw [← Bool.and_assoc]
        have c' : (z && x_al (fun v => m.testBit u || (!E 0 u v && !E 1 u v)) v) = false := by simpa using c
        rw [c']; rfl
      simp only [this]
      simp [c]
theorem s9_all (h : mO E S) {a : Nat} (ha : a < 9) : f_X9_isAllFrom (nI a) S = some (if x_ok (g_MO E) a = true then nI 1 else nI 0, S) := by
  have hM : ∀ x, x < 9 → g_MO E x < 2 ^ 9 := fun x _ => g_MO_lt x
  unfold f_X9_isAllFrom
  rw [x_l1, x_bit (by omega)]
  have h1 := x_for (F := fun n r => f_X9_isAllFrom_6 n (nI (g_mm (g_MO E) a r)) (nI r) S) (N := 9) (fin := f_X9_isAllFrom_99 1000 (nI (g_mm (g_MO E) a 9)) (nI 1) (nI 0) S) ?_ ?_ (d := 9) (a := 0) (n := 1000) (by omega) (by omega)
  · refine Eq.trans h1 ?_
    have hb := g_mm_lt hM ha 9
    have h2 := x_for (F := fun n u => f_X9_isAllFrom_99 n (nI (g_mm (g_MO E) a 9)) (if x_al (fun u => x_al (g_q E (g_mm (g_MO E) a 9) u) 9) u = true then nI 1 else nI 0) (nI u) S) (N := 9) (fin := some (if x_al (fun u => x_al (g_q E (g_mm (g_MO E) a 9) u) 9) 9 = true then nI 1 else nI 0, S)) ?_ ?_ (d := 9) (a := 0) (n := 1000) (by omega) (by omega)
    · refine Eq.trans h2 ?_
      have e : x_al (fun u => x_al (g_q E (g_mm (g_MO E) a 9) u) 9) 9 = x_ok (g_MO E) a := by
        rw [Bool.eq_iff_iff, x_al_iff, x_ok_iff]
        constructor
        · intro q k hk hn
          have q1 := x_al_iff.mp (q k hk)
          obtain ⟨v, hv, hv2⟩ := x_ne0 (g_MO_lt k) hn
          have q2 := q1 v hv
          rw [g_MO_bit hv] at hv2
          unfold g_q at q2
          rw [← g_mm_bit hM ha]
          cases hA : (g_mm (g_MO E) a 9).testBit k
          · rw [hA] at q2
            cases h0 : E 0 k v <;> cases h1 : E 1 k v <;> simp_all
          · rfl
        · intro q u hu
          rw [x_al_iff]
          intro v hv
          unfold g_q
          by_cases c : g_MO E u = 0
          · have z := g_MO_bit (E := E) (u := u) hv
            rw [c, Nat.zero_testBit] at z
            have z' := z.symm
            simp only [Bool.or_eq_false_iff] at z'
            rw [z'.1, z'.2]
            simp
          · rw [(g_mm_bit hM ha).mpr (q u hu c)]
            rfl
      rw [e]
    · intro n
      simp (disch := omega) only [f_X9_isAllFrom_99, x_l0, x_l1, x_l2, x_l3, x_l4, x_l5, x_l6, x_l7, x_l8, x_l9, x_l10, x_l12, x_l13, x_l14, x_l16, x_l18, x_l20, x_l22, x_l32, x_l36, x_l48, x_l50, x_l54, x_l57, x_l59, x_l74, x_l81, x_l99, x_l104, x_l107, x_l110, x_l112, x_l115, x_l117, x_l162, x_l255, x_l512, x_l99999, x_l1000000, nI_leI, nI_ltI, nI_eq, nI_add, pk_mul, nI_clamp, x_in, x_bit, x_b0, x_b1, x_b0n, fa_or, fa_and, fb_xorI, x_an, Option.bind_some, b_has8, b_has9, ↓reduceIte, not_true_eq_false, not_false_eq_true, if_pos, if_neg]
      exact if_pos (Classical.em _).symm
    · intro n u hu
      have e : x_al (fun u => x_al (g_q E (g_mm (g_MO E) a 9) u) 9) (u + 1) = (x_al (fun u => x_al (g_q E (g_mm (g_MO E) a 9) u) 9) u && x_al (g_q E (g_mm (g_MO E) a 9) u) 9) := rfl
      rw [e]
      simp (disch := omega) only [f_X9_isAllFrom_99, x_l0, x_l1, x_l2, x_l3, x_l4, x_l5, x_l6, x_l7, x_l8, x_l9, x_l10, x_l12, x_l13, x_l14, x_l16, x_l18, x_l20, x_l22, x_l32, x_l36, x_l48, x_l50, x_l54, x_l57, x_l59, x_l74, x_l81, x_l99, x_l104, x_l107, x_l110, x_l112, x_l115, x_l117, x_l162, x_l255, x_l512, x_l99999, x_l1000000, nI_leI, nI_ltI, nI_eq, nI_add, pk_mul, nI_clamp, x_in, x_bit, x_b0, x_b1, x_b0n, fa_or, fa_and, fb_xorI, x_an, Option.bind_some, b_has8, b_has9, ↓reduceIte, not_true_eq_false, not_false_eq_true, s9_all_109 h hb hu, if_pos, if_neg]
  · intro n
    simp (disch := omega) only [f_X9_isAllFrom_6, x_l0, x_l1, x_l2, x_l3, x_l4, x_l5, x_l6, x_l7, x_l8, x_l9, x_l10, x_l12, x_l13, x_l14, x_l16, x_l18, x_l20, x_l22, x_l32, x_l36, x_l48, x_l50, x_l54, x_l57, x_l59, x_l74, x_l81, x_l99, x_l104, x_l107, x_l110, x_l112, x_l115, x_l117, x_l162, x_l255, x_l512, x_l99999, x_l1000000, nI_leI, nI_ltI, nI_eq, nI_add, pk_mul, nI_clamp, x_in, x_bit, x_b0, x_b1, x_b0n, fa_or, fa_and, fb_xorI, x_an, Option.bind_some, b_has8, b_has9, ↓reduceIte, not_true_eq_false, not_false_eq_true, if_pos, if_neg]
  · intro n r hr
    have hb := g_mm_lt hM ha r
    simp (disch := omega) only [f_X9_isAllFrom_6, x_l0, x_l1, x_l2, x_l3, x_l4, x_l5, x_l6, x_l7, x_l8, x_l9, x_l10, x_l12, x_l13, x_l14, x_l16, x_l18, x_l20, x_l22, x_l32, x_l36, x_l48, x_l50, x_l54, x_l57, x_l59, x_l74, x_l81, x_l99, x_l104, x_l107, x_l110, x_l112, x_l115, x_l117, x_l162, x_l255, x_l512, x_l99999, x_l1000000, nI_leI, nI_ltI, nI_eq, nI_add, pk_mul, nI_clamp, x_in, x_bit, x_b0, x_b1, x_b0n, fa_or, fa_and, fb_xorI, x_an, Option.bind_some, b_has8, b_has9, ↓reduceIte, not_true_eq_false, not_false_eq_true, s9_all_15 h hb, if_pos, if_neg]
    rfl
end OP
