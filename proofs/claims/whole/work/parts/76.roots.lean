/-! ===== cuts as a web; roots ===== -/
def g_ec (T : Nat → Nat) (b c u v : Nat) : Bool := decide (x_f1 (fun c => b.testBit c && g_adj T c u v) c < c)
def g_rw (T : Nat → Nat) (b c u : Nat) : Nat := x_mk (fun v => g_ec T b c u v) 9
/-- the corners to which a cut of the set b goes from u -/
def g_M (T : Nat → Nat) (b u : Nat) : Nat := g_rw T b (T 1) u
theorem x_f1_succ (p : Nat → Bool) (n : Nat) : decide (x_f1 p (n + 1) < n + 1) = (decide (x_f1 p n < n) || p n) := by
  rw [Bool.eq_iff_iff, Bool.or_eq_true, decide_eq_true_eq, decide_eq_true_eq]
  constructor
  · intro h
    by_cases e : x_f1 p (n + 1) = n
    · right
      have := x_f1_yes h
      rw [e] at this
      exact this
    · left
      exact x_f1_ex (k := x_f1 p (n + 1)) (by omega) (x_f1_yes h)
  · rintro (h | h)
    · exact x_f1_ex (k := x_f1 p n) (by omega) (x_f1_yes h)
    · exact x_f1_ex (k := n) (by omega) h
section LAY
variable {T : Nat → Nat} {P W : Nat} {S : zS}
theorem g_ec_iff {b c u v : Nat} : g_ec T b c u v = true ↔ ∃ d, d < c ∧ b.testBit d = true ∧ g_adj T d u v = true := by
  unfold g_ec
  rw [decide_eq_true_eq]
  constructor
  · intro h
    have := x_f1_yes h
    simp only [Bool.and_eq_true] at this
    exact ⟨_, h, this.1, this.2⟩
  · rintro ⟨d, hd, h1, h2⟩
    exact x_f1_ex (k := d) hd (by simp [h1, h2])
theorem g_ec_succ (b c u v : Nat) : g_ec T b (c + 1) u v = (g_ec T b c u v || (b.testBit c && g_adj T c u v)) := x_f1_succ (fun c => b.testBit c && g_adj T c u v) c
theorem g_rw_lt (b c u : Nat) : g_rw T b c u < 2 ^ 9 := x_mk_lt _ _
theorem g_adj_sy (c u v : Nat) : g_adj T c u v = g_adj T c v u := by unfold g_adj; rw [Bool.or_comm]
theorem g_M_bit (w : wT T) {b u v : Nat} : (g_M T b u).testBit v = true ↔ ∃ d, d < T 1 ∧ b.testBit d = true ∧ g_adj T d u v = true := by
  unfold g_M g_rw
  rw [x_mk_bit, Bool.and_eq_true, decide_eq_true_eq, g_ec_iff]
  constructor
  · exact fun h => h.2
  · rintro ⟨d, hd, h1, h2⟩
    refine ⟨?_, d, hd, h1, h2⟩
    have := wT_c w hd
    have := wT_b w
    unfold g_adj at h2
    simp only [Bool.or_eq_true, Bool.and_eq_true, beq_iff_eq] at h2
    omega
theorem g_M_lt (b u : Nat) : g_M T b u < 2 ^ 9 := g_rw_lt b _ u
theorem g_M_sy (w : wT T) {b : Nat} : ∀ x y, (g_M T b x).testBit y = true → (g_M T b y).testBit x = true := by
  intro x y h
  rw [g_M_bit w] at h ⊢
  obtain ⟨d, hd, h1, h2⟩ := h
  exact ⟨d, hd, h1, by rw [g_adj_sy]; exact h2⟩
theorem g_rw_turn (w : wT T) {b c : Nat} (hc : c < T 1) (hb : b.testBit c = true) (k : Nat) : g_rw T b (c + 1) k = if k = T (36 + c) then g_rw T b c k ^^^ 2 ^ T (22 + c) else if k = T (22 + c) then g_rw T b c k ^^^ 2 ^ T (36 + c) else g_rw T b c k := by
  have x := wT_c w hc
  have h0 := wT_b w
  have hn : g_ec T b c (T (22 + c)) (T (36 + c)) = false := by
    by_cases q : g_ec T b c (T (22 + c)) (T (36 + c)) = true
    · obtain ⟨d, hd, _, h2⟩ := g_ec_iff.mp q
      exact absurd ⟨h2, by unfold g_adj; simp⟩ (g_cut_one w (T (22 + c)) (T (36 + c)) d c hd hc)
    · simpa using q
  have hn2 : g_ec T b c (T (36 + c)) (T (22 + c)) = false := by
    by_cases q : g_ec T b c (T (36 + c)) (T (22 + c)) = true
    · obtain ⟨d, hd, h1, h2⟩ := g_ec_iff.mp q
      rw [g_adj_sy] at h2
      have := g_ec_iff.mpr ⟨d, hd, h1, h2⟩
      rw [hn] at this
      cases this
    · simpa using q
  apply Nat.eq_of_testBit_eq
  intro j
  have e1 : (g_rw T b (c + 1) k).testBit j = (decide (j < 9) && (g_ec T b c k j || g_adj T c k j)) := by
    unfold g_rw
    rw [x_mk_bit, g_ec_succ, hb]
    rfl
  have e0 : (g_rw T b c k).testBit j = (decide (j < 9) && g_ec T b c k j) := by
    unfold g_rw
    rw [x_mk_bit]
  rw [e1]
  by_cases c1 : k = T (36 + c)
  · rw [if_pos c1, Nat.testBit_xor, e0, Nat.testBit_two_pow]
    by_cases c2 : j = T (22 + c)
    · subst c1; subst c2
      rw [hn2]
      have : g_adj T c (T (36 + c)) (T (22 + c)) = true := by unfold g_adj; simp
      have : T (22 + c) < 9 := by omega
      simp [*]
    · have : g_adj T c k j = false := by
        unfold g_adj
        simp only [Bool.or_eq_false_iff, Bool.and_eq_false_iff, beq_eq_false_iff_ne]
        omega
      have c3 : ¬ T (22 + c) = j := fun q => c2 q.symm
      rw [this]
      simp [c3]
  · rw [if_neg c1]
    by_cases c4 : k = T (22 + c)
    · rw [if_pos c4, Nat.testBit_xor, e0, Nat.testBit_two_pow]
      by_cases c2 : j = T (36 + c)
      · subst c4; subst c2
        rw [hn]
        have : g_adj T c (T (22 + c)) (T (36 + c)) = true := by unfold g_adj; simp
        have : T (36 + c) < 9 := by omega
        simp [*]
      · have : g_adj T c k j = false := by
          unfold g_adj
          simp only [Bool.or_eq_false_iff, Bool.and_eq_false_iff, beq_eq_false_iff_ne]
          omega
        have c3 : ¬ T (36 + c) = j := fun q => c2 q.symm
        rw [this]
        simp [c3]
    · rw [if_neg c4, e0]
      have : g_adj T c k j = false := by
        unfold g_adj
        simp only [Bool.or_eq_false_iff, Bool.and_eq_false_iff, beq_eq_false_iff_ne]
        omega
      rw [this]
      simp
theorem g_rw_same {b c : Nat} (hb : ¬ b.testBit c = true) (k : Nat) : g_rw T b (c + 1) k = g_rw T b c k := by
  unfold g_rw
  refine x_mk_cong (fun v _ => ?_)
  rw [g_ec_succ]
  have : b.testBit c = false := by simpa using hb
  rw [this]
  simp
/-- a tie turned in a row -/
theorem s6_turn {q : Nat} {R : Nat → Nat} {u v : Nat} (hu : u < 9) (hv : v < 9) (huv : u ≠ v) : f_X6_turn q (nI u) (nI v) (x_ar S q 9 (fun k => nI (R k))) = some ((), x_ar S q 9 (fun k => nI (if k = v then R k ^^^ 2 ^ u else if k = u then R k ^^^ 2 ^ v else R k))) := by
  have hvu : ¬ v = u := fun e => huv e.symm
  simp (disch := omega) only [f_X6_turn, x_l0, x_l1, x_l2, x_l3, x_l4, x_l5, x_l6, x_l7, x_l8, x_l9, x_l10, x_l12, x_l13, x_l14, x_l16, x_l18, x_l20, x_l22, x_l32, x_l36, x_l48, x_l50, x_l54, x_l57, x_l59, x_l74, x_l81, x_l99, x_l104, x_l107, x_l110, x_l112, x_l115, x_l117, x_l162, x_l255, x_l512, x_l99999, x_l1000000, nI_leI, nI_ltI, nI_eq, nI_add, pk_mul, nI_clamp, x_in, x_bit, x_b0, x_b1, x_b0n, fa_or, fa_and, fb_xorI, x_an, Option.bind_some, b_has8, b_has9, ↓reduceIte, not_true_eq_false, not_false_eq_true, if_pos, if_neg, x_ar_w, x_ar_in]
  refine congrArg (fun z => some ((), z)) (x_ar_g (fun j _ => ?_))
  unfold upd
  by_cases c1 : j = v
  · subst c1
    simp [hvu, fb_xorI]
  · by_cases c2 : j = u
    · subst c2
      simp [c1, fb_xorI]
    · simp [c1, c2]
theorem s6_lay (w : wT T) (h : cP0 T P S) {b : Nat} (hb : b < 2 ^ 31) (hP : P = 3 ∨ P = 17) (hW : 60 < W) : f_X6_lay W P (nI b) S = some ((), x_ar (x_ar S (W + 2) 9 (fun _ => nI 0)) (W + 1) 9 (fun k => nI (g_M T b k))) := by
  have h0 := wT_b w
  unfold f_X6_lay
  rw [s_fill _ _ (by omega), Option.bind_some, s_fill _ _ (by omega), Option.bind_some]
  have e0 : x_ar (x_ar S (W + 1) 9 (fun _ => (0 : Int32))) (W + 2) 9 (fun _ => (0 : Int32)) = x_ar (x_ar S (W + 2) 9 (fun _ => nI 0)) (W + 1) 9 (fun k => nI (g_rw T b 0 k)) := by
    refine x_zext (fun k j => ?_) rfl
    rw [x_ar_1, x_ar_1, x_ar_1, x_ar_1]
    have : ∀ k, g_rw T b 0 k = 0 := by
      intro k
      unfold g_rw
      apply Nat.eq_of_testBit_eq
      intro j
      rw [x_mk_bit, Nat.zero_testBit]
      have : g_ec T b 0 k j = false := by unfold g_ec; simp
      rw [this]; simp
    rw [this]
    by_cases c1 : k = W + 1 ∧ j < 9
    · rw [if_pos c1, if_pos c1, if_neg (by omega)]; rfl
    · rw [if_neg c1, if_neg c1]; rfl
  rw [e0]
  refine x_for (F := fun n c => f_X6_lay_18 W P n (nI b) (nI c) (x_ar (x_ar S (W + 2) 9 (fun _ => nI 0)) (W + 1) 9 (fun k => nI (g_rw T b c k)))) (N := T 1) ?_ ?_ (d := T 1) (a := 0) (n := 1000) (by omega) (by omega)
  · intro n
    have r1 : (x_ar (x_ar S (W + 2) 9 (fun _ => nI 0)) (W + 1) 9 (fun k => nI (g_rw T b (T 1) k))).1 P 4 = nI (T 1) := by
      rw [x_ar_k (by omega), x_ar_k (by omega)]; exact h.1.2.1
    simp (disch := omega) only [f_X6_lay_18, x_l0, x_l1, x_l2, x_l3, x_l4, x_l5, x_l6, x_l7, x_l8, x_l9, x_l10, x_l12, x_l13, x_l14, x_l16, x_l18, x_l20, x_l22, x_l32, x_l36, x_l48, x_l50, x_l54, x_l57, x_l59, x_l74, x_l81, x_l99, x_l104, x_l107, x_l110, x_l112, x_l115, x_l117, x_l162, x_l255, x_l512, x_l99999, x_l1000000, nI_leI, nI_ltI, nI_eq, nI_add, pk_mul, nI_clamp, x_in, x_bit, x_b0, x_b1, x_b0n, fa_or, fa_and, fb_xorI, x_an, Option.bind_some, b_has8, b_has9, ↓reduceIte, not_true_eq_false, not_false_eq_true, r1, if_pos, if_neg]
    rfl
  · intro n c hc
    have x := wT_c w hc
    have r1 : ∀ k j, k ≠ W + 1 → k ≠ W + 2 → (x_ar (x_ar S (W + 2) 9 (fun _ => nI 0)) (W + 1) 9 (fun k => nI (g_rw T b c k))).1 k j = S.1 k j := by
      intro k j h1 h2
      rw [x_ar_k h1, x_ar_k h2]
    have r2 := r1 P 4 (by omega) (by omega)
    have r3 := r1 (P + 4) c (by omega) (by omega)
    have r4 := r1 (P + 5) c (by omega) (by omega)
    rw [h.1.2.1] at r2
    rw [(h.2.2.1 c hc).1] at r3
    rw [(h.2.2.1 c hc).2] at r4
    simp (disch := omega) only [f_X6_lay_18, x_l0, x_l1, x_l2, x_l3, x_l4, x_l5, x_l6, x_l7, x_l8, x_l9, x_l10, x_l12, x_l13, x_l14, x_l16, x_l18, x_l20, x_l22, x_l32, x_l36, x_l48, x_l50, x_l54, x_l57, x_l59, x_l74, x_l81, x_l99, x_l104, x_l107, x_l110, x_l112, x_l115, x_l117, x_l162, x_l255, x_l512, x_l99999, x_l1000000, nI_leI, nI_ltI, nI_eq, nI_add, pk_mul, nI_clamp, x_in, x_bit, x_b0, x_b1, x_b0n, fa_or, fa_and, fb_xorI, x_an, Option.bind_some, b_has8, b_has9, ↓reduceIte, not_true_eq_false, not_false_eq_true, r2, r3, r4, s6_turn, if_pos, if_neg]
    by_cases c1 : b.testBit c = true
    · have e : (fun k => nI (if k = T (36 + c) then g_rw T b c k ^^^ 2 ^ T (22 + c) else if k = T (22 + c) then g_rw T b c k ^^^ 2 ^ T (36 + c) else g_rw T b c k)) = (fun k => nI (g_rw T b (c + 1) k)) := funext fun k => by rw [g_rw_turn w hc c1 k]
      rw [← e]
      simp [c1]
    · have e : (fun k => nI (g_rw T b (c + 1) k)) = (fun k => nI (g_rw T b c k)) := funext fun k => by rw [g_rw_same c1 k]
      rw [e]
      simp [c1]
end LAY
