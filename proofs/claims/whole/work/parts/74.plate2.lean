/-! ===== the plate's shape: class and reference ===== -/
section PL2
variable {T : Nat → Nat} {P : Nat} {S : zS}
theorem s1_side (w : wT T) (h : cP0 T P S) {u v k : Nat} (hu : u < T 0) (hv : v < T 0) (hk : k < T 0) : f_X1_side P (nI k) (nI u) (nI v) S = some (g_side T u v k, S) := by
  have h0 := wT_b w
  simp (disch := omega) only [f_X1_side, x_l0, x_l1, x_l2, x_l3, x_l4, x_l5, x_l6, x_l7, x_l8, x_l9, x_l10, x_l12, x_l13, x_l14, x_l16, x_l18, x_l20, x_l22, x_l32, x_l36, x_l48, x_l50, x_l54, x_l57, x_l59, x_l74, x_l81, x_l99, x_l104, x_l107, x_l110, x_l112, x_l115, x_l117, x_l162, x_l255, x_l512, x_l99999, x_l1000000, nI_leI, nI_ltI, nI_eq, nI_add, pk_mul, nI_clamp, x_in, x_bit, x_b0, x_b1, x_b0n, fa_or, fa_and, fb_xorI, x_an, Option.bind_some, b_has8, b_has9, ↓reduceIte, not_true_eq_false, not_false_eq_true, h.2.1, if_pos, if_neg]
  rfl
theorem g_side_self (T : Nat → Nat) (v k : Nat) : g_side T k v k = nI 0 := by
  unfold g_side
  rw [Int32.sub_self, Int32.sub_self, Int32.mul_zero, Int32.zero_mul, Int32.sub_self]
  rfl
theorem g_on_self (T : Nat → Nat) (v k : Nat) : g_on T k v k = true := by
  unfold g_on g_btw
  rw [g_side_self]
  simp
  constructor <;> omega
theorem x_ifI {c : Prop} [Decidable c] {a b : Nat} : (if c then nI a else nI b) = nI (if c then a else b) := by split <;> rfl
theorem s1_on (w : wT T) (h : cP0 T P S) {u v k : Nat} (hu : u < T 0) (hv : v < T 0) (hk : k < T 0) : f_X1_liesOn P (nI k) (nI u) (nI v) S = some (if g_on T u v k = true then nI 1 else nI 0, S) := by
  have h0 := wT_b w
  have x1 := wT_xy w hu
  have x2 := wT_xy w hv
  have x3 := wT_xy w hk
  have l1 : (if T (4 + v) < T (4 + u) then T (4 + v) else T (4 + u)) ≤ 20 := by split <;> omega
  have l2 : (if T (4 + u) < T (4 + v) then T (4 + v) else T (4 + u)) ≤ 20 := by split <;> omega
  have l3 : (if T (13 + v) < T (13 + u) then T (13 + v) else T (13 + u)) ≤ 20 := by split <;> omega
  have l4 : (if T (13 + u) < T (13 + v) then T (13 + v) else T (13 + u)) ≤ 20 := by split <;> omega
  unfold g_on g_btw
  simp only [f_X1_liesOn, s1_side w h hu hv hk, Option.bind_some, x_l0, x_l1]
  by_cases e0 : g_side T u v k = nI 0
  · simp (disch := omega) only [x_l0, x_l1, x_l2, x_l3, x_l4, x_l5, x_l6, x_l7, x_l8, x_l9, x_l10, x_l12, x_l13, x_l14, x_l16, x_l18, x_l20, x_l22, x_l32, x_l36, x_l48, x_l50, x_l54, x_l57, x_l59, x_l74, x_l81, x_l99, x_l104, x_l107, x_l110, x_l112, x_l115, x_l117, x_l162, x_l255, x_l512, x_l99999, x_l1000000, nI_leI, nI_ltI, nI_eq, nI_add, pk_mul, nI_clamp, x_in, x_bit, x_b0, x_b1, x_b0n, fa_or, fa_and, fb_xorI, x_an, Option.bind_some, b_has8, b_has9, ↓reduceIte, not_true_eq_false, not_false_eq_true, h.2.1, if_pos, if_neg]
    simp (disch := omega) only [x_ifI, nI_ltI]
    simp only [e0, decide_true, Bool.true_and, Bool.and_eq_true, Bool.or_eq_true, decide_eq_true_eq]
    repeat' split
    all_goals first
      | rfl
      | (exfalso; omega)
  · rw [if_neg e0]
    simp [e0]
theorem s1_cr (w : wT T) (h : cP0 T P S) {u v k : Nat} (hu : u < T 0) (hv : v < T 0) (hk : k < T 0) : f_X1_crossing P (nI k) (nI u) (nI v) S = some (g_cr T u v k, S) := by
  have h0 := wT_b w
  have x1 := wT_xy w hu
  have x2 := wT_xy w hv
  have x3 := wT_xy w hk
  unfold g_cr
  simp (disch := omega) only [f_X1_crossing, f_X1_crossing_42, s1_side w h hu hv hk, x_l0, x_l1, x_l2, x_l3, x_l4, x_l5, x_l6, x_l7, x_l8, x_l9, x_l10, x_l12, x_l13, x_l14, x_l16, x_l18, x_l20, x_l22, x_l32, x_l36, x_l48, x_l50, x_l54, x_l57, x_l59, x_l74, x_l81, x_l99, x_l104, x_l107, x_l110, x_l112, x_l115, x_l117, x_l162, x_l255, x_l512, x_l99999, x_l1000000, nI_leI, nI_ltI, nI_eq, nI_add, pk_mul, nI_clamp, x_in, x_bit, x_b0, x_b1, x_b0n, fa_or, fa_and, fb_xorI, x_an, Option.bind_some, b_has8, b_has9, ↓reduceIte, not_true_eq_false, not_false_eq_true, h.2.1, if_pos, if_neg]
  by_cases c1 : T (13 + k) < T (13 + u)
  · have c1' : ¬ T (13 + u) ≤ T (13 + k) := by omega
    by_cases c2 : T (13 + k) < T (13 + v)
    · have c2' : ¬ T (13 + v) ≤ T (13 + k) := by omega
      simp [c1, c1', c2, c2']
    · have c2' : T (13 + v) ≤ T (13 + k) := by omega
      by_cases c3 : nI 0 ≤ g_side T u v k
      · simp [c1, c1', c2, c2', c3]
      · simp [c1, c1', c2, c2', c3]
  · have c1' : T (13 + u) ≤ T (13 + k) := by omega
    by_cases c2 : T (13 + v) ≤ T (13 + k)
    · simp [c1, c1', c2]
    · by_cases c3 : g_side T u v k ≤ nI 0
      · simp [c1, c1', c2, c3]
      · simp [c1, c1', c2, c3]
theorem s1_rnd (w : wT T) (h : cP0 T P S) {q k : Nat} (hq : q < T 2) (hk : k < T 0) : f_X1_goesRound P (nI q) (nI k) S = some (if g_rnd T q k = true then nI 1 else nI 0, S) := by
  have h0 := wT_b w
  have h1 := wT_sz w hq
  unfold f_X1_goesRound
  have hh := x_find (F := fun n e => f_X1_goesRound_5 P n (nI q) (nI k) (g_ts T q k e) (nI e) S) (N := T (50 + q)) (p := g_onr T q k) (yes := fun _ => some (nI 0, S)) (no := if g_ts T q k (T (50 + q)) = nI 0 then some (nI 0, S) else some (nI 1, S)) ?_ ?_ (d := T (50 + q)) (a := 0) (n := 1000) (by omega) (by omega)
  · refine Eq.trans hh ?_
    unfold g_rnd x_f1
    by_cases e1 : x_fst (g_onr T q k) (T (50 + q)) (T (50 + q)) 0 < T (50 + q)
    · rw [if_pos e1]; simp [e1]
    · rw [if_neg e1]
      by_cases e2 : g_ts T q k (T (50 + q)) = nI 0
      · simp [e2]
      · simp [e1, e2]
  · intro n
    simp (disch := omega) only [f_X1_goesRound_5, x_l0, x_l1, x_l2, x_l3, x_l4, x_l5, x_l6, x_l7, x_l8, x_l9, x_l10, x_l12, x_l13, x_l14, x_l16, x_l18, x_l20, x_l22, x_l32, x_l36, x_l48, x_l50, x_l54, x_l57, x_l59, x_l74, x_l81, x_l99, x_l104, x_l107, x_l110, x_l112, x_l115, x_l117, x_l162, x_l255, x_l512, x_l99999, x_l1000000, nI_leI, nI_ltI, nI_eq, nI_add, pk_mul, nI_clamp, x_in, x_bit, x_b0, x_b1, x_b0n, fa_or, fa_and, fb_xorI, x_an, Option.bind_some, b_has8, b_has9, ↓reduceIte, not_true_eq_false, not_false_eq_true, (h.2.2.2 q hq).1, if_pos, if_neg]
    rfl
  · intro n e he
    have hm : (e + 1) % T (50 + q) < T (50 + q) := Nat.mod_lt _ (by omega)
    have r1 := (h.2.2.2 q hq).2 e he
    have r2 := (h.2.2.2 q hq).2 _ hm
    have b1 := wT_rg w hq he
    have b2 := wT_rg w hq hm
    have e1 : g_rg T q e = T (54 + 5 * q + e) := g_rg_in he
    have e2 : g_rg T q (e + 1) = T (54 + 5 * q + (e + 1) % T (50 + q)) := rfl
    simp (disch := omega) only [f_X1_goesRound_5, x_l0, x_l1, x_l2, x_l3, x_l4, x_l5, x_l6, x_l7, x_l8, x_l9, x_l10, x_l12, x_l13, x_l14, x_l16, x_l18, x_l20, x_l22, x_l32, x_l36, x_l48, x_l50, x_l54, x_l57, x_l59, x_l74, x_l81, x_l99, x_l104, x_l107, x_l110, x_l112, x_l115, x_l117, x_l162, x_l255, x_l512, x_l99999, x_l1000000, nI_leI, nI_ltI, nI_eq, nI_add, pk_mul, nI_clamp, x_in, x_bit, x_b0, x_b1, x_b0n, fa_or, fa_and, fb_xorI, x_an, Option.bind_some, b_has8, b_has9, ↓reduceIte, not_true_eq_false, not_false_eq_true, (h.2.2.2 q hq).1, s1_next w h hq he, r1, r2, s1_on w h b1 b2 hk, s1_cr w h b1 b2 hk, if_pos, if_neg]
    rw [← e1, ← e2]
    show _ = if g_on T (g_rg T q e) (g_rg T q (e + 1)) k = true then _ else _
    by_cases c : g_on T (g_rg T q e) (g_rg T q (e + 1)) k = true
    · simp [c]
    · simp [c, g_ts]
theorem s1_in (w : wT T) (h : cP0 T P S) {p : Nat} (hp : p < T 2) : f_X1_partsAround P (nI p) S = some (nI (g_in T p), S) := by
  have h0 := wT_b w
  have h1 := wT_sz w hp
  unfold f_X1_partsAround
  refine x_for (F := fun n k => f_X1_partsAround_4 P n (nI p) (nI (x_mk (g_inp T p) k)) (nI k) S) (N := T 2) ?_ ?_ (d := T 2) (a := 0) (n := 1000) (by omega) (by omega)
  · intro n
    simp (disch := omega) only [f_X1_partsAround_4, x_l0, x_l1, x_l2, x_l3, x_l4, x_l5, x_l6, x_l7, x_l8, x_l9, x_l10, x_l12, x_l13, x_l14, x_l16, x_l18, x_l20, x_l22, x_l32, x_l36, x_l48, x_l50, x_l54, x_l57, x_l59, x_l74, x_l81, x_l99, x_l104, x_l107, x_l110, x_l112, x_l115, x_l117, x_l162, x_l255, x_l512, x_l99999, x_l1000000, nI_leI, nI_ltI, nI_eq, nI_add, pk_mul, nI_clamp, x_in, x_bit, x_b0, x_b1, x_b0n, fa_or, fa_and, fb_xorI, x_an, Option.bind_some, b_has8, b_has9, ↓reduceIte, not_true_eq_false, not_false_eq_true, h.1.2.2.1, if_pos, if_neg]
    rfl
  · intro n k hk
    have r1 := (h.2.2.2 p hp).2 0 (by omega)
    have e1 : g_rg T p 0 = T (54 + 5 * p + 0) := g_rg_in (by omega)
    have b1 := wT_rg w hp (i := 0) (by omega)
    simp (disch := omega) only [f_X1_partsAround_4, x_l0, x_l1, x_l2, x_l3, x_l4, x_l5, x_l6, x_l7, x_l8, x_l9, x_l10, x_l12, x_l13, x_l14, x_l16, x_l18, x_l20, x_l22, x_l32, x_l36, x_l48, x_l50, x_l54, x_l57, x_l59, x_l74, x_l81, x_l99, x_l104, x_l107, x_l110, x_l112, x_l115, x_l117, x_l162, x_l255, x_l512, x_l99999, x_l1000000, nI_leI, nI_ltI, nI_eq, nI_add, pk_mul, nI_clamp, x_in, x_bit, x_b0, x_b1, x_b0n, fa_or, fa_and, fb_xorI, x_an, Option.bind_some, b_has8, b_has9, ↓reduceIte, not_true_eq_false, not_false_eq_true, h.1.2.2.1, r1, s1_rnd w h hk b1, if_pos, if_neg]
    rw [← e1]
    by_cases c1 : k = p
    · have : ¬ g_inp T p k = true := by unfold g_inp; simp [c1]
      rw [if_pos c1, x_mk_no this]
    · rw [if_neg c1]
      by_cases c2 : g_rnd T k (g_rg T p 0) = true
      · have : g_inp T p k = true := by unfold g_inp; simp [c1, c2]
        simp only [c2, x_mk_yes this]
        simp
      · have : ¬ g_inp T p k = true := by unfold g_inp; simp [c2]
        simp only [c2, x_mk_no this]
        simp
theorem s1_deg (w : wT T) (h : cP0 T P S) {k b : Nat} (hk : k < 2 ^ 31) (hb : b < 2 ^ 31) : f_X1_cutsAt P (nI k) (nI b) S = some (nI (g_deg T b k), S) := by
  have h0 := wT_b w
  unfold f_X1_cutsAt
  refine x_for (F := fun n c => f_X1_cutsAt_5 P n (nI k) (nI b) (nI (fb_ct (g_at T b k) c)) (nI c) S) (N := T 1) ?_ ?_ (d := T 1) (a := 0) (n := 1000) (by omega) (by omega)
  · intro n
    simp (disch := omega) only [f_X1_cutsAt_5, x_l0, x_l1, x_l2, x_l3, x_l4, x_l5, x_l6, x_l7, x_l8, x_l9, x_l10, x_l12, x_l13, x_l14, x_l16, x_l18, x_l20, x_l22, x_l32, x_l36, x_l48, x_l50, x_l54, x_l57, x_l59, x_l74, x_l81, x_l99, x_l104, x_l107, x_l110, x_l112, x_l115, x_l117, x_l162, x_l255, x_l512, x_l99999, x_l1000000, nI_leI, nI_ltI, nI_eq, nI_add, pk_mul, nI_clamp, x_in, x_bit, x_b0, x_b1, x_b0n, fa_or, fa_and, fb_xorI, x_an, Option.bind_some, b_has8, b_has9, ↓reduceIte, not_true_eq_false, not_false_eq_true, h.1.2.1, if_pos, if_neg]
    rfl
  · intro n c hc
    have x := wT_c w hc
    simp (disch := omega) only [f_X1_cutsAt_5, x_l0, x_l1, x_l2, x_l3, x_l4, x_l5, x_l6, x_l7, x_l8, x_l9, x_l10, x_l12, x_l13, x_l14, x_l16, x_l18, x_l20, x_l22, x_l32, x_l36, x_l48, x_l50, x_l54, x_l57, x_l59, x_l74, x_l81, x_l99, x_l104, x_l107, x_l110, x_l112, x_l115, x_l117, x_l162, x_l255, x_l512, x_l99999, x_l1000000, nI_leI, nI_ltI, nI_eq, nI_add, pk_mul, nI_clamp, x_in, x_bit, x_b0, x_b1, x_b0n, fa_or, fa_and, fb_xorI, x_an, Option.bind_some, b_has8, b_has9, ↓reduceIte, not_true_eq_false, not_false_eq_true, h.1.2.1, h.2.2.1, if_pos, if_neg, fb_ct_succ]
    unfold g_at
    by_cases c1 : b.testBit c = true
    · by_cases c2 : T (22 + c) = k
      · simp [c1, c2]
      · by_cases c3 : T (36 + c) = k
        · simp [c1, c2, c3]
        · simp [c1, c2, c3]
    · simp [c1]
end PL2
/-! ===== the reference ===== -/
def mT (T : Nat → Nat) (Q : Nat) (S : zS) : Prop := ∀ j, j < 74 → S.1 Q j = nI (T j)
def x_lst (p : Nat → Bool) : Nat → Int32
  | 0 => -nI 1
  | n + 1 => if p n then nI n else x_lst p n
theorem x_lst_eq {p : Nat → Bool} : ∀ {n : Nat}, (∀ c d, c < d → d < n → ¬ (p c = true ∧ p d = true)) → x_lst p n = if x_f1 p n < n then nI (x_f1 p n) else -nI 1
  | 0, _ => rfl
  | n + 1, hu => by
    have ih := x_lst_eq (p := p) (n := n) (fun c d h1 h2 => hu c d h1 (by omega))
    rw [x_lst]
    by_cases hp : p n = true
    · rw [if_pos hp]
      have : x_f1 p (n + 1) = n := x_f1_eq (by omega) hp (fun j hj => by
        by_cases q : p j = true
        · exact absurd ⟨q, hp⟩ (hu j n hj (by omega))
        · simpa using q)
      rw [this, if_pos (by omega)]
    · rw [if_neg hp, ih]
      by_cases e : x_f1 p n < n
      · have : x_f1 p (n + 1) = x_f1 p n := x_f1_eq (by omega) (x_f1_yes e) (fun j hj => x_f1_no hj)
        rw [if_pos e, this, if_pos (by omega)]
      · have e2 := x_f1_le p n
        have : x_f1 p (n + 1) = n + 1 := x_f1_none (fun k hk => by
          by_cases q : k = n
          · subst q; simpa using hp
          · exact x_f1_no (n := n) (by omega))
        rw [if_neg e, this, if_neg (by omega)]
theorem g_cut_one {T : Nat → Nat} (w : wT T) (u v : Nat) : ∀ c d, c < d → d < T 1 → ¬ (g_adj T c u v = true ∧ g_adj T d u v = true) := by
  intro c d h1 h2 ⟨h3, h4⟩
  rw [g_adj_mm w (by omega)] at h3
  rw [g_adj_mm w h2] at h4
  simp only [Bool.and_eq_true, decide_eq_true_eq] at h3 h4
  have := wT_lt w h1 h2
  rw [h3.1, h3.2, h4.1, h4.2] at this
  omega
section ML2
variable {T : Nat → Nat} {Q : Nat} {S : zS}
theorem s9_in (a lo hi : Int32) (S : zS) : f_X9_in a lo hi S = some (if lo ≤ a ∧ a ≤ hi then nI 1 else nI 0, S) := by
  unfold f_X9_in
  by_cases c1 : a < lo
  · rw [if_pos c1, if_neg]
    · rfl
    · intro q
      have := (fa_of_lt c1).2.1
      exact this q.1
  · rw [if_neg c1]
    have c1' := fa_of_nlt c1
    by_cases c2 : hi < a
    · rw [if_pos c2, if_neg]
      · rfl
      · intro q
        exact (fa_of_lt c2).2.1 q.2
    · rw [if_neg c2, if_pos ⟨c1', fa_of_nlt c2⟩]
      rfl
theorem s9_cutOf (h1 : T 1 ≤ 14) (hT : ∀ c, c < T 1 → T (22 + c) < 2 ^ 31 ∧ T (36 + c) < 2 ^ 31) (h : mT T Q S) {u v : Nat} (hu : u < 2 ^ 31) (hv : v < 2 ^ 31) (ho : ∀ c d, c < d → d < T 1 → ¬ (g_adj T c u v = true ∧ g_adj T d u v = true)) : f_X9_cutOf Q (nI u) (nI v) S = some (if g_cut T u v < T 1 then nI (g_cut T u v) else -nI 1, S) := by
  unfold f_X9_cutOf g_cut
  rw [← x_lst_eq ho]
  refine x_for (F := fun n c => f_X9_cutOf_5 Q n (nI u) (nI v) (x_lst (fun c => g_adj T c u v) c) (nI c) S) (N := T 1) ?_ ?_ (d := T 1) (a := 0) (n := 1000) (by omega) (by omega)
  · intro n
    simp (disch := omega) only [f_X9_cutOf_5, x_l0, x_l1, x_l2, x_l3, x_l4, x_l5, x_l6, x_l7, x_l8, x_l9, x_l10, x_l12, x_l13, x_l14, x_l16, x_l18, x_l20, x_l22, x_l32, x_l36, x_l48, x_l50, x_l54, x_l57, x_l59, x_l74, x_l81, x_l99, x_l104, x_l107, x_l110, x_l112, x_l115, x_l117, x_l162, x_l255, x_l512, x_l99999, x_l1000000, nI_leI, nI_ltI, nI_eq, nI_add, pk_mul, nI_clamp, x_in, x_bit, x_b0, x_b1, x_b0n, fa_or, fa_and, fb_xorI, x_an, Option.bind_some, b_has8, b_has9, ↓reduceIte, not_true_eq_false, not_false_eq_true, h 1, if_pos, if_neg]
  · intro n c hc
    have x := hT c hc
    have y1 := h (22 + c) (by omega)
    have y2 := h (36 + c) (by omega)
    simp (disch := omega) only [f_X9_cutOf_5, f_X9_cutOf_35, f_X9_cutOf_62, x_l0, x_l1, x_l2, x_l3, x_l4, x_l5, x_l6, x_l7, x_l8, x_l9, x_l10, x_l12, x_l13, x_l14, x_l16, x_l18, x_l20, x_l22, x_l32, x_l36, x_l48, x_l50, x_l54, x_l57, x_l59, x_l74, x_l81, x_l99, x_l104, x_l107, x_l110, x_l112, x_l115, x_l117, x_l162, x_l255, x_l512, x_l99999, x_l1000000, nI_leI, nI_ltI, nI_eq, nI_add, pk_mul, nI_clamp, x_in, x_bit, x_b0, x_b1, x_b0n, fa_or, fa_and, fb_xorI, x_an, Option.bind_some, b_has8, b_has9, ↓reduceIte, not_true_eq_false, not_false_eq_true, h 1, y1, y2, if_pos, if_neg]
    have e1 : x_lst (fun c => g_adj T c u v) (c + 1) = if g_adj T c u v = true then nI c else x_lst (fun c => g_adj T c u v) c := rfl
    rw [e1]
    generalize x_lst (fun c => g_adj T c u v) c = z
    by_cases hp : g_adj T c u v = true
    · rw [if_pos hp]
      unfold g_adj at hp
      simp only [Bool.or_eq_true, Bool.and_eq_true, beq_iff_eq] at hp
      repeat' split
      all_goals first | rfl | (exfalso; omega)
    · rw [if_neg hp]
      unfold g_adj at hp
      simp only [Bool.or_eq_true, Bool.and_eq_true, beq_iff_eq] at hp
      repeat' split
      all_goals first | rfl | (exfalso; omega) | skip
theorem s9_cut (w : wT T) (h : mT T 89 S) {u v : Nat} (hu : u < 2 ^ 31) (hv : v < 2 ^ 31) : f_X9_cutOf 89 (nI u) (nI v) S = some (if g_cut T u v < T 1 then nI (g_cut T u v) else -nI 1, S) :=
  s9_cutOf (wT_b w).2.1 (fun c hc => by have := wT_c w hc; have := wT_b w; omega) h hu hv (g_cut_one w u v)
theorem s9_ring (w : wT T) (h : mT T 89 S) {p i : Nat} (hp : p < T 2) (hi : i < 1000) : f_X9_ringAt (nI p) (nI i) S = some (nI (g_rg T p i), S) := by
  have h0 := wT_b w
  have h1 := wT_sz w hp
  have hm : i % T (50 + p) < T (50 + p) := Nat.mod_lt _ (by omega)
  have y1 := h (50 + p) (by omega)
  have y2 := h (54 + 5 * p + i % T (50 + p)) (by omega)
  simp (disch := omega) only [f_X9_ringAt, x_l0, x_l1, x_l2, x_l3, x_l4, x_l5, x_l6, x_l7, x_l8, x_l9, x_l10, x_l12, x_l13, x_l14, x_l16, x_l18, x_l20, x_l22, x_l32, x_l36, x_l48, x_l50, x_l54, x_l57, x_l59, x_l74, x_l81, x_l99, x_l104, x_l107, x_l110, x_l112, x_l115, x_l117, x_l162, x_l255, x_l512, x_l99999, x_l1000000, nI_leI, nI_ltI, nI_eq, nI_add, pk_mul, nI_clamp, x_in, x_bit, x_b0, x_b1, x_b0n, fa_or, fa_and, fb_xorI, x_an, Option.bind_some, b_has8, b_has9, ↓reduceIte, not_true_eq_false, not_false_eq_true, y1, y2, pk_rem, if_pos, if_neg]
  rfl
theorem s9_rc (w : wT T) (h : mT T 89 S) {p : Nat} (hp : p < T 2) : f_X9_cutsOfPart (nI p) S = some (nI (g_rc T p), S) := by
  have h0 := wT_b w
  have h1 := wT_sz w hp
  have y1 := h (50 + p) (by omega)
  unfold f_X9_cutsOfPart
  refine x_for (F := fun n k => f_X9_cutsOfPart_4 n (nI p) (nI (x_or (fun e => 2 ^ g_cut T (g_rg T p e) (g_rg T p (e + 1))) k)) (nI k) S) (N := T (50 + p)) ?_ ?_ (d := T (50 + p)) (a := 0) (n := 1000) (by omega) (by omega)
  · intro n
    simp (disch := omega) only [f_X9_cutsOfPart_4, x_l0, x_l1, x_l2, x_l3, x_l4, x_l5, x_l6, x_l7, x_l8, x_l9, x_l10, x_l12, x_l13, x_l14, x_l16, x_l18, x_l20, x_l22, x_l32, x_l36, x_l48, x_l50, x_l54, x_l57, x_l59, x_l74, x_l81, x_l99, x_l104, x_l107, x_l110, x_l112, x_l115, x_l117, x_l162, x_l255, x_l512, x_l99999, x_l1000000, nI_leI, nI_ltI, nI_eq, nI_add, pk_mul, nI_clamp, x_in, x_bit, x_b0, x_b1, x_b0n, fa_or, fa_and, fb_xorI, x_an, Option.bind_some, b_has8, b_has9, ↓reduceIte, not_true_eq_false, not_false_eq_true, y1, if_pos, if_neg]
    rfl
  · intro n k hk
    have hc := wT_rc w hp hk
    have g1 := g_rg_lt w hp k
    have g2 := g_rg_lt w hp (k + 1)
    simp (disch := omega) only [f_X9_cutsOfPart_4, x_l0, x_l1, x_l2, x_l3, x_l4, x_l5, x_l6, x_l7, x_l8, x_l9, x_l10, x_l12, x_l13, x_l14, x_l16, x_l18, x_l20, x_l22, x_l32, x_l36, x_l48, x_l50, x_l54, x_l57, x_l59, x_l74, x_l81, x_l99, x_l104, x_l107, x_l110, x_l112, x_l115, x_l117, x_l162, x_l255, x_l512, x_l99999, x_l1000000, nI_leI, nI_ltI, nI_eq, nI_add, pk_mul, nI_clamp, x_in, x_bit, x_b0, x_b1, x_b0n, fa_or, fa_and, fb_xorI, x_an, Option.bind_some, b_has8, b_has9, ↓reduceIte, not_true_eq_false, not_false_eq_true, y1, s9_ring w h hp, s9_cut w h, if_pos, if_neg]
    rfl
theorem s9_side (w : wT T) (h : mT T 89 S) {u v k : Nat} (hu : u < T 0) (hv : v < T 0) (hk : k < T 0) : f_X9_side (nI u) (nI v) (nI k) S = some (g_side T u v k, S) := by
  have h0 := wT_b w
  have y1 := h (4 + u) (by omega)
  have y2 := h (4 + v) (by omega)
  have y3 := h (4 + k) (by omega)
  have y4 := h (13 + u) (by omega)
  have y5 := h (13 + v) (by omega)
  have y6 := h (13 + k) (by omega)
  simp (disch := omega) only [f_X9_side, x_l0, x_l1, x_l2, x_l3, x_l4, x_l5, x_l6, x_l7, x_l8, x_l9, x_l10, x_l12, x_l13, x_l14, x_l16, x_l18, x_l20, x_l22, x_l32, x_l36, x_l48, x_l50, x_l54, x_l57, x_l59, x_l74, x_l81, x_l99, x_l104, x_l107, x_l110, x_l112, x_l115, x_l117, x_l162, x_l255, x_l512, x_l99999, x_l1000000, nI_leI, nI_ltI, nI_eq, nI_add, pk_mul, nI_clamp, x_in, x_bit, x_b0, x_b1, x_b0n, fa_or, fa_and, fb_xorI, x_an, Option.bind_some, b_has8, b_has9, ↓reduceIte, not_true_eq_false, not_false_eq_true, y1, y2, y3, y4, y5, y6, if_pos, if_neg]
  rfl
theorem s9_on (w : wT T) (h : mT T 89 S) {u v k : Nat} (hu : u < T 0) (hv : v < T 0) (hk : k < T 0) : f_X9_isOn (nI u) (nI v) (nI k) S = some (if g_on T u v k = true then nI 1 else nI 0, S) := by
  have h0 := wT_b w
  have x1 := wT_xy w hu
  have x2 := wT_xy w hv
  have x3 := wT_xy w hk
  have y1 := h (4 + u) (by omega)
  have y2 := h (4 + v) (by omega)
  have y3 := h (4 + k) (by omega)
  have y4 := h (13 + u) (by omega)
  have y5 := h (13 + v) (by omega)
  have y6 := h (13 + k) (by omega)
  unfold g_on g_btw
  simp (disch := omega) only [f_X9_isOn, f_X9_isOn_65, f_X9_isOn_138, s9_in, s9_side w h hu hv hk, x_l0, x_l1, x_l2, x_l3, x_l4, x_l5, x_l6, x_l7, x_l8, x_l9, x_l10, x_l12, x_l13, x_l14, x_l16, x_l18, x_l20, x_l22, x_l32, x_l36, x_l48, x_l50, x_l54, x_l57, x_l59, x_l74, x_l81, x_l99, x_l104, x_l107, x_l110, x_l112, x_l115, x_l117, x_l162, x_l255, x_l512, x_l99999, x_l1000000, nI_leI, nI_ltI, nI_eq, nI_add, pk_mul, nI_clamp, x_in, x_bit, x_b0, x_b1, x_b0n, fa_or, fa_and, fb_xorI, x_an, Option.bind_some, b_has8, b_has9, ↓reduceIte, not_true_eq_false, not_false_eq_true, y1, y2, y3, y4, y5, y6, if_pos, if_neg]
  simp only [Bool.and_eq_true, Bool.or_eq_true, decide_eq_true_eq]
  have z1 : ¬ nI 1 = nI 0 := by decide
  by_cases a1 : T (4 + u) ≤ T (4 + k) ∧ T (4 + k) ≤ T (4 + v)
  · by_cases b1 : T (13 + u) ≤ T (13 + k) ∧ T (13 + k) ≤ T (13 + v)
    · by_cases e0 : g_side T u v k = nI 0 <;> simp [a1, b1, e0, z1]
    · by_cases b2 : T (13 + v) ≤ T (13 + k) ∧ T (13 + k) ≤ T (13 + u)
      · by_cases e0 : g_side T u v k = nI 0 <;> simp [a1, b1, b2, e0, z1]
      · simp only [a1, b1, b2, not_true_eq_false, not_false_eq_true, if_true, if_false, z1, and_true, or_true, true_or, or_false, and_false]
  · by_cases a2 : T (4 + v) ≤ T (4 + k) ∧ T (4 + k) ≤ T (4 + u)
    · by_cases b1 : T (13 + u) ≤ T (13 + k) ∧ T (13 + k) ≤ T (13 + v)
      · by_cases e0 : g_side T u v k = nI 0 <;> simp [a1, a2, b1, e0, z1]
      · by_cases b2 : T (13 + v) ≤ T (13 + k) ∧ T (13 + k) ≤ T (13 + u)
        · by_cases e0 : g_side T u v k = nI 0 <;> simp [a1, a2, b1, b2, e0, z1]
        · simp only [a1, a2, b1, b2, not_true_eq_false, not_false_eq_true, if_true, if_false, z1, and_true, or_true, true_or, or_false, and_false, false_or]
    · simp only [a1, a2, not_true_eq_false, not_false_eq_true, if_true, if_false, and_false, false_and, or_false]
      repeat' split
      all_goals first | rfl | contradiction
theorem s9_w94 (w : wT T) (h : mT T 89 S) {u v k : Nat} (hu : u < T 0) (hv : v < T 0) (hk : k < T 0) (K : Int32 → Int32 → Int32 → Int32 → zS → Option (Int32 × zS)) (q z e : Int32) : f_X9_isWithin_94 K q (nI k) z e (nI u) (nI v) (if T (13 + k) < T (13 + u) then nI 0 else nI 1) S = K q (nI k) (z + g_cr T u v k) (e + nI 1) S := by
  have h0 := wT_b w
  have y3 := h (13 + v) (by omega)
  have y4 := h (13 + k) (by omega)
  have x2 := wT_xy w hu
  have x3 := wT_xy w hv
  have x4 := wT_xy w hk
  unfold g_cr
  by_cases c1 : T (13 + k) < T (13 + u)
  · rw [if_pos c1]
    have c1' : ¬ T (13 + u) ≤ T (13 + k) := by omega
    by_cases c2 : T (13 + k) < T (13 + v)
    · have c2' : ¬ T (13 + v) ≤ T (13 + k) := by omega
      simp (disch := omega) only [f_X9_isWithin_94, f_X9_isWithin_123, f_X9_isWithin_153, x_l0, x_l1, x_l2, x_l3, x_l4, x_l5, x_l6, x_l7, x_l8, x_l9, x_l10, x_l12, x_l13, x_l14, x_l16, x_l18, x_l20, x_l22, x_l32, x_l36, x_l48, x_l50, x_l54, x_l57, x_l59, x_l74, x_l81, x_l99, x_l104, x_l107, x_l110, x_l112, x_l115, x_l117, x_l162, x_l255, x_l512, x_l99999, x_l1000000, nI_leI, nI_ltI, nI_eq, nI_add, pk_mul, nI_clamp, x_in, x_bit, x_b0, x_b1, x_b0n, fa_or, fa_and, fb_xorI, x_an, Option.bind_some, b_has8, b_has9, ↓reduceIte, not_true_eq_false, not_false_eq_true, y3, y4, if_pos, if_neg]
    · have c2' : T (13 + v) ≤ T (13 + k) := by omega
      simp (disch := omega) only [f_X9_isWithin_94, f_X9_isWithin_123, f_X9_isWithin_153, x_l0, x_l1, x_l2, x_l3, x_l4, x_l5, x_l6, x_l7, x_l8, x_l9, x_l10, x_l12, x_l13, x_l14, x_l16, x_l18, x_l20, x_l22, x_l32, x_l36, x_l48, x_l50, x_l54, x_l57, x_l59, x_l74, x_l81, x_l99, x_l104, x_l107, x_l110, x_l112, x_l115, x_l117, x_l162, x_l255, x_l512, x_l99999, x_l1000000, nI_leI, nI_ltI, nI_eq, nI_add, pk_mul, nI_clamp, x_in, x_bit, x_b0, x_b1, x_b0n, fa_or, fa_and, fb_xorI, x_an, Option.bind_some, b_has8, b_has9, ↓reduceIte, not_true_eq_false, not_false_eq_true, y3, y4, s9_side w h hu hv hk, if_pos, if_neg]
      by_cases c3 : nI 0 ≤ g_side T u v k
      · simp [c1', c2', c3]
      · simp [c1', c2', c3]
  · rw [if_neg c1]
    have c1' : T (13 + u) ≤ T (13 + k) := by omega
    by_cases c2 : T (13 + k) < T (13 + v)
    · have c2' : ¬ T (13 + v) ≤ T (13 + k) := by omega
      simp (disch := omega) only [f_X9_isWithin_94, f_X9_isWithin_123, f_X9_isWithin_153, x_l0, x_l1, x_l2, x_l3, x_l4, x_l5, x_l6, x_l7, x_l8, x_l9, x_l10, x_l12, x_l13, x_l14, x_l16, x_l18, x_l20, x_l22, x_l32, x_l36, x_l48, x_l50, x_l54, x_l57, x_l59, x_l74, x_l81, x_l99, x_l104, x_l107, x_l110, x_l112, x_l115, x_l117, x_l162, x_l255, x_l512, x_l99999, x_l1000000, nI_leI, nI_ltI, nI_eq, nI_add, pk_mul, nI_clamp, x_in, x_bit, x_b0, x_b1, x_b0n, fa_or, fa_and, fb_xorI, x_an, Option.bind_some, b_has8, b_has9, ↓reduceIte, not_true_eq_false, not_false_eq_true, y3, y4, s9_side w h hu hv hk, if_pos, if_neg]
      by_cases c3 : g_side T u v k ≤ nI 0
      · simp [c1', c2', c3]
      · simp [c1', c2', c3]
    · have c2' : T (13 + v) ≤ T (13 + k) := by omega
      simp (disch := omega) only [f_X9_isWithin_94, f_X9_isWithin_123, f_X9_isWithin_153, x_l0, x_l1, x_l2, x_l3, x_l4, x_l5, x_l6, x_l7, x_l8, x_l9, x_l10, x_l12, x_l13, x_l14, x_l16, x_l18, x_l20, x_l22, x_l32, x_l36, x_l48, x_l50, x_l54, x_l57, x_l59, x_l74, x_l81, x_l99, x_l104, x_l107, x_l110, x_l112, x_l115, x_l117, x_l162, x_l255, x_l512, x_l99999, x_l1000000, nI_leI, nI_ltI, nI_eq, nI_add, pk_mul, nI_clamp, x_in, x_bit, x_b0, x_b1, x_b0n, fa_or, fa_and, fb_xorI, x_an, Option.bind_some, b_has8, b_has9, ↓reduceIte, not_true_eq_false, not_false_eq_true, y3, y4, if_pos, if_neg]
theorem s9_within (w : wT T) (h : mT T 89 S) {p q : Nat} (hp : p < T 2) (hq : q < T 2) : f_X9_isWithin (nI p) (nI q) S = some (if g_rnd T q (g_rg T p 0) = true then nI 1 else nI 0, S) := by
  have h0 := wT_b w
  have h1 := wT_sz w hq
  have hk := g_rg_lt w hp 0
  unfold f_X9_isWithin
  rw [x_l0, s9_ring w h hp (by omega), Option.bind_some]
  generalize g_rg T p 0 = k at hk
  show f_X9_isWithin_13 1000 (nI q) (nI k) (nI 0) (nI 0) S = _
  have hh := x_find (F := fun n e => f_X9_isWithin_13 n (nI q) (nI k) (g_ts T q k e) (nI e) S) (N := T (50 + q)) (p := g_onr T q k) (yes := fun _ => some (nI 0, S)) (no := if g_ts T q k (T (50 + q)) = nI 0 then some (nI 0, S) else some (nI 1, S)) ?_ ?_ (d := T (50 + q)) (a := 0) (n := 1000) (by omega) (by omega)
  · refine Eq.trans hh ?_
    unfold g_rnd x_f1
    by_cases e1 : x_fst (g_onr T q k) (T (50 + q)) (T (50 + q)) 0 < T (50 + q)
    · rw [if_pos e1]; simp [e1]
    · rw [if_neg e1]
      by_cases e2 : g_ts T q k (T (50 + q)) = nI 0
      · simp [e2]
      · simp [e1, e2]
  · intro n
    have y1 := h (50 + q) (by omega)
    simp (disch := omega) only [f_X9_isWithin_13, x_l0, x_l1, x_l2, x_l3, x_l4, x_l5, x_l6, x_l7, x_l8, x_l9, x_l10, x_l12, x_l13, x_l14, x_l16, x_l18, x_l20, x_l22, x_l32, x_l36, x_l48, x_l50, x_l54, x_l57, x_l59, x_l74, x_l81, x_l99, x_l104, x_l107, x_l110, x_l112, x_l115, x_l117, x_l162, x_l255, x_l512, x_l99999, x_l1000000, nI_leI, nI_ltI, nI_eq, nI_add, pk_mul, nI_clamp, x_in, x_bit, x_b0, x_b1, x_b0n, fa_or, fa_and, fb_xorI, x_an, Option.bind_some, b_has8, b_has9, ↓reduceIte, not_true_eq_false, not_false_eq_true, y1, if_pos, if_neg]
    rfl
  · intro n e he
    have y1 := h (50 + q) (by omega)
    have b1 := g_rg_lt w hq e
    have b2 := g_rg_lt w hq (e + 1)
    have y2 := h (13 + g_rg T q e) (by omega)
    have y3 := h (13 + g_rg T q (e + 1)) (by omega)
    have y4 := h (13 + k) (by omega)
    have x2 := wT_xy w b1
    have x3 := wT_xy w b2
    have x4 := wT_xy w hk
    have eo : g_onr T q k e = g_on T (g_rg T q e) (g_rg T q (e + 1)) k := rfl
    have et : g_ts T q k (e + 1) = g_ts T q k e + g_cr T (g_rg T q e) (g_rg T q (e + 1)) k := rfl
    simp (disch := omega) only [f_X9_isWithin_13, x_l0, x_l1, x_l2, x_l3, x_l4, x_l5, x_l6, x_l7, x_l8, x_l9, x_l10, x_l12, x_l13, x_l14, x_l16, x_l18, x_l20, x_l22, x_l32, x_l36, x_l48, x_l50, x_l54, x_l57, x_l59, x_l74, x_l81, x_l99, x_l104, x_l107, x_l110, x_l112, x_l115, x_l117, x_l162, x_l255, x_l512, x_l99999, x_l1000000, nI_leI, nI_ltI, nI_eq, nI_add, pk_mul, nI_clamp, x_in, x_bit, x_b0, x_b1, x_b0n, fa_or, fa_and, fb_xorI, x_an, Option.bind_some, b_has8, b_has9, ↓reduceIte, not_true_eq_false, not_false_eq_true, y1, y2, y3, y4, s9_ring w h hq, s9_on w h b1 b2 hk, if_pos, if_neg]
    rw [eo, et]
    generalize g_ts T q k e = z
    by_cases c0 : g_rg T q e = k
    · rw [if_pos c0, c0, g_on_self, if_pos rfl]
    · rw [if_neg c0]
      by_cases c : g_on T (g_rg T q e) (g_rg T q (e + 1)) k = true
      · simp [c]
      · have r := s9_w94 w h b1 b2 hk (f_X9_isWithin_13 n) (nI q) z (nI e)
        rw [nI_add] at r
        by_cases c1 : T (13 + k) < T (13 + g_rg T q e)
        · rw [if_pos c1] at r
          simp only [c, c1, if_true, r]
          simp
        · rw [if_neg c1] at r
          simp only [c, c1, if_false, r]
          simp
theorem s9_isC (h0 : T 0 ≤ 9) (h : mT T 89 S) {k : Nat} (hk : k < T 0) : f_X9_isCornerNow (nI k) S = some (nI 1, S) := by
  have y := h 0 (by omega)
  have e : nI (T 0) - nI 1 = nI (T 0 - 1) := pk_sub (by omega)
  simp (disch := omega) only [f_X9_isCornerNow, s9_in, x_l0, x_l1, x_l2, x_l3, x_l4, x_l5, x_l6, x_l7, x_l8, x_l9, x_l10, x_l12, x_l13, x_l14, x_l16, x_l18, x_l20, x_l22, x_l32, x_l36, x_l48, x_l50, x_l54, x_l57, x_l59, x_l74, x_l81, x_l99, x_l104, x_l107, x_l110, x_l112, x_l115, x_l117, x_l162, x_l255, x_l512, x_l99999, x_l1000000, nI_leI, nI_ltI, nI_eq, nI_add, pk_mul, nI_clamp, x_in, x_bit, x_b0, x_b1, x_b0n, fa_or, fa_and, fb_xorI, x_an, Option.bind_some, b_has8, b_has9, ↓reduceIte, not_true_eq_false, not_false_eq_true, y, e, if_pos, if_neg, x_b1]
  rfl
theorem s9_isCF (h0 : T 0 ≤ 9) (h : mT T 89 S) {v : Int32} (hv : ¬ ∃ k, k < T 0 ∧ v = nI k) : f_X9_isCornerNow v S = some (nI 0, S) := by
  have y := h 0 (by omega)
  have e : ¬ ((0 : Int32) ≤ v ∧ v ≤ S.1 89 0 - 1) := by
    intro q
    rw [y] at q
    obtain ⟨j, hj, rfl⟩ := nI_of (x := v) (fun c => (fa_of_lt c).2.1 q.1)
    by_cases z : T 0 = 0
    · rw [z] at q
      have := q.2
      rw [fa_le, nI_toInt hj] at this
      have e2 : (nI 0 - 1 : Int32).toInt = -1 := by decide
      omega
    · have e3 : nI (T 0) - 1 = nI (T 0 - 1) := pk_sub (a := T 0) (b := 1) (by omega)
      rw [e3, nI_leI hj (by omega)] at q
      exact hv ⟨j, by omega, rfl⟩
  unfold f_X9_isCornerNow
  rw [s9_in, if_neg e, Option.bind_some]
  rfl
theorem s9_way (w : wT T) (h : mT T 89 S) {a b : Nat} (ha : a < T 0) (hb : b < T 0) : f_X9_way (nI a) (nI b) S = some (nI (g_way T a b), S) := by
  have h0 := wT_b w
  have h1 := wT_xy w ha
  have h2 := wT_xy w hb
  have y1 := h (4 + a) (by omega)
  have y2 := h (4 + b) (by omega)
  have y3 := h (13 + a) (by omega)
  have y4 := h (13 + b) (by omega)
  have q1 := x_abs1 (a := T (4 + a)) (b := T (4 + b)) (by omega) (by omega)
  have q2 := x_abs1 (a := T (13 + a)) (b := T (13 + b)) (by omega) (by omega)
  simp (disch := omega) only [f_X9_way, f_X9_way_49, x_l0, x_l1, x_l2, x_l3, x_l4, x_l5, x_l6, x_l7, x_l8, x_l9, x_l10, x_l12, x_l13, x_l14, x_l16, x_l18, x_l20, x_l22, x_l32, x_l36, x_l48, x_l50, x_l54, x_l57, x_l59, x_l74, x_l81, x_l99, x_l104, x_l107, x_l110, x_l112, x_l115, x_l117, x_l162, x_l255, x_l512, x_l99999, x_l1000000, nI_leI, nI_ltI, nI_eq, nI_add, pk_mul, nI_clamp, x_in, x_bit, x_b0, x_b1, x_b0n, fa_or, fa_and, fb_xorI, x_an, Option.bind_some, b_has8, b_has9, ↓reduceIte, not_true_eq_false, not_false_eq_true, y1, y2, y3, y4, if_pos, if_neg, x_neg0]
  unfold g_way
  rw [← nI_add, ← q1, ← q2]
  repeat' split
  all_goals rfl
theorem s9_deg (w : wT T) (h : mT T 89 S) {k b : Nat} (hk : k < 2 ^ 31) (hb : b < 2 ^ 31) : f_X9_endsAt 89 (nI k) (nI b) S = some (nI (g_deg T b k), S) := by
  have h0 := wT_b w
  unfold f_X9_endsAt
  refine x_for (F := fun n c => f_X9_endsAt_5 89 n (nI k) (nI b) (nI (fb_ct (g_at T b k) c)) (nI c) S) (N := T 1) ?_ ?_ (d := T 1) (a := 0) (n := 1000) (by omega) (by omega)
  · intro n
    simp (disch := omega) only [f_X9_endsAt_5, x_l0, x_l1, x_l2, x_l3, x_l4, x_l5, x_l6, x_l7, x_l8, x_l9, x_l10, x_l12, x_l13, x_l14, x_l16, x_l18, x_l20, x_l22, x_l32, x_l36, x_l48, x_l50, x_l54, x_l57, x_l59, x_l74, x_l81, x_l99, x_l104, x_l107, x_l110, x_l112, x_l115, x_l117, x_l162, x_l255, x_l512, x_l99999, x_l1000000, nI_leI, nI_ltI, nI_eq, nI_add, pk_mul, nI_clamp, x_in, x_bit, x_b0, x_b1, x_b0n, fa_or, fa_and, fb_xorI, x_an, Option.bind_some, b_has8, b_has9, ↓reduceIte, not_true_eq_false, not_false_eq_true, h 1, if_pos, if_neg]
    rfl
  · intro n c hc
    have x := wT_c w hc
    have y1 := h (22 + c) (by omega)
    have y2 := h (36 + c) (by omega)
    simp (disch := omega) only [f_X9_endsAt_5, x_l0, x_l1, x_l2, x_l3, x_l4, x_l5, x_l6, x_l7, x_l8, x_l9, x_l10, x_l12, x_l13, x_l14, x_l16, x_l18, x_l20, x_l22, x_l32, x_l36, x_l48, x_l50, x_l54, x_l57, x_l59, x_l74, x_l81, x_l99, x_l104, x_l107, x_l110, x_l112, x_l115, x_l117, x_l162, x_l255, x_l512, x_l99999, x_l1000000, nI_leI, nI_ltI, nI_eq, nI_add, pk_mul, nI_clamp, x_in, x_bit, x_b0, x_b1, x_b0n, fa_or, fa_and, fb_xorI, x_an, Option.bind_some, b_has8, b_has9, ↓reduceIte, not_true_eq_false, not_false_eq_true, h 1, y1, y2, if_pos, if_neg, fb_ct_succ]
    unfold g_at
    by_cases c1 : b.testBit c = true
    · by_cases c2 : T (22 + c) = k
      · simp [c1, c2]
      · by_cases c3 : T (36 + c) = k
        · simp [c1, c2, c3]
        · simp [c1, c2, c3]
    · simp [c1]
end ML2
