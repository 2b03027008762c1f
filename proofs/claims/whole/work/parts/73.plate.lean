/-! ===== the plate's picture: T as the reference's row 'told' ===== -/
def g_dist (a b : Nat) : Nat := if a < b then b - a else a - b
def g_way (T : Nat → Nat) (a b : Nat) : Nat := g_dist (T (4 + a)) (T (4 + b)) + g_dist (T (13 + a)) (T (13 + b))
def g_adj (T : Nat → Nat) (c u v : Nat) : Bool := (T (22 + c) == u && T (36 + c) == v) || (T (22 + c) == v && T (36 + c) == u)
def g_cut (T : Nat → Nat) (u v : Nat) : Nat := x_f1 (fun c => g_adj T c u v) (T 1)
def g_rg (T : Nat → Nat) (p i : Nat) : Nat := T (54 + 5 * p + i % T (50 + p))
def g_rc (T : Nat → Nat) (p : Nat) : Nat := x_or (fun e => 2 ^ g_cut T (g_rg T p e) (g_rg T p (e + 1))) (T (50 + p))
def g_side (T : Nat → Nat) (u v k : Nat) : Int32 := (nI (T (4 + v)) - nI (T (4 + u))) * (nI (T (13 + k)) - nI (T (13 + u))) - (nI (T (4 + k)) - nI (T (4 + u))) * (nI (T (13 + v)) - nI (T (13 + u)))
def g_btw (c a b : Nat) : Bool := (decide (a ≤ c) && decide (c ≤ b)) || (decide (b ≤ c) && decide (c ≤ a))
def g_on (T : Nat → Nat) (u v k : Nat) : Bool := decide (g_side T u v k = nI 0) && g_btw (T (4 + k)) (T (4 + u)) (T (4 + v)) && g_btw (T (13 + k)) (T (13 + u)) (T (13 + v))
def g_cr (T : Nat → Nat) (u v k : Nat) : Int32 :=
  if T (13 + u) ≤ T (13 + k) ∧ ¬ T (13 + v) ≤ T (13 + k) ∧ ¬ g_side T u v k ≤ nI 0 then nI 1
  else if ¬ T (13 + u) ≤ T (13 + k) ∧ T (13 + v) ≤ T (13 + k) ∧ ¬ nI 0 ≤ g_side T u v k then -nI 1 else nI 0
def g_ts (T : Nat → Nat) (q k : Nat) : Nat → Int32
  | 0 => nI 0
  | e + 1 => g_ts T q k e + g_cr T (g_rg T q e) (g_rg T q (e + 1)) k
def g_onr (T : Nat → Nat) (q k e : Nat) : Bool := g_on T (g_rg T q e) (g_rg T q (e + 1)) k
def g_rnd (T : Nat → Nat) (q k : Nat) : Bool := !decide (x_f1 (g_onr T q k) (T (50 + q)) < T (50 + q)) && !decide (g_ts T q k (T (50 + q)) = nI 0)
def g_inp (T : Nat → Nat) (p q : Nat) : Bool := !decide (q = p) && g_rnd T q (g_rg T p 0)
def g_in (T : Nat → Nat) (p : Nat) : Nat := x_mk (g_inp T p) (T 2)
def g_at (T : Nat → Nat) (b k c : Nat) : Bool := b.testBit c && (T (22 + c) == k || T (36 + c) == k)
def g_deg (T : Nat → Nat) (b k : Nat) : Nat := fb_ct (g_at T b k) (T 1)
/-- well-formed -/
def wT (T : Nat → Nat) : Prop :=
  (T 0 ≤ 9 ∧ T 1 ≤ 14 ∧ T 2 ≤ 4 ∧ T 3 ≤ 20) ∧
  (∀ k, k < T 0 → T (4 + k) ≤ 20 ∧ T (13 + k) ≤ 20) ∧
  (∀ c, c < T 1 → T (22 + c) < T (36 + c) ∧ T (36 + c) < T 0) ∧
  (∀ c d, c < d → d < T 1 → 16 * T (22 + c) + T (36 + c) < 16 * T (22 + d) + T (36 + d)) ∧
  (∀ p, p < T 2 → 3 ≤ T (50 + p) ∧ T (50 + p) ≤ 5) ∧
  (∀ p i, p < T 2 → i < T (50 + p) → T (54 + 5 * p + i) < T 0) ∧
  (∀ p i, p < T 2 → i < T (50 + p) → g_cut T (g_rg T p i) (g_rg T p (i + 1)) < T 1)
section WT
variable {T : Nat → Nat}
theorem wT_b (w : wT T) : T 0 ≤ 9 ∧ T 1 ≤ 14 ∧ T 2 ≤ 4 ∧ T 3 ≤ 20 := w.1
theorem wT_xy (w : wT T) {k : Nat} (h : k < T 0) : T (4 + k) ≤ 20 ∧ T (13 + k) ≤ 20 := w.2.1 k h
theorem wT_c (w : wT T) {c : Nat} (h : c < T 1) : T (22 + c) < T (36 + c) ∧ T (36 + c) < T 0 := w.2.2.1 c h
theorem wT_lt (w : wT T) {c d : Nat} (h : c < d) (h2 : d < T 1) : 16 * T (22 + c) + T (36 + c) < 16 * T (22 + d) + T (36 + d) := w.2.2.2.1 c d h h2
theorem wT_sz (w : wT T) {p : Nat} (h : p < T 2) : 3 ≤ T (50 + p) ∧ T (50 + p) ≤ 5 := w.2.2.2.2.1 p h
theorem wT_rg (w : wT T) {p i : Nat} (h : p < T 2) (h2 : i < T (50 + p)) : T (54 + 5 * p + i) < T 0 := w.2.2.2.2.2.1 p i h h2
theorem wT_rc (w : wT T) {p i : Nat} (h : p < T 2) (h2 : i < T (50 + p)) : g_cut T (g_rg T p i) (g_rg T p (i + 1)) < T 1 := w.2.2.2.2.2.2 p i h h2
theorem g_rg_lt (w : wT T) {p : Nat} (h : p < T 2) (i : Nat) : g_rg T p i < T 0 := wT_rg w h (Nat.mod_lt _ (by have := wT_sz w h; omega))
theorem g_rg_in {p i : Nat} (h : i < T (50 + p)) : g_rg T p i = T (54 + 5 * p + i) := by unfold g_rg; rw [Nat.mod_eq_of_lt h]
theorem g_rg_wrap {p i : Nat} (h : i = T (50 + p)) : g_rg T p i = T (54 + 5 * p) := by unfold g_rg; rw [h, Nat.mod_self]; rfl
theorem g_rc_lt (w : wT T) {p : Nat} (h : p < T 2) : g_rc T p < 2 ^ 14 := x_or_lt (fun k hk => Nat.pow_lt_pow_right (by decide) (by have := wT_rc w h hk; have := wT_b w; omega))
theorem g_in_lt (w : wT T) (p : Nat) : g_in T p < 2 ^ 4 := Nat.lt_of_lt_of_le (x_mk_lt _ _) (Nat.pow_le_pow_right (by decide) (wT_b w).2.2.1)
theorem g_dist_le {a b n : Nat} (ha : a ≤ n) (hb : b ≤ n) : g_dist a b ≤ n := by unfold g_dist; split <;> omega
theorem g_way_le (w : wT T) {a b : Nat} (ha : a < T 0) (hb : b < T 0) : g_way T a b ≤ 40 := by
  have h1 := g_dist_le (wT_xy w ha).1 (wT_xy w hb).1
  have h2 := g_dist_le (wT_xy w ha).2 (wT_xy w hb).2
  unfold g_way
  omega
theorem g_deg_le (w : wT T) (b k : Nat) : g_deg T b k ≤ 14 := Nat.le_trans (fb_ct_le _ _) (wT_b w).2.1
end WT
theorem x_abs1 {a b : Nat} (ha : a < 2 ^ 30) (hb : b < 2 ^ 30) : (if nI 0 ≤ nI a - nI b then nI a - nI b else nI 0 - (nI a - nI b)) = nI (g_dist a b) := by
  have h := pk_sub_toInt ha hb
  unfold g_dist
  by_cases e : a < b
  · rw [if_pos e, if_neg]
    · rw [fa_eq, fb_subI, nI_toInt (by omega), h, nI_toInt (by omega)]
      · omega
      · rw [h, nI_toInt (by omega)]; omega
      · rw [h, nI_toInt (by omega)]; omega
    · rw [fa_le, h, nI_toInt (by omega)]; omega
  · rw [if_neg e, if_pos]
    · rw [pk_sub (by omega)]
    · rw [fa_le, h, nI_toInt (by omega)]; omega
theorem x_neg0 (x : Int32) : -x = nI 0 - x := by
  apply Int32.toBitVec_inj.1
  rw [Int32.toBitVec_neg, Int32.toBitVec_sub]
  show -x.toBitVec = 0#32 - x.toBitVec
  rw [BitVec.zero_sub]
/-- class: the plate's numbers -/
def cP0 (T : Nat → Nat) (P : Nat) (S : zS) : Prop :=
  (S.1 P 0 = nI (T 0) ∧ S.1 P 4 = nI (T 1) ∧ S.1 P 7 = nI (T 2) ∧ S.1 P 12 = nI (T 3)) ∧
  (∀ k, k < T 0 → S.1 (P + 1) k = nI (T (4 + k)) ∧ S.1 (P + 2) k = nI (T (13 + k))) ∧
  (∀ c, c < T 1 → S.1 (P + 4) c = nI (T (22 + c)) ∧ S.1 (P + 5) c = nI (T (36 + c))) ∧
  (∀ p, p < T 2 → S.1 (P + 6) p = nI (T (50 + p)) ∧ ∀ i, i < T (50 + p) → S.1 (P + 8 + p) i = nI (T (54 + 5 * p + i)))
section CP0
variable {T : Nat → Nat} {P : Nat} {S : zS}
theorem s1_hasT (w : wT T) (h : cP0 T P S) {k : Nat} (hk : k < T 0) : f_X1_hasCorner P (nI k) S = some (nI 1, S) := by
  have hb := wT_b w
  simp (disch := omega) only [f_X1_hasCorner, x_l0, x_l1, x_l2, x_l3, x_l4, x_l5, x_l6, x_l7, x_l8, x_l9, x_l10, x_l12, x_l13, x_l14, x_l16, x_l18, x_l20, x_l22, x_l32, x_l36, x_l48, x_l50, x_l54, x_l57, x_l59, x_l74, x_l81, x_l99, x_l104, x_l107, x_l110, x_l112, x_l115, x_l117, x_l162, x_l255, x_l512, x_l99999, x_l1000000, nI_leI, nI_ltI, nI_eq, nI_add, pk_mul, nI_clamp, x_in, x_bit, x_b0, x_b1, x_b0n, fa_or, fa_and, fb_xorI, x_an, Option.bind_some, b_has8, b_has9, ↓reduceIte, not_true_eq_false, not_false_eq_true, h.1.1, if_pos, if_neg]
theorem s1_hasF (w : wT T) (h : cP0 T P S) {v : Int32} (hv : ¬ ∃ k, k < T 0 ∧ v = nI k) : f_X1_hasCorner P v S = some (nI 0, S) := by
  have hb := wT_b w
  unfold f_X1_hasCorner
  rw [h.1.1]
  rcases pk_ix v (n := T 0) (by omega) with h1 | h1 | ⟨j, hj, rfl⟩
  · rw [if_pos h1]; rfl
  · by_cases h0 : v < 0
    · rw [if_pos h0]; rfl
    · rw [if_neg h0, if_pos h1]; rfl
  · exact absurd ⟨j, hj, rfl⟩ hv
theorem s1_way (w : wT T) (h : cP0 T P S) {a b : Nat} (ha : a < T 0) (hb : b < T 0) : f_X1_way P (nI a) (nI b) S = some (nI (g_way T a b), S) := by
  have h0 := wT_b w
  have h1 := wT_xy w ha
  have h2 := wT_xy w hb
  simp (disch := omega) only [f_X1_way, s1_hasT w h ha, s1_hasT w h hb, x_l0, x_l1, x_l2, x_l3, x_l4, x_l5, x_l6, x_l7, x_l8, x_l9, x_l10, x_l12, x_l13, x_l14, x_l16, x_l18, x_l20, x_l22, x_l32, x_l36, x_l48, x_l50, x_l54, x_l57, x_l59, x_l74, x_l81, x_l99, x_l104, x_l107, x_l110, x_l112, x_l115, x_l117, x_l162, x_l255, x_l512, x_l99999, x_l1000000, nI_leI, nI_ltI, nI_eq, nI_add, pk_mul, nI_clamp, x_in, x_bit, x_b0, x_b1, x_b0n, fa_or, fa_and, fb_xorI, x_an, Option.bind_some, b_has8, b_has9, ↓reduceIte, not_true_eq_false, not_false_eq_true, (h.2.1 a ha).1, (h.2.1 b hb).1, (h.2.1 a ha).2, (h.2.1 b hb).2, if_pos, if_neg, x_abs1]
  rfl
theorem g_adj_mm (w : wT T) {c a b : Nat} (hc : c < T 1) : g_adj T c a b = (decide (T (22 + c) = if b < a then b else a) && decide (T (36 + c) = if a < b then b else a)) := by
  have h := wT_c w hc
  unfold g_adj
  rw [Bool.eq_iff_iff]
  simp only [Bool.or_eq_true, Bool.and_eq_true, beq_iff_eq, decide_eq_true_eq]
  by_cases e1 : b < a
  · rw [if_pos e1, if_neg (by omega)]; omega
  · rw [if_neg e1]
    by_cases e2 : a < b
    · rw [if_pos e2]; omega
    · rw [if_neg e2]; omega
theorem s1_cutB (w : wT T) (h : cP0 T P S) {a b : Nat} (ha : a < 2 ^ 31) (hb : b < 2 ^ 31) : f_X1_cutBetween P (nI a) (nI b) S = some (if g_cut T a b < T 1 then nI (g_cut T a b) else -nI 9, S) := by
  have h0 := wT_b w
  unfold f_X1_cutBetween
  have e1 : (if nI b < nI a then nI b else nI a) = nI (if b < a then b else a) := by
    by_cases e : b < a
    · rw [if_pos e, if_pos ((nI_ltI hb ha).mpr e)]
    · rw [if_neg e, if_neg (fun q => e ((nI_ltI hb ha).mp q))]
  have e2 : (if nI a < nI b then nI b else nI a) = nI (if a < b then b else a) := by
    by_cases e : a < b
    · rw [if_pos e, if_pos ((nI_ltI ha hb).mpr e)]
    · rw [if_neg e, if_neg (fun q => e ((nI_ltI ha hb).mp q))]
  rw [e1, e2]
  have e3 : (if b < a then b else a) < 2 ^ 31 := by split <;> omega
  have e4 : (if a < b then b else a) < 2 ^ 31 := by split <;> omega
  have hh := x_find (F := fun n k => f_X1_cutBetween_16 P n (nI (if b < a then b else a)) (nI (if a < b then b else a)) (nI k) S) (N := T 1) (p := fun c => g_adj T c a b) (yes := fun c => some (nI c, S)) (no := some (-nI 9, S)) ?_ ?_ (d := T 1) (a := 0) (n := 1000) (by omega) (by omega)
  · refine Eq.trans hh ?_
    unfold g_cut x_f1
    split <;> rfl
  · intro n
    simp (disch := omega) only [f_X1_cutBetween_16, x_l0, x_l1, x_l2, x_l3, x_l4, x_l5, x_l6, x_l7, x_l8, x_l9, x_l10, x_l12, x_l13, x_l14, x_l16, x_l18, x_l20, x_l22, x_l32, x_l36, x_l48, x_l50, x_l54, x_l57, x_l59, x_l74, x_l81, x_l99, x_l104, x_l107, x_l110, x_l112, x_l115, x_l117, x_l162, x_l255, x_l512, x_l99999, x_l1000000, nI_leI, nI_ltI, nI_eq, nI_add, pk_mul, nI_clamp, x_in, x_bit, x_b0, x_b1, x_b0n, fa_or, fa_and, fb_xorI, x_an, Option.bind_some, b_has8, b_has9, ↓reduceIte, not_true_eq_false, not_false_eq_true, h.1.2.1, if_pos, if_neg]
  · intro n k hk
    have hc := wT_c w hk
    rw [g_adj_mm w hk]
    simp (disch := omega) only [f_X1_cutBetween_16, x_l0, x_l1, x_l2, x_l3, x_l4, x_l5, x_l6, x_l7, x_l8, x_l9, x_l10, x_l12, x_l13, x_l14, x_l16, x_l18, x_l20, x_l22, x_l32, x_l36, x_l48, x_l50, x_l54, x_l57, x_l59, x_l74, x_l81, x_l99, x_l104, x_l107, x_l110, x_l112, x_l115, x_l117, x_l162, x_l255, x_l512, x_l99999, x_l1000000, nI_leI, nI_ltI, nI_eq, nI_add, pk_mul, nI_clamp, x_in, x_bit, x_b0, x_b1, x_b0n, fa_or, fa_and, fb_xorI, x_an, Option.bind_some, b_has8, b_has9, ↓reduceIte, not_true_eq_false, not_false_eq_true, h.1.2.1, (h.2.2.1 k hk).1, (h.2.2.1 k hk).2, if_pos, if_neg]
    by_cases q1 : T (22 + k) = if b < a then b else a
    · by_cases q2 : T (36 + k) = if a < b then b else a
      · simp [q1, q2]
      · simp [q1, q2]
    · simp [q1]
theorem s1_next (w : wT T) (h : cP0 T P S) {p i : Nat} (hp : p < T 2) (hi : i < T (50 + p)) : f_X1_nextInRing P (nI p) (nI i) S = some (nI ((i + 1) % T (50 + p)), S) := by
  have h0 := wT_b w
  have h1 := wT_sz w hp
  simp (disch := omega) only [f_X1_nextInRing, x_l0, x_l1, x_l2, x_l3, x_l4, x_l5, x_l6, x_l7, x_l8, x_l9, x_l10, x_l12, x_l13, x_l14, x_l16, x_l18, x_l20, x_l22, x_l32, x_l36, x_l48, x_l50, x_l54, x_l57, x_l59, x_l74, x_l81, x_l99, x_l104, x_l107, x_l110, x_l112, x_l115, x_l117, x_l162, x_l255, x_l512, x_l99999, x_l1000000, nI_leI, nI_ltI, nI_eq, nI_add, pk_mul, nI_clamp, x_in, x_bit, x_b0, x_b1, x_b0n, fa_or, fa_and, fb_xorI, x_an, Option.bind_some, b_has8, b_has9, ↓reduceIte, not_true_eq_false, not_false_eq_true, (h.2.2.2 p hp).1, if_pos, if_neg]
  by_cases e : T (50 + p) ≤ i + 1
  · have e2 : i + 1 = T (50 + p) := by omega
    rw [if_pos e, e2, Nat.mod_self]
  · rw [if_neg e, Nat.mod_eq_of_lt (by omega)]
theorem s1_rc (w : wT T) (h : cP0 T P S) {p : Nat} (hp : p < T 2) : f_X1_cutsOfRing P (nI p) S = some (nI (g_rc T p), S) := by
  have h0 := wT_b w
  have h1 := wT_sz w hp
  unfold f_X1_cutsOfRing
  refine x_for (F := fun n k => f_X1_cutsOfRing_4 P n (nI p) (nI (x_or (fun e => 2 ^ g_cut T (g_rg T p e) (g_rg T p (e + 1))) k)) (nI k) S) (N := T (50 + p)) ?_ ?_ (d := T (50 + p)) (a := 0) (n := 1000) (by omega) (by omega)
  · intro n
    simp (disch := omega) only [f_X1_cutsOfRing_4, x_l0, x_l1, x_l2, x_l3, x_l4, x_l5, x_l6, x_l7, x_l8, x_l9, x_l10, x_l12, x_l13, x_l14, x_l16, x_l18, x_l20, x_l22, x_l32, x_l36, x_l48, x_l50, x_l54, x_l57, x_l59, x_l74, x_l81, x_l99, x_l104, x_l107, x_l110, x_l112, x_l115, x_l117, x_l162, x_l255, x_l512, x_l99999, x_l1000000, nI_leI, nI_ltI, nI_eq, nI_add, pk_mul, nI_clamp, x_in, x_bit, x_b0, x_b1, x_b0n, fa_or, fa_and, fb_xorI, x_an, Option.bind_some, b_has8, b_has9, ↓reduceIte, not_true_eq_false, not_false_eq_true, (h.2.2.2 p hp).1, if_pos, if_neg]
    rfl
  · intro n k hk
    have hm : (k + 1) % T (50 + p) < T (50 + p) := Nat.mod_lt _ (by omega)
    have r1 := (h.2.2.2 p hp).2 k hk
    have r2 := (h.2.2.2 p hp).2 _ hm
    have b1 := wT_rg w hp hk
    have b2 := wT_rg w hp hm
    have hc : g_cut T (T (54 + 5 * p + k)) (T (54 + 5 * p + (k + 1) % T (50 + p))) < T 1 := by
      have := wT_rc w hp hk
      rw [g_rg_in hk] at this
      exact this
    have n9 : ¬ nI (g_cut T (T (54 + 5 * p + k)) (T (54 + 5 * p + (k + 1) % T (50 + p)))) = -nI 9 := by
      rw [fa_eq, nI_toInt (by omega)]
      have : (-nI 9 : Int32).toInt = -9 := by decide
      omega
    simp (disch := omega) only [f_X1_cutsOfRing_4, x_l0, x_l1, x_l2, x_l3, x_l4, x_l5, x_l6, x_l7, x_l8, x_l9, x_l10, x_l12, x_l13, x_l14, x_l16, x_l18, x_l20, x_l22, x_l32, x_l36, x_l48, x_l50, x_l54, x_l57, x_l59, x_l74, x_l81, x_l99, x_l104, x_l107, x_l110, x_l112, x_l115, x_l117, x_l162, x_l255, x_l512, x_l99999, x_l1000000, nI_leI, nI_ltI, nI_eq, nI_add, pk_mul, nI_clamp, x_in, x_bit, x_b0, x_b1, x_b0n, fa_or, fa_and, fb_xorI, x_an, Option.bind_some, b_has8, b_has9, ↓reduceIte, not_true_eq_false, not_false_eq_true, (h.2.2.2 p hp).1, s1_next w h hp hk, r1, r2, s1_cutB w h, n9, if_pos, if_neg]
    simp only [x_or, g_rg_in hk]
    rfl
end CP0
