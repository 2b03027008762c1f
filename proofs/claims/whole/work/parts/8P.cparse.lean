/-! ===== the class's reading ===== -/
def cD (B : Nat → Nat) (M Q : Nat) (S : zS) : Prop := (S.1 Q 0 = nI (B 0) ∧ S.1 Q 4 = nI (B 1) ∧ S.1 Q 7 = nI (B 2) ∧ S.1 Q 12 = nI (B 3) ∧ S.1 Q 13 = nI M) ∧ (∀ k, k < B 0 → S.1 (Q + 1) k = nI (B (4 + k)) ∧ S.1 (Q + 2) k = nI (B (13 + k))) ∧ (∀ k, k < 9 → S.1 (Q + 3) k = nI (g_M B 16383 k)) ∧ (∀ p, p < B 2 → S.1 (Q + 6) p = nI (B (50 + p)) ∧ ∀ i, i < B (50 + p) → S.1 (Q + 8 + p) i = nI (B (54 + 5 * p + i)))
def cA (A : gA) (Q : Nat) (S : zS) : Prop := cD A.B A.M Q S ∧ (A.I = 112 → ∀ i, i < A.N → S.1 (Q + 8 + A.B 2) i = nI (A.B (54 + 5 * A.B 2 + i))) ∧ S.1 31 4 = nI A.I ∧ (A.I ≠ 0 → S.1 31 5 = nI A.N) ∧ (A.I ≠ 0 → 0 < A.N → S.1 31 6 = nI A.F ∧ S.1 31 7 = nI A.L) ∧ S.1 31 8 = nI A.H
def wP (Q : Nat) (q j : Nat) : Prop := (q = 31 ∧ 4 ≤ j) ∨ (Q ≤ q ∧ q ≤ Q + 13)
theorem s1_hT {P k n : Nat} {S : zS} (hn : n ≤ 9) (h : S.1 P 0 = nI n) (hk : k < n) : f_X1_hasCorner P (nI k) S = some (nI 1, S) := by
  simp (disch := omega) only [f_X1_hasCorner, x_l0, x_l1, x_l2, x_l3, x_l4, x_l5, x_l6, x_l7, x_l8, x_l9, x_l10, x_l12, x_l13, x_l14, x_l16, x_l18, x_l20, x_l22, x_l32, x_l36, x_l48, x_l50, x_l54, x_l57, x_l59, x_l74, x_l81, x_l99, x_l104, x_l107, x_l110, x_l112, x_l115, x_l117, x_l162, x_l255, x_l512, x_l99999, x_l1000000, nI_leI, nI_ltI, nI_eq, nI_add, pk_mul, nI_clamp, x_in, x_bit, x_b0, x_b1, x_b0n, fa_or, fa_and, fb_xorI, x_an, Option.bind_some, b_has8, b_has9, ↓reduceIte, not_true_eq_false, not_false_eq_true, h, if_pos, if_neg]
theorem s1_hF {P k n : Nat} {S : zS} (hn : n ≤ 9) (h : S.1 P 0 = nI n) (hk : ¬ k < n) (hk2 : k < 2 ^ 31) : f_X1_hasCorner P (nI k) S = some (nI 0, S) := by
  simp (disch := omega) only [f_X1_hasCorner, x_l0, x_l1, x_l2, x_l3, x_l4, x_l5, x_l6, x_l7, x_l8, x_l9, x_l10, x_l12, x_l13, x_l14, x_l16, x_l18, x_l20, x_l22, x_l32, x_l36, x_l48, x_l50, x_l54, x_l57, x_l59, x_l74, x_l81, x_l99, x_l104, x_l107, x_l110, x_l112, x_l115, x_l117, x_l162, x_l255, x_l512, x_l99999, x_l1000000, nI_leI, nI_ltI, nI_eq, nI_add, pk_mul, nI_clamp, x_in, x_bit, x_b0, x_b1, x_b0n, fa_or, fa_and, fb_xorI, x_an, Option.bind_some, b_has8, b_has9, ↓reduceIte, not_true_eq_false, not_false_eq_true, h, if_pos, if_neg]
section CPR
variable {B : Nat → Nat} {u v Q : Nat} {S : zS}
theorem g_Mj (hB : B 1 ≤ 14) (k w : Nat) : (g_M B 16383 k).testBit w = (decide (w < 9) && decide (g_cut B k w < B 1)) := by
  unfold g_M g_rw
  rw [x_mk_bit]
  congr 1
  rw [Bool.eq_iff_iff, g_ec_iff, decide_eq_true_eq, g_cut_iff]
  constructor
  · rintro ⟨d, h1, _, h2⟩; exact ⟨d, h1, h2⟩
  · rintro ⟨d, h1, h2⟩
    refine ⟨d, h1, ?_, h2⟩
    rw [show 16383 = 2 ^ 14 - 1 from rfl, Nat.testBit_two_pow_sub_one]
    simp
    omega
theorem g_Mj_l (k : Nat) : g_M B 16383 k < 2 ^ 9 := x_mk_lt _ _
theorem g_Mjb (hB : B 1 < 14) (hu : u < 9) (hv : v < 9) (k : Nat) : g_M (g_jb B u v) 16383 k = if k = u then (if k = v then g_M B 16383 k ||| 2 ^ v ||| 2 ^ u else g_M B 16383 k ||| 2 ^ v) else if k = v then g_M B 16383 k ||| 2 ^ u else g_M B 16383 k := by
  have key : ∀ w, (g_cut (g_jb B u v) k w < g_jb B u v 1) ↔ (g_cut B k w < B 1 ∨ (k = u ∧ w = v) ∨ (k = v ∧ w = u)) := fun w => by
    rw [g_cut_iff, g_cut_iff, g_jb_1]
    constructor
    · rintro ⟨c, hc, ha⟩
      rcases (g_jb_adj hB hc).mp ha with ⟨q1, q2⟩ | ⟨_, q⟩
      · exact Or.inl ⟨c, q1, q2⟩
      · exact Or.inr q
    · rintro (⟨c, hc, ha⟩ | q)
      · exact ⟨c, by omega, (g_jb_adj hB (by omega)).mpr (Or.inl ⟨hc, ha⟩)⟩
      · exact ⟨B 1, by omega, (g_jb_adj hB (by omega)).mpr (Or.inr ⟨rfl, q⟩)⟩
  apply Nat.eq_of_testBit_eq
  intro w
  rw [g_Mj (by rw [g_jb_1]; omega), Bool.eq_iff_iff, Bool.and_eq_true, decide_eq_true_eq, decide_eq_true_eq, key]
  have old := g_Mj (B := B) (by omega) k w
  have o1 : (g_M B 16383 k).testBit w = true ↔ w < 9 ∧ g_cut B k w < B 1 := by rw [old, Bool.and_eq_true, decide_eq_true_eq, decide_eq_true_eq]
  have tb : ∀ i, (2 ^ i).testBit w = true ↔ w = i := fun i => by rw [Nat.testBit_two_pow, decide_eq_true_eq]; exact ⟨fun q => q.symm, fun q => q.symm⟩
  by_cases c1 : k = u
  · rw [if_pos c1]
    by_cases c2 : k = v
    · rw [if_pos c2, Nat.testBit_or, Nat.testBit_or, Bool.or_eq_true, Bool.or_eq_true, o1, tb, tb]
      omega
    · rw [if_neg c2, Nat.testBit_or, Bool.or_eq_true, o1, tb]
      omega
  · rw [if_neg c1]
    by_cases c2 : k = v
    · rw [if_pos c2, Nat.testBit_or, Bool.or_eq_true, o1, tb]
      omega
    · rw [if_neg c2, o1]
      omega
def cJn (B : Nat → Nat) (Q : Nat) (S : zS) : Prop := S.1 Q 4 = nI (B 1) ∧ ∀ k, k < 9 → S.1 (Q + 3) k = nI (g_M B 16383 k)
def wJn (Q : Nat) (q j : Nat) : Prop := q = Q + 3 ∨ (q = Q ∧ j = 4)
theorem s1_join (h0 : S.1 Q 0 = nI (B 0)) (h9 : B 0 ≤ 9) (h14 : B 1 ≤ 14) (hJ : cJn B Q S) (hu : u < B 0) (hv : v < B 0) (huv : u ≠ v) : (g_jc B u v = none → f_X1_join Q (nI u) (nI v) S = some (nI 0, S)) ∧ ∀ B', g_jc B u v = some B' → ∃ S', f_X1_join Q (nI u) (nI v) S = some (nI 1, S') ∧ x_fr (wJn Q) S S' ∧ cJn B' Q S' := by
  have hT := s1_hT h9 h0 hu
  have hT2 := s1_hT h9 h0 hv
  have ju := hJ.2 u (by omega)
  have jv := hJ.2 v (by omega)
  have l := g_Mj_l (B := B) u
  have base : ∀ γ, (f_X1_join Q (nI u) (nI v) S = γ ↔ (if (g_M B 16383 u).testBit v = true then some (nI 1, S) else (if nI (B 1) < (14 : Int32) then some (nI 1, z_w (z_w (z_w S (Q + 3) u (nI (g_M B 16383 u ||| 2 ^ v))) (Q + 3) v (nI (g_M B 16383 v ||| 2 ^ u))) Q 4 (nI (B 1 + 1))) else some (nI 0, S))) = γ) := fun γ => by
    have e : f_X1_join Q (nI u) (nI v) S = (if (g_M B 16383 u).testBit v = true then some (nI 1, S) else (if nI (B 1) < (14 : Int32) then some (nI 1, z_w (z_w (z_w S (Q + 3) u (nI (g_M B 16383 u ||| 2 ^ v))) (Q + 3) v (nI (g_M B 16383 v ||| 2 ^ u))) Q 4 (nI (B 1 + 1))) else some (nI 0, S))) := by
      rw [f_X1_join, hT, Option.bind_some, if_neg (c := nI 1 = 0) (by decide)]
      dsimp only
      rw [hT2, Option.bind_some, if_neg (c := nI 1 = 0) (by decide), if_pos ((x_in (by omega)).mpr (by omega)), nI_clamp (by omega), nI_clamp (by omega)]
      dsimp only
      rw [ju, b_has8 (by omega) (by omega), Option.bind_some]
      by_cases c : (g_M B 16383 u).testBit v = true
      · rw [if_pos c, if_neg (c := nI 1 = 0) (by decide)]
        dsimp only
        rw [if_pos c]
        rfl
      · rw [if_neg c, if_pos (c := nI 0 = 0) nI_0]
        dsimp only
        rw [if_neg c, hJ.1]
        by_cases d : nI (B 1) < (14 : Int32)
        · rw [if_pos d, if_pos ((x_in (by omega)).mpr (by omega)), if_pos ((x_in (by omega)).mpr (by omega)), if_pos ((x_in (by omega)).mpr (by omega)), if_pos ((x_in (by omega)).mpr (by omega)), if_pos d, ju, show (1 : Int32) = nI 1 from rfl, x_bit (by omega), x_bit (by omega), fa_or, b_wj (by omega), jv, fa_or, b_wk (by omega), b_wk (by omega), hJ.1, nI_add]
        · rw [if_neg d, if_neg d]
          rfl
    rw [e]
  have bit : (g_M B 16383 u).testBit v = true ↔ g_cut B u v < B 1 := by
    rw [g_Mj h14, Bool.and_eq_true, decide_eq_true_eq, decide_eq_true_eq]
    exact ⟨fun q => q.2, fun q => ⟨by omega, q⟩⟩
  rcases g_jc_cases (B := B) u v with ⟨c, e⟩ | ⟨c, d, e⟩ | ⟨c, d, e⟩
  · refine ⟨fun q => (by rw [e] at q; cases q), fun B' q => ?_⟩
    rw [e] at q
    cases q
    exact ⟨S, (base _).mpr (by rw [if_pos (bit.mpr c)]), x_fr_rf, hJ⟩
  · refine ⟨fun q => (by rw [e] at q; cases q), fun B' q => ?_⟩
    rw [e] at q
    cases q
    refine ⟨_, (base _).mpr (by rw [if_neg (fun z => c (bit.mp z)), if_pos (show nI (B 1) < (14 : Int32) from nI_lt (b := 14) d (by omega))]), x_fr_w (x_fr_w (x_fr_w x_fr_rf (Or.inl rfl)) (Or.inl rfl)) (Or.inr ⟨rfl, rfl⟩), ?_, fun k hk => ?_⟩
    · rw [b_wh, g_jb_1]
    · rw [b_wk (by omega), g_Mjb d (by omega) (by omega)]
      by_cases k1 : k = v
      · rw [k1, b_wh, if_neg (fun q => huv q.symm), if_pos rfl]
      · rw [b_wj k1]
        by_cases k2 : k = u
        · rw [k2, b_wh, if_pos rfl, if_neg huv]
        · rw [b_wj k2, if_neg k2, if_neg k1]; exact hJ.2 k hk
  · refine ⟨fun _ => (base _).mpr ?_, fun B' q => by rw [e] at q; cases q⟩
    rw [if_neg (fun z => c (bit.mp z)), if_neg (show ¬ nI (B 1) < (14 : Int32) from nI_nlt (b := 14) (by omega) (by omega))]
/-- the picture's other parts over a joining -/
theorem cD_join {B' : Nat → Nat} {M : Nat} {S' : zS} (h : cD B M Q S) (hf : x_fr (wJn Q) S S') (hJ : cJn B' Q S') (he : ∀ j, j = 0 ∨ j = 2 ∨ j = 3 ∨ (4 ≤ j ∧ j < 22) ∨ 50 ≤ j → B' j = B j) (h9 : B 0 ≤ 9) : cD B' M Q S' := by
  obtain ⟨h1, h2, h3, h4⟩ := h
  refine ⟨⟨?_, hJ.1, ?_, ?_, ?_⟩, fun k hk => ?_, hJ.2, fun p hp => ?_⟩
  · rw [hf.2 _ _ (by unfold wJn; omega), he 0 (by omega)]; exact h1.1
  · rw [hf.2 _ _ (by unfold wJn; omega), he 2 (by omega)]; exact h1.2.2.1
  · rw [hf.2 _ _ (by unfold wJn; omega), he 3 (by omega)]; exact h1.2.2.2.1
  · rw [hf.2 _ _ (by unfold wJn; omega)]; exact h1.2.2.2.2
  · rw [he 0 (by omega)] at hk
    rw [hf.2 _ _ (by unfold wJn; omega), hf.2 _ _ (by unfold wJn; omega), he _ (by omega), he _ (by omega)]; exact h2 k hk
  · rw [he 2 (by omega)] at hp
    have := h4 p hp
    refine ⟨by rw [hf.2 _ _ (by unfold wJn; omega), he _ (by omega)]; exact this.1, fun i hi => ?_⟩
    rw [he _ (by omega)] at hi
    rw [hf.2 _ _ (by unfold wJn; omega), he _ (by omega)]; exact this.2 i hi
theorem g_M_cong {B' : Nat → Nat} (h1 : B' 1 = B 1) (h : ∀ c, c < B 1 → B' (22 + c) = B (22 + c) ∧ B' (36 + c) = B (36 + c)) (h14 : B 1 ≤ 14) (k : Nat) : g_M B' 16383 k = g_M B 16383 k := by
  apply Nat.eq_of_testBit_eq
  intro w
  rw [g_Mj (by omega), g_Mj h14]
  congr 1
  apply decide_eq_decide.mpr
  rw [g_cut_iff, g_cut_iff, h1]
  constructor
  · rintro ⟨c, hc, ha⟩
    refine ⟨c, hc, ?_⟩
    rw [g_adj_iff] at ha ⊢
    rw [(h c hc).1, (h c hc).2] at ha
    exact ha
  · rintro ⟨c, hc, ha⟩
    refine ⟨c, hc, ?_⟩
    rw [g_adj_iff] at ha ⊢
    rw [(h c hc).1, (h c hc).2]
    exact ha
end CPR
section CTA
variable {A : gA} {k v pn Q : Nat} {S : zS}
/-- the number is in -/
def cW3 (A : gA) (v : Nat) (S : zS) : zS := z_w (if A.N = 0 then z_w (z_w S 31 7 (nI v)) 31 6 (nI v) else z_w S 31 7 (nI v)) 31 5 (nI (A.N + 1))
theorem s3_heat (w : uA A) (h : cA A Q S) (hI : A.I = 104) (hv : S.1 31 3 = nI v) (hvl : v < 2 ^ 31) (hQ : Q = 3 ∨ Q = 17) : f_X3_takesHeat Q S = some (if A.N = 0 ∧ v ≤ 20 then (nI 1, z_w (z_w S Q 12 (nI v)) 31 8 (nI 1)) else (nI 0, S)) := by
  have e5 := h.2.2.2.1 (by omega)
  have n5 := w.2.2.2.1 (by omega)
  rw [f_X3_takesHeat, e5, hv]
  by_cases z : A.N = 0
  · rw [if_neg (show ¬ (0 : Int32) < nI A.N from nI_nlt (a := 0) (by omega) (by omega))]
    by_cases z2 : v ≤ 20
    · rw [if_pos (show nI v ≤ 20 from nI_le (b := 20) z2 (by omega)), if_pos ⟨z, z2⟩]
      rfl
    · rw [if_neg (show ¬ nI v ≤ 20 from nI_ge (a := 20) (by omega) (by omega)), if_neg (fun q => z2 q.2)]
      rfl
  · rw [if_pos (show (0 : Int32) < nI A.N from nI_lt (a := 0) (by omega) (by omega)), if_neg (fun q => z q.1)]
    rfl
theorem s1_addC {B : Nat → Nat} {x y : Nat} (w : uB B) (h0 : S.1 Q 0 = nI (B 0)) (hxy : ∀ k, k < B 0 → S.1 (Q + 1) k = nI (B (4 + k)) ∧ S.1 (Q + 2) k = nI (B (13 + k))) (hx : x < 2 ^ 31) (hy : y < 2 ^ 31) : f_X1_addCorner Q (nI x) (nI y) S = some (if B 0 < 9 ∧ g_fre B x y = true then (nI 1, z_w (z_w (z_w S (Q + 1) (B 0) (nI x)) (Q + 2) (B 0) (nI y)) Q 0 (nI (B 0 + 1))) else (nI 0, S)) := by
  have wb := w.1
  rw [f_X1_addCorner, h0]
  by_cases c : B 0 < 9
  · rw [if_pos (show nI (B 0) < 9 from nI_lt (b := 9) c (by omega))]
    have hh := x_find (F := fun n k => f_X1_addCorner_13 Q n (nI x) (nI y) (nI k) S) (N := B 0) (p := fun k => decide (B (4 + k) = x) && decide (B (13 + k) = y)) (yes := fun _ => some (nI 0, S)) (no := some (nI 1, z_w (z_w (z_w S (Q + 1) (B 0) (nI x)) (Q + 2) (B 0) (nI y)) Q 0 (nI (B 0 + 1)))) ?_ ?_ (d := B 0) (a := 0) (n := 1000) (by omega) (by omega)
    · refine Eq.trans hh ?_
      show (if x_f1 (fun k => decide (B (4 + k) = x) && decide (B (13 + k) = y)) (B 0) < B 0 then some (nI 0, S) else some (nI 1, z_w (z_w (z_w S (Q + 1) (B 0) (nI x)) (Q + 2) (B 0) (nI y)) Q 0 (nI (B 0 + 1)))) = _
      unfold g_fre
      by_cases z : x_f1 (fun k => decide (B (4 + k) = x) && decide (B (13 + k) = y)) (B 0) < B 0
      · rw [if_pos z, decide_eq_true z, if_neg (fun q => by cases q.2)]
      · rw [if_neg z, decide_eq_false z, if_pos ⟨c, rfl⟩]
    · intro n
      rw [f_X1_addCorner_13, h0, if_pos (nI_le (Nat.le_refl _) (by omega)), if_pos ((x_in (by omega)).mpr c), nI_clamp (by omega), b_wk (by omega), h0, if_pos ((x_in (by omega)).mpr c), nI_clamp (by omega), b_wk (by omega), b_wk (by omega), h0, show (1 : Int32) = nI 1 from rfl, nI_add]
    · intro n k hk
      have l := w.2.1 k hk
      rw [f_X1_addCorner_13, h0, if_neg (nI_ge hk (by omega)), if_pos ((x_in (by omega)).mpr (by omega)), nI_clamp (by omega), (hxy k hk).1, (hxy k hk).2, if_pos ((x_in (by omega)).mpr (by omega))]
      by_cases z1 : B (4 + k) = x
      · rw [if_pos (by rw [z1]), decide_eq_true z1, Bool.true_and]
        by_cases z2 : B (13 + k) = y
        · rw [if_pos (by rw [z2]), decide_eq_true z2, if_pos rfl]
          rfl
        · rw [if_neg (fun q => z2 ((nI_eq (by omega) (by omega)).mp q)), decide_eq_false z2, if_neg (by decide), show (1 : Int32) = nI 1 from rfl, nI_add]
      · rw [if_neg (fun q => z1 ((nI_eq (by omega) (by omega)).mp q)), decide_eq_false z1, Bool.false_and, if_neg (by decide), show (1 : Int32) = nI 1 from rfl, nI_add]
  · rw [if_neg (show ¬ nI (B 0) < 9 from nI_nlt (b := 9) (by omega) (by omega)), if_neg (fun q => c q.1)]
    rfl
/-- what a number does to the plate that is told -/
theorem s3_num2 (w : uA A) (h : cA A Q S) (hI : A.I ≠ 0) (hv : S.1 31 3 = nI v) (hvl : v < 2 ^ 31) (hQ : Q = 3 ∨ Q = 17) : (g_nb A v = none → ∃ S', f_X3_takesNumber Q S = some (nI 0, S') ∧ x_fr (wP Q) S S') ∧ ∀ q, g_nb A v = some q → ∃ S', f_X3_takesNumber Q S = some (nI 1, S') ∧ x_fr (fun a j => (a = 31 ∧ j = 8) ∨ (Q ≤ a ∧ a ≤ Q + 13)) S S' ∧ cD q.1 A.M Q S' ∧ (A.I = 112 → ∀ i, i < A.N + 1 → S'.1 (Q + 8 + q.1 2) i = nI (q.1 (54 + 5 * q.1 2 + i))) ∧ S'.1 31 8 = nI q.2 := by
  obtain ⟨w1, w2, w3, w4, w5, w6, w7⟩ := id w
  obtain ⟨h1, h2, h3, h4, h5, h6⟩ := id h
  have wb := w1.1
  have e5 := h4 hI
  have n5 := w4 hI
  have fin : ∀ (x : Int32) (S' : zS), x = nI 0 ∨ x = nI 1 → (if x = 0 ∨ x = 1 then some (x, S') else none) = some (x, S') := fun x S' hx => if_pos hx
  unfold g_nb
  by_cases i1 : A.I = 104
  · rw [if_pos i1, f_X3_takesNumber, h3, i1, if_pos (show nI 104 = 104 from rfl), s3_heat w h i1 hv hvl hQ, Option.bind_some]
    by_cases z : A.N = 0 ∧ v ≤ 20
    · rw [if_pos z, if_pos z]
      refine ⟨fun q => (by cases q), fun q hq => ?_⟩
      cases hq
      have fr : x_fr (fun a j => (a = 31 ∧ j = 8) ∨ (a = Q ∧ j = 12)) S (z_w (z_w S Q 12 (nI v)) 31 8 (nI 1)) := x_fr_w (x_fr_w x_fr_rf (Or.inr ⟨rfl, rfl⟩)) (Or.inl ⟨rfl, rfl⟩)
      have e : ∀ j, j ≠ 3 → x_up A.B 3 v j = A.B j := fun j hj => x_up_j hj
      refine ⟨_, fin _ _ (Or.inr rfl), x_fr_sub fr (fun q j hq => by omega), (show cD (x_up A.B 3 v) A.M Q (z_w (z_w S Q 12 (nI v)) 31 8 (nI 1)) from ⟨⟨?_, ?_, ?_, ?_, ?_⟩, fun k hk => ?_, fun k hk => ?_, fun p hp => ?_⟩), fun q => absurd q (by decide), b_wh⟩
      · rw [fr.2 _ _ (by omega), e _ (by omega)]; exact h1.1.1
      · rw [fr.2 _ _ (by omega), e _ (by omega)]; exact h1.1.2.1
      · rw [fr.2 _ _ (by omega), e _ (by omega)]; exact h1.1.2.2.1
      · rw [b_wk (by omega), b_wh, x_up_h]
      · rw [fr.2 _ _ (by omega)]; exact h1.1.2.2.2.2
      · rw [e _ (by omega)] at hk
        rw [fr.2 _ _ (by omega), fr.2 _ _ (by omega), e _ (by omega), e _ (by omega)]; exact h1.2.1 k hk
      · rw [fr.2 _ _ (by omega), g_M_cong (e _ (by omega)) (fun c hc => ⟨e _ (by omega), e _ (by omega)⟩) (by omega)]; exact h1.2.2.1 k hk
      · rw [e _ (by omega)] at hp
        have := h1.2.2.2 p hp
        refine ⟨by rw [fr.2 _ _ (by omega), e _ (by omega)]; exact this.1, fun i hi => ?_⟩
        rw [e _ (by omega)] at hi
        rw [fr.2 _ _ (by omega), e _ (by omega)]; exact this.2 i hi
    · rw [if_neg z, if_neg z]
      exact ⟨fun _ => ⟨S, fin _ _ (Or.inl rfl), x_fr_rf⟩, fun q hq => by cases hq⟩
  · rw [if_neg i1]
    by_cases i2 : A.I = 107
    · rw [if_pos i2, f_X3_takesNumber, h3, i2, if_neg (show ¬ nI 107 = 104 from by decide), if_pos (show nI 107 = 107 from rfl), f_X3_takesPlace, e5, hv]
      by_cases z : A.N = 0
      · rw [z, if_neg (show ¬ (1 : Int32) < nI 0 from by decide), if_pos rfl]
        by_cases z2 : v ≤ 20
        · rw [if_pos (show nI v ≤ 20 from nI_le (b := 20) z2 (by omega)), if_pos (c := nI 0 = 0) nI_0, if_pos z2, Option.bind_some]
          refine ⟨fun q => (by cases q), fun q hq => ?_⟩
          cases hq
          exact ⟨S, fin (nI 1) S (Or.inr rfl), x_fr_rf, h1, fun q => absurd q (by decide), h6⟩
        · rw [if_neg (show ¬ nI v ≤ 20 from nI_ge (a := 20) (by omega) (by omega)), if_neg z2, Option.bind_some]
          exact ⟨fun _ => ⟨S, fin (nI 0) S (Or.inl rfl), x_fr_rf⟩, fun q hq => by cases hq⟩
      · rw [if_neg z]
        by_cases z1 : A.N = 1
        · rw [z1, if_neg (show ¬ (1 : Int32) < nI 1 from by decide)]
          by_cases z2 : v ≤ 20
          · have f6 := (h5 hI (by omega)).1
            have fl := w5 i2 (by omega)
            rw [if_pos (show nI v ≤ 20 from nI_le (b := 20) z2 (by omega)), if_neg (c := nI 1 = 0) (by decide), f6, s1_addC w1 h1.1.1 h1.2.1 (by omega) (by omega), Option.bind_some]
            by_cases z3 : A.B 0 < 9 ∧ g_fre A.B A.F v = true
            · rw [if_pos z3, if_pos ⟨rfl, z2, z3⟩, if_neg (c := nI 1 = 0) (by decide), Option.bind_some]
              refine ⟨fun q => (by cases q), fun q hq => ?_⟩
              cases hq
              have fr : x_fr (fun a j => (a = Q + 1 ∧ j = A.B 0) ∨ (a = Q + 2 ∧ j = A.B 0) ∨ (a = Q ∧ j = 0)) S (z_w (z_w (z_w S (Q + 1) (A.B 0) (nI A.F)) (Q + 2) (A.B 0) (nI v)) Q 0 (nI (A.B 0 + 1))) := x_fr_w (x_fr_w (x_fr_w x_fr_rf (Or.inl ⟨rfl, rfl⟩)) (Or.inr (Or.inl ⟨rfl, rfl⟩))) (Or.inr (Or.inr ⟨rfl, rfl⟩))
              have e : ∀ j, j ≠ 0 → j ≠ 4 + A.B 0 → j ≠ 13 + A.B 0 → g_cb A.B A.F v j = A.B j := fun j h1 h2 h3 => by unfold g_cb; rw [x_up_j h1, x_up_j h3, x_up_j h2]
              have e0 : g_cb A.B A.F v 0 = A.B 0 + 1 := x_up_h _ _ _
              have ex : g_cb A.B A.F v (4 + A.B 0) = A.F := by unfold g_cb; rw [x_up_j (by omega), x_up_j (by omega), x_up_h]
              have ey : g_cb A.B A.F v (13 + A.B 0) = v := by unfold g_cb; rw [x_up_j (by omega), x_up_h]
              refine ⟨_, fin _ _ (Or.inr rfl), x_fr_sub fr (fun q j hq => by omega), (show cD (g_cb A.B A.F v) A.M Q (z_w (z_w (z_w S (Q + 1) (A.B 0) (nI A.F)) (Q + 2) (A.B 0) (nI v)) Q 0 (nI (A.B 0 + 1))) from ⟨⟨?_, ?_, ?_, ?_, ?_⟩, fun k hk => ?_, fun k hk => ?_, fun p hp => ?_⟩), fun q => absurd q (by decide), ?_⟩
              · rw [b_wh, e0]
              · rw [fr.2 _ _ (by omega), e _ (by omega) (by omega) (by omega)]; exact h1.1.2.1
              · rw [fr.2 _ _ (by omega), e _ (by omega) (by omega) (by omega)]; exact h1.1.2.2.1
              · rw [fr.2 _ _ (by omega), e _ (by omega) (by omega) (by omega)]; exact h1.1.2.2.2.1
              · rw [fr.2 _ _ (by omega)]; exact h1.1.2.2.2.2
              · rw [e0] at hk
                by_cases y : k = A.B 0
                · rw [y, ex, ey]
                  refine ⟨?_, ?_⟩
                  · rw [b_wk (by omega), b_wk (by omega), b_wh]
                  · rw [b_wk (by omega), b_wh]
                · rw [fr.2 _ _ (by omega), fr.2 _ _ (by omega), e _ (by omega) (by omega) (by omega), e _ (by omega) (by omega) (by omega)]; exact h1.2.1 k (by omega)
              · rw [fr.2 _ _ (by omega), g_M_cong (e _ (by omega) (by omega) (by omega)) (fun c hc => ⟨e _ (by omega) (by omega) (by omega), e _ (by omega) (by omega) (by omega)⟩) (by omega)]; exact h1.2.2.1 k hk
              · rw [e _ (by omega) (by omega) (by omega)] at hp
                have := h1.2.2.2 p hp
                refine ⟨by rw [fr.2 _ _ (by omega), e _ (by omega) (by omega) (by omega)]; exact this.1, fun i hi => ?_⟩
                rw [e _ (by omega) (by omega) (by omega)] at hi
                rw [fr.2 _ _ (by omega), e _ (by omega) (by omega) (by omega)]; exact this.2 i hi
              · rw [fr.2 _ _ (by omega)]; exact h6
            · rw [if_neg z3, if_neg (fun q => z3 q.2.2), if_pos (c := nI 0 = 0) nI_0, Option.bind_some]
              exact ⟨fun _ => ⟨S, fin (nI 0) S (Or.inl rfl), x_fr_rf⟩, fun q hq => by cases hq⟩
          · rw [if_neg (show ¬ nI v ≤ 20 from nI_ge (a := 20) (by omega) (by omega)), if_neg (fun q => z2 q.2.1), Option.bind_some]
            exact ⟨fun _ => ⟨S, fin (nI 0) S (Or.inl rfl), x_fr_rf⟩, fun q hq => by cases hq⟩
        · rw [if_pos (show (1 : Int32) < nI A.N from nI_lt (a := 1) (by omega) (by omega)), if_neg (fun q => z1 q.1), Option.bind_some]
          exact ⟨fun _ => ⟨S, fin (nI 0) S (Or.inl rfl), x_fr_rf⟩, fun q hq => by cases hq⟩
    · rw [if_neg i2]
      by_cases i3 : A.I = 112
      · obtain ⟨p1, p2, p3, p4, p5⟩ := w7 i3
        have ring := h2 i3
        rw [if_pos i3, f_X3_takesNumber, h3, i3, if_neg (show ¬ nI 112 = 104 from by decide), if_neg (show ¬ nI 112 = 107 from by decide), if_pos (show nI 112 = 112 from rfl), f_X3_takesRingCorner, h1.1.2.2.1, e5, hv, if_neg (show ¬ (4 : Int32) ≤ nI (A.B 2) from nI_ge (b := 4) (by omega) (by omega))]
        by_cases z : A.N < 5
        · rw [if_neg (show ¬ (5 : Int32) ≤ nI A.N from nI_ge (b := 5) (by omega) (by omega))]
          by_cases z2 : v < A.B 0
          · rw [s1_hT wb.1 h1.1.1 z2, Option.bind_some, if_neg (c := nI 1 = 0) (by decide)]
            dsimp only
            have hh := x_find (F := fun n k => f_X3_takesRingCorner_33 Q n (nI (A.B 2)) (nI k) S) (N := A.N) (p := fun i => decide (A.B (54 + 5 * A.B 2 + i) = v)) (yes := fun _ => some (nI 0, S)) (no := f_X3_takesRingCorner_33 Q 1 (nI (A.B 2)) (nI A.N) S) ?_ ?_ (d := A.N) (a := 0) (n := 1000) (by omega) (by omega)
            · have hh' : f_X3_takesRingCorner_33 Q 1000 (nI (A.B 2)) (nI 0) S = if x_f1 (fun i => decide (A.B (54 + 5 * A.B 2 + i) = v)) A.N < A.N then some (nI 0, S) else f_X3_takesRingCorner_33 Q 1 (nI (A.B 2)) (nI A.N) S := hh
              rw [show (0 : Int32) = nI 0 from rfl, hh']
              by_cases z3 : g_new A.B A.N v = true
              · have nz : ¬ x_f1 (fun i => decide (A.B (54 + 5 * A.B 2 + i) = v)) A.N < A.N := by
                  unfold g_new at z3
                  simpa using z3
                rw [if_neg nz, if_pos ⟨p1, z, z2, z3⟩, f_X3_takesRingCorner_33, e5, if_pos (nI_le (Nat.le_refl _) (by omega)), if_pos ((x_in (by omega)).mpr (by omega)), if_pos ((x_in (by omega)).mpr z), nI_clamp (by omega), nI_clamp (by omega), b_wk (by omega), e5, hv]
                have fr : x_fr (fun a j => a = Q + 8 + A.B 2 ∧ j = A.N) S (z_w S (Q + 8 + A.B 2) A.N (nI v)) := x_fr_w x_fr_rf ⟨rfl, rfl⟩
                obtain ⟨ur, er⟩ := uB_rb w1 (v := v) p1 z
                have rn : g_rb A.B A.N v (54 + 5 * A.B 2 + A.N) = v := x_up_h _ _ _
                have e2 : g_rb A.B A.N v 2 = A.B 2 := er _ (by omega)
                have e0 : g_rb A.B A.N v 0 = A.B 0 := er _ (by omega)
                have dd : cD (g_rb A.B A.N v) A.M Q (z_w S (Q + 8 + A.B 2) A.N (nI v)) := by
                  refine ⟨⟨?_, ?_, ?_, ?_, ?_⟩, fun k hk => ?_, fun k hk => ?_, fun p hp => ?_⟩
                  · rw [fr.2 _ _ (by omega), er _ (by omega)]; exact h1.1.1
                  · rw [fr.2 _ _ (by omega), er _ (by omega)]; exact h1.1.2.1
                  · rw [fr.2 _ _ (by omega), er _ (by omega)]; exact h1.1.2.2.1
                  · rw [fr.2 _ _ (by omega), er _ (by omega)]; exact h1.1.2.2.2.1
                  · rw [fr.2 _ _ (by omega)]; exact h1.1.2.2.2.2
                  · rw [er _ (by omega)] at hk
                    rw [fr.2 _ _ (by omega), fr.2 _ _ (by omega), er _ (by omega), er _ (by omega)]; exact h1.2.1 k hk
                  · rw [fr.2 _ _ (by omega), g_M_cong (er _ (by omega)) (fun c hc => ⟨er _ (by omega), er _ (by omega)⟩) (by omega)]; exact h1.2.2.1 k hk
                  · rw [e2] at hp
                    have := h1.2.2.2 p hp
                    have s5 := w1.2.2.2.2.1 p hp
                    refine ⟨by rw [fr.2 _ _ (by omega), er _ (by omega)]; exact this.1, fun i hi => ?_⟩
                    rw [er _ (by omega)] at hi
                    rw [fr.2 _ _ (by omega), er _ (by omega)]; exact this.2 i hi
                have rr : ∀ i, i < A.N + 1 → (z_w S (Q + 8 + A.B 2) A.N (nI v)).1 (Q + 8 + A.B 2) i = nI (g_rb A.B A.N v (54 + 5 * A.B 2 + i)) := fun i hi => by
                  by_cases y : i = A.N
                  · rw [y, b_wh, rn]
                  · rw [b_wj y, er _ (by omega)]; exact ring i (by omega)
                have e8 : (z_w S (Q + 8 + A.B 2) A.N (nI v)).1 31 8 = nI A.H := by rw [fr.2 _ _ (by omega)]; exact h6
                have e7 : 0 < A.N → (z_w S (Q + 8 + A.B 2) A.N (nI v)).1 31 7 = nI A.L := fun q => by rw [fr.2 _ _ (by omega)]; exact (h5 hI q).2
                have e3 : (z_w S (Q + 8 + A.B 2) A.N (nI v)).1 31 3 = nI v := by rw [fr.2 _ _ (by omega)]; exact hv
                have frQ : x_fr (fun a j => (a = 31 ∧ j = 8) ∨ (Q ≤ a ∧ a ≤ Q + 13)) S (z_w S (Q + 8 + A.B 2) A.N (nI v)) := x_fr_sub fr (fun q j hq => by omega)
                generalize z_w S (Q + 8 + A.B 2) A.N (nI v) = S1 at *
                by_cases y : A.N = 0
                · rw [if_pos y, y, if_pos (c := nI 0 = 0) nI_0, Option.bind_some]
                  refine ⟨fun q => (by cases q), fun q hq => ?_⟩
                  cases hq
                  rw [y] at dd rr
                  exact ⟨S1, fin (nI 1) S1 (Or.inr rfl), frQ, dd, fun _ i hi => by
                    show S1.1 (Q + 8 + g_rb A.B 0 v 2) i = nI (g_rb A.B 0 v (54 + 5 * g_rb A.B 0 v 2 + i))
                    rw [y] at e2
                    rw [e2]; exact rr i hi, e8⟩
                · rw [if_neg y, if_neg (nI_ne0 (by omega) (by omega)), e7 (by omega), e3]
                  have jl : A.L < A.B 0 := by rw [(p5 (by omega)).2]; exact p2 _ (by omega)
                  have nw := g_new_iff.mp z3
                  have ne : A.L ≠ v := by rw [(p5 (by omega)).2]; exact nw _ (by omega)
                  have jn := s1_join (B := g_rb A.B A.N v) (u := A.L) (v := v) dd.1.1 (by rw [e0]; omega) (by rw [er 1 (by omega)]; omega) ⟨dd.1.2.1, dd.2.2.1⟩ (by rw [e0]; exact jl) (by rw [e0]; exact z2) ne
                  rcases hj : g_jc (g_rb A.B A.N v) A.L v with _ | B'
                  · rw [jn.1 hj, Option.bind_some, if_pos (c := nI 0 = 0) nI_0, Option.bind_some]
                    exact ⟨fun _ => ⟨S1, fin (nI 0) S1 (Or.inl rfl), x_fr_sub frQ (fun q j hq => by unfold wP; omega)⟩, fun q hq => by cases hq⟩
                  · obtain ⟨S2, j1, j2, j3⟩ := jn.2 B' hj
                    obtain ⟨q1, q2, q3, q4⟩ := uB_jc ur (by rw [e0]; exact jl) (by rw [e0]; exact z2) ne hj
                    simp only [j1, Option.bind_some]
                    rw [if_neg (c := nI 1 = 0) (by decide)]
                    simp only [Option.bind_some]
                    refine ⟨fun q => (by cases q), fun q hq => ?_⟩
                    cases hq
                    refine ⟨S2, fin (nI 1) S2 (Or.inr rfl), x_fr_tr frQ (x_fr_sub j2 (fun q j hq => by unfold wJn at hq; omega)), cD_join dd j2 j3 q2 (by rw [e0]; omega), fun _ i hi => ?_, ?_⟩
                    · show S2.1 (Q + 8 + B' 2) i = nI (B' (54 + 5 * B' 2 + i))
                      rw [q2 2 (by omega), e2, j2.2 _ _ (by unfold wJn; omega), q2 _ (by omega)]
                      exact rr i hi
                    · rw [j2.2 _ _ (by unfold wJn; omega)]; exact e8
              · have nz : x_f1 (fun i => decide (A.B (54 + 5 * A.B 2 + i) = v)) A.N < A.N := by
                  unfold g_new at z3
                  simpa using z3
                rw [if_pos nz, if_neg (fun q => z3 q.2.2.2), Option.bind_some]
                exact ⟨fun _ => ⟨S, fin (nI 0) S (Or.inl rfl), x_fr_rf⟩, fun q hq => by cases hq⟩
            · intro n
              rw [f_X3_takesRingCorner_33, f_X3_takesRingCorner_33, e5, if_pos (nI_le (Nat.le_refl _) (by omega)), if_pos (nI_le (Nat.le_refl _) (by omega))]
            · intro n i hi
              have rl := p2 i hi
              rw [f_X3_takesRingCorner_33, e5, if_neg (nI_ge hi (by omega)), if_pos ((x_in (by omega)).mpr (by omega)), if_pos ((x_in (by omega)).mpr (by omega)), nI_clamp (by omega), nI_clamp (by omega), ring i hi, hv]
              by_cases y : A.B (54 + 5 * A.B 2 + i) = v
              · rw [if_pos (by rw [y]), decide_eq_true y, if_pos rfl]
                rfl
              · rw [if_neg (fun q => y ((nI_eq (by omega) (by omega)).mp q)), decide_eq_false y, if_neg (by decide), show (1 : Int32) = nI 1 from rfl, nI_add]
          · rw [s1_hF wb.1 h1.1.1 z2 hvl, Option.bind_some, if_pos (c := nI 0 = 0) nI_0, if_neg (fun q => z2 q.2.2.1), Option.bind_some]
            exact ⟨fun _ => ⟨S, fin (nI 0) S (Or.inl rfl), x_fr_rf⟩, fun q hq => by cases hq⟩
        · rw [if_pos (show (5 : Int32) ≤ nI A.N from nI_le (a := 5) (by omega) (by omega)), if_neg (fun q => z q.2.1), Option.bind_some]
          exact ⟨fun _ => ⟨S, fin (nI 0) S (Or.inl rfl), x_fr_rf⟩, fun q hq => by cases hq⟩
      · have i4 : A.I = 115 := by omega
        rw [if_neg i3, f_X3_takesNumber, h3, i4, if_neg (show ¬ nI 115 = 104 from by decide), if_neg (show ¬ nI 115 = 107 from by decide), if_neg (show ¬ nI 115 = 112 from by decide), if_pos (show nI 115 = 115 from rfl), f_X3_takesSeamCorner, e5, hv]
        by_cases z0 : 1 < A.N
        · rw [if_pos (show (1 : Int32) < nI A.N from nI_lt (a := 1) z0 (by omega)), Option.bind_some]
          have e : (if v < A.B 0 then (if A.N = 0 then some (A.B, A.H) else (if A.N = 1 ∧ v ≠ A.F then (g_jc A.B A.F v).bind (fun B' => some (B', A.H)) else none)) else none) = none := by
            by_cases z : v < A.B 0
            · rw [if_pos z, if_neg (by omega), if_neg (fun q => by omega)]
            · rw [if_neg z]
          rw [e]
          exact ⟨fun _ => ⟨S, fin (nI 0) S (Or.inl rfl), x_fr_rf⟩, fun q hq => by cases hq⟩
        · rw [if_neg (show ¬ (1 : Int32) < nI A.N from nI_nlt (a := 1) (by omega) (by omega))]
          by_cases z : v < A.B 0
          · rw [if_pos z, s1_hT wb.1 h1.1.1 z, Option.bind_some, if_neg (c := nI 1 = 0) (by decide)]
            dsimp only
            rw [e5, hv]
            by_cases y : A.N = 0
            · rw [if_pos y, y, if_pos (c := nI 0 = 0) nI_0, Option.bind_some]
              refine ⟨fun q => (by cases q), fun q hq => ?_⟩
              cases hq
              exact ⟨S, fin (nI 1) S (Or.inr rfl), x_fr_rf, h1, fun q => absurd q (by decide), h6⟩
            · have n1 : A.N = 1 := by omega
              have f6 := (h5 hI (by omega)).1
              have fl := w6 i4 (by omega)
              rw [if_neg y, if_neg (nI_ne0 (by omega) (by omega)), f6]
              by_cases y2 : v = A.F
              · rw [if_pos (show nI v = nI A.F by rw [y2]), if_neg (c := A.N = 1 ∧ v ≠ A.F) (fun q => q.2 y2), Option.bind_some]
                exact ⟨fun _ => ⟨S, fin (nI 0) S (Or.inl rfl), x_fr_rf⟩, fun q hq => by cases hq⟩
              · rw [if_neg (fun q => y2 ((nI_eq (by omega) (by omega)).mp q)), if_pos ⟨n1, y2⟩]
                have jn := s1_join (B := A.B) (u := A.F) (v := v) h1.1.1 wb.1 wb.2.1 ⟨h1.1.2.1, h1.2.2.1⟩ fl z (fun q => y2 q.symm)
                rcases hj : g_jc A.B A.F v with _ | B'
                · rw [jn.1 hj, Option.bind_some, if_pos (c := nI 0 = 0) nI_0, Option.bind_some]
                  exact ⟨fun _ => ⟨S, fin (nI 0) S (Or.inl rfl), x_fr_rf⟩, fun q hq => by cases hq⟩
                · obtain ⟨S2, j1, j2, j3⟩ := jn.2 B' hj
                  obtain ⟨q1, q2, q3, q4⟩ := uB_jc w1 fl z (fun q => y2 q.symm) hj
                  simp only [j1, Option.bind_some]
                  rw [if_neg (c := nI 1 = 0) (by decide)]
                  simp only [Option.bind_some]
                  refine ⟨fun q => (by cases q), fun q hq => ?_⟩
                  cases hq
                  refine ⟨S2, fin (nI 1) S2 (Or.inr rfl), x_fr_sub j2 (fun q j hq => by unfold wJn at hq; omega), cD_join h1 j2 j3 q2 wb.1, fun q => absurd q (by decide), ?_⟩
                  rw [j2.2 _ _ (by unfold wJn; omega)]; exact h6
          · rw [if_neg z, s1_hF wb.1 h1.1.1 z hvl, Option.bind_some, if_pos (c := nI 0 = 0) nI_0, Option.bind_some]
            exact ⟨fun _ => ⟨S, fin (nI 0) S (Or.inl rfl), x_fr_rf⟩, fun q hq => by cases hq⟩
end CTA
