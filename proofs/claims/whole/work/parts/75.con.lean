/-! ===== what hangs together ===== -/
section CON
variable {M : Nat → Nat} {a b c : Nat}
def x_con (M : Nat → Nat) (a b : Nat) : Prop := ∀ C : Nat → Prop, C a → (∀ x y, C x → (M x).testBit y = true → C y) → C b
theorem x_con_rf : x_con M a a := fun _ h _ => h
theorem x_con_tr (h : x_con M a b) (h2 : x_con M b c) : x_con M a c := fun C ha hc => h2 C (h C ha hc) hc
theorem x_con_st (h : x_con M a b) (h2 : (M b).testBit c = true) : x_con M a c := fun C ha hc => hc b c (h C ha hc) h2
theorem x_con_sy (hs : ∀ x y, (M x).testBit y = true → (M y).testBit x = true) (h : x_con M a b) : x_con M b a :=
  h (fun z => x_con M z a) x_con_rf (fun x y hx hxy => x_con_tr (x_con_st x_con_rf (hs x y hxy)) hx)
theorem x_con_mono {N : Nat → Nat} (hs : ∀ x y, (M x).testBit y = true → (N x).testBit y = true) (h : x_con M a b) : x_con N a b :=
  fun C ha hc => h C ha (fun x y hx hxy => hc x y hx (hs x y hxy))
def x_by (M : Nat → Nat) (r : Nat) : Nat := x_or (fun k => if r.testBit k = true then M k else 0) 9
theorem x_by_bit (M : Nat → Nat) (r y : Nat) : (x_by M r).testBit y = true ↔ ∃ k, k < 9 ∧ r.testBit k = true ∧ (M k).testBit y = true := by
  unfold x_by
  rw [x_or_bit]
  constructor
  · rintro ⟨k, hk, h⟩
    by_cases q : r.testBit k = true
    · rw [if_pos q] at h
      exact ⟨k, hk, q, h⟩
    · rw [if_neg q, Nat.zero_testBit] at h
      cases h
  · rintro ⟨k, hk, q, h⟩
    exact ⟨k, hk, by rw [if_pos q]; exact h⟩
theorem x_by_lt (hM : ∀ x, x < 9 → M x < 2 ^ 9) (r : Nat) : x_by M r < 2 ^ 9 := x_or_lt (fun k hk => by
  by_cases q : r.testBit k = true
  · rw [if_pos q]; exact hM k hk
  · rw [if_neg q]; decide)
def x_rs (M : Nat → Nat) (a : Nat) : Nat → Nat × Nat
  | 0 => (2 ^ a, 2 ^ a)
  | i + 1 => ((x_rs M a i).1 ||| x_by M (x_rs M a i).2, b_an (x_by M (x_rs M a i).2) (x_rs M a i).1)
theorem fb_ct_lt {p q : Nat → Bool} {n i : Nat} (hs : ∀ k, k < n → p k = true → q k = true) (hi : i < n) (hq : q i = true) (hp : p i = false) : fb_ct p n < fb_ct q n := by
  have h1 := fb_ct_upd p true (i := i) hi
  rw [hp, if_neg (by decide), if_pos rfl] at h1
  have h2 : fb_ct (fun k => if k = i then true else p k) n ≤ fb_ct q n := fb_ct_sub (fun k hk h => by
    by_cases e : k = i
    · subst e; exact hq
    · rw [if_neg e] at h; exact hs k hk h)
  omega
theorem x_ne0 {b n : Nat} (hb : b < 2 ^ n) (h : b ≠ 0) : ∃ i, i < n ∧ b.testBit i = true := by
  refine Classical.byContradiction (fun hc => h ?_)
  apply Nat.eq_of_testBit_eq
  intro i
  rw [Nat.zero_testBit]
  by_cases hi : i < n
  · by_cases q : b.testBit i = true
    · exact absurd ⟨i, hi, q⟩ hc
    · simpa using q
  · exact b_bit_hi hb (by omega)
theorem x_rs_inv (hM : ∀ x, x < 9 → M x < 2 ^ 9) (ha : a < 9) : ∀ i, (x_rs M a i).1 < 2 ^ 9 ∧ (x_rs M a i).2 < 2 ^ 9 ∧ (∀ b, (x_rs M a i).2.testBit b = true → (x_rs M a i).1.testBit b = true) ∧ (∀ b, (x_rs M a i).1.testBit b = true → x_con M a b) ∧ (∀ x y, (x_rs M a i).1.testBit x = true → ¬ (x_rs M a i).2.testBit x = true → (M x).testBit y = true → (x_rs M a i).1.testBit y = true) ∧ (x_rs M a i).1.testBit a = true ∧ ((x_rs M a i).2 ≠ 0 → i + 1 ≤ b_ct (x_rs M a i).1 9)
  | 0 => by
    have h9 : 2 ^ a < 2 ^ 9 := Nat.pow_lt_pow_right (by decide) ha
    refine ⟨h9, h9, fun b h => h, ?_, ?_, ?_, ?_⟩
    · intro b h
      show x_con M a b
      rw [x_rs, Nat.testBit_two_pow] at h
      have e : a = b := by simpa using h
      subst e
      exact x_con_rf
    · intro x y h1 h2
      exact absurd h1 h2
    · show (2 ^ a).testBit a = true
      rw [Nat.testBit_two_pow]; simp
    · intro _
      show 1 ≤ b_ct (2 ^ a) 9
      exact fb_ct_pos.mpr ⟨a, ha, by rw [Nat.testBit_two_pow]; simp⟩
  | i + 1 => by
    obtain ⟨h1, h2, h3, h4, h5, h6, h7⟩ := x_rs_inv hM ha i
    generalize hf : x_rs M a i = s at *
    have hb := x_by_lt hM s.2
    have e1 : (x_rs M a (i + 1)).1 = s.1 ||| x_by M s.2 := by rw [x_rs, hf]
    have e2 : (x_rs M a (i + 1)).2 = b_an (x_by M s.2) s.1 := by rw [x_rs, hf]
    have r2 : ∀ b, (b_an (x_by M s.2) s.1).testBit b = ((x_by M s.2).testBit b && !s.1.testBit b) := fun b => b_an_bit (by omega) b
    rw [e1, e2]
    refine ⟨b_or_lt h1 hb, b_an_lt hb, ?_, ?_, ?_, ?_, ?_⟩
    · intro b h
      rw [r2] at h
      rw [Nat.testBit_or]
      simp at h
      simp [h.1]
    · intro b h
      rw [Nat.testBit_or, Bool.or_eq_true] at h
      rcases h with h | h
      · exact h4 b h
      · obtain ⟨k, hk, q1, q2⟩ := (x_by_bit M s.2 b).mp h
        exact x_con_st (h4 k (h3 k q1)) q2
    · intro x y hx hn hxy
      rw [r2] at hn
      rw [Nat.testBit_or, Bool.or_eq_true] at hx ⊢
      have hx1 : s.1.testBit x = true := by
        by_cases q : s.1.testBit x = true
        · exact q
        · rcases hx with hx | hx
          · exact hx
          · exfalso; apply hn; simp [hx, q]
      by_cases q : s.2.testBit x = true
      · right
        have hx9 : x < 9 := by
          by_cases e : x < 9
          · exact e
          · rw [b_bit_hi h2 (by omega)] at q; cases q
        exact (x_by_bit M s.2 y).mpr ⟨x, hx9, q, hxy⟩
      · left
        exact h5 x y hx1 q hxy
    · rw [Nat.testBit_or, h6]; rfl
    · intro hn
      obtain ⟨b, hb9, hbb⟩ := x_ne0 (b_an_lt hb) hn
      rw [r2] at hbb
      simp at hbb
      have hs2 : s.2 ≠ 0 := by
        intro e
        obtain ⟨k, hk, q1, _⟩ := (x_by_bit M s.2 b).mp hbb.1
        rw [e, Nat.zero_testBit] at q1
        cases q1
      have := h7 hs2
      have hl : b_ct s.1 9 < b_ct (s.1 ||| x_by M s.2) 9 := fb_ct_lt (i := b) (fun k _ hk => by rw [Nat.testBit_or, hk]; rfl) hb9 (by rw [Nat.testBit_or, hbb.1]; simp) hbb.2
      omega
def g_reach (M : Nat → Nat) (a : Nat) : Nat := (x_rs M a 9).1
theorem x_rs_end (hM : ∀ x, x < 9 → M x < 2 ^ 9) (ha : a < 9) : (x_rs M a 9).2 = 0 := by
  refine Classical.byContradiction (fun hn => ?_)
  have h := (x_rs_inv hM ha 9).2.2.2.2.2.2 hn
  have h2 : b_ct (x_rs M a 9).1 9 ≤ 9 := fb_ct_le _ _
  omega
theorem g_reach_bit (hM : ∀ x, x < 9 → M x < 2 ^ 9) (ha : a < 9) : (g_reach M a).testBit b = true ↔ x_con M a b := by
  have h := x_rs_inv hM ha 9
  constructor
  · exact h.2.2.2.1 b
  · intro hc
    refine hc (fun z => (x_rs M a 9).1.testBit z = true) h.2.2.2.2.2.1 (fun x y hx hxy => ?_)
    refine h.2.2.2.2.1 x y hx ?_ hxy
    rw [x_rs_end hM ha, Nat.zero_testBit]
    simp
theorem g_reach_lt (hM : ∀ x, x < 9 → M x < 2 ^ 9) (ha : a < 9) : g_reach M a < 2 ^ 9 := (x_rs_inv hM ha 9).1
theorem x_con_lt (hM : ∀ x, x < 9 → M x < 2 ^ 9) (ha : a < 9) (h : x_con M a b) : b < 9 := by
  by_cases e : b < 9
  · exact e
  · have := (g_reach_bit hM ha).mpr h
    rw [b_bit_hi (g_reach_lt hM ha) (by omega)] at this
    cases this
/-- once the rim is empty nothing changes -/
theorem x_rs_stop {i : Nat} (h : (x_rs M a i).2 = 0) : ∀ d, (x_rs M a (i + d)).1 = (x_rs M a i).1 ∧ (x_rs M a (i + d)).2 = 0
  | 0 => ⟨rfl, h⟩
  | d + 1 => by
    have ih := x_rs_stop h d
    have hz : x_by M 0 = 0 := by
      apply Nat.eq_of_testBit_eq
      intro y
      rw [Nat.zero_testBit]
      by_cases q : (x_by M 0).testBit y = true
      · obtain ⟨k, _, q1, _⟩ := (x_by_bit M 0 y).mp q
        rw [Nat.zero_testBit] at q1
        cases q1
      · simpa using q
    have e : x_rs M a (i + d + 1) = ((x_rs M a (i + d)).1 ||| x_by M (x_rs M a (i + d)).2, b_an (x_by M (x_rs M a (i + d)).2) (x_rs M a (i + d)).1) := rfl
    rw [Nat.add_assoc] at e
    rw [e, ih.2, hz, ih.1]
    refine ⟨Nat.or_zero _, ?_⟩
    show 0 &&& _ = 0
    exact Nat.zero_and _
/-- all that is to be gone over hangs together with a -/
noncomputable def x_ok (M : Nat → Nat) (a : Nat) : Bool := @decide (∀ k, k < 9 → M k ≠ 0 → x_con M a k) (Classical.propDecidable _)
theorem x_ok_iff : x_ok M a = true ↔ ∀ k, k < 9 → M k ≠ 0 → x_con M a k := by
  unfold x_ok
  exact @decide_eq_true_iff _ (Classical.propDecidable _)
theorem x_forE {γ : Type} {F : Nat → Nat → γ} {N : Nat} {fin : γ} (hd : ∀ n, F (n + 1) N = fin) (hs : ∀ n k, k < N → F (n + 1) k = F n (k + 1) ∨ F (n + 1) k = fin) : ∀ {d a n : Nat}, N = a + d → d < n → F n a = fin
  | 0, a, n, h, hn => by
    obtain ⟨m, rfl⟩ : ∃ m, n = m + 1 := ⟨n - 1, by omega⟩
    have : a = N := by omega
    subst this
    exact hd m
  | d + 1, a, n, h, hn => by
    obtain ⟨m, rfl⟩ : ∃ m, n = m + 1 := ⟨n - 1, by omega⟩
    rcases hs m a (by omega) with e | e
    · rw [e]
      exact x_forE hd hs (d := d) (by omega) (by omega)
    · exact e
end CON
/-! ===== the class's web ===== -/
def cW (W : Nat) (R L : Nat → Nat) (S : zS) : Prop := ∀ k, k < 9 → (S.1 (W + 1) k = nI (R k) ∧ S.1 (W + 2) k = nI (L k)) ∧ R k < 2 ^ 9 ∧ L k < 2 ^ 9
section WEB
variable {W : Nat} {R L : Nat → Nat} {S : zS}
theorem cW_M (h : cW W R L S) : ∀ x, x < 9 → (R x ||| L x) < 2 ^ 9 := fun x hx => b_or_lt (h x hx).2.1 (h x hx).2.2
theorem s6_reach_in (h : cW W R L S) {f r i : Nat} (hf : f < 2 ^ 9) (hr : r < 2 ^ 9) (K : Int32 → Int32 → Int32 → zS → Option (Int32 × zS)) : f_X6_reach_26 W K 1000 (nI f) (nI r) (nI i) (nI 0) (nI 0) S = K (nI (f ||| x_by (fun k => R k ||| L k) r)) (nI (b_an (x_by (fun k => R k ||| L k) r) f)) (nI (i + 1)) S := by
  have hM := cW_M h
  have hby := x_by_lt hM r
  refine x_for (F := fun n k => f_X6_reach_26 W K n (nI f) (nI r) (nI i) (nI (x_or (fun k => if r.testBit k = true then R k ||| L k else 0) k)) (nI k) S) (N := 9) ?_ ?_ (d := 9) (a := 0) (n := 1000) (by omega) (by omega)
  · intro n
    have e : x_or (fun k => if r.testBit k = true then R k ||| L k else 0) 9 = x_by (fun k => R k ||| L k) r := rfl
    simp (disch := omega) only [f_X6_reach_26, e, x_l0, x_l1, x_l2, x_l3, x_l4, x_l5, x_l6, x_l7, x_l8, x_l9, x_l10, x_l12, x_l13, x_l14, x_l16, x_l18, x_l20, x_l22, x_l32, x_l36, x_l48, x_l50, x_l54, x_l57, x_l59, x_l74, x_l81, x_l99, x_l104, x_l107, x_l110, x_l112, x_l115, x_l117, x_l162, x_l255, x_l512, x_l99999, x_l1000000, nI_leI, nI_ltI, nI_eq, nI_add, pk_mul, nI_clamp, x_in, x_bit, x_b0, x_b1, x_b0n, fa_or, fa_and, fb_xorI, x_an, Option.bind_some, b_has8, b_has9, ↓reduceIte, not_true_eq_false, not_false_eq_true, if_pos, if_neg]
  · intro n k hk
    simp (disch := omega) only [f_X6_reach_26, x_l0, x_l1, x_l2, x_l3, x_l4, x_l5, x_l6, x_l7, x_l8, x_l9, x_l10, x_l12, x_l13, x_l14, x_l16, x_l18, x_l20, x_l22, x_l32, x_l36, x_l48, x_l50, x_l54, x_l57, x_l59, x_l74, x_l81, x_l99, x_l104, x_l107, x_l110, x_l112, x_l115, x_l117, x_l162, x_l255, x_l512, x_l99999, x_l1000000, nI_leI, nI_ltI, nI_eq, nI_add, pk_mul, nI_clamp, x_in, x_bit, x_b0, x_b1, x_b0n, fa_or, fa_and, fb_xorI, x_an, Option.bind_some, b_has8, b_has9, ↓reduceIte, not_true_eq_false, not_false_eq_true, (h k hk).1.1, (h k hk).1.2, if_pos, if_neg, x_or]
    by_cases c : r.testBit k = true
    · simp [c]
    · simp [c]
theorem s6_reach (h : cW W R L S) {a : Nat} (ha : a < 9) : f_X6_reach W (nI a) S = some (nI (g_reach (fun k => R k ||| L k) a), S) := by
  have hM := cW_M h
  have hI := x_rs_inv (M := fun k => R k ||| L k) hM ha
  unfold f_X6_reach
  rw [x_l1, x_bit (by omega), x_l0]
  refine x_forE (F := fun n i => f_X6_reach_9 W n (nI (x_rs (fun k => R k ||| L k) a i).1) (nI (x_rs (fun k => R k ||| L k) a i).2) (nI i) S) (N := 9) ?_ ?_ (d := 9) (a := 0) (n := 1000) (by omega) (by omega)
  · intro n
    simp (disch := omega) only [f_X6_reach_9, x_l0, x_l1, x_l2, x_l3, x_l4, x_l5, x_l6, x_l7, x_l8, x_l9, x_l10, x_l12, x_l13, x_l14, x_l16, x_l18, x_l20, x_l22, x_l32, x_l36, x_l48, x_l50, x_l54, x_l57, x_l59, x_l74, x_l81, x_l99, x_l104, x_l107, x_l110, x_l112, x_l115, x_l117, x_l162, x_l255, x_l512, x_l99999, x_l1000000, nI_leI, nI_ltI, nI_eq, nI_add, pk_mul, nI_clamp, x_in, x_bit, x_b0, x_b1, x_b0n, fa_or, fa_and, fb_xorI, x_an, Option.bind_some, b_has8, b_has9, ↓reduceIte, not_true_eq_false, not_false_eq_true, if_pos, if_neg]
    rfl
  · intro n i hi
    have b1 := (hI i).1
    have b2 := (hI i).2.1
    have e : x_rs (fun k => R k ||| L k) a (i + 1) = ((x_rs (fun k => R k ||| L k) a i).1 ||| x_by (fun k => R k ||| L k) (x_rs (fun k => R k ||| L k) a i).2, b_an (x_by (fun k => R k ||| L k) (x_rs (fun k => R k ||| L k) a i).2) (x_rs (fun k => R k ||| L k) a i).1) := rfl
    by_cases c : (x_rs (fun k => R k ||| L k) a i).2 = 0
    · right
      have st := (x_rs_stop c (9 - i)).1
      have e9 : i + (9 - i) = 9 := by omega
      rw [e9] at st
      simp (disch := omega) only [f_X6_reach_9, x_l0, x_l1, x_l2, x_l3, x_l4, x_l5, x_l6, x_l7, x_l8, x_l9, x_l10, x_l12, x_l13, x_l14, x_l16, x_l18, x_l20, x_l22, x_l32, x_l36, x_l48, x_l50, x_l54, x_l57, x_l59, x_l74, x_l81, x_l99, x_l104, x_l107, x_l110, x_l112, x_l115, x_l117, x_l162, x_l255, x_l512, x_l99999, x_l1000000, nI_leI, nI_ltI, nI_eq, nI_add, pk_mul, nI_clamp, x_in, x_bit, x_b0, x_b1, x_b0n, fa_or, fa_and, fb_xorI, x_an, Option.bind_some, b_has8, b_has9, ↓reduceIte, not_true_eq_false, not_false_eq_true, if_pos, if_neg]
      unfold g_reach
      rw [st]
    · left
      rw [e]
      simp (disch := omega) only [f_X6_reach_9, x_l0, x_l1, x_l2, x_l3, x_l4, x_l5, x_l6, x_l7, x_l8, x_l9, x_l10, x_l12, x_l13, x_l14, x_l16, x_l18, x_l20, x_l22, x_l32, x_l36, x_l48, x_l50, x_l54, x_l57, x_l59, x_l74, x_l81, x_l99, x_l104, x_l107, x_l110, x_l112, x_l115, x_l117, x_l162, x_l255, x_l512, x_l99999, x_l1000000, nI_leI, nI_ltI, nI_eq, nI_add, pk_mul, nI_clamp, x_in, x_bit, x_b0, x_b1, x_b0n, fa_or, fa_and, fb_xorI, x_an, Option.bind_some, b_has8, b_has9, ↓reduceIte, not_true_eq_false, not_false_eq_true, s6_reach_in h b1 b2, if_pos, if_neg]
theorem s6_all (h : cW W R L S) {a : Nat} (ha : a < 9) : f_X6_allReachedFrom W (nI a) S = some (if x_ok (fun k => R k ||| L k) a = true then nI 1 else nI 0, S) := by
  have hM := cW_M h
  have hr := g_reach_lt (M := fun k => R k ||| L k) hM ha
  unfold f_X6_allReachedFrom
  rw [s6_reach h ha, Option.bind_some]
  show f_X6_allReachedFrom_8 W 1000 (nI (g_reach (fun k => R k ||| L k) a)) (nI 0) S = _
  have hh := x_find (F := fun n k => f_X6_allReachedFrom_8 W n (nI (g_reach (fun k => R k ||| L k) a)) (nI k) S) (N := 9) (p := fun k => !decide (R k ||| L k = 0) && !(g_reach (fun k => R k ||| L k) a).testBit k) (yes := fun _ => some (nI 0, S)) (no := some (nI 1, S)) ?_ ?_ (d := 9) (a := 0) (n := 1000) (by omega) (by omega)
  · refine Eq.trans hh ?_
    have e : (x_fst (fun k => !decide (R k ||| L k = 0) && !(g_reach (fun k => R k ||| L k) a).testBit k) 9 9 0 < 9) ↔ ¬ x_ok (fun k => R k ||| L k) a = true := by
      rw [x_ok_iff]
      constructor
      · intro q hc
        have y := x_fst_yes _ 9 9 0 (by omega) q
        simp only [Bool.and_eq_true, Bool.not_eq_true', decide_eq_false_iff_not] at y
        have z := hc _ q y.1
        rw [← g_reach_bit hM ha] at z
        rw [y.2] at z
        cases z
      · intro q
        refine Classical.byContradiction (fun hc => q (fun k hk hn => ?_))
        have y := x_fst_no (fun k => !decide (R k ||| L k = 0) && !(g_reach (fun k => R k ||| L k) a).testBit k) 9 9 0 (by omega) k (by omega) (by omega)
        rw [← g_reach_bit hM ha]
        simp only [Bool.and_eq_false_iff, Bool.not_eq_false', decide_eq_true_eq] at y
        rcases y with y | y
        · exact absurd y hn
        · exact y
    by_cases c : x_ok (fun k => R k ||| L k) a = true
    · rw [if_pos c, if_neg (fun q => (e.mp q) c)]
    · rw [if_neg c, if_pos (e.mpr c)]
  · intro n
    simp (disch := omega) only [f_X6_allReachedFrom_8, x_l0, x_l1, x_l2, x_l3, x_l4, x_l5, x_l6, x_l7, x_l8, x_l9, x_l10, x_l12, x_l13, x_l14, x_l16, x_l18, x_l20, x_l22, x_l32, x_l36, x_l48, x_l50, x_l54, x_l57, x_l59, x_l74, x_l81, x_l99, x_l104, x_l107, x_l110, x_l112, x_l115, x_l117, x_l162, x_l255, x_l512, x_l99999, x_l1000000, nI_leI, nI_ltI, nI_eq, nI_add, pk_mul, nI_clamp, x_in, x_bit, x_b0, x_b1, x_b0n, fa_or, fa_and, fb_xorI, x_an, Option.bind_some, b_has8, b_has9, ↓reduceIte, not_true_eq_false, not_false_eq_true, if_pos, if_neg]
  · intro n k hk
    have b1 := hM k hk
    simp (disch := omega) only [f_X6_allReachedFrom_8, x_l0, x_l1, x_l2, x_l3, x_l4, x_l5, x_l6, x_l7, x_l8, x_l9, x_l10, x_l12, x_l13, x_l14, x_l16, x_l18, x_l20, x_l22, x_l32, x_l36, x_l48, x_l50, x_l54, x_l57, x_l59, x_l74, x_l81, x_l99, x_l104, x_l107, x_l110, x_l112, x_l115, x_l117, x_l162, x_l255, x_l512, x_l99999, x_l1000000, nI_leI, nI_ltI, nI_eq, nI_add, pk_mul, nI_clamp, x_in, x_bit, x_b0, x_b1, x_b0n, fa_or, fa_and, fb_xorI, x_an, Option.bind_some, b_has8, b_has9, ↓reduceIte, not_true_eq_false, not_false_eq_true, (h k hk).1.1, (h k hk).1.2, if_pos, if_neg]
    by_cases c1 : R k ||| L k = 0
    · simp [c1]
    · by_cases c2 : (g_reach (fun k => R k ||| L k) a).testBit k = true
      · simp [c1, c2]
      · simp [c1, c2]
end WEB
