/-! ===== pieces: the class ===== -/
theorem x_leT {a b : Nat} (h : a ≤ b) : (a ≤ b) = True := eq_true h
theorem x_leF {a b : Nat} (h : ¬ a ≤ b) : (a ≤ b) = False := eq_false h
theorem x_ltT {a b : Nat} (h : a < b) : (a < b) = True := eq_true h
theorem x_ltF {a b : Nat} (h : ¬ a < b) : (a < b) = False := eq_false h
theorem x_eqT {a b : Nat} (h : a = b) : (a = b) = True := eq_true h
theorem x_eqF {a b : Nat} (h : ¬ a = b) : (a = b) = False := eq_false h
def x_fr (W : Nat → Nat → Prop) (S S' : zS) : Prop := S'.2 = S.2 ∧ ∀ q j, ¬ W q j → S'.1 q j = S.1 q j
theorem x_fr_rf {W : Nat → Nat → Prop} {S : zS} : x_fr W S S := ⟨rfl, fun _ _ _ => rfl⟩
theorem x_fr_tr {W : Nat → Nat → Prop} {S S1 S' : zS} (h : x_fr W S S1) (h2 : x_fr W S1 S') : x_fr W S S' := ⟨h2.1.trans h.1, fun k j hk => (h2.2 k j hk).trans (h.2 k j hk)⟩
theorem x_fr_w {W : Nat → Nat → Prop} {S S1 : zS} {q i : Nat} {x : Int32} (h : x_fr W S S1) (hw : W q i) : x_fr W S (z_w S1 q i x) := by
  refine ⟨h.1, fun k j hk => ?_⟩
  rw [b_w]
  by_cases hq : k = q
  · subst hq
    rw [if_pos rfl]
    by_cases hj : j = i
    · subst hj; exact absurd hw hk
    · rw [if_neg hj]; exact h.2 k j hk
  · rw [if_neg hq]; exact h.2 k j hk
theorem x_fr_a {W : Nat → Nat → Prop} {S S1 : zS} {q n : Nat} {f : Nat → Int32} (h : x_fr W S S1) (hw : ∀ j, j < n → W q j) : x_fr W S (x_ar S1 q n f) := by
  refine ⟨h.1, fun k j hk => ?_⟩
  rw [x_ar_1]
  by_cases hq : k = q ∧ j < n
  · rw [hq.1] at hk
    exact absurd (hw j hq.2) hk
  · rw [if_neg hq]; exact h.2 k j hk
theorem x_fr_sub {W V : Nat → Nat → Prop} {S S1 : zS} (h : x_fr W S S1) (hs : ∀ q j, W q j → V q j) : x_fr V S S1 := ⟨h.1, fun q j hn => h.2 q j (fun c => hn (hs q j c))⟩
theorem x_forI {γ : Type} {F : Nat → Nat → zS → γ} {N : Nat} {I : Nat → zS → Prop} {G : γ → Prop} (hd : ∀ n S, I N S → G (F (n + 1) N S)) (hs : ∀ n k S, k < N → I k S → (∀ S', I (k + 1) S' → G (F n (k + 1) S')) → G (F (n + 1) k S)) : ∀ {d a n : Nat} {S : zS}, N = a + d → d < n → I a S → G (F n a S)
  | 0, a, n, S, h, hn, hi => by
    obtain ⟨m, rfl⟩ : ∃ m, n = m + 1 := ⟨n - 1, by omega⟩
    have : a = N := by omega
    subst this
    exact hd m S hi
  | d + 1, a, n, S, h, hn, hi => by
    obtain ⟨m, rfl⟩ : ∃ m, n = m + 1 := ⟨n - 1, by omega⟩
    exact hs m a S (by omega) hi (fun S' hi' => x_forI hd hs (d := d) (by omega) (by omega) hi')
theorem cP0_fr {T : Nat → Nat} {P : Nat} {W : Nat → Nat → Prop} {S S' : zS} (h : cP0 T P S) (hf : x_fr W S S') (hw : ∀ q j, P ≤ q → q ≤ P + 11 → ¬ W q j) (h2 : T 2 ≤ 4) : cP0 T P S' := by
  have e : ∀ q j, P ≤ q → q ≤ P + 11 → S'.1 q j = S.1 q j := fun q j h1 h2 => hf.2 q j (hw q j h1 h2)
  refine ⟨⟨?_, ?_, ?_, ?_⟩, fun k hk => ⟨?_, ?_⟩, fun c hc => ⟨?_, ?_⟩, fun p hp => ⟨?_, fun i hi => ?_⟩⟩
  · rw [e _ _ (by omega) (by omega)]; exact h.1.1
  · rw [e _ _ (by omega) (by omega)]; exact h.1.2.1
  · rw [e _ _ (by omega) (by omega)]; exact h.1.2.2.1
  · rw [e _ _ (by omega) (by omega)]; exact h.1.2.2.2
  · rw [e _ _ (by omega) (by omega)]; exact (h.2.1 k hk).1
  · rw [e _ _ (by omega) (by omega)]; exact (h.2.1 k hk).2
  · rw [e _ _ (by omega) (by omega)]; exact (h.2.2.1 c hc).1
  · rw [e _ _ (by omega) (by omega)]; exact (h.2.2.1 c hc).2
  · rw [e _ _ (by omega) (by omega)]; exact (h.2.2.2 p hp).1
  · rw [e _ _ (by omega) (by omega)]; exact (h.2.2.2 p hp).2 i hi
theorem b_ct_ext {b n : Nat} (hb : b < 2 ^ n) : ∀ d, b_ct b (n + d) = b_ct b n
  | 0 => rfl
  | d + 1 => by
    have : b_ct b (n + d + 1) = b_ct b (n + d) + (if b.testBit (n + d) = true then 1 else 0) := rfl
    rw [← Nat.add_assoc, this, b_bit_hi hb (by omega), b_ct_ext hb d]
    rfl
section CPC
variable {T : Nat → Nat} {b P : Nat} {S : zS}
theorem g_co_bit (w : wT T) {k x : Nat} (hk : g_isR T b k = true) (hk9 : k < 9) (hx : x < 9) : (g_reach (g_M T b) k).testBit x = decide (g_root T b x = k) := by
  have hr := g_isR_iff.mp hk
  rw [Bool.eq_iff_iff, g_reach_bit (fun x _ => g_M_lt b x) hk9, decide_eq_true_eq, ← g_root_eq w hk9 hx, hr.1]
  exact ⟨fun h => h.symm, fun h => h.symm⟩
theorem s4_cutsAmong (w : wT T) (h : cP0 T P S) {m : Nat} (hb : b < 2 ^ 31) (hm : m < 2 ^ 31) : f_X4_cutsAmong P (nI b) (nI m) S = some (nI (x_mk (fun c => b.testBit c && m.testBit (T (22 + c))) (T 1)), S) := by
  have h0 := wT_b w
  unfold f_X4_cutsAmong
  refine x_for (F := fun n k => f_X4_cutsAmong_5 P n (nI b) (nI m) (nI (x_mk (fun c => b.testBit c && m.testBit (T (22 + c))) k)) (nI k) S) (N := T 1) ?_ ?_ (d := T 1) (a := 0) (n := 1000) (by omega) (by omega)
  · intro n
    simp (disch := omega) only [f_X4_cutsAmong_5, x_l0, x_l1, x_l2, x_l3, x_l4, x_l5, x_l6, x_l7, x_l8, x_l9, x_l10, x_l12, x_l13, x_l14, x_l16, x_l18, x_l20, x_l22, x_l32, x_l36, x_l48, x_l50, x_l54, x_l57, x_l59, x_l74, x_l81, x_l99, x_l104, x_l107, x_l110, x_l112, x_l115, x_l117, x_l162, x_l255, x_l512, x_l99999, x_l1000000, nI_leI, nI_ltI, nI_eq, nI_add, pk_mul, nI_clamp, x_in, x_bit, x_b0, x_b1, x_b0n, fa_or, fa_and, fb_xorI, x_an, Option.bind_some, b_has8, b_has9, ↓reduceIte, not_true_eq_false, not_false_eq_true, x_nn, Bool.false_eq_true, x_ar_k, x_ar_in, x_ar_w, b_wk, b_wj, b_wh, b_w2, x_ar_2, if_pos, if_neg, h.1.2.1]
  · intro n k hk
    have x := wT_c w hk
    simp (disch := omega) only [f_X4_cutsAmong_5, x_l0, x_l1, x_l2, x_l3, x_l4, x_l5, x_l6, x_l7, x_l8, x_l9, x_l10, x_l12, x_l13, x_l14, x_l16, x_l18, x_l20, x_l22, x_l32, x_l36, x_l48, x_l50, x_l54, x_l57, x_l59, x_l74, x_l81, x_l99, x_l104, x_l107, x_l110, x_l112, x_l115, x_l117, x_l162, x_l255, x_l512, x_l99999, x_l1000000, nI_leI, nI_ltI, nI_eq, nI_add, pk_mul, nI_clamp, x_in, x_bit, x_b0, x_b1, x_b0n, fa_or, fa_and, fb_xorI, x_an, Option.bind_some, b_has8, b_has9, ↓reduceIte, not_true_eq_false, not_false_eq_true, x_nn, Bool.false_eq_true, x_ar_k, x_ar_in, x_ar_w, b_wk, b_wj, b_wh, b_w2, x_ar_2, if_pos, if_neg, h.1.2.1, (h.2.2.1 k hk).1, x_mk]
    by_cases c1 : b.testBit k = true
    · by_cases c2 : m.testBit (T (22 + k)) = true
      · simp [c1, c2]
      · simp [c1, c2]
    · simp [c1]
theorem s4_oddAmong (w : wT T) (h : ∀ k, k < 9 → S.1 67 k = nI (g_M T b k)) {m : Nat} (hm : m < 2 ^ 31) : f_X4_oddAmong (nI m) S = some (nI (x_mk (fun k => m.testBit k && decide (g_deg T b k % 2 = 1)) 9), S) := by
  have h0 := wT_b w
  unfold f_X4_oddAmong
  refine x_for (F := fun n k => f_X4_oddAmong_4 n (nI m) (nI (x_mk (fun k => m.testBit k && decide (g_deg T b k % 2 = 1)) k)) (nI k) S) (N := 9) ?_ ?_ (d := 9) (a := 0) (n := 1000) (by omega) (by omega)
  · intro n
    simp (disch := omega) only [f_X4_oddAmong_4, x_l0, x_l1, x_l2, x_l3, x_l4, x_l5, x_l6, x_l7, x_l8, x_l9, x_l10, x_l12, x_l13, x_l14, x_l16, x_l18, x_l20, x_l22, x_l32, x_l36, x_l48, x_l50, x_l54, x_l57, x_l59, x_l74, x_l81, x_l99, x_l104, x_l107, x_l110, x_l112, x_l115, x_l117, x_l162, x_l255, x_l512, x_l99999, x_l1000000, nI_leI, nI_ltI, nI_eq, nI_add, pk_mul, nI_clamp, x_in, x_bit, x_b0, x_b1, x_b0n, fa_or, fa_and, fb_xorI, x_an, Option.bind_some, b_has8, b_has9, ↓reduceIte, not_true_eq_false, not_false_eq_true, x_nn, Bool.false_eq_true, x_ar_k, x_ar_in, x_ar_w, b_wk, b_wj, b_wh, b_w2, x_ar_2, if_pos, if_neg]
  · intro n k hk
    have x := g_M_lt (T := T) b k
    have e1 : b_ct (g_M T b k) 14 = g_deg T b k := by rw [← g_M_ct w k]; exact b_ct_ext x 5
    have e2 : f_J6_bitCount_0f7a4 (nI (g_M T b k)) S = some (nI (g_deg T b k), S) := by rw [b_bc (by omega), e1]
    have hd := g_deg_le w b k
    simp (disch := omega) only [f_X4_oddAmong_4, x_l0, x_l1, x_l2, x_l3, x_l4, x_l5, x_l6, x_l7, x_l8, x_l9, x_l10, x_l12, x_l13, x_l14, x_l16, x_l18, x_l20, x_l22, x_l32, x_l36, x_l48, x_l50, x_l54, x_l57, x_l59, x_l74, x_l81, x_l99, x_l104, x_l107, x_l110, x_l112, x_l115, x_l117, x_l162, x_l255, x_l512, x_l99999, x_l1000000, nI_leI, nI_ltI, nI_eq, nI_add, pk_mul, nI_clamp, x_in, x_bit, x_b0, x_b1, x_b0n, fa_or, fa_and, fb_xorI, x_an, Option.bind_some, b_has8, b_has9, ↓reduceIte, not_true_eq_false, not_false_eq_true, x_nn, Bool.false_eq_true, x_ar_k, x_ar_in, x_ar_w, b_wk, b_wj, b_wh, b_w2, x_ar_2, if_pos, if_neg, h k hk, e2, Nat.and_one_is_mod, x_mk]
    by_cases c1 : m.testBit k = true
    · by_cases c2 : g_deg T b k % 2 = 1
      · simp [c1, c2]
      · simp [c1, c2]
    · simp [c1]
/-- class: the pieces that were found -/
def cV (T : Nat → Nat) (b t : Nat) (S : zS) : Prop := S.1 57 1 = nI (g_np T b) ∧ ∀ p, p < g_np T b → S.1 58 p = nI (g_cu T b p) ∧ S.1 60 p = nI (g_od T b p) ∧ S.1 61 p = nI (g_st T b t p)
def wV (q j : Nat) : Prop := (q = 57 ∧ j = 1) ∨ q = 58 ∨ q = 59 ∨ q = 60 ∨ q = 61 ∨ q = 67 ∨ q = 68
def g_fo (T : Nat → Nat) (b : Nat) (k : Nat) : Nat := x_or (fun j => if g_isR T b j = true then g_reach (g_M T b) j else 0) k
theorem g_fo_lt (w : wT T) {k : Nat} (hk : k ≤ T 0) : g_fo T b k < 2 ^ 9 := x_or_lt (fun j hj => by
  have h0 := wT_b w
  split
  · exact g_reach_lt (fun x _ => g_M_lt b x) (by omega)
  · decide)
theorem g_fo_bit (w : wT T) {k : Nat} (hk : k < T 0) (hd : 0 < g_deg T b k) : (g_fo T b k).testBit k = true ↔ ¬ g_root T b k = k := by
  have h0 := wT_b w
  unfold g_fo
  rw [x_or_bit]
  constructor
  · rintro ⟨j, hj, h⟩ e
    by_cases c : g_isR T b j = true
    · rw [if_pos c, g_co_bit w c (by omega) (by omega), decide_eq_true_eq] at h
      omega
    · rw [if_neg c, Nat.zero_testBit] at h
      cases h
  · intro e
    have r1 := g_root_self (b := b) w k
    have c := g_isR_root w hd
    refine ⟨g_root T b k, by omega, ?_⟩
    rw [if_pos c, g_co_bit w c (by omega) (by omega)]
    simp
theorem s4_find (w : wT T) (h : cP0 T P S) (hP : P = 3 ∨ P = 17) (hb : b < 2 ^ 31) (hl : S.1 32 0 = nI b) {t : Nat} (ht : 0 < T 0 → t < T 0 ∧ S.1 32 1 = nI t) : ∃ S', f_X4_findPieces P 32 S = some ((), S') ∧ x_fr wV S S' ∧ cV T b t S' := by
  have h0 := wT_b w
  unfold f_X4_findPieces
  have e0 : (z_w S 57 1 0).1 32 0 = nI b := by rw [b_wk (by omega)]; exact hl
  have f0 : x_fr wV S (z_w S 57 1 0) := x_fr_w x_fr_rf (by unfold wV; omega)
  have h1 : cP0 T P (z_w S 57 1 0) := cP0_fr h f0 (fun q j q1 q2 => by unfold wV; omega) (by omega)
  rw [e0, s6_lay w h1 hb hP (by omega), Option.bind_some]
  generalize hS : x_ar (x_ar (z_w S 57 1 0) (66 + 2) 9 (fun _ => nI 0)) (66 + 1) 9 (fun k => nI (g_M T b k)) = S1
  have f1 : x_fr wV S S1 := by
    rw [← hS]
    exact x_fr_a (x_fr_a f0 (fun j _ => by unfold wV; omega)) (fun j _ => by unfold wV; omega)
  have m1 : ∀ k, k < 9 → S1.1 67 k = nI (g_M T b k) := fun k hk => by rw [← hS, x_ar_in hk]
  have m2 : ∀ k, k < 9 → S1.1 68 k = nI 0 := fun k hk => by rw [← hS, x_ar_k (by omega), x_ar_in hk]
  have m3 : S1.1 57 1 = nI 0 := by rw [← hS, x_ar_k (by omega), x_ar_k (by omega), b_wh]; rfl
  refine x_forI (F := fun n k S' => f_X4_findPieces_22 P 32 n (nI (g_fo T b k)) (nI k) S') (N := T 0)
    (I := fun k S' => x_fr (fun q j => (q = 57 ∧ j = 1) ∨ q = 58 ∨ q = 59 ∨ q = 60 ∨ q = 61) S1 S' ∧ S'.1 57 1 = nI (fb_ct (g_isR T b) k) ∧ ∀ p, p < fb_ct (g_isR T b) k → S'.1 58 p = nI (g_cu T b p) ∧ S'.1 60 p = nI (g_od T b p) ∧ S'.1 61 p = nI (g_st T b t p))
    (G := fun e => ∃ S', e = some ((), S') ∧ x_fr wV S S' ∧ cV T b t S') ?_ ?_ (d := T 0) (a := 0) (n := 1000) (by omega) (by omega) ⟨x_fr_rf, m3, fun p hp => absurd hp (Nat.not_lt_zero p)⟩
  · intro n S' hi
    refine ⟨S', ?_, x_fr_tr f1 (x_fr_sub hi.1 (fun q j hw => by unfold wV; omega)), hi.2⟩
    have y : S'.1 P 0 = nI (T 0) := by rw [hi.1.2 P 0 (by omega), f1.2 P 0 (by unfold wV; omega)]; exact h.1.1
    simp (disch := omega) only [f_X4_findPieces_22, x_l0, x_l1, x_l2, x_l3, x_l4, x_l5, x_l6, x_l7, x_l8, x_l9, x_l10, x_l12, x_l13, x_l14, x_l16, x_l18, x_l20, x_l22, x_l32, x_l36, x_l48, x_l50, x_l54, x_l57, x_l59, x_l74, x_l81, x_l99, x_l104, x_l107, x_l110, x_l112, x_l115, x_l117, x_l162, x_l255, x_l512, x_l99999, x_l1000000, nI_leI, nI_ltI, nI_eq, nI_add, pk_mul, nI_clamp, x_in, x_bit, x_b0, x_b1, x_b0n, fa_or, fa_and, fb_xorI, x_an, Option.bind_some, b_has8, b_has9, ↓reduceIte, not_true_eq_false, not_false_eq_true, x_nn, Bool.false_eq_true, x_ar_k, x_ar_in, x_ar_w, b_wk, b_wj, b_wh, b_w2, x_ar_2, if_pos, if_neg, y]
  · intro n k S' hk hi hnext
    have y : S'.1 P 0 = nI (T 0) := by rw [hi.1.2 P 0 (by omega), f1.2 P 0 (by unfold wV; omega)]; exact h.1.1
    have y1 : S'.1 67 k = nI (g_M T b k) := by rw [hi.1.2 67 k (by omega)]; exact m1 k (by omega)
    have ml := g_M_lt (T := T) b k
    have fl := g_fo_lt (b := b) w (k := k) (by omega)
    have efo : g_fo T b (k + 1) = g_fo T b k ||| (if g_isR T b k = true then g_reach (g_M T b) k else 0) := rfl
    by_cases c1 : g_M T b k = 0
    · have hr : ¬ g_isR T b k = true := fun q => (g_deg_pos w).mp (g_isR_iff.mp q).2 c1
      have e : fb_ct (g_isR T b) (k + 1) = fb_ct (g_isR T b) k := by rw [fb_ct_succ, if_neg hr]; rfl
      rw [if_neg hr, Nat.or_zero] at efo
      have := hnext S' (by rw [e]; exact hi)
      rw [efo] at this
      rw [f_X4_findPieces_22, y, if_neg (nI_ge hk (by omega)), if_pos ((x_in (by omega)).mpr (by omega)), nI_clamp (by omega), y1, c1, if_pos nI_0, nI_1]
      exact this
    · have hd : 0 < g_deg T b k := (g_deg_pos w).mpr c1
      have fb := g_fo_bit w hk hd
      by_cases c2 : g_root T b k = k
      · have hr : g_isR T b k = true := g_isR_iff.mpr ⟨c2, hd⟩
        have e : fb_ct (g_isR T b) (k + 1) = fb_ct (g_isR T b) k + 1 := by rw [fb_ct_succ, if_pos hr]
        have hc4 : fb_ct (g_isR T b) k < 4 := by
          have l1 := g_np_le (b := b) w
          have l2 := fb_ct_mono (g_isR T b) (m := k + 1) (n := T 0) (by omega)
          unfold g_np at l1
          omega
        have epr := g_pr_eq hk hr
        rw [if_pos hr] at efo
        have nfo : ¬ (g_fo T b k).testBit k = true := fun q => fb.mp q c2
        generalize hc : fb_ct (g_isR T b) k = c at *
        have cw : cW 66 (g_M T b) (fun _ => 0) S' := fun j hj => ⟨⟨by rw [hi.1.2 _ _ (by omega)]; exact m1 j hj, by rw [hi.1.2 _ _ (by omega)]; exact m2 j hj⟩, g_M_lt b j, Nat.two_pow_pos 9⟩
        have eM : (fun k => g_M T b k ||| (fun _ => 0) k) = g_M T b := funext fun k => Nat.or_zero _
        have r1 := s6_reach cw (a := k) (by omega)
        rw [eM] at r1
        have rl := g_reach_lt (M := g_M T b) (a := k) (fun x _ => g_M_lt b x) (by omega)
        have cb : ∀ x, x < 9 → (g_reach (g_M T b) k).testBit x = decide (g_root T b x = k) := fun x hx => g_co_bit w hr (by omega) hx
        generalize hco : g_reach (g_M T b) k = co at *
        have hP0 : cP0 T P (z_w S' 59 c (nI co)) := cP0_fr (cP0_fr h f1 (fun q j q1 q2 => by unfold wV; omega) (by omega)) (x_fr_w (W := fun q j => (q = 57 ∧ j = 1) ∨ q = 58 ∨ q = 59 ∨ q = 60 ∨ q = 61) hi.1 (by omega)) (fun q j q1 q2 => by omega) (by omega)
        have r2 := s4_cutsAmong w hP0 (b := b) (m := co) hb (by omega)
        have e2 : x_mk (fun c => b.testBit c && co.testBit (T (22 + c))) (T 1) = g_cu T b c := by
          unfold g_cu
          rw [epr]
          refine x_mk_cong (fun j hj => ?_)
          have := wT_c w hj
          rw [cb _ (by omega)]
        rw [e2] at r2
        have r3 := s4_oddAmong (b := b) (S := z_w (z_w S' 59 c (nI co)) 58 c (nI (g_cu T b c))) w (fun j hj => by rw [b_wk (by omega), b_wk (by omega), hi.1.2 _ _ (by omega)]; exact m1 j hj) (m := co) (by omega)
        have e3 : x_mk (fun k => co.testBit k && decide (g_deg T b k % 2 = 1)) 9 = g_od T b c := by
          unfold g_od
          rw [epr]
          refine x_mk_cong (fun j hj => ?_)
          rw [cb _ hj]
        rw [e3] at r3
        have tt := ht (by omega)
        have y2 : S'.1 32 0 = nI b := by rw [hi.1.2 _ _ (by omega), f1.2 _ _ (by unfold wV; omega)]; exact hl
        have y3 : S'.1 32 1 = nI t := by rw [hi.1.2 _ _ (by omega), f1.2 _ _ (by unfold wV; omega)]; exact tt.2
        have y4 := hi.2.1
        have ctb := cb t (by omega)
        have est : g_st T b t c = if g_root T b t = k then t else k := by
          unfold g_st
          rw [epr]
          by_cases q : g_root T b t = k
          · have : 0 < g_deg T b t := by
              have q1 : x_con (g_M T b) k t := by
                rw [← g_root_eq w (by omega) (by omega), q]; exact c2
              exact g_con_deg2 w q1 hd
            rw [if_pos ⟨q, this⟩, if_pos q]
          · rw [if_neg (fun z => q z.1), if_neg q]
        have hh : f_X8_has (nI (g_fo T b k)) (nI k) S' = some (nI 0, S') := by rw [b_has8 (by omega) (by omega), if_neg nfo]
        have fin : ∀ x, x = nI (g_st T b t c) → ∃ S'', f_X4_findPieces_22 P 32 n (nI (g_fo T b k ||| co)) (nI (k + 1)) (z_w (z_w (z_w (z_w (z_w S' 59 c (nI co)) 58 c (nI (g_cu T b c))) 60 c (nI (g_od T b c))) 61 c x) 57 1 (nI (c + 1))) = some ((), S'') ∧ x_fr wV S S'' ∧ cV T b t S'' := by
          intro x hx
          have hn := hnext (z_w (z_w (z_w (z_w (z_w S' 59 c (nI co)) 58 c (nI (g_cu T b c))) 60 c (nI (g_od T b c))) 61 c x) 57 1 (nI (c + 1))) ?_
          · rw [efo] at hn
            exact hn
          · rw [e]
            refine ⟨x_fr_w (x_fr_w (x_fr_w (x_fr_w (x_fr_w hi.1 (by omega)) (by omega)) (by omega)) (by omega)) (by omega), by rw [b_wh], fun p hp => ?_⟩
            by_cases q : p = c
            · subst q
              refine ⟨?_, ?_, ?_⟩
              · rw [b_wk (by omega), b_wk (by omega), b_wk (by omega), b_wh]
              · rw [b_wk (by omega), b_wk (by omega), b_wh]
              · rw [b_wk (by omega), b_wh, hx]
            · have ip := hi.2.2 p (by omega)
              refine ⟨?_, ?_, ?_⟩
              · rw [b_wk (by omega), b_wk (by omega), b_wk (by omega), b_wj q, b_wk (by omega)]; exact ip.1
              · rw [b_wk (by omega), b_wk (by omega), b_wj q, b_wk (by omega), b_wk (by omega)]; exact ip.2.1
              · rw [b_wk (by omega), b_wj q, b_wk (by omega), b_wk (by omega), b_wk (by omega)]; exact ip.2.2
        by_cases q : g_root T b t = k
        · rw [if_pos q] at est
          have ctt : co.testBit t = true := by rw [ctb]; simp [q]
          rw [f_X4_findPieces_22, y, if_neg (nI_ge hk (by omega)), if_pos ((x_in (by omega)).mpr (by omega)), nI_clamp (by omega), y1, if_neg (nI_ne0 (by omega) (by omega)), hh, Option.bind_some]
          dsimp only
          rw [if_pos (show nI 0 = 0 from rfl), y4, if_neg (show ¬ (4 : Int32) ≤ nI c from nI_ge (b := 4) hc4 (by omega)), r1, Option.bind_some]
          dsimp only
          simp (disch := omega) only [f_X4_findPieces_170, f_X4_findPieces_194, x_l0, x_l1, x_l2, x_l3, x_l4, x_l5, x_l6, x_l7, x_l8, x_l9, x_l10, x_l12, x_l13, x_l14, x_l16, x_l18, x_l20, x_l22, x_l32, x_l36, x_l48, x_l50, x_l54, x_l57, x_l59, x_l74, x_l81, x_l99, x_l104, x_l107, x_l110, x_l112, x_l115, x_l117, x_l162, x_l255, x_l512, x_l99999, x_l1000000, nI_leI, nI_ltI, nI_eq, nI_add, pk_mul, nI_clamp, x_in, x_bit, x_b0, x_b1, x_b0n, fa_or, fa_and, fb_xorI, x_an, Option.bind_some, b_has8, b_has9, ↓reduceIte, not_true_eq_false, not_false_eq_true, x_nn, Bool.false_eq_true, x_ar_k, x_ar_in, x_ar_w, b_wk, b_wj, b_wh, b_w2, x_ar_2, x_leT, x_leF, x_ltT, x_ltF, x_eqT, x_eqF, y2, y3, y4, r2, r3, ctt]
          exact fin _ (by rw [est])
        · rw [if_neg q] at est
          have ctt : ¬ co.testBit t = true := by rw [ctb]; simp [q]
          rw [f_X4_findPieces_22, y, if_neg (nI_ge hk (by omega)), if_pos ((x_in (by omega)).mpr (by omega)), nI_clamp (by omega), y1, if_neg (nI_ne0 (by omega) (by omega)), hh, Option.bind_some]
          dsimp only
          rw [if_pos (show nI 0 = 0 from rfl), y4, if_neg (show ¬ (4 : Int32) ≤ nI c from nI_ge (b := 4) hc4 (by omega)), r1, Option.bind_some]
          dsimp only
          simp (disch := omega) only [f_X4_findPieces_170, f_X4_findPieces_194, x_l0, x_l1, x_l2, x_l3, x_l4, x_l5, x_l6, x_l7, x_l8, x_l9, x_l10, x_l12, x_l13, x_l14, x_l16, x_l18, x_l20, x_l22, x_l32, x_l36, x_l48, x_l50, x_l54, x_l57, x_l59, x_l74, x_l81, x_l99, x_l104, x_l107, x_l110, x_l112, x_l115, x_l117, x_l162, x_l255, x_l512, x_l99999, x_l1000000, nI_leI, nI_ltI, nI_eq, nI_add, pk_mul, nI_clamp, x_in, x_bit, x_b0, x_b1, x_b0n, fa_or, fa_and, fb_xorI, x_an, Option.bind_some, b_has8, b_has9, ↓reduceIte, not_true_eq_false, not_false_eq_true, x_nn, Bool.false_eq_true, x_ar_k, x_ar_in, x_ar_w, b_wk, b_wj, b_wh, b_w2, x_ar_2, x_leT, x_leF, x_ltT, x_ltF, x_eqT, x_eqF, y2, y3, y4, r2, r3, ctt]
          exact fin _ (by rw [est])
      · have hr : ¬ g_isR T b k = true := fun q => c2 (g_isR_iff.mp q).1
        have e : fb_ct (g_isR T b) (k + 1) = fb_ct (g_isR T b) k := by rw [fb_ct_succ, if_neg hr]; rfl
        rw [if_neg hr, Nat.or_zero] at efo
        have yes : (g_fo T b k).testBit k = true := fb.mpr c2
        have := hnext S' (by rw [e]; exact hi)
        rw [efo] at this
        have hh : f_X8_has (nI (g_fo T b k)) (nI k) S' = some (nI 1, S') := by rw [b_has8 (by omega) (by omega), if_pos yes]
        rw [f_X4_findPieces_22, y, if_neg (nI_ge hk (by omega)), if_pos ((x_in (by omega)).mpr (by omega)), nI_clamp (by omega), y1, if_neg (nI_ne0 (by omega) (by omega)), hh, Option.bind_some, nI_1]
        exact this
end CPC
