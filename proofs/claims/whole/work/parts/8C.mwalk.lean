/-! ===== the reference's rounds ===== -/
def g_ad (E : Nat → Nat → Nat → Bool) (k u v : Nat) : Nat → Nat → Nat → Bool := fun κ x y => E κ x y || g_hit k u v κ x y
def mSt (S : zS) (κ u v : Nat) (x : Int32) : zS := z_w (z_w S 105 (81 * κ + 9 * u + v) x) 105 (81 * κ + 9 * v + u) x
section MW
variable {E : Nat → Nat → Nat → Bool} {S : zS}
theorem mSt_at {κ u v κ' x y : Nat} {z : Int32} (hκ : κ < 2) (hu : u < 9) (hv : v < 9) (hκ' : κ' < 2) (hx : x < 9) (hy : y < 9) : (mSt S κ u v z).1 105 (81 * κ' + 9 * x + y) = if κ' = κ ∧ ((x = u ∧ y = v) ∨ (x = v ∧ y = u)) then z else S.1 105 (81 * κ' + 9 * x + y) := by
  unfold mSt
  by_cases c : κ' = κ ∧ ((x = u ∧ y = v) ∨ (x = v ∧ y = u))
  · rw [if_pos c]
    by_cases c1 : x = v ∧ y = u
    · rw [show 81 * κ' + 9 * x + y = 81 * κ + 9 * v + u from by omega, b_wh]
    · rw [b_w, if_pos rfl]
      by_cases c2 : 81 * κ' + 9 * x + y = 81 * κ + 9 * v + u
      · rw [if_pos c2]
      · rw [if_neg c2, show 81 * κ' + 9 * x + y = 81 * κ + 9 * u + v from by omega, b_wh]
  · rw [if_neg c, b_wj (by omega), b_wj (by omega)]
theorem mO_ad (h : mO E S) {κ u v : Nat} (hκ : κ < 2) (hu : u < 9) (hv : v < 9) : mO (g_ad E κ u v) (mSt S κ u v (nI 1)) := by
  intro κ' x y h1 h2 h3
  rw [mSt_at hκ hu hv h1 h2 h3]
  unfold g_ad
  by_cases c : κ' = κ ∧ ((x = u ∧ y = v) ∨ (x = v ∧ y = u))
  · rw [if_pos c, g_hit_iff.mpr c, Bool.or_true, if_pos rfl]
  · have : g_hit κ u v κ' x y = false := by rw [← Bool.not_eq_true, g_hit_iff]; exact c
    rw [if_neg c, this, Bool.or_false]
    exact h κ' x y h1 h2 h3
theorem mO_rm (h : mO E S) {κ u v : Nat} (hκ : κ < 2) (hu : u < 9) (hv : v < 9) : mO (g_rm E κ u v) (mSt S κ u v (nI 0)) := by
  intro κ' x y h1 h2 h3
  rw [mSt_at hκ hu hv h1 h2 h3]
  unfold g_rm
  by_cases c : κ' = κ ∧ ((x = u ∧ y = v) ∨ (x = v ∧ y = u))
  · rw [if_pos c, g_hit_iff.mpr c, Bool.not_true, Bool.and_false, if_neg (by decide)]
  · have : g_hit κ u v κ' x y = false := by rw [← Bool.not_eq_true, g_hit_iff]; exact c
    rw [if_neg c, this, Bool.not_false, Bool.and_true]
    exact h κ' x y h1 h2 h3
theorem mO_cong {E' : Nat → Nat → Nat → Bool} (h : mO E S) (he : ∀ κ u v, κ < 2 → u < 9 → v < 9 → E κ u v = E' κ u v) : mO E' S := fun κ u v h1 h2 h3 => by
  rw [← he κ u v h1 h2 h3]
  exact h κ u v h1 h2 h3
theorem s9_opens {κ u v : Nat} (hκ : κ < 2) (hu : u < 9) (hv : v < 9) : f_X9_opens (nI u) (nI v) (nI κ) S = some ((), mSt S κ u v (nI 1)) := by
  simp (disch := omega) only [f_X9_opens, x_l0, x_l1, x_l2, x_l3, x_l4, x_l5, x_l6, x_l7, x_l8, x_l9, x_l10, x_l12, x_l13, x_l14, x_l16, x_l18, x_l20, x_l22, x_l32, x_l36, x_l48, x_l50, x_l54, x_l57, x_l59, x_l74, x_l81, x_l99, x_l104, x_l107, x_l110, x_l112, x_l115, x_l117, x_l162, x_l255, x_l512, x_l99999, x_l1000000, nI_leI, nI_ltI, nI_eq, nI_add, pk_mul, nI_clamp, x_in, x_bit, x_b0, x_b1, x_b0n, fa_or, fa_and, fb_xorI, x_an, Option.bind_some, b_has8, b_has9, ↓reduceIte, not_true_eq_false, not_false_eq_true, x_nn, Bool.false_eq_true, x_ar_k, x_ar_in, x_ar_w, b_wk, b_wj, b_wh, b_w2, x_ar_2, if_pos, if_neg]
  rfl
theorem s9_shuts {κ u v : Nat} (hκ : κ < 2) (hu : u < 9) (hv : v < 9) : f_X9_shuts (nI u) (nI v) (nI κ) S = some ((), mSt S κ u v (nI 0)) := by
  simp (disch := omega) only [f_X9_shuts, x_l0, x_l1, x_l2, x_l3, x_l4, x_l5, x_l6, x_l7, x_l8, x_l9, x_l10, x_l12, x_l13, x_l14, x_l16, x_l18, x_l20, x_l22, x_l32, x_l36, x_l48, x_l50, x_l54, x_l57, x_l59, x_l74, x_l81, x_l99, x_l104, x_l107, x_l110, x_l112, x_l115, x_l117, x_l162, x_l255, x_l512, x_l99999, x_l1000000, nI_leI, nI_ltI, nI_eq, nI_add, pk_mul, nI_clamp, x_in, x_bit, x_b0, x_b1, x_b0n, fa_or, fa_and, fb_xorI, x_an, Option.bind_some, b_has8, b_has9, ↓reduceIte, not_true_eq_false, not_false_eq_true, x_nn, Bool.false_eq_true, x_ar_k, x_ar_in, x_ar_w, b_wk, b_wj, b_wh, b_w2, x_ar_2, if_pos, if_neg]
  rfl
theorem s9_goesOn (hE : wE E) (h : mO E S) {κ u v : Nat} (hκ : κ < 2) (hu : u < 9) (hv : v < 9) : f_X9_goesOn (nI u) (nI v) (nI κ) S = some (if g_so E u κ v = true then (nI 1, mSt S κ u v (nI 0)) else (nI 0, S)) := by
  rw [f_X9_goesOn, s9_isOpen h hκ hu hv, Option.bind_some]
  by_cases he : E κ u v = true
  · have al := s9_all (mO_rm h hκ hu hv) hv
    rw [if_pos he, if_neg (c := nI 1 = 0) (by decide)]
    dsimp only
    rw [s9_shuts hκ hu hv, Option.bind_some]
    dsimp only
    rw [al, Option.bind_some]
    dsimp only
    unfold g_so
    rw [he]
    by_cases c : x_ok (g_MO (g_rm E κ u v)) v = true
    · rw [if_pos c, if_neg (c := nI 1 = 0) (by decide), c, if_pos (by rfl)]
      rfl
    · have c' : x_ok (g_MO (g_rm E κ u v)) v = false := by simpa using c
      rw [if_neg c, if_pos (c := nI 0 = 0) nI_0, s9_opens hκ hu hv, Option.bind_some, c', if_neg (by decide)]
      have e : mSt (mSt S κ u v (nI 0)) κ u v (nI 1) = S := by
        obtain ⟨_, _, _, huv, hs⟩ := hE κ u v he
        refine x_zext (fun q j => ?_) rfl
        have v1 := h κ u v hκ hu hv
        have v2 := h κ v u hκ hv hu
        rw [if_pos he] at v1
        rw [if_pos hs] at v2
        unfold mSt
        rw [b_w]
        by_cases q1 : q = 105
        · subst q1
          rw [if_pos rfl]
          by_cases j1 : j = 81 * κ + 9 * v + u
          · rw [if_pos j1, j1, v2]
          · rw [if_neg j1, b_w, if_pos rfl]
            by_cases j2 : j = 81 * κ + 9 * u + v
            · rw [if_pos j2, j2, v1]
            · rw [if_neg j2, b_wj j1, b_wj j2]
        · rw [if_neg q1, b_wk q1, b_wk q1, b_wk q1]
      rw [e]
      rfl
  · have c : ¬ g_so E u κ v = true := by
      unfold g_so
      rw [Bool.and_eq_true]
      exact fun q => he q.1
    rw [if_neg he, if_pos (c := nI 0 = 0) nI_0, if_neg c]
    rfl
/-- one step -/
noncomputable def mN (E : Nat → Nat → Nat → Bool) (u m k : Nat) (S : zS) : zS := z_w (z_w (z_w (mSt S (g_kd E u k) u k (nI 0)) 103 m (nI k)) 104 m (nI (1 - g_kd E u k))) 87 28 (nI (m + 1))
theorem s9_r211 {κ u m k : Nat} {z : Int32} (hs : S.1 87 28 = nI m) (hm : m < 18) (x : Int32) (hx : x = 0 ∨ x = 1) (K : Int32 → Int32 → Int32 → zS → Option (Int32 × zS)) (v2 v3 : Int32) : f_X9_rounds_211 K v2 v3 (nI k) x (mSt S κ u k z) = K v2 v3 (nI k) (z_w (z_w (z_w (mSt S κ u k z) 103 m (nI k)) 104 m x) 87 28 (nI (m + 1))) := by
  have e : (mSt S κ u k z).1 87 28 = nI m := by unfold mSt; rw [b_wk (by omega), b_wk (by omega)]; exact hs
  rw [f_X9_rounds_211, e, if_pos ((x_in (by omega)).mpr (by omega)), if_pos hx, nI_clamp (by omega), b_wk (by omega), e, if_pos ((x_in (by omega)).mpr (by omega)), nI_clamp (by omega), b_wk (by omega), b_wk (by omega), e]
  simp (disch := omega) only [x_l1, nI_add]
theorem s9_rstep (hE : wE E) (h : mO E S) {u m : Nat} (hu : u < 9) (hs : S.1 87 28 = nI m) (hm : m < 18) (hn : g_nv E u m < 9) (K : Int32 → Int32 → Int32 → zS → Option (Int32 × zS)) (v2 v3 : Int32) : (f_X9_goesOn (nI u) (nI 0) (nI 0) S).bind (fun r => f_X9_rounds_170 K 1000 v2 v3 (nI u) (nI 0) r.1 r.2) = K v2 v3 (nI (g_nv E u m)) (mN E u m (g_nv E u m) S) := by
  refine x_findB (a0 := 0) (F := fun n k => (f_X9_goesOn (nI u) (nI k) (nI 0) S).bind (fun r => f_X9_rounds_170 K n v2 v3 (nI u) (nI k) r.1 r.2)) (N := 9) (p := g_sp E u m) (yes := fun k => K v2 v3 (nI k) (mN E u m k S)) ?_ (d := 9) (a := 0) (n := 1000) (Nat.le_refl _) (by omega) (by omega) hn
  intro n k _ hk
  have g0 := s9_goesOn hE h (κ := 0) (by omega) hu hk
  have g1 := s9_goesOn hE h (κ := 1) (by omega) hu hk
  have r194 : f_X9_rounds_194 K (f_X9_rounds_170 K n) v2 v3 (nI u) (nI k) S = (f_X9_goesOn (nI u) (nI (k + 1)) (nI 0) S).bind (fun r => f_X9_rounds_170 K n v2 v3 (nI u) (nI (k + 1)) r.1 r.2) := by
    rw [f_X9_rounds_194]
    simp (disch := omega) only [x_l1, x_l0, nI_add]
  show (f_X9_goesOn (nI u) (nI k) (nI 0) S).bind (fun r => f_X9_rounds_170 K (n + 1) v2 v3 (nI u) (nI k) r.1 r.2) = _
  rw [g0, Option.bind_some, f_X9_rounds_170]
  by_cases c0 : g_so E u 0 k = true
  · have y : g_sp E u m k = true := by unfold g_sp; rw [c0]; rfl
    have kd : g_kd E u k = 0 := by unfold g_kd; rw [if_pos c0]
    rw [if_pos c0, if_pos y, if_neg (c := nI 1 = 0) (by decide)]
    dsimp only
    rw [s9_r211 hs hm (nI 1) (Or.inr rfl)]
    unfold mN
    rw [kd]
  · rw [if_neg c0, if_pos (c := nI 0 = 0) nI_0]
    dsimp only
    rw [hs]
    by_cases cm : m = 0
    · have y : ¬ g_sp E u m k = true := by unfold g_sp; simp [c0, cm]
      rw [cm, if_pos (c := nI 0 = 0) nI_0]
      rw [cm] at y
      rw [if_neg y]
      exact r194
    · have g1' : f_X9_goesOn (nI u) (nI k) 1 S = some (if g_so E u 1 k = true then (nI 1, mSt S 1 u k (nI 0)) else (nI 0, S)) := g1
      rw [if_neg (nI_ne0 (by omega) (by omega)), g1', Option.bind_some]
      by_cases c1 : g_so E u 1 k = true
      · have y : g_sp E u m k = true := by unfold g_sp; rw [c1, decide_eq_true (show 0 < m by omega)]; simp
        have kd : g_kd E u k = 1 := by unfold g_kd; rw [if_neg c0]
        rw [if_pos c1, if_pos y, if_neg (c := nI 1 = 0) (by decide)]
        dsimp only
        rw [s9_r211 hs hm (nI 0) (Or.inl rfl)]
        unfold mN
        rw [kd]
      · have y : ¬ g_sp E u m k = true := by unfold g_sp; simp [c0, c1]
        rw [if_neg c1, if_neg y, if_pos (c := nI 0 = 0) nI_0]
        exact r194
end MW
def wM (q j : Nat) : Prop := (q = 87 ∧ j = 28) ∨ q = 103 ∨ q = 104 ∨ q = 105
def wR (q j : Nat) : Prop := (q = 87 ∧ j = 28) ∨ (101 ≤ q ∧ q ≤ 105)
/-- the reference's round is right -/
def mWR (T : Nat → Nat) (b t p : Nat) (S : zS) : Prop := S.1 87 28 = nI (g_ns T b p) ∧ ∀ i, i < g_ns T b p → S.1 103 i = nI (g_wt T b t p i) ∧ S.1 104 i = nI (1 - g_wc T b t p i)
section MG
variable {T : Nat → Nat} {b t p : Nat} {S : zS}
theorem s9_r148 (w : wT T) (hp : p < g_np T b) (h : mO (g_E T b p) S) (hs : S.1 87 28 = nI 0) (x : Int32) : ∃ S', f_X9_rounds_148 1000 x (nI (g_ns T b p)) (nI (g_st T b t p)) S = some (x, S') ∧ x_fr wM S S' ∧ mWR T b t p S' := by
  have hN := g_ns_le (b := b) (p := p) w
  refine x_forI (F := fun n k S => f_X9_rounds_148 n x (nI (g_ns T b p)) (nI (g_wl T b t p k).2) S) (N := g_ns T b p) (I := fun n S1 => x_fr wM S S1 ∧ mO (g_wl T b t p n).1 S1 ∧ S1.1 87 28 = nI n ∧ ∀ i, i < n → S1.1 103 i = nI (g_wt T b t p i) ∧ S1.1 104 i = nI (1 - g_wc T b t p i)) (G := fun γ => ∃ S', γ = some (x, S') ∧ x_fr wM S S' ∧ mWR T b t p S') ?_ ?_ (d := g_ns T b p) (a := 0) (n := 1000) (S := S) (by omega) (by omega) ⟨x_fr_rf, h, hs, fun i hi => absurd hi (Nat.not_lt_zero i)⟩
  · intro n S1 ⟨h1, h2, h3, h4⟩
    refine ⟨S1, ?_, h1, h3, h4⟩
    show f_X9_rounds_148 (n + 1) x (nI (g_ns T b p)) _ S1 = _
    rw [f_X9_rounds_148, h3, if_pos (nI_le (Nat.le_refl _) (by omega))]
  · intro n k S1 hk ⟨h1, h2, h3, h4⟩ go
    have ok := g_wl_ok (t := t) w hp (n := k) (by omega)
    have ok3 := ok.2.2 hk
    have st := s9_rstep ok.1 h2 ok.2.1 h3 (by omega) ok3.1 (f_X9_rounds_148 n) x (nI (g_ns T b p))
    have e : f_X9_rounds_148 (n + 1) x (nI (g_ns T b p)) (nI (g_wl T b t p k).2) S1 = f_X9_rounds_148 n x (nI (g_ns T b p)) (nI (g_wl T b t p (k + 1)).2) (mN (g_wl T b t p k).1 (g_wl T b t p k).2 k (g_wt T b t p k) S1) := by
      rw [f_X9_rounds_148, h3, if_neg (nI_ge hk (by omega))]
      exact st
    show ∃ S', f_X9_rounds_148 (n + 1) x (nI (g_ns T b p)) (nI (g_wl T b t p k).2) S1 = _ ∧ _
    rw [e]
    apply go
    have l : g_kd (g_wl T b t p k).1 (g_wl T b t p k).2 (g_wt T b t p k) < 2 := g_wc_lt (T := T) (b := b) (t := t) (p := p) k
    have fr : x_fr wM S1 (mN (g_wl T b t p k).1 (g_wl T b t p k).2 k (g_wt T b t p k) S1) := x_fr_w (x_fr_w (x_fr_w (x_fr_w (x_fr_w x_fr_rf (Or.inr (Or.inr (Or.inr rfl)))) (Or.inr (Or.inr (Or.inr rfl)))) (Or.inr (Or.inl rfl))) (Or.inr (Or.inr (Or.inl rfl)))) (Or.inl ⟨rfl, rfl⟩)
    refine ⟨x_fr_tr h1 fr, ?_, b_wh, fun i hi => ⟨?_, ?_⟩⟩
    · have c := mO_rm h2 l ok.2.1 ok3.1
      intro κ x y q1 q2 q3
      unfold mN
      rw [b_wk (by omega), b_wk (by omega), b_wk (by omega)]
      exact c κ x y q1 q2 q3
    · unfold mN
      rw [b_wk (by omega), b_wk (by omega)]
      by_cases c : i = k
      · subst c; rw [b_wh]
      · rw [b_wj c]
        unfold mSt
        rw [b_wk (by omega), b_wk (by omega)]; exact (h4 i (by omega)).1
    · unfold mN
      rw [b_wk (by omega)]
      by_cases c : i = k
      · subst c; rw [b_wh]; rfl
      · rw [b_wj c, b_wk (by omega)]
        unfold mSt
        rw [b_wk (by omega), b_wk (by omega)]; exact (h4 i (by omega)).2
/-- all cuts, and the links of which one corner is below k -/
def g_EK (T : Nat → Nat) (b p k : Nat) : Nat → Nat → Nat → Bool := fun κ u v => (decide (κ = 0) && (g_M T (g_cu T b p) u).testBit v) || (decide (κ = 1) && g_EL T b p k u v)
theorem g_EL_step (w : wT T) {k m : Nat} (c : (g_od T b p).testBit k = true) (m3 : g_mt T (g_od T b p) k = nI m) (hm : k < m) (m5 : m < 9) {x y : Nat} (hx : x < 9) (hy : y < 9) : g_EL T b p (k + 1) x y = (g_EL T b p k x y || ((decide (x = k) && decide (y = m)) || (decide (x = m) && decide (y = k)))) := by
  have hE := g_E_w (b := b) (p := p) w
  have only : ∀ y, y < 9 → (g_E T b p 1 k y = true ↔ y = m) := fun y hy => ⟨fun q => nI_inj9 hy m5 (((g_E_1m w).mp q).2.1.symm.trans m3), fun q => by rw [q]; exact (g_E_1m w).mpr ⟨c, m3, m5⟩⟩
  have only2 : ∀ x, x < 9 → (g_E T b p 1 x k = true ↔ x = m) := fun x hx => ⟨fun q => (only x hx).mp (hE 1 x k q).2.2.2.2, fun q => (hE 1 k x ((only x hx).mpr q)).2.2.2.2⟩
  unfold g_EL
  rw [Bool.eq_iff_iff]
  simp only [Bool.and_eq_true, Bool.or_eq_true, decide_eq_true_eq]
  constructor
  · rintro ⟨q1, q2⟩
    by_cases z1 : x = k
    · subst z1
      exact Or.inr (Or.inl ⟨rfl, (only y hy).mp q1⟩)
    · by_cases z2 : y = k
      · subst z2
        exact Or.inr (Or.inr ⟨(only2 x hx).mp q1, rfl⟩)
      · exact Or.inl ⟨q1, by omega⟩
  · rintro (⟨q1, q2⟩ | ⟨q1, q2⟩ | ⟨q1, q2⟩)
    · exact ⟨q1, by omega⟩
    · rw [q1]
      exact ⟨(only y hy).mpr q2, Or.inl (by omega)⟩
    · rw [q2]
      exact ⟨(only2 x hx).mpr q1, Or.inr (by omega)⟩
theorem g_EL_same (w : wT T) {k : Nat} (hk : k < 9) (c : g_mt T (g_od T b p) k ≤ nI k) {x y : Nat} (hx : x < 9) (hy : y < 9) : g_EL T b p (k + 1) x y = g_EL T b p k x y := by
  have hE := g_E_w (b := b) (p := p) w
  have only : ∀ y, y < 9 → g_E T b p 1 k y = true → y < k := fun y hy q => by
    have q' := (g_E_1m w).mp q
    have ne := (hE 1 k y q).2.2.2.1
    rw [q'.2.1, nI_leI (by omega) (by omega)] at c
    omega
  unfold g_EL
  rw [Bool.eq_iff_iff]
  simp only [Bool.and_eq_true, Bool.or_eq_true, decide_eq_true_eq]
  constructor
  · rintro ⟨q1, q2⟩
    refine ⟨q1, ?_⟩
    by_cases z1 : x = k
    · subst z1
      have := only y hy q1
      omega
    · by_cases z2 : y = k
      · subst z2
        have := only x hx (hE 1 x y q1).2.2.2.2
        omega
      · omega
  · rintro ⟨q1, q2⟩; exact ⟨q1, by omega⟩
/-- half of the odd corners have a greater mate -/
theorem g_lc (w : wT T) : ∀ j s (π : Nat → Int32), g_ev T s j → j ≤ 4 → fb_ct (fun k => s.testBit k && !decide (g_pp T j s π k ≤ nI k)) 9 = j
  | 0, s, π, hs, _ => by
    have e : s = 0 := (b_ct_0 hs.1).mp hs.2.2
    subst e
    exact fb_ct_zero.mpr (fun k _ => by rw [Nat.zero_testBit]; rfl)
  | j + 1, s, π, hs, hj => by
    have h0 := wT_b w
    have ok := g_nk_ok w hs (by omega)
    have r := g_ev_rest w hs ok.2.1
    have hs31 : s < 2 ^ 31 := Nat.lt_trans hs.1 (by decide)
    have o31 : b_an s (2 ^ x_low s) < 2 ^ 31 := b_an_lt hs31
    have hl := x_low_yes r.1 hs.1
    have ev := r.2.2.2.2.2.2
    have ih := g_lc w j _ (upd (upd π (x_low s) (nI (g_nk T s))) (g_nk T s) (nI (x_low s))) ev (by omega)
    have st : g_pp T (j + 1) s π = g_pp T j (b_an (b_an s (2 ^ x_low s)) (2 ^ g_nk T s)) (upd (upd π (x_low s) (nI (g_nk T s))) (g_nk T s) (nI (x_low s))) := by rw [g_pp, if_neg r.1]
    have nin1 : ¬ (b_an (b_an s (2 ^ x_low s)) (2 ^ g_nk T s)).testBit (g_nk T s) = true := fun q => ((x_an_bit o31).mp q).2 rfl
    have nin2 : ¬ (b_an (b_an s (2 ^ x_low s)) (2 ^ g_nk T s)).testBit (x_low s) = true := fun q => ((x_an_bit hs31).mp ((x_an_bit o31).mp q).1).2 rfl
    rw [st]
    have u := fb_ct_upd (fun k => (b_an (b_an s (2 ^ x_low s)) (2 ^ g_nk T s)).testBit k && !decide (g_pp T j (b_an (b_an s (2 ^ x_low s)) (2 ^ g_nk T s)) (upd (upd π (x_low s) (nI (g_nk T s))) (g_nk T s) (nI (x_low s))) k ≤ nI k)) true hl.1
    rw [ih] at u
    have nf : (b_an (b_an s (2 ^ x_low s)) (2 ^ g_nk T s)).testBit (x_low s) = false := by simpa using nin2
    rw [nf, Bool.false_and, if_neg (by decide), if_pos rfl, Nat.add_zero] at u
    rw [← u]
    refine fb_ct_cong (fun k hk => ?_)
    by_cases c1 : k = x_low s
    · subst c1
      rw [if_pos rfl, hl.2.1, g_pp_out w j _ _ _ ev (by omega) nin2]
      have : upd (upd π (x_low s) (nI (g_nk T s))) (g_nk T s) (nI (x_low s)) (x_low s) = nI (g_nk T s) := by
        unfold upd
        rw [if_neg (fun e => r.2.2.2.1 e.symm), if_pos rfl]
      rw [this, decide_eq_false (nI_ge r.2.2.2.2.1 (by omega))]
      rfl
    · rw [if_neg c1]
      by_cases c2 : k = g_nk T s
      · subst c2
        rw [g_pp_out w j _ _ _ ev (by omega) nin1]
        have : upd (upd π (x_low s) (nI (g_nk T s))) (g_nk T s) (nI (x_low s)) (g_nk T s) = nI (x_low s) := by
          unfold upd
          rw [if_pos rfl]
        rw [this, decide_eq_true (nI_le (by omega) (by omega))]
        simp
      · congr 1
        rw [Bool.eq_iff_iff, x_an_bit o31, x_an_bit hs31]
        exact ⟨fun q => ⟨⟨q, c1⟩, c2⟩, fun q => q.1.1⟩
theorem g_mt_le (w : wT T) {k : Nat} (hk : k < 9) (h : ¬ (g_od T b p).testBit k = true) : g_mt T (g_od T b p) k ≤ nI k := by
  rcases g_mt_cases w (b := b) p k with ⟨h1, _⟩ | ⟨_, h2⟩
  · exact absurd h1 h
  · rw [h2, fa_le, nI_toInt (by omega)]
    have : (-nI 9 : Int32).toInt = -9 := by decide
    omega
/-- how many links are laid below k -/
def g_lk (T : Nat → Nat) (b p k : Nat) : Nat := fb_ct (fun k => (g_od T b p).testBit k && !decide (g_mt T (g_od T b p) k ≤ nI k)) k
theorem s9_r99 (w : wT T) (h : mQ T b S) (hb : b < 2 ^ 31) (ht : t < T 0) (ht2 : S.1 91 1 = nI t) (hp : p < g_np T b) (hO : mO (g_EK T b p 0) S) (hs : S.1 87 28 = nI 0) (hm : ∀ k, k < 9 → S.1 101 k = g_mt T (g_od T b p) k) (x : Int32) : ∃ S', f_X9_rounds_99 1000 (nI p) x (nI (b_ct (g_cu T b p) (T 1))) (nI 0) S = some (x, S') ∧ x_fr wM S S' ∧ mWR T b t p S' := by
  have h0 := wT_b w
  have hN := g_np_le (b := b) w
  have lc := g_lc w _ _ (fun _ => -nI 9) (g_od_ev (b := b) w p) (x_ct9 _)
  refine x_forI (F := fun n k S => f_X9_rounds_99 n (nI p) x (nI (b_ct (g_cu T b p) (T 1) + g_lk T b p k)) (nI k) S) (N := 9) (I := fun k S1 => x_fr (fun q _ => q = 105) S S1 ∧ mO (g_EK T b p k) S1) (G := fun γ => ∃ S', γ = some (x, S') ∧ x_fr wM S S' ∧ mWR T b t p S') ?_ ?_ (d := 9) (a := 0) (n := 1000) (S := S) (by omega) (by omega) ⟨x_fr_rf, hO⟩
  · intro n S1 ⟨h1, h2⟩
    have hQ := mQ_fr h h1 w (fun q j q1 q2 => by omega)
    have ht3 : S1.1 91 1 = nI t := by rw [h1.2 _ _ (by omega)]; exact ht2
    have st := s9_st w hQ hb ht ht3 hp
    have e2 : b_ct (g_cu T b p) 14 = b_ct (g_cu T b p) (T 1) := by
      have := b_ct_ext (b := g_cu T b p) (n := T 1) (x_mk_lt _ _) (14 - T 1)
      rw [show T 1 + (14 - T 1) = 14 from by omega] at this
      exact this
    have e3 : b_ct (g_od T b p) 14 = b_ct (g_od T b p) 9 := b_ct_ext (g_od_lt p) 5
    have en : b_ct (g_cu T b p) (T 1) + g_lk T b p 9 = g_ns T b p := by
      unfold g_ns
      rw [e2, e3]
      have : g_lk T b p 9 = b_ct (g_od T b p) 9 / 2 := lc
      rw [this]
    obtain ⟨S', r1, r2, r3⟩ := s9_r148 (t := t) (S := S1) w hp (mO_cong h2 (fun κ u v q1 q2 q3 => by
      unfold g_EK
      rcases (by omega : κ = 0 ∨ κ = 1) with rfl | rfl
      · rw [g_E_0]; simp
      · have : g_EL T b p 9 u v = g_E T b p 1 u v := by unfold g_EL; simp [q2]
        rw [this]; simp)) (by rw [h1.2 _ _ (by omega)]; exact hs) x
    refine ⟨S', ?_, x_fr_tr (x_fr_sub h1 (fun q j hq => Or.inr (Or.inr (Or.inr hq)))) r2, r3⟩
    show f_X9_rounds_99 (n + 1) (nI p) x (nI (b_ct (g_cu T b p) (T 1) + g_lk T b p 9)) (nI 9) S1 = _
    rw [en, f_X9_rounds_99, if_pos (show (9 : Int32) ≤ nI 9 from nI_le (Nat.le_refl 9) (by omega)), st, Option.bind_some]
    exact r1
  · intro n k S1 hk ⟨h1, h2⟩ go
    have m1 : S1.1 101 k = g_mt T (g_od T b p) k := by rw [h1.2 _ _ (by omega)]; exact hm k hk
    have lk : g_lk T b p (k + 1) = g_lk T b p k + (if ((g_od T b p).testBit k && !decide (g_mt T (g_od T b p) k ≤ nI k)) = true then 1 else 0) := rfl
    have ll : g_lk T b p k ≤ k := fb_ct_le _ _
    have cl : b_ct (g_cu T b p) (T 1) ≤ T 1 := fb_ct_le _ _
    show ∃ S', f_X9_rounds_99 (n + 1) (nI p) x (nI (b_ct (g_cu T b p) (T 1) + g_lk T b p k)) (nI k) S1 = _ ∧ _
    rw [f_X9_rounds_99, if_neg (show ¬ (9 : Int32) ≤ nI k from nI_ge (b := 9) (by omega) (by omega)), if_pos ((x_in (by omega)).mpr hk), nI_clamp (by omega), m1]
    by_cases c : g_mt T (g_od T b p) k ≤ nI k
    · rw [if_pos c, show (1 : Int32) = nI 1 from rfl, nI_add]
      have e : g_lk T b p (k + 1) = g_lk T b p k := by rw [lk, decide_eq_true c]; simp
      rw [← e]
      apply go
      refine ⟨h1, mO_cong h2 (fun κ u v q1 q2 q3 => ?_)⟩
      unfold g_EK
      rw [g_EL_same w hk c q2 q3]
    · have od : (g_od T b p).testBit k = true := by
        by_cases q : (g_od T b p).testBit k = true
        · exact q
        · exact absurd (g_mt_le w hk q) c
      obtain ⟨m, m1', m2, m3, m4, m5⟩ := g_mt_m w od
      have km : k < m := by
        rw [m3] at c
        refine Classical.byContradiction (fun q => c (nI_le (by omega) (by omega)))
      have e : g_lk T b p (k + 1) = g_lk T b p k + 1 := by rw [lk, decide_eq_false c, od]; simp
      have op := s9_opens (S := S1) (κ := 1) (u := k) (v := m) (by omega) hk m5
      have op' : f_X9_opens (nI k) (nI m) 1 S1 = some ((), mSt S1 1 k m (nI 1)) := op
      rw [if_neg c, if_pos ((x_in (by omega)).mpr hk), m3, op', Option.bind_some, show (1 : Int32) = nI 1 from rfl, nI_add, nI_add, Nat.add_assoc, ← e]
      apply go
      refine ⟨x_fr_w (x_fr_w h1 rfl) rfl, mO_cong (mO_ad h2 (by omega) hk m5) (fun κ u v q1 q2 q3 => ?_)⟩
      unfold g_EK g_ad g_hit
      rw [g_EL_step w od m3 km m5 q2 q3]
      rcases (by omega : κ = 0 ∨ κ = 1) with rfl | rfl
      · simp
      · simp
theorem s9_rounds (w : wT T) (h : mQ T b S) (hb : b < 2 ^ 31) (ht : t < T 0) (ht2 : S.1 91 1 = nI t) (hp : p < g_np T b) : ∃ S', f_X9_rounds (nI p) S = some (nI (g_lp T 4 (g_od T b p)), S') ∧ x_fr wR S S' ∧ mWR T b t p S' := by
  have h0 := wT_b w
  rw [f_X9_rounds, s9_links w h hb hp, Option.bind_some]
  have frL : x_fr wR S (mL T (g_od T b p) S) := x_fr_a (x_fr_a x_fr_rf (fun _ _ => Or.inr ⟨by omega, by omega⟩)) (fun _ _ => Or.inr ⟨by omega, by omega⟩)
  have mt : ∀ k, k < 9 → (mL T (g_od T b p) S).1 101 k = g_mt T (g_od T b p) k := fun k hk => x_ar_in hk
  generalize mL T (g_od T b p) S = S1 at *
  generalize nI (g_lp T 4 (g_od T b p)) = x at *
  have fl : f_X9_rounds_8 1000 (nI p) x (nI 0) S1 = f_X9_rounds_38 1000 (nI p) x (nI 0) (nI 0) (z_w (x_ar S1 105 162 (fun _ => nI 0)) 87 28 (nI 0)) := by
    have hh := x_for (F := fun n k => f_X9_rounds_8 n (nI p) x (nI k) (x_ar S1 105 k (fun _ => nI 0))) (N := 162) (fin := f_X9_rounds_38 1000 (nI p) x (nI 0) (nI 0) (z_w (x_ar S1 105 162 (fun _ => nI 0)) 87 28 (nI 0))) ?_ ?_ (d := 162) (a := 0) (n := 1000) (by omega) (by omega)
    · rw [x_ar_0] at hh
      exact hh
    · intro n
      simp (disch := omega) only [f_X9_rounds_8, x_l0, x_l1, x_l2, x_l3, x_l4, x_l5, x_l6, x_l7, x_l8, x_l9, x_l10, x_l12, x_l13, x_l14, x_l16, x_l18, x_l20, x_l22, x_l32, x_l36, x_l48, x_l50, x_l54, x_l57, x_l59, x_l74, x_l81, x_l99, x_l104, x_l107, x_l110, x_l112, x_l115, x_l117, x_l162, x_l255, x_l512, x_l99999, x_l1000000, nI_leI, nI_ltI, nI_eq, nI_add, pk_mul, nI_clamp, x_in, x_bit, x_b0, x_b1, x_b0n, fa_or, fa_and, fb_xorI, x_an, Option.bind_some, b_has8, b_has9, ↓reduceIte, not_true_eq_false, not_false_eq_true, x_nn, Bool.false_eq_true, x_ar_k, x_ar_in, x_ar_w, b_wk, b_wj, b_wh, b_w2, x_ar_2, if_pos, if_neg]
    · intro n k hk
      simp (disch := omega) only [f_X9_rounds_8, x_l0, x_l1, x_l2, x_l3, x_l4, x_l5, x_l6, x_l7, x_l8, x_l9, x_l10, x_l12, x_l13, x_l14, x_l16, x_l18, x_l20, x_l22, x_l32, x_l36, x_l48, x_l50, x_l54, x_l57, x_l59, x_l74, x_l81, x_l99, x_l104, x_l107, x_l110, x_l112, x_l115, x_l117, x_l162, x_l255, x_l512, x_l99999, x_l1000000, nI_leI, nI_ltI, nI_eq, nI_add, pk_mul, nI_clamp, x_in, x_bit, x_b0, x_b1, x_b0n, fa_or, fa_and, fb_xorI, x_an, Option.bind_some, b_has8, b_has9, ↓reduceIte, not_true_eq_false, not_false_eq_true, x_nn, Bool.false_eq_true, x_ar_k, x_ar_in, x_ar_w, b_wk, b_wj, b_wh, b_w2, x_ar_2, if_pos, if_neg]
      rw [x_ar_s S1 105 k (fun _ => nI 0)]
  show ∃ S', f_X9_rounds_8 1000 (nI p) x (nI 0) S1 = _ ∧ _
  rw [fl]
  have fr2 : x_fr wR S (z_w (x_ar S1 105 162 (fun _ => nI 0)) 87 28 (nI 0)) := x_fr_w (x_fr_a frL (fun _ _ => Or.inr ⟨by omega, by omega⟩)) (Or.inl ⟨rfl, rfl⟩)
  have mt2 : ∀ k, k < 9 → (z_w (x_ar S1 105 162 (fun _ => nI 0)) 87 28 (nI 0)).1 101 k = g_mt T (g_od T b p) k := fun k hk => by rw [b_wk (by omega), x_ar_k (by omega)]; exact mt k hk
  have s28 : (z_w (x_ar S1 105 162 (fun _ => nI 0)) 87 28 (nI 0)).1 87 28 = nI 0 := b_wh
  have O0 : mO (fun κ u v => decide (κ = 0) && g_ec T (g_cu T b p) 0 u v) (z_w (x_ar S1 105 162 (fun _ => nI 0)) 87 28 (nI 0)) := fun κ u v q1 q2 q3 => by
    rw [b_wk (by omega), x_ar_in (by omega), if_neg]
    intro q
    rw [Bool.and_eq_true] at q
    obtain ⟨d, hd, _⟩ := g_ec_iff.mp q.2
    omega
  generalize z_w (x_ar S1 105 162 (fun _ => nI 0)) 87 28 (nI 0) = S2 at *
  refine x_forI (F := fun n c S => f_X9_rounds_38 n (nI p) x (nI (b_ct (g_cu T b p) c)) (nI c) S) (N := T 1) (I := fun c S3 => x_fr (fun q _ => q = 105) S2 S3 ∧ mO (fun κ u v => decide (κ = 0) && g_ec T (g_cu T b p) c u v) S3) (G := fun γ => ∃ S', γ = some (x, S') ∧ x_fr wR S S' ∧ mWR T b t p S') ?_ ?_ (d := T 1) (a := 0) (n := 1000) (S := S2) (by omega) (by omega) ⟨x_fr_rf, O0⟩
  · intro n S3 ⟨h1, h2⟩
    have fr3 := x_fr_tr fr2 (x_fr_sub h1 (V := wR) (fun q j hq => Or.inr ⟨by omega, by omega⟩))
    have hQ := mQ_fr h fr3 w (fun q j q1 q2 => by unfold wR at q2; omega)
    have e1 := hQ.1 1 (by omega)
    obtain ⟨S', r1, r2, r3⟩ := s9_r99 (t := t) (S := S3) w hQ hb ht (by rw [fr3.2 _ _ (by unfold wR; omega)]; exact ht2) hp (mO_cong h2 (fun κ u v q1 q2 q3 => by
      unfold g_EK
      rcases (by omega : κ = 0 ∨ κ = 1) with rfl | rfl
      · have : (g_M T (g_cu T b p) u).testBit v = g_ec T (g_cu T b p) (T 1) u v := by unfold g_M g_rw; rw [x_mk_bit]; simp [q3]
        rw [this]; simp
      · unfold g_EL; simp)) (by rw [h1.2 _ _ (by omega)]; exact s28) (fun k hk => by rw [h1.2 _ _ (by omega)]; exact mt2 k hk) x
    refine ⟨S', ?_, x_fr_tr fr3 (x_fr_sub r2 (fun q j hq => by unfold wM at hq; unfold wR; omega)), r3⟩
    show f_X9_rounds_38 (n + 1) (nI p) x (nI (b_ct (g_cu T b p) (T 1))) (nI (T 1)) S3 = _
    rw [f_X9_rounds_38, e1, if_pos (nI_le (Nat.le_refl _) (by omega))]
    exact r1
  · intro n c S3 hc ⟨h1, h2⟩ go
    have fr3 := x_fr_tr fr2 (x_fr_sub h1 (V := wR) (fun q j hq => Or.inr ⟨by omega, by omega⟩))
    have hQ := mQ_fr h fr3 w (fun q j q1 q2 => by unfold wR at q2; omega)
    have e1 := hQ.1 1 (by omega)
    have cu := s9_cu w hQ hb hp
    have cl := g_cu_lt (b := b) w p
    have ct : b_ct (g_cu T b p) (c + 1) = b_ct (g_cu T b p) c + (if (g_cu T b p).testBit c = true then 1 else 0) := rfl
    have hw := wT_c w hc
    show ∃ S', f_X9_rounds_38 (n + 1) (nI p) x (nI (b_ct (g_cu T b p) c)) (nI c) S3 = _ ∧ _
    rw [f_X9_rounds_38, e1, if_neg (nI_ge hc (by omega)), cu, Option.bind_some]
    dsimp only
    rw [b_has9 (by omega) (by omega), Option.bind_some]
    by_cases q : (g_cu T b p).testBit c = true
    · have e22 := hQ.1 (22 + c) (by omega)
      have e36 := hQ.1 (36 + c) (by omega)
      have op := s9_opens (S := S3) (κ := 0) (u := T (22 + c)) (v := T (36 + c)) (by omega) (by omega) (by omega)
      have op' : f_X9_opens (nI (T (22 + c))) (nI (T (36 + c))) 0 S3 = some ((), mSt S3 0 (T (22 + c)) (T (36 + c)) (nI 1)) := op
      rw [if_pos q] at ct
      rw [if_pos q, if_neg (c := nI 1 = 0) (by decide), show (22 : Int32) = nI 22 from rfl, show (36 : Int32) = nI 36 from rfl, nI_add, nI_add, if_pos ((x_in (by omega)).mpr (by omega)), if_pos ((x_in (by omega)).mpr (by omega)), nI_clamp (by omega), nI_clamp (by omega), e22, e36, op', Option.bind_some, show (1 : Int32) = nI 1 from rfl, nI_add, nI_add, ← ct]
      apply go
      refine ⟨x_fr_w (x_fr_w h1 rfl) rfl, mO_cong (mO_ad h2 (by omega) (by omega) (by omega)) (fun κ u v q1 q2 q3 => ?_)⟩
      unfold g_ad g_hit
      rw [g_ec_succ, q, Bool.true_and, Bool.eq_iff_iff]
      unfold g_adj
      simp only [Bool.and_eq_true, Bool.or_eq_true, decide_eq_true_eq, beq_iff_eq]
      constructor
      · rintro (⟨z1, z2⟩ | ⟨z1, z2⟩)
        · exact ⟨z1, Or.inl z2⟩
        · exact ⟨z1, Or.inr (by omega)⟩
      · rintro ⟨z1, z2 | z2⟩
        · exact Or.inl ⟨z1, z2⟩
        · exact Or.inr ⟨z1, by omega⟩
    · rw [if_neg q] at ct
      rw [if_neg q, if_pos (c := nI 0 = 0) nI_0, show (1 : Int32) = nI 1 from rfl, nI_add]
      have ct' : b_ct (g_cu T b p) (c + 1) = b_ct (g_cu T b p) c := ct
      rw [← ct']
      apply go
      refine ⟨h1, mO_cong h2 (fun κ u v q1 q2 q3 => ?_)⟩
      have qf : (g_cu T b p).testBit c = false := by simpa using q
      rw [g_ec_succ, qf, Bool.false_and, Bool.or_false]
end MG
