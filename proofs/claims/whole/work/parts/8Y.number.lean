/-! ===== the class numbers its cuts ===== -/
theorem x_ctlt (d : Nat) : ∀ n, fb_ct (fun e => decide (e < d)) n = if n ≤ d then n else d
  | 0 => by rw [if_pos (Nat.zero_le d)]; rfl
  | n + 1 => by
    rw [fb_ct_succ, x_ctlt d n]
    by_cases z : n + 1 ≤ d
    · rw [if_pos z, if_pos (show n ≤ d by omega), decide_eq_true (show n < d by omega), if_pos rfl]
    · rw [if_neg z]
      by_cases y : n < d
      · rw [if_pos (show n ≤ d by omega), decide_eq_true y, if_pos rfl]; omega
      · rw [decide_eq_false y, if_neg (c := false = true) (by decide)]
        split <;> omega
def g_kt (T : Nat → Nat) (d : Nat) : Nat := 16 * T (22 + d) + T (36 + d)
def g_cn (T : Nat → Nat) (κ : Nat) : Nat := fb_ct (fun d => decide (g_kt T d < κ)) (T 1)
section NUM
variable {T : Nat → Nat}
theorem g_kt_lt (w : wT T) {c d : Nat} (hc : c < T 1) (hd : d < T 1) : g_kt T c < g_kt T d ↔ c < d := by
  constructor
  · intro h
    refine Classical.byContradiction (fun q => ?_)
    by_cases e : c = d
    · subst e; omega
    · have : g_kt T d < g_kt T c := wT_lt w (show d < c by omega) hc
      omega
  · intro h; exact wT_lt w h hd
theorem g_cn_at (w : wT T) {d : Nat} (hd : d < T 1) : g_cn T (g_kt T d) = d ∧ g_cn T (g_kt T d + 1) = d + 1 := by
  constructor
  · unfold g_cn
    have e : fb_ct (fun c => decide (g_kt T c < g_kt T d)) (T 1) = fb_ct (fun c => decide (c < d)) (T 1) := fb_ct_cong (fun c hc => decide_eq_decide.mpr (g_kt_lt w hc hd))
    rw [e, x_ctlt, if_neg (by omega)]
  · unfold g_cn
    have e : fb_ct (fun c => decide (g_kt T c < g_kt T d + 1)) (T 1) = fb_ct (fun c => decide (c < d + 1)) (T 1) := fb_ct_cong (fun c hc => decide_eq_decide.mpr (by
      have h1 := g_kt_lt w hc hd
      have h2 := g_kt_lt w hd hc
      by_cases z : c = d
      · subst z; omega
      · omega))
    rw [e, x_ctlt]
    split <;> omega
theorem g_cn_no {κ : Nat} (h : ∀ d, d < T 1 → g_kt T d ≠ κ) : g_cn T (κ + 1) = g_cn T κ := fb_ct_cong (fun c hc => decide_eq_decide.mpr (by
  have := h c hc
  omega))
theorem g_cn_gap {κ κ' : Nat} (h : κ ≤ κ') (hn : ∀ d, d < T 1 → ¬ (κ ≤ g_kt T d ∧ g_kt T d < κ')) : g_cn T κ' = g_cn T κ := fb_ct_cong (fun c hc => decide_eq_decide.mpr (by
  have := hn c hc
  omega))
theorem g_cn_le (κ : Nat) : g_cn T κ ≤ T 1 := fb_ct_le _ _
end NUM
section NUC
variable {B : Nat → Nat} {M Q : Nat} {S : zS}
def cNm (T : Nat → Nat) (Q c : Nat) (S : zS) : Prop := ∀ e, e < c → S.1 (Q + 4) e = nI (T (22 + e)) ∧ S.1 (Q + 5) e = nI (T (36 + e))
theorem s1_nc (u : uB B) (h : cD B M Q S) : ∃ S', f_X1_numberCuts Q S = some ((), S') ∧ x_fr (fun q _ => q = Q + 4 ∨ q = Q + 5) S S' ∧ cNm (g_srt B) Q (B 1) S' := by
  have wb := u.1
  have w := g_srt_w u
  have o0 := g_srt_o u (j := 0) (by omega)
  have o1 := g_srt_o u (j := 1) (by omega)
  have cl : ∀ d, d < g_srt B 1 → g_srt B (22 + d) < g_srt B (36 + d) ∧ g_srt B (36 + d) < B 0 := fun d hd => by
    have := wT_c w hd
    rw [o0] at this
    exact this
  have bit : ∀ a b, a < b → b < B 0 → ((g_M B 16383 a).testBit b = true ↔ ∃ d, d < g_srt B 1 ∧ g_kt (g_srt B) d = 16 * a + b) := fun a b hab hb => by
    rw [g_Mj wb.2.1, Bool.and_eq_true, decide_eq_true_eq, decide_eq_true_eq, ← g_srt_cut u, g_cut_iff]
    constructor
    · rintro ⟨_, d, hd, ha⟩
      have c := cl d hd
      rw [g_adj_iff] at ha
      refine ⟨d, hd, ?_⟩
      unfold g_kt
      omega
    · rintro ⟨d, hd, e⟩
      have c := cl d hd
      unfold g_kt at e
      refine ⟨by omega, d, hd, ?_⟩
      rw [g_adj_iff]
      omega
  have st : g_cn (g_srt B) (16 * 0 + 1) = 0 := by
    unfold g_cn
    refine fb_ct_zero.mpr (fun d hd => decide_eq_false ?_)
    have := cl d hd
    unfold g_kt
    omega
  have body : ∃ S', f_X1_numberCuts_4 Q 1000 (nI (g_cn (g_srt B) (16 * 0 + (0 + 1)))) (nI 0) S = some ((), S') ∧ x_fr (fun q _ => q = Q + 4 ∨ q = Q + 5) S S' ∧ cNm (g_srt B) Q (B 1) S' := by
    refine x_forI (F := fun n a S => f_X1_numberCuts_4 Q n (nI (g_cn (g_srt B) (16 * a + (a + 1)))) (nI a) S) (N := B 0) (I := fun a S1 => x_fr (fun q _ => q = Q + 4 ∨ q = Q + 5) S S1 ∧ cNm (g_srt B) Q (g_cn (g_srt B) (16 * a + (a + 1))) S1) (G := fun γ => ∃ S', γ = some ((), S') ∧ x_fr (fun q _ => q = Q + 4 ∨ q = Q + 5) S S' ∧ cNm (g_srt B) Q (B 1) S') ?_ ?_ (d := B 0) (a := 0) (n := 1000) (S := S) (by omega) (by omega) ⟨x_fr_rf, fun e he => by
      have z : g_cn (g_srt B) (16 * 0 + (0 + 1)) = 0 := st
      rw [z] at he
      exact absurd he (Nat.not_lt_zero e)⟩
    · intro n S1 ⟨h1, h2⟩
      have e0 : S1.1 Q 0 = nI (B 0) := by rw [h1.2 _ _ (by omega)]; exact h.1.1
      have all : g_cn (g_srt B) (16 * B 0 + (B 0 + 1)) = B 1 := by
        unfold g_cn
        have e : fb_ct (fun d => decide (g_kt (g_srt B) d < 16 * B 0 + (B 0 + 1))) (g_srt B 1) = fb_ct (fun d => decide (d < g_srt B 1)) (g_srt B 1) := fb_ct_cong (fun d hd => decide_eq_decide.mpr (by
          have := cl d hd
          unfold g_kt
          omega))
        rw [e, x_ctlt, if_pos (Nat.le_refl _), o1]
      rw [all] at h2
      refine ⟨S1, ?_, h1, h2⟩
      show f_X1_numberCuts_4 Q (n + 1) _ (nI (B 0)) S1 = _
      rw [f_X1_numberCuts_4, e0, if_pos (nI_le (Nat.le_refl _) (by omega))]
    · intro n a S1 ha ⟨h1, h2⟩ go
      have e0 : S1.1 Q 0 = nI (B 0) := by rw [h1.2 _ _ (by omega)]; exact h.1.1
      show ∃ S', f_X1_numberCuts_4 Q (n + 1) (nI (g_cn (g_srt B) (16 * a + (a + 1)))) (nI a) S1 = _ ∧ _
      rw [f_X1_numberCuts_4, e0, if_neg (nI_ge ha (by omega)), show (1 : Int32) = nI 1 from rfl, nI_add]
      refine x_forI (F := fun n2 b S => f_X1_numberCuts_16 Q (f_X1_numberCuts_4 Q n) n2 (nI (g_cn (g_srt B) (16 * a + b))) (nI a) (nI b) S) (N := B 0) (I := fun b S2 => a + 1 ≤ b ∧ x_fr (fun q _ => q = Q + 4 ∨ q = Q + 5) S S2 ∧ cNm (g_srt B) Q (g_cn (g_srt B) (16 * a + b)) S2) (G := fun γ => ∃ S', γ = some ((), S') ∧ x_fr (fun q _ => q = Q + 4 ∨ q = Q + 5) S S' ∧ cNm (g_srt B) Q (B 1) S') ?_ ?_ (d := B 0 - (a + 1)) (a := a + 1) (n := 1000) (S := S1) (by omega) (by omega) ⟨Nat.le_refl _, h1, h2⟩
      · intro n2 S2 ⟨_, k1, k2⟩
        have e02 : S2.1 Q 0 = nI (B 0) := by rw [k1.2 _ _ (by omega)]; exact h.1.1
        have gap : g_cn (g_srt B) (16 * (a + 1) + (a + 1 + 1)) = g_cn (g_srt B) (16 * a + B 0) := g_cn_gap (by omega) (fun d hd q => by
          have := cl d hd
          unfold g_kt at q
          omega)
        show ∃ S', f_X1_numberCuts_16 Q (f_X1_numberCuts_4 Q n) (n2 + 1) (nI (g_cn (g_srt B) (16 * a + B 0))) (nI a) (nI (B 0)) S2 = _ ∧ _
        rw [f_X1_numberCuts_16, e02, if_pos (nI_le (Nat.le_refl _) (by omega)), show (1 : Int32) = nI 1 from rfl, nI_add, ← gap]
        refine go S2 ⟨k1, ?_⟩
        rw [gap]; exact k2
      · intro n2 b S2 hb ⟨ab, k1, k2⟩ go2
        have e02 : S2.1 Q 0 = nI (B 0) := by rw [k1.2 _ _ (by omega)]; exact h.1.1
        have j2 : S2.1 (Q + 3) a = nI (g_M B 16383 a) := by rw [k1.2 _ _ (by omega)]; exact h.2.2.1 a (by omega)
        have ml := g_Mj_l (B := B) a
        show ∃ S', f_X1_numberCuts_16 Q (f_X1_numberCuts_4 Q n) (n2 + 1) (nI (g_cn (g_srt B) (16 * a + b))) (nI a) (nI b) S2 = _ ∧ _
        rw [f_X1_numberCuts_16, e02, if_neg (nI_ge hb (by omega)), if_pos ((x_in (by omega)).mpr (by omega)), nI_clamp (by omega), j2, b_has8 (by omega) (by omega), Option.bind_some]
        by_cases c : (g_M B 16383 a).testBit b = true
        · obtain ⟨d, hd, e⟩ := (bit a b (by omega) hb).mp c
          have at1 := (g_cn_at w hd).1
          have at2 := (g_cn_at w hd).2
          rw [e] at at1 at2
          have cd := cl d hd
          have d14 : d < 14 := by omega
          unfold g_kt at e
          rw [if_pos c, if_neg (c := nI 1 = 0) (by decide)]
          dsimp only
          rw [at1, if_neg (show ¬ (14 : Int32) ≤ nI d from nI_ge (b := 14) (by omega) (by omega)), if_pos ((x_in (by omega)).mpr (by omega)), if_pos ((x_in (by omega)).mpr (by omega)), nI_clamp (by omega), show (1 : Int32) = nI 1 from rfl, nI_add, nI_add, ← at2]
          rw [at1] at k2
          refine go2 _ ⟨by omega, x_fr_w (x_fr_w k1 (Or.inl rfl)) (Or.inr rfl), fun y hy => ?_⟩
          have hy' : y < d + 1 := by
            have : y < g_cn (g_srt B) (16 * a + b + 1) := hy
            omega
          by_cases z : y = d
          · rw [z]
            refine ⟨?_, ?_⟩
            · rw [b_wk (by omega), b_wh]; exact congrArg nI (by omega)
            · rw [b_wh]; exact congrArg nI (by omega)
          · have := k2 y (by omega)
            refine ⟨?_, ?_⟩
            · rw [b_wk (by omega), b_wj z]; exact this.1
            · rw [b_wj z, b_wk (by omega)]; exact this.2
        · have no : g_cn (g_srt B) (16 * a + b + 1) = g_cn (g_srt B) (16 * a + b) := g_cn_no (fun d hd e => c ((bit a b (by omega) hb).mpr ⟨d, hd, e⟩))
          rw [if_neg c, if_pos (c := nI 0 = 0) nI_0, show (1 : Int32) = nI 1 from rfl, nI_add, ← no]
          refine go2 S2 ⟨by omega, k1, ?_⟩
          have : cNm (g_srt B) Q (g_cn (g_srt B) (16 * a + b + 1)) S2 := by rw [no]; exact k2
          exact this
  rw [f_X1_numberCuts]
  have z : g_cn (g_srt B) (16 * 0 + (0 + 1)) = 0 := st
  rw [z] at body
  exact body
def wSe (Q : Nat) (q _j : Nat) : Prop := q = Q + 4 ∨ q = Q + 5 ∨ q = Q + 12 ∨ q = Q + 13
theorem s1_settle (u : uB B) (hQ : Q = 3 ∨ Q = 17) (h : cD B M Q S) : ∃ S', f_X1_settle Q S = some ((), S') ∧ x_fr (wSe Q) S S' ∧ cP (g_srt B) Q S' := by
  have wb := u.1
  have w := g_srt_w u
  have h0 := wT_b w
  have o0 := g_srt_o u (j := 0) (by omega)
  have o1 := g_srt_o u (j := 1) (by omega)
  have o2 := g_srt_o u (j := 2) (by omega)
  have o3 := g_srt_o u (j := 3) (by omega)
  obtain ⟨S1, r1, f1, n1⟩ := s1_nc u h
  have f1' : x_fr (wSe Q) S S1 := x_fr_sub f1 (fun q j hq => by unfold wSe; omega)
  have p1 : cP0 (g_srt B) Q S1 := by
    refine ⟨⟨?_, ?_, ?_, ?_⟩, fun k hk => ?_, fun c hc => ?_, fun p hp => ⟨?_, fun i hi => ?_⟩⟩
    · rw [f1.2 _ _ (by omega), o0]; exact h.1.1
    · rw [f1.2 _ _ (by omega), o1]; exact h.1.2.1
    · rw [f1.2 _ _ (by omega), o2]; exact h.1.2.2.1
    · rw [f1.2 _ _ (by omega), o3]; exact h.1.2.2.2.1
    · rw [o0] at hk
      rw [f1.2 _ _ (by omega), f1.2 _ _ (by omega), g_srt_o u (by omega), g_srt_o u (by omega)]; exact h.2.1 k hk
    · rw [o1] at hc
      exact n1 c hc
    · rw [o2] at hp
      rw [f1.2 _ _ (by omega), g_srt_o u (by omega)]; exact (h.2.2.2 p hp).1
    · rw [o2] at hp
      rw [g_srt_o u (by omega)] at hi
      rw [f1.2 _ _ (by omega), g_srt_o u (by omega)]; exact (h.2.2.2 p hp).2 i hi
  rw [f_X1_settle, r1, Option.bind_some]
  refine x_forI (F := fun n p S => f_X1_settle_6 Q n (nI p) S) (N := g_srt B 2) (I := fun p S2 => x_fr (fun q _ => q = Q + 12) S1 S2 ∧ ∀ i, i < p → S2.1 (Q + 12) i = nI (g_rc (g_srt B) i)) (G := fun γ => ∃ S', γ = some ((), S') ∧ x_fr (wSe Q) S S' ∧ cP (g_srt B) Q S') ?_ ?_ (d := g_srt B 2) (a := 0) (n := 1000) (S := S1) (by omega) (by omega) ⟨x_fr_rf, fun i hi => absurd hi (Nat.not_lt_zero i)⟩
  · intro n S2 ⟨h2, g2⟩
    have p2 := cP0_fr p1 h2 (fun q j q1 q2 q3 => by omega) h0.2.2.1
    show ∃ S', f_X1_settle_6 Q (n + 1) (nI (g_srt B 2)) S2 = _ ∧ _
    rw [f_X1_settle_6, p2.1.2.2.1, if_pos (nI_le (Nat.le_refl _) (by omega))]
    refine x_forI (F := fun n p S => f_X1_settle_33 Q n (nI p) S) (N := g_srt B 2) (I := fun p S3 => x_fr (fun q _ => q = Q + 13) S2 S3 ∧ ∀ i, i < p → S3.1 (Q + 13) i = nI (g_in (g_srt B) i)) (G := fun γ => ∃ S', γ = some ((), S') ∧ x_fr (wSe Q) S S' ∧ cP (g_srt B) Q S') ?_ ?_ (d := g_srt B 2) (a := 0) (n := 1000) (S := S2) (by omega) (by omega) ⟨x_fr_rf, fun i hi => absurd hi (Nat.not_lt_zero i)⟩
    · intro n3 S3 ⟨h3, g3⟩
      have p3 := cP0_fr p2 h3 (fun q j q1 q2 q3 => by omega) h0.2.2.1
      refine ⟨S3, ?_, x_fr_tr f1' (x_fr_tr (x_fr_sub h2 (fun q j hq => by unfold wSe; omega)) (x_fr_sub h3 (fun q j hq => by unfold wSe; omega))), p3, fun p hp => ⟨?_, g3 p hp⟩⟩
      · show f_X1_settle_33 Q (n3 + 1) (nI (g_srt B 2)) S3 = _
        rw [f_X1_settle_33, p3.1.2.2.1, if_pos (nI_le (Nat.le_refl _) (by omega))]
      · rw [h3.2 _ _ (by omega)]; exact g2 p hp
    · intro n3 p S3 hp ⟨h3, g3⟩ go
      have p3 := cP0_fr p2 h3 (fun q j q1 q2 q3 => by omega) h0.2.2.1
      show ∃ S', f_X1_settle_33 Q (n3 + 1) (nI p) S3 = _ ∧ _
      rw [f_X1_settle_33, p3.1.2.2.1, if_neg (nI_ge hp (by omega)), s1_in w p3 hp, Option.bind_some, if_pos ((x_in (by omega)).mpr (by omega)), nI_clamp (by omega), show (1 : Int32) = nI 1 from rfl, nI_add]
      apply go
      refine ⟨x_fr_w h3 rfl, fun i hi => ?_⟩
      by_cases z : i = p
      · rw [z, b_wh]
      · rw [b_wj z]; exact g3 i (by omega)
  · intro n p S2 hp ⟨h2, g2⟩ go
    have p2 := cP0_fr p1 h2 (fun q j q1 q2 q3 => by omega) h0.2.2.1
    show ∃ S', f_X1_settle_6 Q (n + 1) (nI p) S2 = _ ∧ _
    rw [f_X1_settle_6, p2.1.2.2.1, if_neg (nI_ge hp (by omega)), s1_rc w p2 hp, Option.bind_some, if_pos ((x_in (by omega)).mpr (by omega)), nI_clamp (by omega), show (1 : Int32) = nI 1 from rfl, nI_add]
    apply go
    refine ⟨x_fr_w h2 rfl, fun i hi => ?_⟩
    by_cases z : i = p
    · rw [z, b_wh]
    · rw [b_wj z]; exact g2 i (by omega)
end NUC
