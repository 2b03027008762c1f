/-! ===== pairs: who goes with whom ===== -/
def g_nkp (T : Nat → Nat) (s k : Nat) : Bool := (b_an s (2 ^ x_low s)).testBit k && decide (g_way T (x_low s) k + g_lp T 4 (b_an (b_an s (2 ^ x_low s)) (2 ^ k)) = g_lp T 4 s)
def g_nk (T : Nat → Nat) (s : Nat) : Nat := x_f1 (g_nkp T s) 9
def g_pp (T : Nat → Nat) : Nat → Nat → (Nat → Int32) → (Nat → Int32)
  | 0, _, π => π
  | f + 1, s, π => if s = 0 then π else g_pp T f (b_an (b_an s (2 ^ x_low s)) (2 ^ g_nk T s)) (upd (upd π (x_low s) (nI (g_nk T s))) (g_nk T s) (nI (x_low s)))
def g_D (T : Nat → Nat) (a s : Nat) : Nat := if b_an s a = 0 ∧ b_ct s 14 % 2 = 0 then g_lp T 4 s else 99999
theorem x_forA {γ : Type} {F : Nat → Nat → γ} {a0 N : Nat} {fin : γ} (hd : ∀ n, F (n + 1) N = fin) (hs : ∀ n k, a0 ≤ k → k < N → F (n + 1) k = F n (k + 1)) : ∀ {d a n : Nat}, a0 ≤ a → N = a + d → d < n → F n a = fin
  | 0, a, n, _, h, hn => by
    obtain ⟨m, rfl⟩ : ∃ m, n = m + 1 := ⟨n - 1, by omega⟩
    have : a = N := by omega
    subst this
    exact hd m
  | d + 1, a, n, h0, h, hn => by
    obtain ⟨m, rfl⟩ : ∃ m, n = m + 1 := ⟨n - 1, by omega⟩
    rw [hs m a h0 (by omega)]
    exact x_forA hd hs (d := d) (by omega) (by omega) (by omega)
section PP
variable {T : Nat → Nat} {P : Nat} {S : zS}
theorem g_nk_ok (w : wT T) {s j : Nat} (h : g_ev T s (j + 1)) (hj : j < 4) : g_nk T s < 9 ∧ (b_an s (2 ^ x_low s)).testBit (g_nk T s) = true ∧ g_way T (x_low s) (g_nk T s) + g_lp T 4 (b_an (b_an s (2 ^ x_low s)) (2 ^ g_nk T s)) = g_lp T 4 s := by
  obtain ⟨k0, hk0, hb0⟩ := g_ev_ex w h
  have hs0 := (g_ev_rest w h hb0).1
  have e1 := g_lp_ev w (j + 1) 4 s h (by omega)
  have e2 : g_lp T (j + 1) s = g_mn T (g_lp T j) (x_low s) (b_an s (2 ^ x_low s)) 1000000 9 := by rw [g_lp, if_neg hs0]
  obtain ⟨k, hk, h1, h2⟩ := g_mn_attain (T := T) (R := g_lp T j) (u := x_low s) (o := b_an s (2 ^ x_low s)) (z := 1000000) (n := 9) (by rw [← e2, ← e1.2]; omega)
  have e3 := g_lp_ev w j 4 _ (g_ev_rest w h h1).2.2.2.2.2.2 (by omega)
  have ex : g_nkp T s k = true := by
    unfold g_nkp
    rw [h1, e3.2, e1.2, e2, h2]
    simp
  have lt : g_nk T s < 9 := x_f1_ex hk ex
  have y := x_f1_yes lt
  unfold g_nkp at y
  rw [Bool.and_eq_true, decide_eq_true_eq] at y
  exact ⟨lt, y.1, y.2⟩
theorem x_ar_z {q i n : Nat} {x : Int32} {f : Nat → Int32} (h : i < n) : x_ar (z_w S q i x) q n f = x_ar S q n f := by
  refine x_zext (fun k j => ?_) rfl
  rw [x_ar_1, x_ar_1]
  by_cases c : k = q ∧ j < n
  · rw [if_pos c, if_pos c]
  · rw [if_neg c, if_neg c, b_w]
    by_cases e : k = q
    · rw [if_pos e, if_neg (by omega), e]
    · rw [if_neg e]
theorem z_w_row (S : zS) (q i : Nat) (x : Int32) : (z_w S q i x).1 q = upd (S.1 q) i x := by
  funext j
  rw [b_w, if_pos rfl]
  rfl
theorem s4_pu41 (w : wT T) (h : cP0 T P S) {s j d : Nat} (hs : g_ev T s (j + 1)) (hd : j + d < 4) (hP : P = 3 ∨ P = 17) (K : Int32 → Int32 → Int32 → zS → Option (Unit × zS)) : f_X4_pairUp_41 P K 1000 (nI s) (nI (g_lp T 4 s)) (nI d) (nI (x_low s)) (nI (b_an s (2 ^ x_low s))) (nI 0) S = K (nI (b_an (b_an s (2 ^ x_low s)) (2 ^ g_nk T s))) (nI (g_lp T 4 (b_an (b_an s (2 ^ x_low s)) (2 ^ g_nk T s)))) (nI (d + 1)) (z_w (z_w S 64 (x_low s) (nI (g_nk T s))) 64 (g_nk T s) (nI (x_low s))) := by
  have h0 := wT_b w
  have ok := g_nk_ok w hs (by omega)
  have r := g_ev_rest w hs ok.2.1
  have l1 := (g_lp_ev w (j + 1) 4 s hs (by omega)).1
  have o9 : b_an s (2 ^ x_low s) < 2 ^ 9 := b_an_lt hs.1
  have rest : ∀ k, (b_an s (2 ^ x_low s)).testBit k = true → k < T 0 ∧ f_X1_way P (nI (x_low s)) (nI k) S = some (nI (g_way T (x_low s) k), S) ∧ f_X4_leastPairs 6 P (nI (b_an (b_an s (2 ^ x_low s)) (2 ^ k))) (nI (d + 1)) S = some (nI (g_lp T 4 (b_an (b_an s (2 ^ x_low s)) (2 ^ k))), S) ∧ g_way T (x_low s) k ≤ 40 ∧ g_lp T 4 (b_an (b_an s (2 ^ x_low s)) (2 ^ k)) ≤ 1000000 := by
    intro k hk
    have r := g_ev_rest w hs hk
    have q := s4_lp w h (3 - d) 6 (b_an (b_an s (2 ^ x_low s)) (2 ^ k)) (by omega) (by omega) r.2.2.2.2.2.2.1 r.2.2.2.2.2.2.2.1
    rw [show 4 - (3 - d) = d + 1 from by omega] at q
    rw [(g_lp_ev w j (3 - d) _ r.2.2.2.2.2.2 (by omega)).2, ← (g_lp_ev w j 4 _ r.2.2.2.2.2.2 (by omega)).2] at q
    exact ⟨r.2.2.1, s1_way w h r.2.1 r.2.2.1, q, g_way_le w r.2.1 r.2.2.1, g_lp_le _ _⟩
  have hh := x_find (F := fun n k => f_X4_pairUp_41 P K n (nI s) (nI (g_lp T 4 s)) (nI d) (nI (x_low s)) (nI (b_an s (2 ^ x_low s))) (nI k) S) (N := 9) (p := g_nkp T s) (yes := fun k => K (nI (b_an (b_an s (2 ^ x_low s)) (2 ^ k))) (nI (g_lp T 4 (b_an (b_an s (2 ^ x_low s)) (2 ^ k)))) (nI (d + 1)) (z_w (z_w S 64 (x_low s) (nI k)) 64 k (nI (x_low s)))) (no := K (nI s) (nI (g_lp T 4 s)) (nI (d + 1)) S) ?_ ?_ (d := 9) (a := 0) (n := 1000) (by omega) (by omega)
  · refine Eq.trans hh ?_
    exact if_pos ok.1
  · intro n
    simp (disch := omega) only [f_X4_pairUp_41, x_l0, x_l1, x_l2, x_l3, x_l4, x_l5, x_l6, x_l7, x_l8, x_l9, x_l10, x_l12, x_l13, x_l14, x_l16, x_l18, x_l20, x_l22, x_l32, x_l36, x_l48, x_l50, x_l54, x_l57, x_l59, x_l74, x_l81, x_l99, x_l104, x_l107, x_l110, x_l112, x_l115, x_l117, x_l162, x_l255, x_l512, x_l99999, x_l1000000, nI_leI, nI_ltI, nI_eq, nI_add, pk_mul, nI_clamp, x_in, x_bit, x_b0, x_b1, x_b0n, fa_or, fa_and, fb_xorI, x_an, Option.bind_some, b_has8, b_has9, ↓reduceIte, not_true_eq_false, not_false_eq_true, x_nn, Bool.false_eq_true, x_ar_k, x_ar_in, x_ar_w, b_wk, b_wj, b_wh, b_w2, x_ar_2, if_pos, if_neg]
  · intro n k hk
    by_cases c : (b_an s (2 ^ x_low s)).testBit k = true
    · have rr := rest k c
      have low9 : x_low s < 9 := by omega
      by_cases c2 : g_way T (x_low s) k + g_lp T 4 (b_an (b_an s (2 ^ x_low s)) (2 ^ k)) = g_lp T 4 s
      · have y : g_nkp T s k = true := by unfold g_nkp; simp [c, c2]
        have e5 : nI (g_lp T 4 s) - nI (g_way T (x_low s) k) = nI (g_lp T 4 (b_an (b_an s (2 ^ x_low s)) (2 ^ k))) := by
          rw [pk_sub (by omega)]
          exact congrArg nI (by omega)
        have hP2 : cP0 T P (z_w (z_w S 64 (x_low s) (nI k)) 64 k (nI (x_low s))) := cP0_fr h (x_fr_w (x_fr_w (W := fun q _ => q = 64) x_fr_rf rfl) rfl) (fun q j q1 q2 => by omega) (by omega)
        have e6 := s1_way w hP2 r.2.1 rr.1
        rw [if_pos y]
        simp (disch := omega) only [f_X4_pairUp_41, x_l0, x_l1, x_l2, x_l3, x_l4, x_l5, x_l6, x_l7, x_l8, x_l9, x_l10, x_l12, x_l13, x_l14, x_l16, x_l18, x_l20, x_l22, x_l32, x_l36, x_l48, x_l50, x_l54, x_l57, x_l59, x_l74, x_l81, x_l99, x_l104, x_l107, x_l110, x_l112, x_l115, x_l117, x_l162, x_l255, x_l512, x_l99999, x_l1000000, nI_leI, nI_ltI, nI_eq, nI_add, pk_mul, nI_clamp, x_in, x_bit, x_b0, x_b1, x_b0n, fa_or, fa_and, fb_xorI, x_an, Option.bind_some, b_has8, b_has9, ↓reduceIte, not_true_eq_false, not_false_eq_true, x_nn, Bool.false_eq_true, x_ar_k, x_ar_in, x_ar_w, b_wk, b_wj, b_wh, b_w2, x_ar_2, x_leT, x_leF, x_ltT, x_ltF, x_eqT, x_eqF, c, rr.2.1, rr.2.2.1, e6, e5]
      · have y : ¬ g_nkp T s k = true := by unfold g_nkp; simp [c2]
        rw [if_neg y]
        simp (disch := omega) only [f_X4_pairUp_41, x_l0, x_l1, x_l2, x_l3, x_l4, x_l5, x_l6, x_l7, x_l8, x_l9, x_l10, x_l12, x_l13, x_l14, x_l16, x_l18, x_l20, x_l22, x_l32, x_l36, x_l48, x_l50, x_l54, x_l57, x_l59, x_l74, x_l81, x_l99, x_l104, x_l107, x_l110, x_l112, x_l115, x_l117, x_l162, x_l255, x_l512, x_l99999, x_l1000000, nI_leI, nI_ltI, nI_eq, nI_add, pk_mul, nI_clamp, x_in, x_bit, x_b0, x_b1, x_b0n, fa_or, fa_and, fb_xorI, x_an, Option.bind_some, b_has8, b_has9, ↓reduceIte, not_true_eq_false, not_false_eq_true, x_nn, Bool.false_eq_true, x_ar_k, x_ar_in, x_ar_w, b_wk, b_wj, b_wh, b_w2, x_ar_2, x_leT, x_leF, x_ltT, x_ltF, x_eqT, x_eqF, c, rr.2.1, rr.2.2.1]
    · have y : ¬ g_nkp T s k = true := by unfold g_nkp; simp [c]
      rw [if_neg y]
      simp (disch := omega) only [f_X4_pairUp_41, x_l0, x_l1, x_l2, x_l3, x_l4, x_l5, x_l6, x_l7, x_l8, x_l9, x_l10, x_l12, x_l13, x_l14, x_l16, x_l18, x_l20, x_l22, x_l32, x_l36, x_l48, x_l50, x_l54, x_l57, x_l59, x_l74, x_l81, x_l99, x_l104, x_l107, x_l110, x_l112, x_l115, x_l117, x_l162, x_l255, x_l512, x_l99999, x_l1000000, nI_leI, nI_ltI, nI_eq, nI_add, pk_mul, nI_clamp, x_in, x_bit, x_b0, x_b1, x_b0n, fa_or, fa_and, fb_xorI, x_an, Option.bind_some, b_has8, b_has9, ↓reduceIte, not_true_eq_false, not_false_eq_true, x_nn, Bool.false_eq_true, x_ar_k, x_ar_in, x_ar_w, b_wk, b_wj, b_wh, b_w2, x_ar_2, x_leT, x_leF, x_ltT, x_ltF, x_eqT, x_eqF, c]
theorem s4_pu (w : wT T) (hP : P = 3 ∨ P = 17) : ∀ j s d n (S : zS), cP0 T P S → g_ev T s j → j + d ≤ 4 → 4 - d < n → f_X4_pairUp_9 P n (nI s) (nI (g_lp T 4 s)) (nI d) S = some ((), x_ar S 64 9 (g_pp T j s (S.1 64)))
  | 0, s, d, n, S, h, hs, hd, hn => by
    obtain ⟨n, rfl⟩ : ∃ m, n = m + 1 := ⟨n - 1, by omega⟩
    have e : s = 0 := (b_ct_0 hs.1).mp hs.2.2
    subst e
    rw [f_X4_pairUp_9, g_pp, x_ar_self, if_pos (c := nI 0 = 0) nI_0]
    split <;> rfl
  | j + 1, s, d, n, S, h, hs, hd, hn => by
    obtain ⟨n, rfl⟩ : ∃ m, n = m + 1 := ⟨n - 1, by omega⟩
    have ok := g_nk_ok w hs (by omega)
    have r := g_ev_rest w hs ok.2.1
    have h0 := wT_b w
    have hs9 := hs.1
    have pu := s4_pu41 w h hs (d := d) (by omega) hP (f_X4_pairUp_9 P n)
    have hP2 : cP0 T P (z_w (z_w S 64 (x_low s) (nI (g_nk T s))) 64 (g_nk T s) (nI (x_low s))) := cP0_fr h (x_fr_w (x_fr_w (W := fun q _ => q = 64) x_fr_rf rfl) rfl) (fun q j q1 q2 => by omega) (by omega)
    have ih := s4_pu w hP j _ (d + 1) n _ hP2 r.2.2.2.2.2.2 (by omega) (by omega)
    rw [f_X4_pairUp_9, if_neg (show ¬ (4 : Int32) ≤ nI d from nI_ge (b := 4) (by omega) (by omega)), if_neg (nI_ne0 (by omega) (by omega)), b_tz r.1 hs9, Option.bind_some]
    show f_X4_pairUp_41 P (f_X4_pairUp_9 P n) 1000 (nI s) (nI (g_lp T 4 s)) (nI d) (nI (x_low s)) (nI s &&& ((nI 1 <<< (nI (x_low s) &&& 31)) ^^^ (-nI 1))) (nI 0) S = _
    rw [x_bit (by omega), x_an (by omega), pu, ih, z_w_row, z_w_row, x_ar_z (by omega), x_ar_z (by omega)]
    have e : g_pp T (j + 1) s (S.1 64) = g_pp T j (b_an (b_an s (2 ^ x_low s)) (2 ^ g_nk T s)) (upd (upd (S.1 64) (x_low s) (nI (g_nk T s))) (g_nk T s) (nI (x_low s))) := by rw [g_pp, if_neg r.1]
    rw [e]
/-! the reference's rows of least ways -/
theorem b_an_lt_s {s i : Nat} (hs : s < 2 ^ 9) (hi : i < 9) (h : s.testBit i = true) : b_an s (2 ^ i) < s := by
  have h1 := b_an_le s (2 ^ i)
  have h2 := b_ct_an (n := 9) (Nat.lt_trans hs (by decide)) hi h
  by_cases e : b_an s (2 ^ i) = s
  · rw [e] at h2; omega
  · omega
theorem g_D_le (a s : Nat) : g_D T a s ≤ 1000000 := by
  unfold g_D
  split
  · exact g_lp_le _ _
  · decide
/-- a set that is looked at -/
theorem g_D_ev (w : wT T) {a s : Nat} (ha : ∀ i, a.testBit i = true → i < T 0) (hs : s < 2 ^ 9) (h : b_an s a = 0 ∧ b_ct s 14 % 2 = 0) : g_ev T s (b_ct s 9 / 2) := by
  have e : b_ct s 14 = b_ct s 9 := b_ct_ext hs 5
  rw [e] at h
  refine ⟨hs, fun i hi => ha i ?_, by omega⟩
  have : (b_an s a).testBit i = false := by rw [h.1, Nat.zero_testBit]
  rw [b_an_bit (Nat.lt_trans hs (by decide)), hi] at this
  simpa using this
theorem g_D_mn (w : wT T) {a s : Nat} (ha : ∀ i, a.testBit i = true → i < T 0) (hs : s < 2 ^ 9) (h0 : s ≠ 0) (h : b_an s a = 0 ∧ b_ct s 14 % 2 = 0) : g_mn T (g_D T a) (x_low s) (b_an s (2 ^ x_low s)) 99999 9 = g_D T a s := by
  have ev := g_D_ev w ha hs h
  have ne : b_ct s 9 ≠ 0 := fun q => h0 ((b_ct_0 hs).mp q)
  have l9 : b_ct s 9 ≤ 9 := fb_ct_le _ _
  have hs31 : s < 2 ^ 31 := Nat.lt_trans hs (by decide)
  obtain ⟨j, hj⟩ : ∃ j, b_ct s 9 / 2 = j + 1 := ⟨b_ct s 9 / 2 - 1, by have := ev.2.2; omega⟩
  rw [hj] at ev
  have e1 : g_D T a s = g_lp T (j + 1) s := by
    unfold g_D
    rw [if_pos h, (g_lp_ev w (j + 1) 4 s ev (by omega)).2]
  rw [e1, g_lp, if_neg h0]
  have cg : g_mn T (g_D T a) (x_low s) (b_an s (2 ^ x_low s)) 99999 9 = g_mn T (g_lp T j) (x_low s) (b_an s (2 ^ x_low s)) 99999 9 := g_mn_cong (fun k _ hk => by
    have r := g_ev_rest w ev hk
    unfold g_D
    have o31 : b_an s (2 ^ x_low s) < 2 ^ 31 := b_an_lt hs31
    rw [if_pos]
    · exact (g_lp_ev w j 4 _ r.2.2.2.2.2.2 (by omega)).2
    · constructor
      · apply Nat.eq_of_testBit_eq
        intro i
        rw [b_an_bit (b_an_lt o31), Nat.zero_testBit]
        by_cases q : (b_an (b_an s (2 ^ x_low s)) (2 ^ k)).testBit i = true
        · have q1 := ((x_an_bit hs31).mp ((x_an_bit o31).mp q).1).1
          have q2 : (b_an s a).testBit i = false := by rw [h.1, Nat.zero_testBit]
          rw [b_an_bit hs31, q1] at q2
          rw [q]
          exact q2
        · have q' : (b_an (b_an s (2 ^ x_low s)) (2 ^ k)).testBit i = false := by simpa using q
          rw [q']; rfl
      · rw [b_ct_ext r.2.2.2.2.2.2.1 5, r.2.2.2.2.2.2.2.2]
        omega)
  rw [cg]
  obtain ⟨k0, hk0, hb0⟩ := g_ev_ex w ev
  exact ((g_mn_z (T := T) (R := g_lp T j) (u := x_low s) (o := b_an s (2 ^ x_low s)) (y := 99999) (z := 1000000) (m := 40 * (j + 1)) (by omega) (by omega) 9 (fun k _ hk => by
    have r := g_ev_rest w ev hk
    have l1 := g_way_le w r.2.1 r.2.2.1
    have l2 := (g_lp_ev w j j _ r.2.2.2.2.2.2 (Nat.le_refl j)).1
    omega)).1 ⟨k0, hk0, hb0⟩).1
theorem g_mn_0 {R : Nat → Nat} {u o z : Nat} : ∀ {n : Nat}, (∀ k, k < n → o.testBit k = false) → g_mn T R u o z n = z
  | 0, _ => rfl
  | n + 1, h => by
    rw [g_mn, h n (by omega), if_neg (by decide)]
    exact g_mn_0 (fun k hk => h k (by omega))
theorem s9_pairs51 (w : wT T) (h : mT T 89 S) {a s : Nat} (ha : ∀ i, a.testBit i = true → i < T 0) (hs : s < 2 ^ 9) (h0 : s ≠ 0) (hg : b_an s a = 0 ∧ b_ct s 14 % 2 = 0) (K : Int32 → Int32 → zS → Option (Unit × zS)) : f_X9_pairs_51 K 1000 (nI a) (nI s) (nI (x_low s)) (nI (x_low s + 1)) (z_w (x_ar S 102 s (fun s => nI (g_D T a s))) 102 s (nI 99999)) = K (nI a) (nI (s + 1)) (x_ar S 102 (s + 1) (fun s => nI (g_D T a s))) := by
  have hb := wT_b w
  have hl := x_low_yes h0 hs
  have hs31 : s < 2 ^ 31 := Nat.lt_trans hs (by decide)
  have evb := (g_D_ev w ha hs hg).2.1
  have lowT := evb _ hl.2.1
  have st : g_mn T (g_D T a) (x_low s) (b_an s (2 ^ x_low s)) 99999 (x_low s + 1) = 99999 := g_mn_0 (fun k hk => by
    by_cases q : (b_an s (2 ^ x_low s)).testBit k = true
    · have q1 := (x_an_bit hs31).mp q
      have := hl.2.2 k (by omega)
      rw [q1.1] at this
      cases this
    · simpa using q)
  have hh := x_forA (a0 := x_low s + 1) (F := fun m v => f_X9_pairs_51 K m (nI a) (nI s) (nI (x_low s)) (nI v) (z_w (x_ar S 102 s (fun s => nI (g_D T a s))) 102 s (nI (g_mn T (g_D T a) (x_low s) (b_an s (2 ^ x_low s)) 99999 v)))) (N := 9) (fin := K (nI a) (nI (s + 1)) (x_ar S 102 (s + 1) (fun s => nI (g_D T a s)))) ?_ ?_ (d := 9 - (x_low s + 1)) (a := x_low s + 1) (n := 1000) (Nat.le_refl _) (by omega) (by omega)
  · rw [st] at hh
    exact hh
  · intro m
    rw [g_D_mn w ha hs h0 hg]
    simp (disch := omega) only [f_X9_pairs_51, x_l0, x_l1, x_l2, x_l3, x_l4, x_l5, x_l6, x_l7, x_l8, x_l9, x_l10, x_l12, x_l13, x_l14, x_l16, x_l18, x_l20, x_l22, x_l32, x_l36, x_l48, x_l50, x_l54, x_l57, x_l59, x_l74, x_l81, x_l99, x_l104, x_l107, x_l110, x_l112, x_l115, x_l117, x_l162, x_l255, x_l512, x_l99999, x_l1000000, nI_leI, nI_ltI, nI_eq, nI_add, pk_mul, nI_clamp, x_in, x_bit, x_b0, x_b1, x_b0n, fa_or, fa_and, fb_xorI, x_an, Option.bind_some, b_has8, b_has9, ↓reduceIte, not_true_eq_false, not_false_eq_true, x_nn, Bool.false_eq_true, x_ar_k, x_ar_in, x_ar_w, b_wk, b_wj, b_wh, b_w2, x_ar_2, if_pos, if_neg]
    rw [x_ar_s S 102 s (fun s => nI (g_D T a s))]
  · intro m v hu hv
    have gl := g_mn_le (T := T) (g_D T a) (x_low s) (b_an s (2 ^ x_low s)) 99999 v
    have o9 : b_an s (2 ^ x_low s) < 2 ^ 9 := b_an_lt hs
    have o31 : b_an s (2 ^ x_low s) < 2 ^ 31 := Nat.lt_trans o9 (by decide)
    have m2 : mT T 89 (z_w (x_ar S 102 s (fun s => nI (g_D T a s))) 102 s (nI (g_mn T (g_D T a) (x_low s) (b_an s (2 ^ x_low s)) 99999 v))) := fun j hj => by rw [b_wk (by omega), x_ar_k (by omega)]; exact h j hj
    by_cases c : s.testBit v = true
    · have co : (b_an s (2 ^ x_low s)).testBit v = true := (x_an_bit hs31).mpr ⟨c, by omega⟩
      have vT := evb v c
      have l1 := b_an_lt_s hs hl.1 hl.2.1
      have l2 := b_an_le (b_an s (2 ^ x_low s)) (2 ^ v)
      have l3 := g_D_le (T := T) a (b_an (b_an s (2 ^ x_low s)) (2 ^ v))
      have l4 := g_way_le w lowT vT
      have wy := s9_way w m2 lowT vT
      simp (disch := omega) only [f_X9_pairs_51, f_X9_pairs_123, x_l0, x_l1, x_l2, x_l3, x_l4, x_l5, x_l6, x_l7, x_l8, x_l9, x_l10, x_l12, x_l13, x_l14, x_l16, x_l18, x_l20, x_l22, x_l32, x_l36, x_l48, x_l50, x_l54, x_l57, x_l59, x_l74, x_l81, x_l99, x_l104, x_l107, x_l110, x_l112, x_l115, x_l117, x_l162, x_l255, x_l512, x_l99999, x_l1000000, nI_leI, nI_ltI, nI_eq, nI_add, pk_mul, nI_clamp, x_in, x_bit, x_b0, x_b1, x_b0n, fa_or, fa_and, fb_xorI, x_an, Option.bind_some, b_has8, b_has9, ↓reduceIte, not_true_eq_false, not_false_eq_true, x_nn, Bool.false_eq_true, x_ar_k, x_ar_in, x_ar_w, b_wk, b_wj, b_wh, b_w2, x_ar_2, x_leT, x_leF, x_ltT, x_ltF, x_eqT, x_eqF, c, co, wy, z_ww, g_mn]
      by_cases q : g_way T (x_low s) v + g_D T a (b_an (b_an s (2 ^ x_low s)) (2 ^ v)) < g_mn T (g_D T a) (x_low s) (b_an s (2 ^ x_low s)) 99999 v
      · have q' : ¬ g_mn T (g_D T a) (x_low s) (b_an s (2 ^ x_low s)) 99999 v ≤ g_way T (x_low s) v + g_D T a (b_an (b_an s (2 ^ x_low s)) (2 ^ v)) := by omega
        rw [if_neg q', if_pos q]
      · have q' : g_mn T (g_D T a) (x_low s) (b_an s (2 ^ x_low s)) 99999 v ≤ g_way T (x_low s) v + g_D T a (b_an (b_an s (2 ^ x_low s)) (2 ^ v)) := by omega
        rw [if_pos q', if_neg q]
    · have co : ¬ (b_an s (2 ^ x_low s)).testBit v = true := fun q => c ((x_an_bit hs31).mp q).1
      simp (disch := omega) only [f_X9_pairs_51, x_l0, x_l1, x_l2, x_l3, x_l4, x_l5, x_l6, x_l7, x_l8, x_l9, x_l10, x_l12, x_l13, x_l14, x_l16, x_l18, x_l20, x_l22, x_l32, x_l36, x_l48, x_l50, x_l54, x_l57, x_l59, x_l74, x_l81, x_l99, x_l104, x_l107, x_l110, x_l112, x_l115, x_l117, x_l162, x_l255, x_l512, x_l99999, x_l1000000, nI_leI, nI_ltI, nI_eq, nI_add, pk_mul, nI_clamp, x_in, x_bit, x_b0, x_b1, x_b0n, fa_or, fa_and, fb_xorI, x_an, Option.bind_some, b_has8, b_has9, ↓reduceIte, not_true_eq_false, not_false_eq_true, x_nn, Bool.false_eq_true, x_ar_k, x_ar_in, x_ar_w, b_wk, b_wj, b_wh, b_w2, x_ar_2, x_leT, x_leF, x_ltT, x_ltF, x_eqT, x_eqF, c, co, g_mn]
theorem s9_pairs (w : wT T) (h : mT T 89 S) {a : Nat} (ha9 : a < 2 ^ 9) (ha : ∀ i, a.testBit i = true → i < T 0) : f_X9_pairs (nI a) S = some ((), x_ar S 102 512 (fun s => nI (g_D T a s))) := by
  unfold f_X9_pairs
  have e0 : z_w S 102 0 0 = x_ar S 102 1 (fun s => nI (g_D T a s)) := by
    have e1 : (0 : Int32) = nI (g_D T a 0) := by
      unfold g_D
      rw [if_pos]
      · rfl
      · exact ⟨Nat.zero_and _, by rw [(b_ct_0 (by decide)).mpr rfl]⟩
    rw [e1]
    have := x_ar_s S 102 0 (fun s => nI (g_D T a s))
    rw [x_ar_0] at this
    exact this
  rw [e0]
  refine x_forA (a0 := 1) (F := fun n s => f_X9_pairs_9 n (nI a) (nI s) (x_ar S 102 s (fun s => nI (g_D T a s)))) (N := 512) ?_ ?_ (d := 511) (a := 1) (n := 1000) (by omega) (by omega) (by omega)
  · intro n
    simp (disch := omega) only [f_X9_pairs_9, x_l0, x_l1, x_l2, x_l3, x_l4, x_l5, x_l6, x_l7, x_l8, x_l9, x_l10, x_l12, x_l13, x_l14, x_l16, x_l18, x_l20, x_l22, x_l32, x_l36, x_l48, x_l50, x_l54, x_l57, x_l59, x_l74, x_l81, x_l99, x_l104, x_l107, x_l110, x_l112, x_l115, x_l117, x_l162, x_l255, x_l512, x_l99999, x_l1000000, nI_leI, nI_ltI, nI_eq, nI_add, pk_mul, nI_clamp, x_in, x_bit, x_b0, x_b1, x_b0n, fa_or, fa_and, fb_xorI, x_an, Option.bind_some, b_has8, b_has9, ↓reduceIte, not_true_eq_false, not_false_eq_true, x_nn, Bool.false_eq_true, x_ar_k, x_ar_in, x_ar_w, b_wk, b_wj, b_wh, b_w2, x_ar_2, if_pos, if_neg]
  · intro n s h1 hs
    have hs9 : s < 2 ^ 9 := hs
    have an := b_an_le s a
    have on := b_ones (b := s) (by omega) (z_w (x_ar S 102 s (fun s => nI (g_D T a s))) 102 s (nI 99999))
    have lo := b_low (b := s) (by omega) hs9 (z_w (x_ar S 102 s (fun s => nI (g_D T a s))) 102 s (nI 99999))
    have ctl : b_ct s 14 ≤ 14 := fb_ct_le _ _
    have e2 := x_ar_s S 102 s (fun s => nI (g_D T a s))
    by_cases c1 : b_an s a = 0
    · by_cases c2 : b_ct s 14 % 2 = 0
      · have r := s9_pairs51 w h ha hs9 (by omega) ⟨c1, c2⟩ (f_X9_pairs_9 n)
        simp (disch := omega) only [f_X9_pairs_9, x_l0, x_l1, x_l2, x_l3, x_l4, x_l5, x_l6, x_l7, x_l8, x_l9, x_l10, x_l12, x_l13, x_l14, x_l16, x_l18, x_l20, x_l22, x_l32, x_l36, x_l48, x_l50, x_l54, x_l57, x_l59, x_l74, x_l81, x_l99, x_l104, x_l107, x_l110, x_l112, x_l115, x_l117, x_l162, x_l255, x_l512, x_l99999, x_l1000000, nI_leI, nI_ltI, nI_eq, nI_add, pk_mul, nI_clamp, x_in, x_bit, x_b0, x_b1, x_b0n, fa_or, fa_and, fb_xorI, x_an, Option.bind_some, b_has8, b_has9, ↓reduceIte, not_true_eq_false, not_false_eq_true, x_nn, Bool.false_eq_true, x_ar_k, x_ar_in, x_ar_w, b_wk, b_wj, b_wh, b_w2, x_ar_2, x_leT, x_leF, x_ltT, x_ltF, x_eqT, x_eqF, c1, on, lo, pk_rem]
        exact r
      · have e3 : g_D T a s = 99999 := by unfold g_D; rw [if_neg (fun q => c2 q.2)]
        simp only [e3] at e2
        simp (disch := omega) only [f_X9_pairs_9, x_l0, x_l1, x_l2, x_l3, x_l4, x_l5, x_l6, x_l7, x_l8, x_l9, x_l10, x_l12, x_l13, x_l14, x_l16, x_l18, x_l20, x_l22, x_l32, x_l36, x_l48, x_l50, x_l54, x_l57, x_l59, x_l74, x_l81, x_l99, x_l104, x_l107, x_l110, x_l112, x_l115, x_l117, x_l162, x_l255, x_l512, x_l99999, x_l1000000, nI_leI, nI_ltI, nI_eq, nI_add, pk_mul, nI_clamp, x_in, x_bit, x_b0, x_b1, x_b0n, fa_or, fa_and, fb_xorI, x_an, Option.bind_some, b_has8, b_has9, ↓reduceIte, not_true_eq_false, not_false_eq_true, x_nn, Bool.false_eq_true, x_ar_k, x_ar_in, x_ar_w, b_wk, b_wj, b_wh, b_w2, x_ar_2, x_leT, x_leF, x_ltT, x_ltF, x_eqT, x_eqF, c1, on, pk_rem]
        rw [← e2]
    · have e3 : g_D T a s = 99999 := by unfold g_D; rw [if_neg (fun q => c1 q.1)]
      simp only [e3] at e2
      simp (disch := omega) only [f_X9_pairs_9, x_l0, x_l1, x_l2, x_l3, x_l4, x_l5, x_l6, x_l7, x_l8, x_l9, x_l10, x_l12, x_l13, x_l14, x_l16, x_l18, x_l20, x_l22, x_l32, x_l36, x_l48, x_l50, x_l54, x_l57, x_l59, x_l74, x_l81, x_l99, x_l104, x_l107, x_l110, x_l112, x_l115, x_l117, x_l162, x_l255, x_l512, x_l99999, x_l1000000, nI_leI, nI_ltI, nI_eq, nI_add, pk_mul, nI_clamp, x_in, x_bit, x_b0, x_b1, x_b0n, fa_or, fa_and, fb_xorI, x_an, Option.bind_some, b_has8, b_has9, ↓reduceIte, not_true_eq_false, not_false_eq_true, x_nn, Bool.false_eq_true, x_ar_k, x_ar_in, x_ar_w, b_wk, b_wj, b_wh, b_w2, x_ar_2, x_leT, x_leF, x_ltT, x_ltF, x_eqT, x_eqF]
      rw [← e2]
end PP
