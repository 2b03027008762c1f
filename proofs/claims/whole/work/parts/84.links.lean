/-! ===== hands shaken: an even number of odd ones ===== -/
def x_sm (f : Nat → Nat) : Nat → Nat
  | 0 => 0
  | n + 1 => x_sm f n + f n
theorem x_sm_cong {f g : Nat → Nat} : ∀ {n : Nat}, (∀ k, k < n → f k = g k) → x_sm f n = x_sm g n
  | 0, _ => rfl
  | n + 1, h => by rw [x_sm, x_sm, x_sm_cong (fun k hk => h k (by omega)), h n (by omega)]
theorem x_sm_add (f g : Nat → Nat) : ∀ n, x_sm (fun k => f k + g k) n = x_sm f n + x_sm g n
  | 0 => rfl
  | n + 1 => by rw [x_sm, x_sm, x_sm, x_sm_add f g n]; omega
theorem x_sm_0 {f : Nat → Nat} : ∀ {n : Nat}, (∀ k, k < n → f k = 0) → x_sm f n = 0
  | 0, _ => rfl
  | n + 1, h => by rw [x_sm, x_sm_0 (fun k hk => h k (by omega)), h n (by omega)]
theorem x_sm_pos {f : Nat → Nat} : ∀ {n : Nat}, 0 < x_sm f n → ∃ k, k < n ∧ 0 < f k
  | 0, h => absurd h (by rw [x_sm]; omega)
  | n + 1, h => by
    rw [x_sm] at h
    by_cases c : 0 < f n
    · exact ⟨n, by omega, c⟩
    · obtain ⟨k, hk, h2⟩ := x_sm_pos (f := f) (n := n) (by omega)
      exact ⟨k, by omega, h2⟩
theorem x_sm_ge {f : Nat → Nat} : ∀ {n k : Nat}, k < n → f k ≤ x_sm f n
  | n + 1, k, h => by
    rw [x_sm]
    by_cases e : k = n
    · subst e; omega
    · have := x_sm_ge (f := f) (n := n) (k := k) (by omega)
      omega
theorem x_sm_ct (p : Nat → Bool) : ∀ n, fb_ct p n = x_sm (fun k => if p k = true then 1 else 0) n
  | 0 => rfl
  | n + 1 => by rw [fb_ct_succ, x_sm, x_sm_ct p n]
theorem x_sm_par (f : Nat → Nat) : ∀ n, x_sm f n % 2 = fb_ct (fun k => decide (f k % 2 = 1)) n % 2
  | 0 => rfl
  | n + 1 => by
    have := x_sm_par f n
    rw [x_sm, fb_ct_succ]
    by_cases c : f n % 2 = 1
    · simp only [c, decide_true, if_true]; omega
    · simp only [c, decide_false]
      have : (if false = true then 1 else 0) = 0 := rfl
      omega
theorem x_hand {d : Nat → Nat → Nat} (hs : ∀ u v, d u v = d v u) (h0 : ∀ u, d u u = 0) : ∀ n, x_sm (fun u => x_sm (d u) n) n % 2 = 0
  | 0 => rfl
  | n + 1 => by
    have ih := x_hand hs h0 n
    have e1 : x_sm (fun u => x_sm (d u) (n + 1)) n = x_sm (fun u => x_sm (d u) n) n + x_sm (fun u => d u n) n := by
      rw [← x_sm_add]
      exact x_sm_cong (fun k _ => rfl)
    have e2 : x_sm (d n) n = x_sm (fun u => d u n) n := x_sm_cong (fun k _ => hs n k)
    have e3 : x_sm (d n) (n + 1) = x_sm (d n) n + d n n := rfl
    rw [x_sm, e1, e3, h0, e2]
    omega
/-- in what hangs together an even number is odd -/
theorem x_hand2 {d : Nat → Nat → Nat} {C : Nat → Bool} {n : Nat} (hs : ∀ u v, d u v = d v u) (h0 : ∀ u, d u u = 0) (hc : ∀ u v, u < n → v < n → d u v ≠ 0 → C u = C v) : fb_ct (fun k => C k && decide (x_sm (d k) n % 2 = 1)) n % 2 = 0 := by
  have h := x_hand (d := fun u v => if (C u && C v) = true then d u v else 0) (fun u v => by rw [hs u v, Bool.and_comm]) (fun u => by rw [h0]; split <;> rfl) n
  rw [x_sm_par] at h
  rw [← h]
  congr 1
  refine fb_ct_cong (fun k hk => ?_)
  by_cases c : C k = true
  · have e : x_sm (fun v => if (C k && C v) = true then d k v else 0) n = x_sm (d k) n := x_sm_cong (fun v hv => by
      by_cases z : d k v = 0
      · rw [z]; split <;> rfl
      · rw [← hc k v hk hv z, c]; rfl)
    show (C k && decide (x_sm (d k) n % 2 = 1)) = decide (x_sm (fun v => if (C k && C v) = true then d k v else 0) n % 2 = 1)
    rw [e, c]
    rfl
  · have e : x_sm (fun v => if (C k && C v) = true then d k v else 0) n = 0 := x_sm_0 (fun v _ => by
      rw [if_neg (by simp [c])])
    show (C k && decide (x_sm (d k) n % 2 = 1)) = decide (x_sm (fun v => if (C k && C v) = true then d k v else 0) n % 2 = 1)
    rw [e]
    simp [c]
theorem b_ct_mk (p : Nat → Bool) (n : Nat) : b_ct (x_mk p n) n = fb_ct p n := fb_ct_cong (fun k hk => by rw [x_mk_bit]; simp [hk])
section OD
variable {T : Nat → Nat} {b : Nat}
theorem g_od_bit {p i : Nat} : (g_od T b p).testBit i = true ↔ i < 9 ∧ g_root T b i = g_pr T b p ∧ g_deg T b i % 2 = 1 := by
  unfold g_od
  rw [x_mk_bit, Bool.and_eq_true, Bool.and_eq_true, decide_eq_true_eq, decide_eq_true_eq, decide_eq_true_eq]
theorem g_od_ev (w : wT T) (p : Nat) : g_ev T (g_od T b p) (b_ct (g_od T b p) 9 / 2) := by
  have h0 := wT_b w
  refine ⟨g_od_lt p, fun i hi => ?_, ?_⟩
  · have := g_od_bit.mp hi
    exact g_deg_in w (by omega : 0 < g_deg T b i)
  · have h := x_hand2 (d := fun u v => if (g_M T b u).testBit v = true then 1 else 0) (C := fun k => decide (g_root T b k = g_pr T b p)) (n := 9) (fun u v => by
      by_cases c : (g_M T b u).testBit v = true
      · rw [if_pos c, if_pos (g_M_sy w u v c)]
      · rw [if_neg c, if_neg (fun q => c (g_M_sy w v u q))]) (fun u => by
      by_cases c : (g_M T b u).testBit u = true
      · exact absurd rfl (g_M_in w c).2.2
      · rw [if_neg c]) (fun u v hu hv hd => by
      by_cases c : (g_M T b u).testBit v = true
      · have : g_root T b u = g_root T b v := (g_root_eq w hu hv).mpr (x_con_st x_con_rf c)
        rw [this]
      · rw [if_neg c] at hd; exact absurd rfl hd)
    have e : b_ct (g_od T b p) 9 = fb_ct (fun k => decide (g_root T b k = g_pr T b p) && decide (x_sm (fun v => if (g_M T b k).testBit v = true then 1 else 0) 9 % 2 = 1)) 9 := by
      unfold g_od
      rw [b_ct_mk]
      refine fb_ct_cong (fun k _ => ?_)
      have : x_sm (fun v => if (g_M T b k).testBit v = true then 1 else 0) 9 = g_deg T b k := by
        rw [← g_M_ct w k, ← x_sm_ct]
        rfl
      rw [this]
    rw [← e] at h
    omega
theorem g_od_dis {p q i : Nat} (hp : p < g_np T b) (hq : q < g_np T b) (h1 : (g_od T b p).testBit i = true) (h2 : (g_od T b q).testBit i = true) : p = q :=
  g_pr_inj hp hq ((g_od_bit.mp h1).2.1.symm.trans (g_od_bit.mp h2).2.1)
end OD
/-! ===== who is paired with whom ===== -/
section PQ
variable {T : Nat → Nat} {b : Nat} {S : zS}
theorem g_pp_out (w : wT T) : ∀ j s (π : Nat → Int32) k, g_ev T s j → j ≤ 4 → ¬ s.testBit k = true → g_pp T j s π k = π k
  | 0, s, π, k, _, _, _ => rfl
  | j + 1, s, π, k, hs, hj, hk => by
    have ok := g_nk_ok w hs (by omega)
    have r := g_ev_rest w hs ok.2.1
    have hs31 : s < 2 ^ 31 := Nat.lt_trans hs.1 (by decide)
    have o31 : b_an s (2 ^ x_low s) < 2 ^ 31 := b_an_lt hs31
    have hl := x_low_yes r.1 hs.1
    rw [g_pp, if_neg r.1, g_pp_out w j _ _ k r.2.2.2.2.2.2 (by omega) (fun q => hk ((x_an_bit hs31).mp ((x_an_bit o31).mp q).1).1)]
    have n1 : ¬ k = g_nk T s := fun e => hk (by rw [e]; exact r.2.2.2.2.2.1)
    have n2 : ¬ k = x_low s := fun e => hk (by rw [e]; exact hl.2.1)
    unfold upd
    rw [if_neg n1, if_neg n2]
theorem g_pp_in (w : wT T) : ∀ j s k, g_ev T s j → j ≤ 4 → s.testBit k = true → ∃ m, s.testBit m = true ∧ m ≠ k ∧ ∀ π : Nat → Int32, g_pp T j s π k = nI m ∧ g_pp T j s π m = nI k
  | 0, s, k, hs, _, hk => by
    have e : s = 0 := (b_ct_0 hs.1).mp hs.2.2
    rw [e, Nat.zero_testBit] at hk
    cases hk
  | j + 1, s, k, hs, hj, hk => by
    have ok := g_nk_ok w hs (by omega)
    have r := g_ev_rest w hs ok.2.1
    have hs31 : s < 2 ^ 31 := Nat.lt_trans hs.1 (by decide)
    have o31 : b_an s (2 ^ x_low s) < 2 ^ 31 := b_an_lt hs31
    have hl := x_low_yes r.1 hs.1
    have ev := r.2.2.2.2.2.2
    have st : ∀ π, g_pp T (j + 1) s π = g_pp T j (b_an (b_an s (2 ^ x_low s)) (2 ^ g_nk T s)) (upd (upd π (x_low s) (nI (g_nk T s))) (g_nk T s) (nI (x_low s))) := fun π => by rw [g_pp, if_neg r.1]
    have nin1 : ¬ (b_an (b_an s (2 ^ x_low s)) (2 ^ g_nk T s)).testBit (g_nk T s) = true := fun q => ((x_an_bit o31).mp q).2 rfl
    have nin2 : ¬ (b_an (b_an s (2 ^ x_low s)) (2 ^ g_nk T s)).testBit (x_low s) = true := fun q => ((x_an_bit hs31).mp ((x_an_bit o31).mp q).1).2 rfl
    have v1 : ∀ π, g_pp T (j + 1) s π (g_nk T s) = nI (x_low s) := fun π => by
      rw [st, g_pp_out w j _ _ _ ev (by omega) nin1]
      unfold upd
      rw [if_pos rfl]
    have v2 : ∀ π, g_pp T (j + 1) s π (x_low s) = nI (g_nk T s) := fun π => by
      rw [st, g_pp_out w j _ _ _ ev (by omega) nin2]
      unfold upd
      rw [if_neg (fun e => r.2.2.2.1 e.symm), if_pos rfl]
    by_cases c1 : k = g_nk T s
    · exact ⟨x_low s, hl.2.1, by rw [c1]; exact fun e => r.2.2.2.1 e.symm, fun π => ⟨by rw [c1]; exact v1 π, by rw [c1]; exact v2 π⟩⟩
    · by_cases c2 : k = x_low s
      · exact ⟨g_nk T s, r.2.2.2.2.2.1, fun e => c1 e.symm, fun π => ⟨by rw [c2]; exact v2 π, by rw [c2]; exact v1 π⟩⟩
      · obtain ⟨m, hm, hne, h⟩ := g_pp_in w j _ k ev (by omega) ((x_an_bit o31).mpr ⟨(x_an_bit hs31).mpr ⟨hk, c2⟩, c1⟩)
        exact ⟨m, ((x_an_bit hs31).mp ((x_an_bit o31).mp hm).1).1, hne, fun π => by rw [st]; exact h _⟩
/-- the mates of the odd corners of s -/
def g_mt (T : Nat → Nat) (s : Nat) : Nat → Int32 := g_pp T (b_ct s 9 / 2) s (fun _ => -nI 9)
/-- partners after p pieces -/
def g_pa (T : Nat → Nat) (b : Nat) : Nat → (Nat → Int32)
  | 0 => fun _ => -nI 9
  | p + 1 => g_pp T (b_ct (g_od T b p) 9 / 2) (g_od T b p) (g_pa T b p)
theorem x_ct9 (s : Nat) : b_ct s 9 / 2 ≤ 4 := by
  have : b_ct s 9 ≤ 9 := fb_ct_le _ _
  omega
theorem nI_n9 {m : Nat} (h : m < 2 ^ 31) : ¬ nI m = -nI 9 := by
  rw [fa_eq, nI_toInt h]
  have : (-nI 9 : Int32).toInt = -9 := by decide
  omega
theorem g_mt_cases (w : wT T) (p k : Nat) : ((g_od T b p).testBit k = true ∧ ∃ m, (g_od T b p).testBit m = true ∧ m ≠ k ∧ g_mt T (g_od T b p) k = nI m ∧ g_mt T (g_od T b p) m = nI k) ∨ (¬ (g_od T b p).testBit k = true ∧ g_mt T (g_od T b p) k = -nI 9) := by
  by_cases c : (g_od T b p).testBit k = true
  · obtain ⟨m, h1, h2, h3⟩ := g_pp_in w _ _ k (g_od_ev w p) (x_ct9 _) c
    exact Or.inl ⟨c, m, h1, h2, h3 _⟩
  · exact Or.inr ⟨c, g_pp_out w _ _ _ k (g_od_ev w p) (x_ct9 _) c⟩
theorem g_pa_succ (w : wT T) (p k : Nat) : g_pa T b (p + 1) k = if g_mt T (g_od T b p) k = -nI 9 then g_pa T b p k else g_mt T (g_od T b p) k := by
  rw [g_pa]
  by_cases c : (g_od T b p).testBit k = true
  · obtain ⟨m, h1, h2, h3⟩ := g_pp_in w _ _ k (g_od_ev w p) (x_ct9 _) c
    have e1 := (h3 (g_pa T b p)).1
    have e2 : g_mt T (g_od T b p) k = nI m := (h3 _).1
    have m9 := (g_od_bit.mp h1).1
    rw [e1, e2, if_neg (nI_n9 (by omega))]
  · rw [g_pp_out w _ _ _ k (g_od_ev w p) (x_ct9 _) c]
    have e2 : g_mt T (g_od T b p) k = -nI 9 := g_pp_out w _ _ _ k (g_od_ev w p) (x_ct9 _) c
    rw [e2, if_pos rfl]
/-- of a piece's odd corner -/
theorem g_pa_in (w : wT T) {p k : Nat} (hk : (g_od T b p).testBit k = true) (hp : p < g_np T b) : ∀ n, n ≤ g_np T b → p < n → g_pa T b n k = g_mt T (g_od T b p) k
  | 0, _, h => by omega
  | n + 1, hn, h => by
    rw [g_pa_succ w]
    by_cases e : p = n
    · subst e
      rcases g_mt_cases w (b := b) p k with ⟨_, m, h1, _, h3, _⟩ | ⟨h1, _⟩
      · have m9 := (g_od_bit.mp h1).1
        rw [h3, if_neg (nI_n9 (by omega))]
      · exact absurd hk h1
    · rcases g_mt_cases w (b := b) n k with ⟨h1, _⟩ | ⟨_, h2⟩
      · exact absurd (g_od_dis hp (by omega) hk h1) e
      · rw [h2, if_pos rfl]
        exact g_pa_in w hk hp n (by omega) (by omega)
theorem x_findA {γ : Type} {F : Nat → Nat → γ} {a0 N : Nat} {p : Nat → Bool} {yes : Nat → γ} {no : γ} (hd : ∀ n, F (n + 1) N = no) (hs : ∀ n k, a0 ≤ k → k < N → F (n + 1) k = if p k = true then yes k else F n (k + 1)) : ∀ {d a n : Nat}, a0 ≤ a → N = a + d → d < n → F n a = if x_fst p N d a < N then yes (x_fst p N d a) else no
  | 0, a, n, _, h, hn => by
    obtain ⟨m, rfl⟩ : ∃ m, n = m + 1 := ⟨n - 1, by omega⟩
    have : a = N := by omega
    subst this
    rw [hd m, x_fst, if_neg (by omega)]
  | d + 1, a, n, h0, h, hn => by
    obtain ⟨m, rfl⟩ : ∃ m, n = m + 1 := ⟨n - 1, by omega⟩
    rw [hs m a h0 (by omega), x_fst]
    by_cases hp : p a = true
    · rw [if_pos hp, if_pos hp, if_pos (by omega)]
    · rw [if_neg hp, if_neg hp]
      exact x_findA hd hs (d := d) (by omega) (by omega) (by omega)
theorem x_fst_skip {p : Nat → Bool} {N d a : Nat} (h : N = a + d) (hp : ∀ k, k < a → p k = false) : x_fst p N d a = x_f1 p N := by
  have h1 := x_fst_le p N d a h
  symm
  by_cases c : x_fst p N d a < N
  · refine x_f1_eq c (x_fst_yes p N d a h c) (fun j hj => ?_)
    by_cases e : j < a
    · exact hp j e
    · exact x_fst_no p N d a h j (by omega) hj
  · have e : x_fst p N d a = N := by omega
    rw [e]
    refine x_f1_none (fun k hk => ?_)
    by_cases e2 : k < a
    · exact hp k e2
    · exact x_fst_no p N d a h k (by omega) (by omega)
/-- the search may never come to its end -/
theorem x_findB {γ : Type} {F : Nat → Nat → γ} {a0 N : Nat} {p : Nat → Bool} {yes : Nat → γ} (hs : ∀ n k, a0 ≤ k → k < N → F (n + 1) k = if p k = true then yes k else F n (k + 1)) : ∀ {d a n : Nat}, a0 ≤ a → N = a + d → d ≤ n → x_fst p N d a < N → F n a = yes (x_fst p N d a)
  | 0, a, n, _, h, hn, hx => by rw [x_fst] at hx; omega
  | d + 1, a, n, h0, h, hn, hx => by
    obtain ⟨m, rfl⟩ : ∃ m, n = m + 1 := ⟨n - 1, by omega⟩
    rw [hs m a h0 (by omega)]
    rw [x_fst] at hx ⊢
    by_cases hp : p a = true
    · rw [if_pos hp, if_pos hp]
    · rw [if_neg hp] at hx ⊢
      rw [if_neg hp]
      exact x_findB hs (d := d) (by omega) (by omega) (by omega) hx
/-- the rows of least ways, at the subsets of a -/
def mD (T : Nat → Nat) (a : Nat) (S : zS) : Prop := ∀ s, s < 2 ^ 9 → (∀ i, s.testBit i = true → a.testBit i = true) → b_ct s 9 % 2 = 0 → S.1 102 s = nI (g_lp T 4 s)
theorem s9_links56 (w : wT T) (h : mT T 89 S) {a s j : Nat} (hD : mD T a S) (ha : ∀ i, s.testBit i = true → a.testBit i = true) (hs : g_ev T s (j + 1)) (hj : j < 4) (x : Int32) (K : Int32 → Int32 → zS → Option (Int32 × zS)) : f_X9_links_56 K 1000 (nI s) x (nI (x_low s)) (nI (x_low s + 1)) S = K (nI (b_an (b_an s (2 ^ x_low s)) (2 ^ g_nk T s))) x (z_w (z_w S 101 (x_low s) (nI (g_nk T s))) 101 (g_nk T s) (nI (x_low s))) := by
  have h0 := wT_b w
  have ok := g_nk_ok w hs (by omega)
  have r := g_ev_rest w hs ok.2.1
  have hs31 : s < 2 ^ 31 := Nat.lt_trans hs.1 (by decide)
  have o31 : b_an s (2 ^ x_low s) < 2 ^ 31 := b_an_lt hs31
  have hl := x_low_yes r.1 hs.1
  have sk : ∀ k, k < x_low s + 1 → g_nkp T s k = false := fun k hk => by
    have : (b_an s (2 ^ x_low s)).testBit k = false := by
      rw [b_an_bit hs31]
      by_cases e : k = x_low s
      · rw [e, Nat.testBit_two_pow]; simp
      · rw [hl.2.2 k (by omega)]; rfl
    unfold g_nkp
    rw [this]
    rfl
  have e9 : x_fst (g_nkp T s) 9 (9 - (x_low s + 1)) (x_low s + 1) = g_nk T s := x_fst_skip (by omega) sk
  have hh := x_findB (a0 := x_low s + 1) (F := fun n k => f_X9_links_56 K n (nI s) x (nI (x_low s)) (nI k) S) (N := 9) (p := g_nkp T s) (yes := fun k => K (nI (b_an (b_an s (2 ^ x_low s)) (2 ^ k))) x (z_w (z_w S 101 (x_low s) (nI k)) 101 k (nI (x_low s)))) ?_ (d := 9 - (x_low s + 1)) (a := x_low s + 1) (n := 1000) (Nat.le_refl _) (by omega) (by omega) (by rw [e9]; exact ok.1)
  · rw [e9] at hh
    exact hh
  · intro n k hk0 hk
    have hs9 := hs.1
    by_cases c : s.testBit k = true
    · have co : (b_an s (2 ^ x_low s)).testBit k = true := (x_an_bit hs31).mpr ⟨c, by omega⟩
      have rr := g_ev_rest w hs co
      have q9 := rr.2.2.2.2.2.2.1
      have wy := s9_way w h r.2.1 rr.2.2.1
      have l4 := g_way_le w r.2.1 rr.2.2.1
      have l5 := g_lp_le (T := T) 4 (b_an (b_an s (2 ^ x_low s)) (2 ^ k))
      have l6 := g_lp_le (T := T) 4 s
      have d1 := hD s hs9 ha (by have := hs.2.2; omega)
      have d2 := hD (b_an (b_an s (2 ^ x_low s)) (2 ^ k)) q9 (fun i hi => ha i ((x_an_bit hs31).mp ((x_an_bit o31).mp hi).1).1) (by have := rr.2.2.2.2.2.2.2.2; omega)
      have as : nI s &&& ((nI (2 ^ x_low s) ^^^ (-nI 1)) &&& (nI (2 ^ k) ^^^ (-nI 1))) = nI (b_an (b_an s (2 ^ x_low s)) (2 ^ k)) := by
        rw [← Int32.and_assoc, x_an hs31, x_an o31]
      by_cases c2 : g_way T (x_low s) k + g_lp T 4 (b_an (b_an s (2 ^ x_low s)) (2 ^ k)) = g_lp T 4 s
      · have y : g_nkp T s k = true := by unfold g_nkp; simp [co, c2]
        rw [if_pos y]
        simp (disch := omega) only [f_X9_links_56, x_l0, x_l1, x_l2, x_l3, x_l4, x_l5, x_l6, x_l7, x_l8, x_l9, x_l10, x_l12, x_l13, x_l14, x_l16, x_l18, x_l20, x_l22, x_l32, x_l36, x_l48, x_l50, x_l54, x_l57, x_l59, x_l74, x_l81, x_l99, x_l104, x_l107, x_l110, x_l112, x_l115, x_l117, x_l162, x_l255, x_l512, x_l99999, x_l1000000, nI_leI, nI_ltI, nI_eq, nI_add, pk_mul, nI_clamp, x_in, x_bit, x_b0, x_b1, x_b0n, fa_or, fa_and, fb_xorI, x_an, Option.bind_some, b_has8, b_has9, ↓reduceIte, not_true_eq_false, not_false_eq_true, x_nn, Bool.false_eq_true, x_ar_k, x_ar_in, x_ar_w, b_wk, b_wj, b_wh, b_w2, x_ar_2, x_leT, x_leF, x_ltT, x_ltF, x_eqT, x_eqF, c, wy, d1, d2, as]
      · have y : ¬ g_nkp T s k = true := by unfold g_nkp; simp [c2]
        rw [if_neg y]
        simp (disch := omega) only [f_X9_links_56, x_l0, x_l1, x_l2, x_l3, x_l4, x_l5, x_l6, x_l7, x_l8, x_l9, x_l10, x_l12, x_l13, x_l14, x_l16, x_l18, x_l20, x_l22, x_l32, x_l36, x_l48, x_l50, x_l54, x_l57, x_l59, x_l74, x_l81, x_l99, x_l104, x_l107, x_l110, x_l112, x_l115, x_l117, x_l162, x_l255, x_l512, x_l99999, x_l1000000, nI_leI, nI_ltI, nI_eq, nI_add, pk_mul, nI_clamp, x_in, x_bit, x_b0, x_b1, x_b0n, fa_or, fa_and, fb_xorI, x_an, Option.bind_some, b_has8, b_has9, ↓reduceIte, not_true_eq_false, not_false_eq_true, x_nn, Bool.false_eq_true, x_ar_k, x_ar_in, x_ar_w, b_wk, b_wj, b_wh, b_w2, x_ar_2, x_leT, x_leF, x_ltT, x_ltF, x_eqT, x_eqF, c, wy, d1, d2]
    · have y : ¬ g_nkp T s k = true := by
        unfold g_nkp
        have : (b_an s (2 ^ x_low s)).testBit k = false := by rw [b_an_bit hs31]; simp [c]
        rw [this]
        simp
      rw [if_neg y]
      simp (disch := omega) only [f_X9_links_56, x_l0, x_l1, x_l2, x_l3, x_l4, x_l5, x_l6, x_l7, x_l8, x_l9, x_l10, x_l12, x_l13, x_l14, x_l16, x_l18, x_l20, x_l22, x_l32, x_l36, x_l48, x_l50, x_l54, x_l57, x_l59, x_l74, x_l81, x_l99, x_l104, x_l107, x_l110, x_l112, x_l115, x_l117, x_l162, x_l255, x_l512, x_l99999, x_l1000000, nI_leI, nI_ltI, nI_eq, nI_add, pk_mul, nI_clamp, x_in, x_bit, x_b0, x_b1, x_b0n, fa_or, fa_and, fb_xorI, x_an, Option.bind_some, b_has8, b_has9, ↓reduceIte, not_true_eq_false, not_false_eq_true, x_nn, Bool.false_eq_true, x_ar_k, x_ar_in, x_ar_w, b_wk, b_wj, b_wh, b_w2, x_ar_2, x_leT, x_leF, x_ltT, x_ltF, x_eqT, x_eqF, c]
theorem s9_links40 (w : wT T) {a : Nat} (x : Int32) : ∀ j s n (S : zS), mT T 89 S → mD T a S → (∀ i, s.testBit i = true → a.testBit i = true) → g_ev T s j → j ≤ 4 → j < n → f_X9_links_40 n (nI s) x S = some (x, x_ar S 101 9 (g_pp T j s (S.1 101)))
  | 0, s, n, S, h, hD, ha, hs, hj, hn => by
    obtain ⟨n, rfl⟩ : ∃ m, n = m + 1 := ⟨n - 1, by omega⟩
    have e : s = 0 := (b_ct_0 hs.1).mp hs.2.2
    subst e
    rw [f_X9_links_40, g_pp, x_ar_self, if_pos (c := nI 0 = 0) nI_0]
  | j + 1, s, n, S, h, hD, ha, hs, hj, hn => by
    obtain ⟨n, rfl⟩ : ∃ m, n = m + 1 := ⟨n - 1, by omega⟩
    have ok := g_nk_ok w hs (by omega)
    have r := g_ev_rest w hs ok.2.1
    have h0 := wT_b w
    have hs9 := hs.1
    have hs31 : s < 2 ^ 31 := Nat.lt_trans hs.1 (by decide)
    have o31 : b_an s (2 ^ x_low s) < 2 ^ 31 := b_an_lt hs31
    have hh := s9_links56 w h hD ha hs (by omega) x (f_X9_links_40 n)
    have h2 : mT T 89 (z_w (z_w S 101 (x_low s) (nI (g_nk T s))) 101 (g_nk T s) (nI (x_low s))) := fun i hi => by rw [b_wk (by omega), b_wk (by omega)]; exact h i hi
    have hD2 : mD T a (z_w (z_w S 101 (x_low s) (nI (g_nk T s))) 101 (g_nk T s) (nI (x_low s))) := fun i h1 h2 h3 => by rw [b_wk (by omega), b_wk (by omega)]; exact hD i h1 h2 h3
    have ih := s9_links40 w (a := a) x j _ n _ h2 hD2 (fun i hi => ha i ((x_an_bit hs31).mp ((x_an_bit o31).mp hi).1).1) r.2.2.2.2.2.2 (by omega) (by omega)
    rw [f_X9_links_40, if_neg (nI_ne0 (by omega) (by omega)), b_low r.1 hs9, Option.bind_some]
    simp (disch := omega) only [x_l1, nI_add]
    rw [hh, ih, z_w_row, z_w_row, x_ar_z (by omega), x_ar_z (by omega)]
    have e : g_pp T (j + 1) s (S.1 101) = g_pp T j (b_an (b_an s (2 ^ x_low s)) (2 ^ g_nk T s)) (upd (upd (S.1 101) (x_low s) (nI (g_nk T s))) (g_nk T s) (nI (x_low s))) := by rw [g_pp, if_neg r.1]
    rw [e]
/-- the state after links -/
def mL (T : Nat → Nat) (s : Nat) (S : zS) : zS := x_ar (x_ar S 102 512 (fun i => nI (g_D T s i))) 101 9 (g_mt T s)
theorem s9_links (w : wT T) (h : mQ T b S) (hb : b < 2 ^ 31) {p : Nat} (hp : p < g_np T b) : f_X9_links (nI p) S = some (nI (g_lp T 4 (g_od T b p)), mL T (g_od T b p) S) := by
  have h0 := wT_b w
  have ev := g_od_ev (b := b) w p
  have o9 := ev.1
  rw [f_X9_links, s9_od w h hb hp, Option.bind_some]
  dsimp only
  have hh := x_for (F := fun n k => f_X9_links_8 n (nI (g_od T b p)) (nI k) (x_ar S 101 k (fun _ => -nI 9))) (N := 9) (fin := some (nI (g_lp T 4 (g_od T b p)), mL T (g_od T b p) S)) ?_ ?_ (d := 9) (a := 0) (n := 1000) (by omega) (by omega)
  · rw [x_ar_0] at hh
    exact hh
  · intro n
    have hm : mT T 89 (x_ar S 101 9 (fun _ => -nI 9)) := fun i hi => by rw [x_ar_k (by omega)]; exact h.1 i hi
    have pr := s9_pairs w hm o9 ev.2.1
    have hm2 : mT T 89 (x_ar (x_ar S 101 9 (fun _ => -nI 9)) 102 512 (fun s => nI (g_D T (g_od T b p) s))) := fun i hi => by rw [x_ar_k (by omega)]; exact hm i hi
    have hD : mD T (g_od T b p) (x_ar (x_ar S 101 9 (fun _ => -nI 9)) 102 512 (fun s => nI (g_D T (g_od T b p) s))) := fun s h1 h2 h3 => by
      rw [x_ar_in h1]
      unfold g_D
      rw [if_pos]
      refine ⟨?_, by rw [b_ct_ext h1 5]; exact h3⟩
      apply Nat.eq_of_testBit_eq
      intro i
      rw [b_an_bit (Nat.lt_trans h1 (by decide)), Nat.zero_testBit]
      by_cases q : s.testBit i = true
      · rw [q, h2 i q]; rfl
      · simp [q]
    have d1 := hD (g_od T b p) o9 (fun _ q => q) (by have := ev.2.2; omega)
    have l4 := s9_links40 w (nI (g_lp T 4 (g_od T b p))) _ _ 1000 _ hm2 hD (fun _ q => q) ev (x_ct9 _) (by have := x_ct9 (g_od T b p); omega)
    simp (disch := omega) only [f_X9_links_8, x_l9, nI_leI, x_leT, x_in, x_ltT, nI_clamp, ↓reduceIte, pr, Option.bind_some, d1]
    rw [l4]
    congr 2
    unfold mL g_mt
    refine x_zext (fun k j => ?_) rfl
    have e : (x_ar (x_ar S 101 9 (fun _ => -nI 9)) 102 512 (fun s => nI (g_D T (g_od T b p) s))).1 101 = fun j => if j < 9 then -nI 9 else S.1 101 j := by
      funext j
      rw [x_ar_k (by omega), x_ar_1]
      by_cases c : j < 9
      · rw [if_pos ⟨rfl, c⟩, if_pos c]
      · rw [if_neg (fun q => c q.2), if_neg c]
    rw [e]
    simp only [x_ar_1]
    by_cases c : k = 101 ∧ j < 9
    · rw [if_pos c, if_pos c]
      by_cases c2 : (g_od T b p).testBit j = true
      · obtain ⟨m, _, _, h3⟩ := g_pp_in w _ _ j ev (x_ct9 _) c2
        rw [(h3 _).1, (h3 _).1]
      · rw [g_pp_out w _ _ _ j ev (x_ct9 _) c2, g_pp_out w _ _ _ j ev (x_ct9 _) c2, if_pos c.2]
    · rw [if_neg c, if_neg c, if_neg c]
  · intro n k hk
    simp (disch := omega) only [f_X9_links_8, x_l0, x_l1, x_l2, x_l3, x_l4, x_l5, x_l6, x_l7, x_l8, x_l9, x_l10, x_l12, x_l13, x_l14, x_l16, x_l18, x_l20, x_l22, x_l32, x_l36, x_l48, x_l50, x_l54, x_l57, x_l59, x_l74, x_l81, x_l99, x_l104, x_l107, x_l110, x_l112, x_l115, x_l117, x_l162, x_l255, x_l512, x_l99999, x_l1000000, nI_leI, nI_ltI, nI_eq, nI_add, pk_mul, nI_clamp, x_in, x_bit, x_b0, x_b1, x_b0n, fa_or, fa_and, fb_xorI, x_an, Option.bind_some, b_has8, b_has9, ↓reduceIte, not_true_eq_false, not_false_eq_true, x_nn, Bool.false_eq_true, x_ar_k, x_ar_in, x_ar_w, b_wk, b_wj, b_wh, b_w2, x_ar_2, x_leT, x_leF, x_ltT, x_ltF, x_eqT, x_eqF]
    rw [x_ar_s S 101 k (fun _ => -nI 9)]
end PQ
