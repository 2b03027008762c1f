/-! ===== pieces: what both sides speak of ===== -/
theorem x_nn {c : Prop} : (¬ c ∨ c) ↔ True := ⟨fun _ => trivial, fun _ => (Classical.em c).symm⟩
def g_isR (T : Nat → Nat) (b k : Nat) : Bool := decide (g_root T b k = k) && decide (0 < g_deg T b k)
/-- how many pieces -/
def g_np (T : Nat → Nat) (b : Nat) : Nat := fb_ct (g_isR T b) (T 0)
/-- the root of piece p -/
def g_pr (T : Nat → Nat) (b p : Nat) : Nat := x_f1 (fun k => g_isR T b k && decide (fb_ct (g_isR T b) k = p)) (T 0)
def g_cu (T : Nat → Nat) (b p : Nat) : Nat := x_mk (fun c => b.testBit c && decide (g_root T b (T (22 + c)) = g_pr T b p)) (T 1)
def g_od (T : Nat → Nat) (b p : Nat) : Nat := x_mk (fun k => decide (g_root T b k = g_pr T b p) && decide (g_deg T b k % 2 = 1)) 9
def g_st (T : Nat → Nat) (b t p : Nat) : Nat := if g_root T b t = g_pr T b p ∧ 0 < g_deg T b t then t else g_pr T b p
section PC
variable {T : Nat → Nat} {b : Nat}
theorem g_deg_c (T : Nat → Nat) (b k c : Nat) : fb_ct (g_at T b k) (c + 1) = fb_ct (g_at T b k) c + (if g_at T b k c = true then 1 else 0) := rfl
theorem b_ct_flip {r i n : Nat} (hi : i < n) (h : r.testBit i = false) : b_ct (r ^^^ 2 ^ i) n = b_ct r n + 1 := by
  unfold b_ct
  have h1 := fb_ct_upd (fun k => r.testBit k) true (i := i) hi
  rw [h, if_neg (by decide), if_pos rfl] at h1
  rw [← h1, Nat.add_zero]
  refine fb_ct_cong (fun k _ => ?_)
  rw [fb_bit_flip]
  by_cases e : k = i
  · subst e; rw [h]; simp
  · simp [e]
theorem g_rw_ct (w : wT T) (k : Nat) : ∀ c, c ≤ T 1 → b_ct (g_rw T b c k) 9 = fb_ct (g_at T b k) c
  | 0, _ => by
    have : g_rw T b 0 k = 0 := by
      unfold g_rw
      apply Nat.eq_of_testBit_eq
      intro j
      rw [x_mk_bit, Nat.zero_testBit]
      have : g_ec T b 0 k j = false := by unfold g_ec; simp
      rw [this]; simp
    rw [this]
    rfl
  | c + 1, hc => by
    have ih := g_rw_ct w k c (by omega)
    have x := wT_c w (c := c) (by omega)
    have h0 := wT_b w
    rw [g_deg_c, ← ih]
    by_cases hb : b.testBit c = true
    · rw [g_rw_turn w (by omega) hb k]
      have nb : ∀ u v, g_adj T c u v = true → (g_rw T b c u).testBit v = false := by
        intro u v ha
        by_cases q : (g_rw T b c u).testBit v = true
        · unfold g_rw at q
          rw [x_mk_bit, Bool.and_eq_true] at q
          obtain ⟨d, hd, _, h2⟩ := g_ec_iff.mp q.2
          exact absurd ⟨h2, ha⟩ (g_cut_one w u v d c hd (by omega))
        · simpa using q
      by_cases c1 : k = T (36 + c)
      · rw [if_pos c1, b_ct_flip (by omega) (nb k _ (by unfold g_adj; simp [c1])), if_pos (by unfold g_at; simp [hb, c1])]
      · rw [if_neg c1]
        by_cases c2 : k = T (22 + c)
        · rw [if_pos c2, b_ct_flip (by omega) (nb k _ (by unfold g_adj; simp [c2])), if_pos (by unfold g_at; simp [hb, c2])]
        · rw [if_neg c2, if_neg]
          · rfl
          · unfold g_at
            simp only [Bool.and_eq_true, Bool.or_eq_true, beq_iff_eq]
            omega
    · rw [g_rw_same hb k, if_neg]
      · rfl
      · unfold g_at
        simp [hb]
theorem g_M_ct (w : wT T) (k : Nat) : b_ct (g_M T b k) 9 = g_deg T b k := g_rw_ct w k (T 1) (Nat.le_refl _)
theorem g_deg_pos (w : wT T) {k : Nat} : 0 < g_deg T b k ↔ g_M T b k ≠ 0 := by
  rw [← g_M_ct w k]
  unfold b_ct
  rw [fb_ct_pos]
  constructor
  · rintro ⟨i, _, h⟩ e
    rw [e, Nat.zero_testBit] at h
    cases h
  · exact fun h => x_ne0 (g_M_lt b k) h
theorem g_deg_edge (w : wT T) {k v : Nat} (h : (g_M T b k).testBit v = true) : 0 < g_deg T b k := by
  rw [g_deg_pos w]
  intro e
  rw [e, Nat.zero_testBit] at h
  cases h
theorem g_M_in (w : wT T) {k v : Nat} (h : (g_M T b k).testBit v = true) : k < T 0 ∧ v < T 0 ∧ k ≠ v := by
  obtain ⟨d, hd, _, ha⟩ := (g_M_bit w).mp h
  have x := wT_c w hd
  unfold g_adj at ha
  simp only [Bool.or_eq_true, Bool.and_eq_true, beq_iff_eq] at ha
  omega
/-- who hangs together with another one has a cut -/
theorem g_con_deg (w : wT T) {k v : Nat} (h : x_con (g_M T b) k v) : k = v ∨ 0 < g_deg T b v :=
  h (fun z => k = z ∨ 0 < g_deg T b z) (Or.inl rfl) (fun x y _ hxy => Or.inr (g_deg_edge w (g_M_sy w x y hxy)))
theorem g_con_deg2 (w : wT T) {k v : Nat} (h : x_con (g_M T b) k v) (hk : 0 < g_deg T b k) : 0 < g_deg T b v := by
  rcases g_con_deg w h with e | e
  · rw [← e]; exact hk
  · exact e
theorem g_deg_in (w : wT T) {k : Nat} (h : 0 < g_deg T b k) : k < T 0 := by
  rw [g_deg_pos w] at h
  obtain ⟨v, _, hv⟩ := x_ne0 (g_M_lt b k) h
  exact (g_M_in w hv).1
theorem g_root_root (w : wT T) {k : Nat} (hk : k < 9) : g_root T b (g_root T b k) = g_root T b k := by
  have h1 := g_root_self (b := b) w k
  rw [g_root_eq w (by omega) hk]
  exact x_con_sy (g_M_sy w) (g_root_con w k)
theorem g_isR_iff {k : Nat} : g_isR T b k = true ↔ g_root T b k = k ∧ 0 < g_deg T b k := by
  unfold g_isR
  rw [Bool.and_eq_true, decide_eq_true_eq, decide_eq_true_eq]
theorem g_isR_root (w : wT T) {k : Nat} (h : 0 < g_deg T b k) : g_isR T b (g_root T b k) = true := by
  have h0 := wT_b w
  have h1 := g_deg_in w h
  rw [g_isR_iff]
  exact ⟨g_root_root w (by omega), g_con_deg2 w (g_root_con w k) h⟩
theorem g_pr_eq {k : Nat} (hk : k < T 0) (h : g_isR T b k = true) : g_pr T b (fb_ct (g_isR T b) k) = k := by
  unfold g_pr
  refine x_f1_eq hk (by simp [h]) (fun j hj => ?_)
  by_cases q : g_isR T b j = true
  · have : fb_ct (g_isR T b) j ≠ fb_ct (g_isR T b) k := fun e => by
      have := fb_ct_kth_one q h e
      omega
    simp [this]
  · simp [q]
theorem g_pr_ok {p : Nat} (hp : p < g_np T b) : g_pr T b p < T 0 ∧ g_isR T b (g_pr T b p) = true ∧ fb_ct (g_isR T b) (g_pr T b p) = p := by
  obtain ⟨i, hi, h1, h2⟩ := fb_ct_kth hp
  have e : g_pr T b p = i := by rw [← h2]; exact g_pr_eq hi h1
  rw [e]
  exact ⟨hi, h1, h2⟩
theorem g_pr_inj {p q : Nat} (hp : p < g_np T b) (hq : q < g_np T b) (h : g_pr T b p = g_pr T b q) : p = q := by
  have h1 := (g_pr_ok hp).2.2
  have h2 := (g_pr_ok hq).2.2
  rw [h] at h1
  omega
theorem g_np_le (w : wT T) : g_np T b ≤ 4 := by
  have h0 := wT_b w
  have hh := fb_holes 9 (2 * g_np T b) (fun i => if i < g_np T b then g_pr T b i else x_low (g_M T b (g_pr T b (i - g_np T b)))) ?_ ?_
  · omega
  · intro i hi
    show (if _ then _ else _) < 9
    by_cases c : i < g_np T b
    · rw [if_pos c]
      have := (g_pr_ok c).1
      omega
    · rw [if_neg c]
      have h1 := (g_pr_ok (T := T) (b := b) (p := i - g_np T b) (by omega)).2.1
      rw [g_isR_iff, g_deg_pos w] at h1
      exact (x_low_yes h1.2 (g_M_lt b _)).1
  · have nb : ∀ p, p < g_np T b → x_low (g_M T b (g_pr T b p)) < 9 ∧ g_root T b (x_low (g_M T b (g_pr T b p))) = g_pr T b p ∧ x_low (g_M T b (g_pr T b p)) ≠ g_pr T b p := by
      intro p hp
      have h1 := g_pr_ok hp
      have h2 := h1.2.1
      rw [g_isR_iff, g_deg_pos w] at h2
      have h3 := x_low_yes h2.2 (g_M_lt b _)
      have h4 := g_M_in w h3.2.1
      refine ⟨h3.1, ?_, fun e => h4.2.2 e.symm⟩
      have h5 : g_root T b (x_low (g_M T b (g_pr T b p))) = g_root T b (g_pr T b p) := by
        rw [g_root_eq w (by omega) (by omega)]
        exact x_con_st x_con_rf (g_M_sy w _ _ h3.2.1)
      rw [h5]
      exact h2.1
    intro i j hij hj e
    by_cases ci : i < g_np T b
    · by_cases cj : j < g_np T b
      · rw [if_pos ci, if_pos cj] at e
        have := g_pr_inj ci cj e
        omega
      · rw [if_pos ci, if_neg cj] at e
        have n := nb (j - g_np T b) (by omega)
        have r := (g_pr_ok ci).2.1
        rw [g_isR_iff] at r
        rw [← e, r.1] at n
        exact n.2.2 n.2.1
    · rw [if_neg ci, if_neg (by omega)] at e
      have n1 := nb (i - g_np T b) (by omega)
      have n2 := nb (j - g_np T b) (by omega)
      have : g_pr T b (i - g_np T b) = g_pr T b (j - g_np T b) := by rw [← n1.2.1, ← n2.2.1, e]
      have := g_pr_inj (by omega) (by omega) this
      omega
theorem g_cu_lt (w : wT T) (p : Nat) : g_cu T b p < 2 ^ 14 := Nat.lt_of_lt_of_le (x_mk_lt _ _) (Nat.pow_le_pow_right (by decide) (wT_b w).2.1)
theorem g_od_lt (p : Nat) : g_od T b p < 2 ^ 9 := x_mk_lt _ _
theorem g_st_lt (w : wT T) {t p : Nat} (ht : t < T 0) (hp : p < g_np T b) : g_st T b t p < T 0 := by
  unfold g_st
  split
  · exact ht
  · exact (g_pr_ok hp).1
end PC
