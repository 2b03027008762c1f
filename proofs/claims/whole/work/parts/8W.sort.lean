/-! ===== cuts in their order ===== -/
def g_ky (B : Nat → Nat) (c : Nat) : Nat := 16 * B (22 + c) + B (36 + c)
def g_tk (B K : Nat → Nat) : Nat → Nat := fun j => if 22 ≤ j ∧ j < 22 + B 1 then K (j - 22) / 16 else if 36 ≤ j ∧ j < 36 + B 1 then K (j - 36) % 16 else B j
def x_sw (K : Nat → Nat) (c : Nat) : Nat → Nat := if K (c + 1) < K c then x_up (x_up K c (K (c + 1))) (c + 1) (K c) else K
def x_ps (K : Nat → Nat) : Nat → (Nat → Nat)
  | 0 => K
  | c + 1 => x_sw (x_ps K c) c
def x_rd (K : Nat → Nat) (n : Nat) : Nat → (Nat → Nat)
  | 0 => K
  | r + 1 => x_ps (x_rd K n r) (n - 1)
theorem x_sw_at (K : Nat → Nat) (c i : Nat) : x_sw K c i = if K (c + 1) < K c then (if i = c + 1 then K c else if i = c then K (c + 1) else K i) else K i := by
  unfold x_sw
  by_cases z : K (c + 1) < K c
  · rw [if_pos z, if_pos z]
    unfold x_up
    rfl
  · rw [if_neg z, if_neg z]
/-- a change of order -/
def x_pm (K0 K : Nat → Nat) (n : Nat) : Prop := (∀ i, i < n → ∃ j, j < n ∧ K i = K0 j) ∧ (∀ j, j < n → ∃ i, i < n ∧ K i = K0 j) ∧ (∀ i j, i < j → j < n → K i ≠ K j)
theorem x_pm_sw {K0 K : Nat → Nat} {n c : Nat} (h : x_pm K0 K n) (hc : c + 1 < n) : x_pm K0 (x_sw K c) n := by
  obtain ⟨h1, h2, h3⟩ := h
  by_cases z : K (c + 1) < K c
  · have e : ∀ i, x_sw K c i = if i = c + 1 then K c else if i = c then K (c + 1) else K i := fun i => by rw [x_sw_at, if_pos z]
    have im : ∀ i, i < n → ∃ i', i' < n ∧ x_sw K c i = K i' := fun i hi => by
      rw [e]
      by_cases z1 : i = c + 1
      · rw [if_pos z1]; exact ⟨c, by omega, rfl⟩
      · rw [if_neg z1]
        by_cases z2 : i = c
        · rw [if_pos z2]; exact ⟨c + 1, by omega, rfl⟩
        · rw [if_neg z2]; exact ⟨i, hi, rfl⟩
    have on : ∀ i', i' < n → ∃ i, i < n ∧ x_sw K c i = K i' := fun i' hi => by
      by_cases z1 : i' = c
      · exact ⟨c + 1, by omega, by rw [e, if_pos rfl, z1]⟩
      · by_cases z2 : i' = c + 1
        · exact ⟨c, by omega, by rw [e, if_neg (by omega), if_pos rfl, z2]⟩
        · exact ⟨i', hi, by rw [e, if_neg z2, if_neg z1]⟩
    refine ⟨fun i hi => ?_, fun j hj => ?_, fun i j hij hj => ?_⟩
    · obtain ⟨i', a, b⟩ := im i hi
      obtain ⟨j, q1, q2⟩ := h1 i' a
      exact ⟨j, q1, b.trans q2⟩
    · obtain ⟨i', a, b⟩ := h2 j hj
      obtain ⟨i, q1, q2⟩ := on i' a
      exact ⟨i, q1, q2.trans b⟩
    · have ne : ∀ a b, a < n → b < n → a ≠ b → K a ≠ K b := fun a b ha hb hab => by
        by_cases q : a < b
        · exact h3 a b q hb
        · exact fun r => h3 b a (by omega) ha r.symm
      rw [e, e]
      by_cases i1 : i = c + 1
      · rw [if_pos i1, if_neg (by omega), if_neg (by omega)]; exact ne _ _ (by omega) (by omega) (by omega)
      · rw [if_neg i1]
        by_cases i2 : i = c
        · rw [if_pos i2]
          by_cases j1 : j = c + 1
          · rw [if_pos j1]; exact ne _ _ (by omega) (by omega) (by omega)
          · rw [if_neg j1, if_neg (by omega)]; exact ne _ _ (by omega) (by omega) (by omega)
        · rw [if_neg i2]
          by_cases j1 : j = c + 1
          · rw [if_pos j1]; exact ne _ _ (by omega) (by omega) (by omega)
          · rw [if_neg j1]
            by_cases j2 : j = c
            · rw [if_pos j2]; exact ne _ _ (by omega) (by omega) (by omega)
            · rw [if_neg j2]; exact ne _ _ (by omega) (by omega) (by omega)
  · have e : x_sw K c = K := by unfold x_sw; rw [if_neg z]
    rw [e]
    exact ⟨h1, h2, h3⟩
theorem x_pm_ps {K0 K : Nat → Nat} {n : Nat} (h : x_pm K0 K n) : ∀ j, j < n → x_pm K0 (x_ps K j) n
  | 0, _ => h
  | j + 1, hj => x_pm_sw (x_pm_ps h j (by omega)) (by omega)
theorem x_pm_rd {K0 : Nat → Nat} {n : Nat} (h : x_pm K0 K0 n) : ∀ r, x_pm K0 (x_rd K0 n r) n
  | 0 => h
  | r + 1 => by
    rw [x_rd]
    by_cases z : n = 0
    · subst z
      exact ⟨fun i hi => absurd hi (Nat.not_lt_zero i), fun j hj => absurd hj (Nat.not_lt_zero j), fun i j _ hj => absurd hj (Nat.not_lt_zero j)⟩
    · exact x_pm_ps (x_pm_rd h r) (n - 1) (by omega)
/-- from s on all is in its place -/
def x_st (K : Nat → Nat) (n s : Nat) : Prop := ∀ i t, i < t → s ≤ t → t < n → K i ≤ K t
theorem x_ps_max (K : Nat → Nat) : ∀ j, (∀ i, i < j → x_ps K j i ≤ x_ps K j j) ∧ ∀ i, j < i → x_ps K j i = K i
  | 0 => ⟨fun i hi => absurd hi (Nat.not_lt_zero i), fun _ _ => rfl⟩
  | j + 1 => by
    obtain ⟨h1, h2⟩ := x_ps_max K j
    rw [x_ps]
    refine ⟨fun i hi => ?_, fun i hi => ?_⟩
    · rw [x_sw_at, x_sw_at]
      by_cases z : x_ps K j (j + 1) < x_ps K j j
      · rw [if_pos z, if_pos z, if_neg (by omega), if_pos rfl]
        by_cases z1 : i = j
        · rw [if_pos z1]; omega
        · rw [if_neg z1]; exact h1 i (by omega)
      · rw [if_neg z, if_neg z]
        by_cases z1 : i = j
        · rw [z1]; omega
        · have := h1 i (by omega)
          omega
    · rw [x_sw_at]
      split
      · rw [if_neg (by omega), if_neg (by omega)]; exact h2 i (by omega)
      · exact h2 i (by omega)
theorem x_st_ps {K : Nat → Nat} {n s : Nat} (h : x_st K n s) : ∀ j, j < s → x_st (x_ps K j) n s
  | 0, _ => h
  | j + 1, hj => by
    have ih := x_st_ps h j (by omega)
    rw [x_ps]
    intro i t hit hs ht
    rw [x_sw_at, x_sw_at]
    by_cases z : x_ps K j (j + 1) < x_ps K j j
    · rw [if_pos z, if_pos z, if_neg (show ¬ t = j + 1 by omega), if_neg (show ¬ t = j by omega)]
      split
      · exact ih j t (by omega) hs ht
      · split
        · exact ih (j + 1) t (by omega) hs ht
        · exact ih i t hit hs ht
    · rw [if_neg z, if_neg z]; exact ih i t hit hs ht
theorem x_ps_stay {K : Nat → Nat} {n s : Nat} (h : x_st K n s) : ∀ d, s + d ≤ n → 0 < s → x_ps K (s - 1 + d) = x_ps K (s - 1)
  | 0, _, _ => rfl
  | d + 1, hd, hs => by
    have ih := x_ps_stay h d (by omega) hs
    have st := x_st_ps h (s - 1) (by omega)
    show x_sw (x_ps K (s - 1 + d)) (s - 1 + d) = _
    rw [ih]
    unfold x_sw
    have := st (s - 1 + d) (s - 1 + d + 1) (by omega) (by omega) (by omega)
    rw [if_neg (by omega)]
theorem x_st_rd (K : Nat → Nat) (n : Nat) : ∀ r, r ≤ n → x_st (x_rd K n r) n (n - r)
  | 0, _ => fun i t _ hs ht => by omega
  | r + 1, hr => by
    have ih := x_st_rd K n r (by omega)
    rw [x_rd]
    have e := x_ps_stay ih r (by omega) (by omega)
    rw [show n - r - 1 + r = n - 1 from by omega] at e
    rw [e]
    have st := x_st_ps ih (n - r - 1) (by omega)
    have mx := x_ps_max (x_rd K n r) (n - r - 1)
    intro i t hit hs ht
    by_cases z : t = n - r - 1
    · rw [z]; exact mx.1 i (by omega)
    · exact st i t hit (by omega) ht
/-- the picture with its cuts in order -/
def g_srt (B : Nat → Nat) : Nat → Nat := g_tk B (x_rd (g_ky B) (B 1) (B 1))
section SRT
variable {B : Nat → Nat}
theorem g_tk_l {K : Nat → Nat} {c : Nat} (hc : c < B 1) : g_tk B K (22 + c) = K c / 16 := by
  unfold g_tk
  rw [if_pos ⟨by omega, by omega⟩, Nat.add_sub_cancel_left]
theorem g_tk_h {K : Nat → Nat} {c : Nat} (hc : c < B 1) (h14 : B 1 ≤ 14) : g_tk B K (36 + c) = K c % 16 := by
  unfold g_tk
  rw [if_neg (by omega), if_pos ⟨by omega, by omega⟩, Nat.add_sub_cancel_left]
theorem g_tk_o {K : Nat → Nat} {j : Nat} (h : j < 22 ∨ 50 ≤ j) (h14 : B 1 ≤ 14) : g_tk B K j = B j := by
  unfold g_tk
  rw [if_neg (by omega), if_neg (by omega)]
theorem g_ky_pm (w : uB B) : x_pm (g_ky B) (g_ky B) (B 1) := by
  refine ⟨fun i hi => ⟨i, hi, rfl⟩, fun j hj => ⟨j, hj, rfl⟩, fun i j hij hj q => ?_⟩
  have a1 := w.2.2.1 i (by omega)
  have a2 := w.2.2.1 j hj
  have a3 := w.2.2.2.1 i j hij hj
  have wb := w.1
  unfold g_ky at q
  omega
theorem g_ky_lh (w : uB B) {c : Nat} (hc : c < B 1) : g_ky B c / 16 = B (22 + c) ∧ g_ky B c % 16 = B (36 + c) := by
  have a1 := w.2.2.1 c hc
  have wb := w.1
  unfold g_ky
  omega
/-- each cut has its place in the other one -/
theorem g_srt_c (w : uB B) {c : Nat} (hc : c < B 1) : ∃ d, d < B 1 ∧ g_srt B (22 + c) = B (22 + d) ∧ g_srt B (36 + c) = B (36 + d) := by
  obtain ⟨d, hd, e⟩ := (x_pm_rd (g_ky_pm w) (B 1)).1 c hc
  have l := g_ky_lh w hd
  refine ⟨d, hd, ?_, ?_⟩
  · show g_tk B _ (22 + c) = _
    rw [g_tk_l hc, e]; exact l.1
  · show g_tk B _ (36 + c) = _
    rw [g_tk_h hc w.1.2.1, e]; exact l.2
theorem g_srt_d (w : uB B) {d : Nat} (hd : d < B 1) : ∃ c, c < B 1 ∧ g_srt B (22 + c) = B (22 + d) ∧ g_srt B (36 + c) = B (36 + d) := by
  obtain ⟨c, hc, e⟩ := (x_pm_rd (g_ky_pm w) (B 1)).2.1 d hd
  have l := g_ky_lh w hd
  refine ⟨c, hc, ?_, ?_⟩
  · show g_tk B _ (22 + c) = _
    rw [g_tk_l hc, e]; exact l.1
  · show g_tk B _ (36 + c) = _
    rw [g_tk_h hc w.1.2.1, e]; exact l.2
theorem g_srt_o (w : uB B) {j : Nat} (h : j < 22 ∨ 50 ≤ j) : g_srt B j = B j := g_tk_o h w.1.2.1
theorem g_srt_cut (w : uB B) (u v : Nat) : g_cut (g_srt B) u v < g_srt B 1 ↔ g_cut B u v < B 1 := by
  rw [g_cut_iff, g_cut_iff, g_srt_o w (by omega)]
  constructor
  · rintro ⟨c, hc, ha⟩
    obtain ⟨d, hd, e1, e2⟩ := g_srt_c w hc
    refine ⟨d, hd, ?_⟩
    rw [g_adj_iff] at ha ⊢
    rw [e1, e2] at ha
    exact ha
  · rintro ⟨d, hd, ha⟩
    obtain ⟨c, hc, e1, e2⟩ := g_srt_d w hd
    refine ⟨c, hc, ?_⟩
    rw [g_adj_iff] at ha ⊢
    rw [e1, e2]
    exact ha
theorem g_srt_w (w : uB B) : wT (g_srt B) := by
  have wb := w.1
  have o0 := g_srt_o w (j := 0) (by omega)
  have o1 := g_srt_o w (j := 1) (by omega)
  have o2 := g_srt_o w (j := 2) (by omega)
  have o3 := g_srt_o w (j := 3) (by omega)
  refine ⟨⟨by rw [o0]; omega, by rw [o1]; omega, by rw [o2]; omega, by rw [o3]; omega⟩, fun k hk => ?_, fun c hc => ?_, fun c d hcd hd => ?_, fun p hp => ?_, fun p i hp hi => ?_, fun p i hp hi => ?_⟩
  · rw [o0] at hk
    rw [g_srt_o w (by omega), g_srt_o w (by omega)]
    exact w.2.1 k hk
  · rw [o1] at hc
    obtain ⟨d, hd, e1, e2⟩ := g_srt_c w hc
    rw [e1, e2, o0]
    exact w.2.2.1 d hd
  · rw [o1] at hd
    have pm := x_pm_rd (g_ky_pm w) (B 1)
    have st := x_st_rd (g_ky B) (B 1) (B 1) (Nat.le_refl _)
    have a1 := st c d hcd (by omega) hd
    have a2 := pm.2.2 c d hcd hd
    have e1 : g_srt B (22 + c) = x_rd (g_ky B) (B 1) (B 1) c / 16 := g_tk_l (by omega)
    have e2 : g_srt B (36 + c) = x_rd (g_ky B) (B 1) (B 1) c % 16 := g_tk_h (by omega) w.1.2.1
    have e3 : g_srt B (22 + d) = x_rd (g_ky B) (B 1) (B 1) d / 16 := g_tk_l hd
    have e4 : g_srt B (36 + d) = x_rd (g_ky B) (B 1) (B 1) d % 16 := g_tk_h hd w.1.2.1
    rw [e1, e2, e3, e4]
    omega
  · rw [o2] at hp
    rw [g_srt_o w (by omega)]
    exact w.2.2.2.2.1 p hp
  · rw [o2] at hp
    rw [g_srt_o w (by omega)] at hi
    rw [g_srt_o w (by omega), o0]
    exact w.2.2.2.2.2.1 p i hp hi
  · rw [o2] at hp
    have s5 := w.2.2.2.2.1 p hp
    rw [g_srt_o w (by omega)] at hi
    rw [g_rg_eq (g_srt_o w (by omega)) (fun i _ => g_srt_o w (by omega)) (by omega) (by omega), g_rg_eq (g_srt_o w (by omega)) (fun i _ => g_srt_o w (by omega)) (by omega) (by omega), g_srt_cut w]
    exact w.2.2.2.2.2.2 p i hp hi
end SRT
