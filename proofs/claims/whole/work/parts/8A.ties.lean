/-! ===== what a piece's round goes over ===== -/
def g_E (T : Nat → Nat) (b p : Nat) : Nat → Nat → Nat → Bool := fun κ u v => (decide (κ = 0) && (g_M T (g_cu T b p) u).testBit v) || (decide (κ = 1) && ((g_od T b p).testBit u && decide (g_mt T (g_od T b p) u = nI v) && decide (v < 9)))
section TI
variable {T : Nat → Nat} {b p t : Nat}
theorem g_E_0 (u v : Nat) : g_E T b p 0 u v = (g_M T (g_cu T b p) u).testBit v := by
  unfold g_E
  simp
theorem g_E_1 (u v : Nat) : g_E T b p 1 u v = ((g_od T b p).testBit u && decide (g_mt T (g_od T b p) u = nI v) && decide (v < 9)) := by
  unfold g_E
  simp
theorem nI_inj9 {a c : Nat} (ha : a < 9) (hc : c < 9) (h : nI a = nI c) : a = c := (nI_eq (by omega) (by omega)).mp h
theorem g_E_1m (w : wT T) {u v : Nat} : g_E T b p 1 u v = true ↔ (g_od T b p).testBit u = true ∧ g_mt T (g_od T b p) u = nI v ∧ v < 9 := by
  rw [g_E_1, Bool.and_eq_true, Bool.and_eq_true, decide_eq_true_eq, decide_eq_true_eq, and_assoc]
theorem g_mt_m (w : wT T) {u : Nat} (h : (g_od T b p).testBit u = true) : ∃ m, (g_od T b p).testBit m = true ∧ m ≠ u ∧ g_mt T (g_od T b p) u = nI m ∧ g_mt T (g_od T b p) m = nI u ∧ m < 9 := by
  rcases g_mt_cases w (b := b) p u with ⟨_, m, h1, h2, h3, h4⟩ | ⟨h1, _⟩
  · exact ⟨m, h1, h2, h3, h4, (g_od_bit.mp h1).1⟩
  · exact absurd h h1
theorem g_E_w (w : wT T) : wE (g_E T b p) := by
  have h0 := wT_b w
  intro κ u v h
  by_cases c0 : κ = 0
  · subst c0
    rw [g_E_0] at h ⊢
    have i := g_M_in w h
    exact ⟨by omega, by omega, by omega, i.2.2, g_M_sy w u v h⟩
  · by_cases c1 : κ = 1
    · subst c1
      have h' := (g_E_1m w).mp h
      obtain ⟨m, m1, m2, m3, m4, m5⟩ := g_mt_m w h'.1
      have u9 := (g_od_bit.mp h'.1).1
      have e : v = m := nI_inj9 h'.2.2 m5 (h'.2.1.symm.trans m3)
      subst e
      exact ⟨by omega, u9, h'.2.2, fun q => m2 q.symm, (g_E_1m w).mpr ⟨m1, m4, u9⟩⟩
    · unfold g_E at h
      simp [c0, c1] at h
theorem g_cu_bit {c : Nat} : (g_cu T b p).testBit c = true ↔ c < T 1 ∧ b.testBit c = true ∧ g_root T b (T (22 + c)) = g_pr T b p := by
  unfold g_cu
  rw [x_mk_bit, Bool.and_eq_true, Bool.and_eq_true, decide_eq_true_eq, decide_eq_true_eq]
theorem g_adj_root (w : wT T) {c x y : Nat} (hc : c < T 1) (hb : b.testBit c = true) (ha : g_adj T c x y = true) : g_root T b x = g_root T b y ∧ g_root T b (T (22 + c)) = g_root T b x := by
  have h0 := wT_b w
  have m : (g_M T b x).testBit y = true := (g_M_bit w).mpr ⟨c, hc, hb, ha⟩
  have i := g_M_in w m
  have e : g_root T b x = g_root T b y := (g_root_eq w (by omega) (by omega)).mpr (x_con_st x_con_rf m)
  refine ⟨e, ?_⟩
  unfold g_adj at ha
  simp only [Bool.or_eq_true, Bool.and_eq_true, beq_iff_eq] at ha
  rcases ha with ⟨q, _⟩ | ⟨q, _⟩
  · rw [q]
  · rw [q, e]
theorem g_cu_deg (w : wT T) (x : Nat) : g_deg T (g_cu T b p) x = if g_root T b x = g_pr T b p then g_deg T b x else 0 := by
  have key : ∀ c, c < T 1 → g_at T (g_cu T b p) x c = (g_at T b x c && decide (g_root T b x = g_pr T b p)) := fun c hc => by
    rw [Bool.eq_iff_iff]
    unfold g_at
    simp only [Bool.and_eq_true, Bool.or_eq_true, beq_iff_eq, decide_eq_true_eq, g_cu_bit]
    constructor
    · rintro ⟨⟨_, h2, h3⟩, h4⟩
      refine ⟨⟨h2, h4⟩, ?_⟩
      rcases h4 with q | q
      · rw [← q]; exact h3
      · have := g_adj_root (x := T (22 + c)) (y := T (36 + c)) w hc h2 (by unfold g_adj; simp)
        rw [← q, ← this.1]; exact h3
    · rintro ⟨⟨h2, h4⟩, h3⟩
      refine ⟨⟨hc, h2, ?_⟩, h4⟩
      rcases h4 with q | q
      · rw [q]; exact h3
      · have := g_adj_root (x := T (22 + c)) (y := T (36 + c)) w hc h2 (by unfold g_adj; simp)
        rw [this.1, q]; exact h3
  unfold g_deg
  by_cases c : g_root T b x = g_pr T b p
  · rw [if_pos c]
    exact fb_ct_cong (fun k hk => by rw [key k hk]; simp [c])
  · rw [if_neg c]
    exact fb_ct_zero.mpr (fun k hk => by rw [key k hk]; simp [c])
theorem g_cu_M (w : wT T) {x y : Nat} (h : (g_M T b x).testBit y = true) (hr : g_root T b x = g_pr T b p) : (g_M T (g_cu T b p) x).testBit y = true := by
  obtain ⟨d, h1, h2, h3⟩ := (g_M_bit w).mp h
  refine (g_M_bit w).mpr ⟨d, h1, g_cu_bit.mpr ⟨h1, h2, ?_⟩, h3⟩
  rw [(g_adj_root w h1 h2 h3).2]
  exact hr
theorem x_sm_bit (r : Nat) : x_sm (fun v => if r.testBit v = true then 1 else 0) 9 = b_ct r 9 := (x_sm_ct (fun v => r.testBit v) 9).symm
theorem g_E_dg (w : wT T) {x : Nat} (hx : x < 9) : g_dg (g_E T b p) x = g_deg T (g_cu T b p) x + (if (g_od T b p).testBit x = true then 1 else 0) := by
  have e : g_dg (g_E T b p) x = x_sm (fun v => if (g_M T (g_cu T b p) x).testBit v = true then 1 else 0) 9 + x_sm (fun v => if g_E T b p 1 x v = true then 1 else 0) 9 := by
    rw [← x_sm_add]
    exact x_sm_cong (fun v _ => by
      show g_d (g_E T b p) x v = _
      unfold g_d
      rw [g_E_0])
  rw [e, x_sm_bit, g_M_ct w]
  congr 1
  by_cases c : (g_od T b p).testBit x = true
  · obtain ⟨m, m1, m2, m3, m4, m5⟩ := g_mt_m w c
    rw [if_pos c]
    have : x_sm (fun v => if g_E T b p 1 x v = true then 1 else 0) 9 = x_sm (fun _ => 0) 9 + 1 := x_sm_upd m5 (fun v hv hne => if_neg (fun q => by
      have := (g_E_1m w).mp q
      exact hne (nI_inj9 hv m5 (this.2.1.symm.trans m3)))) (if_pos ((g_E_1m w).mpr ⟨c, m3, m5⟩))
    rw [this, x_sm_0 (fun _ _ => rfl)]
  · rw [if_neg c]
    exact x_sm_0 (fun v _ => if_neg (fun q => c ((g_E_1m w).mp q).1))
theorem g_E_even (w : wT T) {x : Nat} (hx : x < 9) : g_dg (g_E T b p) x % 2 = 0 := by
  rw [g_E_dg w hx, g_cu_deg w]
  by_cases c : (g_od T b p).testBit x = true
  · have h := g_od_bit.mp c
    rw [if_pos c, if_pos h.2.1]
    omega
  · rw [if_neg c]
    by_cases c2 : g_root T b x = g_pr T b p
    · rw [if_pos c2]
      by_cases c3 : g_deg T b x % 2 = 1
      · exact absurd (g_od_bit.mpr ⟨hx, c2, c3⟩) c
      · omega
    · rw [if_neg c2]
theorem g_st_ok (w : wT T) (hp : p < g_np T b) : g_root T b (g_st T b t p) = g_pr T b p ∧ 0 < g_deg T b (g_st T b t p) := by
  unfold g_st
  by_cases c : g_root T b t = g_pr T b p ∧ 0 < g_deg T b t
  · rw [if_pos c]; exact c
  · rw [if_neg c]
    have := (g_isR_iff.mp (g_pr_ok hp).2.1)
    exact this
theorem g_E_root (w : wT T) {κ x y : Nat} (h : g_E T b p κ x y = true) : g_root T b x = g_pr T b p := by
  have h1 := (g_E_w w κ x y h).1
  rcases (by omega : κ = 0 ∨ κ = 1) with rfl | rfl
  · rw [g_E_0] at h
    obtain ⟨d, d1, d2, d3⟩ := (g_M_bit w).mp h
    have := g_cu_bit.mp d2
    rw [← (g_adj_root w d1 this.2.1 d3).2]
    exact this.2.2
  · exact (g_od_bit.mp ((g_E_1m w).mp h).1).2.1
theorem g_E_iw (w : wT T) (hp : p < g_np T b) : g_iw (g_E T b p) (g_st T b t p) (g_st T b t p) := by
  have h0 := wT_b w
  have hE := g_E_w (b := b) (p := p) w
  have st := g_st_ok (t := t) w hp
  have u9 : g_st T b t p < 9 := by have := g_deg_in w st.2; omega
  refine ⟨hE, ?_, u9, u9, fun x hx => ?_⟩
  · rw [x_ok_iff]
    intro j hj hM
    obtain ⟨κ, y, hy⟩ := g_MO_ne hE hM
    have rj := g_E_root w hy
    have hc : x_con (g_M T b) (g_st T b t p) j := (g_root_eq w u9 hj).mp (st.1.trans rj.symm)
    have := hc (fun x => x_con (g_MO (g_E T b p)) (g_st T b t p) x ∧ g_root T b x = g_pr T b p) ⟨x_con_rf, st.1⟩ (fun x y hx hxy => by
      have i := g_M_in w hxy
      have e : g_root T b x = g_root T b y := (g_root_eq w (by omega) (by omega)).mpr (x_con_st x_con_rf hxy)
      refine ⟨x_con_st hx.1 ((g_MO_iff hE).mpr ⟨0, ?_⟩), e.symm.trans hx.2⟩
      rw [g_E_0]
      exact g_cu_M w hxy hx.2)
    exact this.1
  · rw [g_E_even w hx, if_pos Iff.rfl]
theorem g_E_cut (w : wT T) (hp : p < g_np T b) : ∃ v, g_E T b p 0 (g_st T b t p) v = true := by
  have st := g_st_ok (t := t) w hp
  have d : 0 < g_deg T (g_cu T b p) (g_st T b t p) := by rw [g_cu_deg w, if_pos st.1]; exact st.2
  obtain ⟨v, _, hv⟩ := x_ne0 (g_M_lt (T := T) (g_cu T b p) (g_st T b t p)) ((g_deg_pos w).mp d)
  exact ⟨v, by rw [g_E_0]; exact hv⟩
theorem g_deg_sum (w : wT T) (b : Nat) : ∀ c, c ≤ T 1 → x_sm (fun x => fb_ct (g_at T b x) c) 9 = 2 * b_ct b c
  | 0, _ => x_sm_0 (fun _ _ => rfl)
  | c + 1, hc => by
    have h0 := wT_b w
    have hw := wT_c w (show c < T 1 by omega)
    have e : x_sm (fun x => fb_ct (g_at T b x) (c + 1)) 9 = x_sm (fun x => fb_ct (g_at T b x) c) 9 + x_sm (fun x => if g_at T b x c = true then 1 else 0) 9 := by
      rw [← x_sm_add]
      exact x_sm_cong (fun _ _ => rfl)
    have e2 : b_ct b (c + 1) = b_ct b c + (if b.testBit c = true then 1 else 0) := rfl
    rw [e, e2, g_deg_sum w b c (by omega)]
    have e3 : x_sm (fun x => if g_at T b x c = true then 1 else 0) 9 = 2 * (if b.testBit c = true then 1 else 0) := by
      by_cases q : b.testBit c = true
      · rw [if_pos q]
        have f1 : x_sm (fun x => if g_at T b x c = true then 1 else 0) 9 = x_sm (fun x => if x = T (36 + c) then 1 else 0) 9 + 1 := by
          refine x_sm_upd (i := T (22 + c)) (by omega) (fun x _ hx => ?_) ?_
          · unfold g_at
            rw [q]
            have n1 : ¬ T (22 + c) = x := fun z => hx z.symm
            by_cases z : x = T (36 + c)
            · simp [z]
            · have n2 : ¬ T (36 + c) = x := fun z2 => z z2.symm
              simp [n1, n2, z]
          · unfold g_at
            rw [q, if_neg (show ¬ T (22 + c) = T (36 + c) by omega)]
            simp
        have f2 : x_sm (fun x => if x = T (36 + c) then 1 else 0) 9 = x_sm (fun _ => 0) 9 + 1 := x_sm_upd (i := T (36 + c)) (by omega) (fun x _ hx => if_neg hx) (if_pos rfl)
        rw [f1, f2, x_sm_0 (fun _ _ => rfl)]
      · rw [if_neg q]
        exact x_sm_0 (fun x _ => if_neg (fun z => q (by unfold g_at at z; rw [Bool.and_eq_true] at z; exact z.1)))
    rw [e3]
    omega
theorem g_E_ne (w : wT T) : g_ne (g_E T b p) = 2 * g_ns T b p := by
  have h0 := wT_b w
  have e : g_ne (g_E T b p) = x_sm (fun x => g_deg T (g_cu T b p) x) 9 + x_sm (fun x => if (g_od T b p).testBit x = true then 1 else 0) 9 := by
    rw [← x_sm_add]
    exact x_sm_cong (fun x hx => g_E_dg w hx)
  have e1 : x_sm (fun x => g_deg T (g_cu T b p) x) 9 = 2 * b_ct (g_cu T b p) (T 1) := g_deg_sum w (g_cu T b p) (T 1) (Nat.le_refl _)
  have e2 : b_ct (g_cu T b p) 14 = b_ct (g_cu T b p) (T 1) := by
    have := b_ct_ext (b := g_cu T b p) (n := T 1) (x_mk_lt _ _) (14 - T 1)
    rw [show T 1 + (14 - T 1) = 14 from by omega] at this
    exact this
  have e3 : b_ct (g_od T b p) 14 = b_ct (g_od T b p) 9 := b_ct_ext (g_od_lt p) 5
  have ev := (g_od_ev (b := b) w p).2.2
  rw [e, x_sm_bit, e1]
  unfold g_ns
  rw [e2, e3]
  omega
theorem g_ns_le (w : wT T) : g_ns T b p ≤ 18 := by
  have e3 : b_ct (g_od T b p) 14 = b_ct (g_od T b p) 9 := b_ct_ext (g_od_lt p) 5
  have l1 : b_ct (g_cu T b p) 14 ≤ 14 := fb_ct_le _ _
  have l2 : b_ct (g_od T b p) 9 ≤ 9 := fb_ct_le _ _
  unfold g_ns
  omega
theorem g_ns_pos (w : wT T) (hp : p < g_np T b) : 0 < g_ns T b p := by
  have hE := g_E_w (b := b) (p := p) w
  obtain ⟨v, hv⟩ := g_E_cut (t := 0) w hp
  have := g_ne_rm hE hv
  rw [g_E_ne w] at this
  omega
/-- the walk over piece p -/
noncomputable def g_wl (T : Nat → Nat) (b t p : Nat) : Nat → (Nat → Nat → Nat → Bool) × Nat := g_wk (g_E T b p) (g_st T b t p)
/-- where its step n goes to, and whether by a cut -/
noncomputable def g_wt (T : Nat → Nat) (b t p n : Nat) : Nat := g_nv (g_wl T b t p n).1 (g_wl T b t p n).2 n
noncomputable def g_wc (T : Nat → Nat) (b t p n : Nat) : Nat := g_kd (g_wl T b t p n).1 (g_wl T b t p n).2 (g_wt T b t p n)
theorem g_wl_ok (w : wT T) (hp : p < g_np T b) {n : Nat} (hn : n ≤ g_ns T b p) : wE (g_wl T b t p n).1 ∧ (g_wl T b t p n).2 < 9 ∧ (n < g_ns T b p → g_wt T b t p n < 9 ∧ g_so (g_wl T b t p n).1 (g_wl T b t p n).2 (g_wc T b t p n) (g_wt T b t p n) = true ∧ g_sp (g_wl T b t p n).1 (g_wl T b t p n).2 n (g_wt T b t p n) = true) := by
  have e := g_E_ne (b := b) (p := p) w
  have h := g_wk_ok (g_E_iw (t := t) w hp) (g_E_cut w hp) n (by omega)
  refine ⟨h.1.1, h.1.2.2.1, fun hl => ?_⟩
  have pos : 0 < g_ne (g_wk (g_E T b p) (g_st T b t p) n).1 := by omega
  exact g_nv_ok h.1 pos h.2.2
theorem g_wl_succ (n : Nat) : g_wl T b t p (n + 1) = (g_rm (g_wl T b t p n).1 (g_wc T b t p n) (g_wl T b t p n).2 (g_wt T b t p n), g_wt T b t p n) := rfl
theorem g_wc_lt (n : Nat) : g_wc T b t p n < 2 := by
  unfold g_wc g_kd
  split <;> omega
end TI
