/-! ===== a round can always be gone on with ===== -/
def g_d (E : Nat → Nat → Nat → Bool) (u v : Nat) : Nat := (if E 0 u v = true then 1 else 0) + (if E 1 u v = true then 1 else 0)
def g_dg (E : Nat → Nat → Nat → Bool) (u : Nat) : Nat := x_sm (g_d E u) 9
def wE (E : Nat → Nat → Nat → Bool) : Prop := ∀ k u v, E k u v = true → k < 2 ∧ u < 9 ∧ v < 9 ∧ u ≠ v ∧ E k v u = true
def g_hit (k u v κ x y : Nat) : Bool := decide (κ = k) && ((decide (x = u) && decide (y = v)) || (decide (x = v) && decide (y = u)))
def g_rm (E : Nat → Nat → Nat → Bool) (k u v : Nat) : Nat → Nat → Nat → Bool := fun κ x y => E κ x y && !g_hit k u v κ x y
noncomputable def g_so (E : Nat → Nat → Nat → Bool) (u k v : Nat) : Bool := E k u v && x_ok (g_MO (g_rm E k u v)) v
theorem g_hit_iff {k u v κ x y : Nat} : g_hit k u v κ x y = true ↔ κ = k ∧ ((x = u ∧ y = v) ∨ (x = v ∧ y = u)) := by
  unfold g_hit
  simp only [Bool.and_eq_true, Bool.or_eq_true, decide_eq_true_eq]
theorem g_rm_iff {E : Nat → Nat → Nat → Bool} {k u v κ x y : Nat} : g_rm E k u v κ x y = true ↔ E κ x y = true ∧ ¬ (κ = k ∧ ((x = u ∧ y = v) ∨ (x = v ∧ y = u))) := by
  unfold g_rm
  rw [Bool.and_eq_true, Bool.not_eq_true', ← Bool.not_eq_true, g_hit_iff]
theorem x_sm_upd {f g : Nat → Nat} {i c : Nat} : ∀ {n : Nat}, i < n → (∀ k, k < n → k ≠ i → f k = g k) → f i = g i + c → x_sm f n = x_sm g n + c
  | n + 1, hi, h, hc => by
    rw [x_sm, x_sm]
    by_cases e : i = n
    · subst e
      rw [hc, x_sm_cong (fun k hk => h k (by omega) (by omega))]
      omega
    · rw [x_sm_upd (n := n) (by omega) (fun k hk hne => h k (by omega) hne) hc, h n (by omega) (fun q => e q.symm)]
      omega
section EU
variable {E : Nat → Nat → Nat → Bool} {k u v s : Nat}
theorem g_d_sy (hE : wE E) (x y : Nat) : g_d E x y = g_d E y x := by
  have q : ∀ κ, (E κ x y = true) = (E κ y x = true) := fun κ => propext ⟨fun h => (hE κ x y h).2.2.2.2, fun h => (hE κ y x h).2.2.2.2⟩
  unfold g_d
  simp only [q]
theorem g_d_0 (hE : wE E) (x : Nat) : g_d E x x = 0 := by
  have q : ∀ κ, ¬ E κ x x = true := fun κ h => (hE κ x x h).2.2.2.1 rfl
  unfold g_d
  rw [if_neg (q 0), if_neg (q 1)]
theorem wE_rm (hE : wE E) : wE (g_rm E k u v) := by
  intro κ x y h
  rw [g_rm_iff] at h
  obtain ⟨h1, h2, h3, h4, h5⟩ := hE κ x y h.1
  refine ⟨h1, h2, h3, h4, g_rm_iff.mpr ⟨h5, fun q => h.2 ⟨q.1, ?_⟩⟩⟩
  omega
theorem g_MO_iff (hE : wE E) {x y : Nat} : (g_MO E x).testBit y = true ↔ ∃ κ, E κ x y = true := by
  unfold g_MO
  rw [x_mk_bit, Bool.and_eq_true, decide_eq_true_eq, Bool.or_eq_true]
  constructor
  · rintro ⟨_, h | h⟩
    · exact ⟨0, h⟩
    · exact ⟨1, h⟩
  · rintro ⟨κ, h⟩
    obtain ⟨h1, h2, h3, _⟩ := hE κ x y h
    refine ⟨h3, ?_⟩
    rcases (by omega : κ = 0 ∨ κ = 1) with rfl | rfl
    · exact Or.inl h
    · exact Or.inr h
theorem g_MO_sy (hE : wE E) : ∀ x y, (g_MO E x).testBit y = true → (g_MO E y).testBit x = true := fun x y h => by
  obtain ⟨κ, hκ⟩ := (g_MO_iff hE).mp h
  exact (g_MO_iff hE).mpr ⟨κ, (hE κ x y hκ).2.2.2.2⟩
theorem g_MO_sub (hE : wE E) : ∀ x y, (g_MO (g_rm E k u v) x).testBit y = true → (g_MO E x).testBit y = true := fun x y h => by
  obtain ⟨κ, hκ⟩ := (g_MO_iff (wE_rm hE)).mp h
  exact (g_MO_iff hE).mpr ⟨κ, (g_rm_iff.mp hκ).1⟩
theorem g_MO_lf (hE : wE E) {x y : Nat} (h : (g_MO E x).testBit y = true) : (g_MO (g_rm E k u v) x).testBit y = true ∨ (x = u ∧ y = v) ∨ (x = v ∧ y = u) := by
  obtain ⟨κ, hκ⟩ := (g_MO_iff hE).mp h
  by_cases c : κ = k ∧ ((x = u ∧ y = v) ∨ (x = v ∧ y = u))
  · exact Or.inr c.2
  · exact Or.inl ((g_MO_iff (wE_rm hE)).mpr ⟨κ, g_rm_iff.mpr ⟨hκ, c⟩⟩)
theorem g_MO_ne (hE : wE E) {x : Nat} (h : g_MO E x ≠ 0) : ∃ κ y, E κ x y = true := by
  obtain ⟨y, hy, hb⟩ := x_ne0 (g_MO_lt (E := E) x) h
  obtain ⟨κ, hκ⟩ := (g_MO_iff hE).mp hb
  exact ⟨κ, y, hκ⟩
/-- a tie less: the counts -/
theorem g_d_rm (hE : wE E) (he : E k u v = true) (x y : Nat) : g_d E x y = g_d (g_rm E k u v) x y + (if (x = u ∧ y = v) ∨ (x = v ∧ y = u) then 1 else 0) := by
  have hk := (hE k u v he).1
  have he2 := (hE k u v he).2.2.2.2
  have ek : ∀ κ, g_rm E k u v κ x y = (E κ x y && !(decide (κ = k) && ((decide (x = u) && decide (y = v)) || (decide (x = v) && decide (y = u))))) := fun _ => rfl
  by_cases c : (x = u ∧ y = v) ∨ (x = v ∧ y = u)
  · have e1 : E k x y = true := by
      rcases c with ⟨rfl, rfl⟩ | ⟨rfl, rfl⟩
      · exact he
      · exact he2
    have cc : ((decide (x = u) && decide (y = v)) || (decide (x = v) && decide (y = u))) = true := by
      simp only [Bool.or_eq_true, Bool.and_eq_true, decide_eq_true_eq]; exact c
    rw [if_pos c]
    unfold g_d
    rw [ek, ek, cc]
    rcases (by omega : k = 0 ∨ k = 1) with rfl | rfl
    · rw [e1]; simp; omega
    · rw [e1]; simp
  · have cc : ((decide (x = u) && decide (y = v)) || (decide (x = v) && decide (y = u))) = false := by
      rw [← Bool.not_eq_true]
      simp only [Bool.or_eq_true, Bool.and_eq_true, decide_eq_true_eq]; exact c
    rw [if_neg c]
    unfold g_d
    rw [ek, ek, cc]
    simp
theorem g_dg_rm (hE : wE E) (he : E k u v = true) (x : Nat) : g_dg E x = g_dg (g_rm E k u v) x + (if x = u ∨ x = v then 1 else 0) := by
  obtain ⟨_, hu, hv, huv, _⟩ := hE k u v he
  unfold g_dg
  by_cases c1 : x = u
  · subst c1
    rw [if_pos (Or.inl rfl)]
    refine x_sm_upd hv (fun y _ hy => ?_) ?_
    · rw [g_d_rm hE he, if_neg (by omega)]; rfl
    · rw [g_d_rm hE he, if_pos (Or.inl ⟨rfl, rfl⟩)]
  · by_cases c2 : x = v
    · subst c2
      rw [if_pos (Or.inr rfl)]
      refine x_sm_upd hu (fun y _ hy => ?_) ?_
      · rw [g_d_rm hE he, if_neg (by omega)]; rfl
      · rw [g_d_rm hE he, if_pos (Or.inr ⟨rfl, rfl⟩)]
    · rw [if_neg (by omega), Nat.add_zero]
      exact x_sm_cong (fun y _ => by rw [g_d_rm hE he, if_neg (by omega)]; rfl)
/-- all there is, twice -/
def g_ne (E : Nat → Nat → Nat → Bool) : Nat := x_sm (g_dg E) 9
theorem g_ne_rm (hE : wE E) (he : E k u v = true) : g_ne E = g_ne (g_rm E k u v) + 2 := by
  obtain ⟨_, hu, hv, huv, _⟩ := hE k u v he
  unfold g_ne
  have e1 : x_sm (g_dg E) 9 = x_sm (fun x => g_dg (g_rm E k u v) x + (if x = v then 1 else 0)) 9 + 1 := by
    refine x_sm_upd hu (fun x _ hx => ?_) ?_
    · rw [g_dg_rm hE he]
      by_cases c : x = v
      · rw [if_pos (Or.inr c), if_pos c]
      · rw [if_neg (by omega), if_neg c]
    · rw [g_dg_rm hE he, if_pos (Or.inl rfl), if_neg huv]
  have e2 : x_sm (fun x => g_dg (g_rm E k u v) x + (if x = v then 1 else 0)) 9 = x_sm (g_dg (g_rm E k u v)) 9 + 1 := by
    refine x_sm_upd hv (fun x _ hx => ?_) ?_
    · rw [if_neg hx]; rfl
    · rw [if_pos rfl]
  rw [e1, e2]
theorem g_ne_ex (h : 0 < g_ne E) : ∃ κ x y, E κ x y = true := by
  obtain ⟨x, _, hx⟩ := x_sm_pos h
  obtain ⟨y, _, hy⟩ := x_sm_pos hx
  unfold g_d at hy
  by_cases c : E 0 x y = true
  · exact ⟨0, x, y, c⟩
  · by_cases c2 : E 1 x y = true
    · exact ⟨1, x, y, c2⟩
    · rw [if_neg c, if_neg c2] at hy; omega
/-- what stands on the way: at u, begun at s -/
def g_iw (E : Nat → Nat → Nat → Bool) (u s : Nat) : Prop := wE E ∧ x_ok (g_MO E) u = true ∧ u < 9 ∧ s < 9 ∧ ∀ x, x < 9 → g_dg E x % 2 = if (x = u ↔ x = s) then 0 else 1
theorem g_bad1 (hE : wE E) (ho : x_ok (g_MO E) u = true) (he : E k u v = true) (hb : ¬ x_ok (g_MO (g_rm E k u v)) v = true) : ¬ x_con (g_MO (g_rm E k u v)) v u := by
  intro hc
  apply hb
  rw [x_ok_iff]
  intro j hj hM
  obtain ⟨κ, y, hy⟩ := g_MO_ne (wE_rm hE) hM
  have hMj : g_MO E j ≠ 0 := fun q => by
    have := (g_MO_iff hE).mpr ⟨κ, (g_rm_iff.mp hy).1⟩
    rw [q, Nat.zero_testBit] at this
    cases this
  have hu := x_ok_iff.mp ho j hj hMj
  refine hu (fun x => x_con (g_MO (g_rm E k u v)) v x) hc (fun x y hx hxy => ?_)
  rcases g_MO_lf (k := k) (u := u) (v := v) hE hxy with q | ⟨_, q⟩ | ⟨_, q⟩
  · exact x_con_st hx q
  · rw [q]; exact x_con_rf
  · rw [q]; exact hc
theorem fb_ct_one {i n : Nat} (hi : i < n) : fb_ct (fun k => decide (k = i)) n = 1 := by
  have h := fb_ct_upd (fun _ => false) true hi
  have z : fb_ct (fun _ => false) n = 0 := fb_ct_zero.mpr (fun _ _ => rfl)
  have e : fb_ct (fun k => decide (k = i)) n = fb_ct (fun k => if k = i then true else false) n := fb_ct_cong (fun k _ => by by_cases c : k = i <;> simp [c])
  rw [z] at h
  rw [e]
  simpa using h
theorem g_bad2 (hw : g_iw E u s) (he : E k u v = true) (hn : ¬ x_con (g_MO (g_rm E k u v)) v u) : x_con (g_MO (g_rm E k u v)) v s := by
  refine Classical.byContradiction (fun hs => ?_)
  obtain ⟨hE, ho, hu, hs9, hp⟩ := hw
  obtain ⟨_, _, hv, huv, _⟩ := hE k u v he
  have hE' := wE_rm (k := k) (u := u) (v := v) hE
  have pd : ∀ j, Decidable (x_con (g_MO (g_rm E k u v)) v j) := fun j => Classical.propDecidable _
  have h := x_hand2 (d := g_d (g_rm E k u v)) (C := fun j => decide (x_con (g_MO (g_rm E k u v)) v j)) (n := 9) (g_d_sy hE') (g_d_0 hE') (fun x y _ _ hd => by
    have ex : ∃ κ, g_rm E k u v κ x y = true := by
      unfold g_d at hd
      by_cases c : g_rm E k u v 0 x y = true
      · exact ⟨0, c⟩
      · by_cases c2 : g_rm E k u v 1 x y = true
        · exact ⟨1, c2⟩
        · rw [if_neg c, if_neg c2] at hd; exact absurd rfl hd
    have b1 := (g_MO_iff hE').mpr ex
    have b2 := g_MO_sy hE' x y b1
    exact decide_eq_decide.mpr ⟨fun q => x_con_st q b1, fun q => x_con_st q b2⟩)
  have e : fb_ct (fun j => decide (x_con (g_MO (g_rm E k u v)) v j) && decide (x_sm (g_d (g_rm E k u v) j) 9 % 2 = 1)) 9 = fb_ct (fun j => decide (j = v)) 9 := fb_ct_cong (fun j hj => by
    have r := g_dg_rm hE he j
    have r2 := hp j hj
    have r3 : x_sm (g_d (g_rm E k u v) j) 9 = g_dg (g_rm E k u v) j := rfl
    rw [r3]
    by_cases c : x_con (g_MO (g_rm E k u v)) v j
    · have n1 : j ≠ u := fun q => hn (q ▸ c)
      have n2 : j ≠ s := fun q => hs (q ▸ c)
      rw [if_pos (by constructor <;> intro q <;> contradiction)] at r2
      by_cases c3 : j = v
      · rw [if_pos (Or.inr c3)] at r
        have : g_dg (g_rm E k u v) j % 2 = 1 := by omega
        rw [decide_eq_true c, decide_eq_true this, decide_eq_true c3]
        rfl
      · rw [if_neg (by omega)] at r
        have : ¬ g_dg (g_rm E k u v) j % 2 = 1 := by omega
        simp [c3, this]
    · have n3 : j ≠ v := fun q => c (q ▸ x_con_rf)
      simp [c, n3])
  rw [e, fb_ct_one hv] at h
  exact absurd h (by decide)
theorem g_so_yes (he : E k u v = true) (h : x_ok (g_MO (g_rm E k u v)) v = true) : g_so E u k v = true := by
  unfold g_so
  rw [he, h]
  rfl
/-- at the start every tie may be taken -/
theorem g_so_first (hw : g_iw E u u) (he : E k u v = true) : g_so E u k v = true := by
  by_cases c : x_ok (g_MO (g_rm E k u v)) v = true
  · exact g_so_yes he c
  · have h1 := g_bad1 hw.1 hw.2.1 he c
    exact absurd (g_bad2 hw he h1) h1
theorem g_bad3 (hw : g_iw E u s) {k' v' : Nat} (he : E k u v = true) (he' : E k' u v' = true) (hne : ¬ (k = k' ∧ v = v')) (hb : ¬ x_ok (g_MO (g_rm E k u v)) v = true) : g_so E u k' v' = true := by
  by_cases c : x_ok (g_MO (g_rm E k' u v')) v' = true
  · exact g_so_yes he' c
  · exfalso
    have hE := hw.1
    have h1 := g_bad1 hE hw.2.1 he hb
    have h2 := g_bad2 hw he h1
    have h3 := g_bad1 hE hw.2.1 he' c
    have h4 := g_bad2 hw he' h3
    have hE1 := wE_rm (k := k) (u := u) (v := v) hE
    have hE2 := wE_rm (k := k') (u := u) (v := v') hE
    obtain ⟨_, _, _, huv, hsy⟩ := hE k u v he
    obtain ⟨_, _, _, huv', _⟩ := hE k' u v' he'
    have h5 : x_con (g_MO (g_rm E k' u v')) v s ∧ x_con (g_MO (g_rm E k u v)) v s := by
      refine h2 (fun x => x_con (g_MO (g_rm E k' u v')) v x ∧ x_con (g_MO (g_rm E k u v)) v x) ⟨x_con_rf, x_con_rf⟩ (fun x y hx hxy => ?_)
      have hy := x_con_st hx.2 hxy
      refine ⟨?_, hy⟩
      have nx : x ≠ u := fun q => h1 (q ▸ hx.2)
      have ny : y ≠ u := fun q => h1 (q ▸ hy)
      rcases g_MO_lf (k := k') (u := u) (v := v') hE (g_MO_sub hE x y hxy) with q | ⟨q, _⟩ | ⟨_, q⟩
      · exact x_con_st hx.1 q
      · exact absurd q nx
      · exact absurd q ny
    have e1 : (g_MO (g_rm E k' u v') v).testBit u = true := (g_MO_iff hE2).mpr ⟨k, g_rm_iff.mpr ⟨hsy, fun q => by
      rcases q with ⟨q1, ⟨q2, _⟩ | ⟨q2, _⟩⟩
      · exact huv q2.symm
      · exact hne ⟨q1, q2⟩⟩⟩
    have h6 := x_con_sy (g_MO_sy hE2) h5.1
    exact h3 (x_con_st (x_con_tr h4 h6) e1)
/-- there is a tie to be taken -/
theorem g_so_ex (hw : g_iw E u s) (hn : 0 < g_ne E) : ∃ k v, g_so E u k v = true := by
  have hE := hw.1
  obtain ⟨κ, x, y, hxy⟩ := g_ne_ex hn
  have hMu : g_MO E u ≠ 0 := fun z => by
    have hx9 := (hE κ x y hxy).2.1
    have hMx : g_MO E x ≠ 0 := fun q => by
      have := (g_MO_iff hE).mpr ⟨κ, hxy⟩
      rw [q, Nat.zero_testBit] at this
      cases this
    have hc := x_ok_iff.mp hw.2.1 x hx9 hMx
    have : x = u := hc (fun a => a = u) rfl (fun a b ha hab => by
      rw [ha, z, Nat.zero_testBit] at hab
      cases hab)
    rw [this] at hMx
    exact hMx z
  obtain ⟨k, v, he⟩ := g_MO_ne hE hMu
  by_cases c : x_ok (g_MO (g_rm E k u v)) v = true
  · exact ⟨k, v, g_so_yes he c⟩
  · by_cases c2 : ∃ k' v', E k' u v' = true ∧ ¬ (k = k' ∧ v = v')
    · obtain ⟨k', v', h1, h2⟩ := c2
      exact ⟨k', v', g_bad3 hw he h1 h2 c⟩
    · exfalso
      apply c
      rw [x_ok_iff]
      intro j hj hM
      have hE1 := wE_rm (k := k) (u := u) (v := v) hE
      obtain ⟨κ', y', hy'⟩ := g_MO_ne hE1 hM
      have ju : j ≠ u := fun q => by
        subst q
        have r := g_rm_iff.mp hy'
        apply c2
        refine ⟨κ', y', r.1, fun q => r.2 ⟨q.1.symm, Or.inl ⟨rfl, q.2.symm⟩⟩⟩
      have hMj : g_MO E j ≠ 0 := fun q => by
        have := (g_MO_iff hE).mpr ⟨κ', (g_rm_iff.mp hy').1⟩
        rw [q, Nat.zero_testBit] at this
        cases this
      have hc := x_ok_iff.mp hw.2.1 j hj hMj
      have hd : j = u ∨ x_con (g_MO (g_rm E k u v)) v j := by
        refine hc (fun a => a = u ∨ x_con (g_MO (g_rm E k u v)) v a) (Or.inl rfl) (fun a b ha hab => ?_)
        rcases g_MO_lf (k := k) (u := u) (v := v) hE hab with q | ⟨_, q⟩ | ⟨_, q⟩
        · rcases ha with rfl | ha
          · exfalso
            obtain ⟨κ2, h2⟩ := (g_MO_iff hE1).mp q
            have r := g_rm_iff.mp h2
            exact c2 ⟨κ2, b, r.1, fun q => r.2 ⟨q.1.symm, Or.inl ⟨rfl, q.2.symm⟩⟩⟩
          · exact Or.inr (x_con_st ha q)
        · rw [q]; exact Or.inr x_con_rf
        · exact Or.inl q
      rcases hd with hd | hd
      · exact absurd hd ju
      · exact hd
theorem g_iw_step (hw : g_iw E u s) (h : g_so E u k v = true) : g_iw (g_rm E k u v) v s ∧ g_ne E = g_ne (g_rm E k u v) + 2 := by
  unfold g_so at h
  rw [Bool.and_eq_true] at h
  obtain ⟨hE, ho, hu, hs, hp⟩ := hw
  obtain ⟨_, _, hv, huv, _⟩ := hE k u v h.1
  refine ⟨⟨wE_rm hE, h.2, hv, hs, fun x hx => ?_⟩, g_ne_rm hE h.1⟩
  have r := g_dg_rm hE h.1 x
  have r2 := hp x hx
  by_cases c1 : x = u
  · rw [if_pos (Or.inl c1)] at r
    by_cases c2 : x = s
    · rw [if_pos ⟨fun _ => c2, fun _ => c1⟩] at r2
      rw [if_neg (fun q => huv (c1.symm.trans (q.mpr c2)))]
      omega
    · rw [if_neg (fun q => c2 (q.mp c1))] at r2
      rw [if_pos ⟨fun q => absurd (c1.symm.trans q) huv, fun q => absurd q c2⟩]
      omega
  · by_cases c3 : x = v
    · rw [if_pos (Or.inr c3)] at r
      by_cases c2 : x = s
      · rw [if_neg (fun q => c1 (q.mpr c2))] at r2
        rw [if_pos ⟨fun _ => c2, fun _ => c3⟩]
        omega
      · rw [if_pos ⟨fun q => absurd q c1, fun q => absurd q c2⟩] at r2
        rw [if_neg (fun q => c2 (q.mp c3))]
        omega
    · rw [if_neg (by omega)] at r
      have e : (if (x = v ↔ x = s) then 0 else 1) = (if (x = u ↔ x = s) then 0 else 1) := by
        by_cases c2 : x = s
        · rw [if_neg (fun q => c3 (q.mpr c2)), if_neg (fun q => c1 (q.mpr c2))]
        · rw [if_pos ⟨fun q => absurd q c3, fun q => absurd q c2⟩, if_pos ⟨fun q => absurd q c1, fun q => absurd q c2⟩]
      rw [e, ← r2]
      omega
end EU
/-! ===== the walk ===== -/
noncomputable def g_sp (E : Nat → Nat → Nat → Bool) (u m v : Nat) : Bool := g_so E u 0 v || (decide (0 < m) && g_so E u 1 v)
noncomputable def g_nv (E : Nat → Nat → Nat → Bool) (u m : Nat) : Nat := x_f1 (g_sp E u m) 9
noncomputable def g_kd (E : Nat → Nat → Nat → Bool) (u v : Nat) : Nat := if g_so E u 0 v = true then 0 else 1
noncomputable def g_wk (E : Nat → Nat → Nat → Bool) (u : Nat) : Nat → (Nat → Nat → Nat → Bool) × Nat
  | 0 => (E, u)
  | n + 1 => (g_rm (g_wk E u n).1 (g_kd (g_wk E u n).1 (g_wk E u n).2 (g_nv (g_wk E u n).1 (g_wk E u n).2 n)) (g_wk E u n).2 (g_nv (g_wk E u n).1 (g_wk E u n).2 n), g_nv (g_wk E u n).1 (g_wk E u n).2 n)
theorem g_nv_ok {E : Nat → Nat → Nat → Bool} {u s m : Nat} (hw : g_iw E u s) (hn : 0 < g_ne E) (h0 : m = 0 → u = s ∧ ∃ v, E 0 u v = true) : g_nv E u m < 9 ∧ g_so E u (g_kd E u (g_nv E u m)) (g_nv E u m) = true ∧ g_sp E u m (g_nv E u m) = true := by
  have ex : ∃ v, v < 9 ∧ g_sp E u m v = true := by
    by_cases c : m = 0
    · obtain ⟨rfl, v, hv⟩ := h0 c
      refine ⟨v, (hw.1 0 u v hv).2.2.1, ?_⟩
      unfold g_sp
      rw [g_so_first hw hv]
      rfl
    · obtain ⟨k, v, h⟩ := g_so_ex hw hn
      have he : E k u v = true := by
        unfold g_so at h
        rw [Bool.and_eq_true] at h
        exact h.1
      obtain ⟨k2, _, v9, _⟩ := hw.1 k u v he
      refine ⟨v, v9, ?_⟩
      unfold g_sp
      rcases (by omega : k = 0 ∨ k = 1) with rfl | rfl
      · rw [h]; rfl
      · rw [h, decide_eq_true (show 0 < m by omega)]; simp
  obtain ⟨v, hv, hp⟩ := ex
  have lt : g_nv E u m < 9 := x_f1_ex hv hp
  have y := x_f1_yes lt
  have y' : g_sp E u m (g_nv E u m) = true := y
  refine ⟨lt, ?_, y'⟩
  unfold g_kd
  by_cases c : g_so E u 0 (g_nv E u m) = true
  · rw [if_pos c]; exact c
  · rw [if_neg c]
    unfold g_sp at y'
    rw [Bool.or_eq_true, Bool.and_eq_true] at y'
    rcases y' with q | q
    · exact absurd q c
    · exact q.2
theorem g_wk_ok {E : Nat → Nat → Nat → Bool} {u : Nat} (hw : g_iw E u u) (hv : ∃ v, E 0 u v = true) : ∀ n, 2 * n ≤ g_ne E → g_iw (g_wk E u n).1 (g_wk E u n).2 u ∧ g_ne (g_wk E u n).1 + 2 * n = g_ne E ∧ (n = 0 → (g_wk E u n).2 = u ∧ ∃ v, (g_wk E u n).1 0 (g_wk E u n).2 v = true)
  | 0, _ => ⟨hw, rfl, fun _ => ⟨rfl, hv⟩⟩
  | n + 1, hn => by
    obtain ⟨h1, h2, h3⟩ := g_wk_ok hw hv n (by omega)
    have ok := g_nv_ok h1 (by omega) h3
    have st := g_iw_step h1 ok.2.1
    refine ⟨st.1, ?_, fun q => by omega⟩
    have e : g_ne (g_wk E u (n + 1)).1 = g_ne (g_rm (g_wk E u n).1 (g_kd (g_wk E u n).1 (g_wk E u n).2 (g_nv (g_wk E u n).1 (g_wk E u n).2 n)) (g_wk E u n).2 (g_nv (g_wk E u n).1 (g_wk E u n).2 n)) := rfl
    rw [e]
    have := st.2
    omega
