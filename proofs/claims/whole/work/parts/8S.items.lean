/-! ===== items of the reference ===== -/
/-- what is known of what comes behind -/
def mIH (X : Nat → Nat) (len m P0 : Nat) : Prop := ∀ (B : Nat → Nat) (H N F L M P : Nat) (S : zS) (n : Nat), P0 < P → P ≤ len → uB B → H ≤ 1 → M ≤ P → mB B H P X len S → len - P < n → mG S (f_X9_plate_25 (m + 1) (nI M) S) (g_run X len n (gA.mk B H 0 N F L M P))
section MIT
variable {B : Nat → Nat} {H P F L M : Nat} {X : Nat → Nat} {len m : Nat} {S : zS}
theorem uB_one (w : uB B) (u v : Nat) : ∀ c d, c < d → d < B 1 → ¬ (g_adj B c u v = true ∧ g_adj B d u v = true) := by
  intro c d hcd hd ⟨h1, h2⟩
  have a1 := w.2.2.1 c (by omega)
  have a2 := w.2.2.1 d hd
  have a3 := w.2.2.2.1 c d hcd hd
  rw [g_adj_iff] at h1 h2
  omega
theorem s9_cut90 (w : uB B) (h : ∀ j, j < 74 → S.1 90 j = nI (B j)) {u v : Nat} (hu : u < 9) (hv : v < 9) : f_X9_cutOf 90 (nI u) (nI v) S = some (if g_cut B u v < B 1 then nI (g_cut B u v) else -nI 1, S) :=
  s9_cutOf w.1.2.1 (fun c hc => by have := w.2.2.1 c hc; have := w.1; omega) h (by omega) (by omega) (uB_one w u v)
theorem s9_room (w : uB B) (h : ∀ j, j < 74 → S.1 90 j = nI (B j)) {u v : Nat} (hu : u < 9) (hv : v < 9) : f_X9_hasRoom (nI u) (nI v) S = some (if g_jc B u v = none then nI 0 else nI 1, S) := by
  have wb := w.1
  rw [f_X9_hasRoom, s9_cut90 w h hu hv, Option.bind_some]
  rcases g_jc_cases (B := B) u v with ⟨c, e⟩ | ⟨c, d, e⟩ | ⟨c, d, e⟩
  · rw [if_pos c, e, if_pos (show (0 : Int32) ≤ nI (g_cut B u v) from nI_le (a := 0) (by omega) (by omega)), if_neg (c := some B = none) (by intro q; cases q)]
    rfl
  · rw [if_neg c, e, if_neg (show ¬ (0 : Int32) ≤ -nI 1 from by decide), if_neg (c := some (g_jb B u v) = none) (by intro q; cases q)]
    dsimp only
    rw [h 1 (by omega), if_neg (show ¬ (14 : Int32) ≤ nI (B 1) from nI_ge (b := 14) (by omega) (by omega))]
    rfl
  · rw [if_neg c, e, if_neg (show ¬ (0 : Int32) ≤ -nI 1 from by decide), if_pos rfl]
    dsimp only
    rw [h 1 (by omega), if_pos (show (14 : Int32) ≤ nI (B 1) from nI_le (a := 14) (by omega) (by omega))]
    rfl
theorem s9_cuts (w : uB B) (hw : S.1 87 7 = -nI 1) (h : ∀ j, j < 74 → S.1 90 j = nI (B j)) {u v : Nat} (hu : u < 9) (hv : v < 9) {B' : Nat → Nat} (hj : g_jc B u v = some B') : ∃ S', f_X9_cuts (nI u) (nI v) S = some ((), S') ∧ x_fr (fun q _ => q = 90) S S' ∧ ∀ j, j < 74 → S'.1 90 j = nI (B' j) := by
  have wb := w.1
  rw [f_X9_cuts, s9_well hw, Option.bind_some, if_neg (c := nI 1 = 0) (by decide)]
  dsimp only
  rw [s9_cut90 w h hu hv, Option.bind_some]
  rcases g_jc_cases (B := B) u v with ⟨c, e⟩ | ⟨c, d, e⟩ | ⟨c, d, e⟩
  · rw [hj] at e
    cases e
    rw [if_pos c, if_pos (show (0 : Int32) ≤ nI (g_cut B u v) from nI_le (a := 0) (by omega) (by omega))]
    exact ⟨S, rfl, x_fr_rf, h⟩
  · rw [hj] at e
    cases e
    rw [if_neg c, if_neg (show ¬ (0 : Int32) ≤ -nI 1 from by decide)]
    dsimp only
    have r63 : ∀ (y : Nat) (S1 : zS), S1.1 90 1 = nI (B 1) → f_X9_cuts_63 (nI y) (nI (36 + B 1)) S1 = some ((), z_w (z_w S1 90 (36 + B 1) (nI y)) 90 1 (nI (B 1 + 1))) := fun y S1 e => by
      rw [f_X9_cuts_63, if_pos ((x_in (by omega)).mpr (by omega)), nI_clamp (by omega), b_wj (by omega), e, show (1 : Int32) = nI 1 from rfl, nI_add]
    have r44 : ∀ (y : Nat), f_X9_cuts_44 (nI u) (nI v) (nI (B 1)) (nI y) (nI (22 + B 1)) S = some ((), z_w (z_w (z_w S 90 (22 + B 1) (nI y)) 90 (36 + B 1) (nI (if u < v then v else u))) 90 1 (nI (B 1 + 1))) := fun y => by
      have e36 : (36 : Int32) + nI (B 1) = nI (36 + B 1) := by rw [show (36 : Int32) = nI 36 from rfl, nI_add]
      rw [f_X9_cuts_44, if_pos ((x_in (by omega)).mpr (by omega)), nI_clamp (by omega), e36]
      by_cases z : u < v
      · rw [if_neg (nI_ge z (by omega)), if_pos z, r63 v _ (by rw [b_wj (by omega)]; exact h 1 (by omega))]
      · rw [if_pos (nI_le (by omega) (by omega)), if_neg z, r63 u _ (by rw [b_wj (by omega)]; exact h 1 (by omega))]
    have e22 : (22 : Int32) + nI (B 1) = nI (22 + B 1) := by rw [show (22 : Int32) = nI 22 from rfl, nI_add]
    have fin : ∀ j, j < 74 → (z_w (z_w (z_w S 90 (22 + B 1) (nI (if u < v then u else v))) 90 (36 + B 1) (nI (if u < v then v else u))) 90 1 (nI (B 1 + 1))).1 90 j = nI (g_jb B u v j) := fun j hj => by
      by_cases j1 : j = 1
      · rw [j1, b_wh, g_jb_1]
      · rw [b_wj j1]
        by_cases j2 : j = 36 + B 1
        · rw [j2, b_wh, g_jb_r d]
        · rw [b_wj j2]
          by_cases j3 : j = 22 + B 1
          · rw [j3, b_wh, g_jb_l d]
          · rw [b_wj j3, g_jb_0 d j1 j3 j2]; exact h j hj
    have frz : x_fr (fun q _ => q = 90) S (z_w (z_w (z_w S 90 (22 + B 1) (nI (if u < v then u else v))) 90 (36 + B 1) (nI (if u < v then v else u))) 90 1 (nI (B 1 + 1))) := x_fr_w (x_fr_w (x_fr_w x_fr_rf rfl) rfl) rfl
    rw [h 1 (by omega), e22]
    by_cases z : u < v
    · rw [if_neg (nI_ge z (by omega)), r44 u]
      rw [if_pos z] at fin frz
      exact ⟨_, rfl, frz, fin⟩
    · rw [if_pos (nI_le (by omega) (by omega)), r44 v]
      rw [if_neg z] at fin frz
      exact ⟨_, rfl, frz, fin⟩
  · rw [hj] at e
    cases e
theorem s9_cutsF {f : Nat} (hf : f < 2 ^ 31) (h : S.1 87 7 = nI f) (x y : Int32) : f_X9_cuts x y S = some ((), S) := by
  rw [f_X9_cuts, s9_ill hf h, Option.bind_some, if_pos (c := nI 0 = 0) nI_0]
/-- only the stop is left -/
theorem g_run_tail {A A3 : gA} {n : Nat} (hI : A.I ≠ 0) (h3 : g_stp A 3 (t_v X len A.P) (t_n X len A.P) = some A3) (ho : ∀ k v, k ≠ 3 → g_stp A k v (t_n X len A.P) = none) : g_run X len (n + 1) A = if t_k X len A.P = 0 then Sum.inl len else if t_k X len A.P = 3 then g_run X len n A3 else Sum.inl (t_s X len A.P) := by
  rw [g_run]
  by_cases k0 : t_k X len A.P = 0
  · rw [if_pos k0, if_neg hI, if_pos k0]
  · rw [if_neg k0, if_neg k0]
    by_cases k3 : t_k X len A.P = 3
    · rw [if_pos k3, k3, h3]
    · rw [if_neg k3, ho _ _ k3]
theorem mB_fr {W : Nat → Nat → Prop} {S' : zS} {B' : Nat → Nat} (h : mB B H P X len S) (hf : x_fr W S S') (hw : ∀ q j, q = 87 ∨ q = 88 → ¬ W q j) (hb : ∀ j, j < 74 → S'.1 90 j = nI (B' j)) : mB B' H P X len S' := by
  obtain ⟨h1, h2, h3, h4, h5, h6⟩ := h
  refine ⟨?_, hb, ?_, ?_, fun k hk => ?_, ?_, ?_, ?_, fun q => ?_⟩
  · rw [hf.2 _ _ (hw _ _ (by omega))]; exact h1
  · rw [hf.2 _ _ (hw _ _ (by omega))]; exact h3
  · rw [hf.2 _ _ (hw _ _ (by omega))]; exact h4
  · rw [hf.2 _ _ (hw _ _ (by omega))]; exact h5 k hk
  · rw [hf.2 _ _ (hw _ _ (by omega))]; exact h6.1
  · rw [hf.2 _ _ (hw _ _ (by omega))]; exact h6.2.1
  · rw [hf.2 _ _ (hw _ _ (by omega))]; exact h6.2.2.1
  · rw [hf.2 _ _ (hw _ _ (by omega))]; exact h6.2.2.2 q
theorem t_s0 {a : Nat} (k0 : t_k X len a = 0) : t_s X len a = len := by
  refine Classical.byContradiction (fun q => ?_)
  unfold t_k at k0
  rw [if_neg q] at k0
  split at k0
  · split at k0 <;> omega
  · split at k0
    · omega
    · split at k0 <;> omega
/-- a token that is not what is asked for ends a run -/
theorem g_run_bad {A : gA} {n : Nat} (hI : A.I ≠ 0) (hb : t_k X len A.P ≠ 0 → g_stp A (t_k X len A.P) (t_v X len A.P) (t_n X len A.P) = none) : g_run X len (n + 1) A = Sum.inl (t_s X len A.P) := by
  rw [g_run]
  by_cases k0 : t_k X len A.P = 0
  · rw [if_pos k0, if_neg hI, t_s0 k0]
  · rw [if_neg k0, hb k0]
theorem s9_hItem (hl : len ≤ 110) (hx : ∀ k, k < len → X k ≤ 255) (hP : P ≤ len) (w : uB B) (hM : M ≤ P) (h : mB B H P X len S) {n : Nat} (hn : len - P < n) (ih : mIH X len m P) : mG S ((f_X9_readsItem 104 S).bind (fun r73 => f_X9_plate_76 (f_X9_plate_25 (m + 1)) (nI M) r73.2)) (g_run X len n (gA.mk B H 104 0 F L M P)) := by
  obtain ⟨n, rfl⟩ : ∃ n', n = n' + 1 := ⟨n - 1, by omega⟩
  have sl := t_s_le (X := X) hP
  have tn := t_n_le (X := X) hP
  have h8 : mB B 1 P X len (z_w S 87 8 1) := by
    obtain ⟨h1, h2, h3, h4, h5, h6⟩ := h
    refine ⟨?_, fun j hj => ?_, b_wh, ?_, fun k hk => ?_, ?_, ?_, ?_, fun q => ?_⟩
    · rw [b_wj (by omega)]; exact h1
    · rw [b_wk (by omega)]; exact h2 j hj
    · rw [b_wj (by omega)]; exact h4
    · rw [b_wk (by omega)]; exact h5 k hk
    · rw [b_wj (by omega)]; exact h6.1
    · rw [b_wj (by omega)]; exact h6.2.1
    · rw [b_wj (by omega)]; exact h6.2.2.1
    · rw [b_wj (by omega)]; exact h6.2.2.2 q
  have f8 : x_fr wG S (z_w S 87 8 1) := x_fr_w x_fr_rf (Or.inl ⟨rfl, by omega, by omega⟩)
  have isn := s9_num2 (y := 20) h8 hx hP (by omega)
  have isn' : f_X9_isNumber 0 20 (z_w S 87 8 1) = some (if t_k X len P = 2 ∧ t_v X len P ≤ 20 then nI 1 else nI 0, z_w S 87 8 1) := isn
  rw [f_X9_readsItem, if_pos rfl, isn', Option.bind_some]
  generalize z_w S 87 8 1 = S1 at *
  by_cases c : t_k X len P = 2 ∧ t_v X len P ≤ 20
  · have gt := t_n_gt hP (show t_k X len P ≠ 0 by omega)
    obtain ⟨S2, r2, f2, b2⟩ := s9_tk1 hl hx hP h8 (by omega)
    have r2' : f_X9_takes (nI 1) S1 = some (nI (t_v X len P), S2) := r2
    rw [if_pos c]
    dsimp only
    rw [r2', Option.bind_some, Option.bind_some]
    dsimp only
    have b3 : mB (x_up B 3 (t_v X len P)) 1 (t_n X len P) X len (z_w S2 90 3 (nI (t_v X len P))) := mB_fr b2 (x_fr_w (W := fun q _ => q = 90) x_fr_rf rfl) (fun q j q1 q2 => by omega) (fun j hj => by
      by_cases z : j = 3
      · rw [z, b_wh, x_up_h]
      · rw [b_wj z, x_up_j z]; exact b2.2.1 j hj)
    have f3 : x_fr wG S (z_w S2 90 3 (nI (t_v X len P))) := x_fr_w (x_fr_tr f8 (wT9_G f2)) (Or.inr rfl)
    have st : g_run X len (n + 1) (gA.mk B H 104 0 F L M P) = g_run X len n (gA.mk (x_up B 3 (t_v X len P)) 1 104 1 (t_v X len P) (t_v X len P) M (t_n X len P)) := by
      rw [g_run]
      have k0 : ¬ t_k X len (gA.mk B H 104 0 F L M P).P = 0 := show ¬ t_k X len P = 0 by omega
      rw [if_neg k0]
      have e : g_stp (gA.mk B H 104 0 F L M P) (t_k X len P) (t_v X len P) (t_n X len P) = some (gA.mk (x_up B 3 (t_v X len P)) 1 104 1 (t_v X len P) (t_v X len P) M (t_n X len P)) := by
        rw [c.1]
        unfold g_stp g_nb
        show (if (104 : Nat) = 0 then _ else if (2 : Nat) = 3 then _ else if (2 : Nat) = 2 then ((if (104 : Nat) = 104 then (if (0 : Nat) = 0 ∧ t_v X len P ≤ 20 then some (x_up B 3 (t_v X len P), 1) else none) else _).bind _) else none) = _
        rw [if_neg (by decide), if_neg (by decide), if_pos rfl, if_pos rfl, if_pos ⟨rfl, c.2⟩]
        rfl
      show (match g_stp (gA.mk B H 104 0 F L M P) (t_k X len P) (t_v X len P) (t_n X len P) with | none => _ | some A' => g_run X len n A') = _
      rw [e]
    rw [st]
    obtain ⟨n, rfl⟩ : ∃ n', n = n' + 1 := ⟨n - 1, by omega⟩
    have rt := g_run_tail (X := X) (len := len) (n := n) (A := gA.mk (x_up B 3 (t_v X len P)) 1 104 1 (t_v X len P) (t_v X len P) M (t_n X len P)) (A3 := gA.mk (x_up B 3 (t_v X len P)) 1 0 1 (t_v X len P) (t_v X len P) (M + 1) (t_n X len (t_n X len P))) (by show (104 : Nat) ≠ 0; decide) rfl (fun k v hk => by
      show (if (104 : Nat) = 0 then _ else if k = 3 then _ else if k = 2 then ((if (104 : Nat) = 104 then (if (1 : Nat) = 0 ∧ v ≤ 20 then _ else none) else _).bind _) else none) = none
      rw [if_neg (by decide), if_neg hk]
      by_cases k2 : k = 2
      · rw [if_pos k2, if_pos rfl, if_neg (by omega)]; rfl
      · rw [if_neg k2])
    rw [rt]
    refine mG_tr f3 (s9_tail hl hx tn b3 (by omega) (fun k3 S4 b4 => ?_))
    have gt2 := t_n_gt tn (show t_k X len (t_n X len P) ≠ 0 by omega)
    have tn2 := t_n_le (X := X) tn
    have sl2 := t_s_le (X := X) tn
    exact ih _ _ _ _ _ _ _ S4 n (by omega) tn2 (uB_up3 w c.2) (Nat.le_refl 1) (by omega) b4 (by omega)
  · rw [if_neg c]
    dsimp only
    have r2 : f_X9_takes (nI 0) S1 = some (nI 0, z_w S1 87 7 (nI (t_s X len P))) := s9_tk0 h8
    rw [r2, Option.bind_some, Option.bind_some]
    dsimp only
    rw [s9_bad (f := t_s X len P) (by omega) (by rw [b_wk (by omega), b_wh]), g_run_bad (show (gA.mk B H 104 0 F L M P).I ≠ 0 from by show (104 : Nat) ≠ 0; decide) (fun k0 => by
      show (if (104 : Nat) = 0 then _ else if t_k X len P = 3 then (if (104 : Nat) = 112 then _ else (if (0 : Nat) = (if (104 : Nat) = 104 then 1 else 2) then _ else none)) else if t_k X len P = 2 then ((if (104 : Nat) = 104 then (if (0 : Nat) = 0 ∧ t_v X len P ≤ 20 then _ else none) else _).bind _) else none) = none
      rw [if_neg (by decide)]
      by_cases k3 : t_k X len P = 3
      · rw [if_pos k3, if_neg (by decide), if_neg (by decide)]
      · rw [if_neg k3]
        by_cases k2 : t_k X len P = 2
        · rw [if_pos k2, if_pos rfl, if_neg (fun q => c ⟨k2, q.2⟩)]; rfl
        · rw [if_neg k2])]
    exact ⟨_, rfl, x_fr_w (x_fr_w f8 (Or.inl ⟨rfl, by omega, by omega⟩)) (Or.inr rfl)⟩
end MIT
