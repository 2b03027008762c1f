/-! ===== corners and seams of the reference ===== -/
section MIU
variable {B : Nat → Nat} {H P F L M : Nat} {X : Nat → Nat} {len m : Nat} {S : zS}
theorem g_run_go {A A' : gA} {n : Nat} (hk : t_k X len A.P ≠ 0) (h : g_stp A (t_k X len A.P) (t_v X len A.P) (t_n X len A.P) = some A') : g_run X len (n + 1) A = g_run X len n A' := by
  rw [g_run, if_neg hk, h]
theorem s9_free (w : uB B) (h : ∀ j, j < 74 → S.1 90 j = nI (B j)) {x y : Nat} (hx : x < 2 ^ 31) (hy : y < 2 ^ 31) : f_X9_isFreeAt (nI x) (nI y) S = some (if g_fre B x y = true then nI 1 else nI 0, S) := by
  have wb := w.1
  rw [f_X9_isFreeAt]
  have e0 := h 0 (by omega)
  have key : ∀ k, (!decide (x_f1 (fun k => decide (B (4 + k) = x) && decide (B (13 + k) = y)) (k + 1) < k + 1)) = ((!decide (x_f1 (fun k => decide (B (4 + k) = x) && decide (B (13 + k) = y)) k < k)) && !(decide (B (4 + k) = x) && decide (B (13 + k) = y))) := fun k => by
    rw [x_f1_succ, Bool.not_or]
  refine x_for (F := fun n k => f_X9_isFreeAt_5 n (nI x) (nI y) (if (!decide (x_f1 (fun k => decide (B (4 + k) = x) && decide (B (13 + k) = y)) k < k)) = true then nI 1 else nI 0) (nI k) S) (N := B 0) ?_ ?_ (d := B 0) (a := 0) (n := 1000) (by omega) (by omega)
  · intro n
    rw [f_X9_isFreeAt_5, e0, if_pos (nI_le (Nat.le_refl _) (by omega))]
    unfold g_fre
    split <;> rfl
  · intro n k hk
    have l := w.2.1 k hk
    rw [f_X9_isFreeAt_5, e0, if_neg (nI_ge hk (by omega)), key]
    generalize (!decide (x_f1 (fun k => decide (B (4 + k) = x) && decide (B (13 + k) = y)) k < k)) = z
    cases z with
    | false =>
      rw [if_neg (c := false = true) (by decide), if_pos (c := nI 0 = 0) nI_0, Bool.false_and, if_neg (c := false = true) (by decide), show (1 : Int32) = nI 1 from rfl, nI_add]
      rfl
    | true =>
      rw [if_pos (c := true = true) rfl, if_neg (c := nI 1 = 0) (by decide), Bool.true_and, show (4 : Int32) = nI 4 from rfl, show (13 : Int32) = nI 13 from rfl, nI_add, nI_add, if_pos ((x_in (by omega)).mpr (by omega)), nI_clamp (by omega), h (4 + k) (by omega), if_pos ((x_in (by omega)).mpr (by omega)), nI_clamp (by omega), h (13 + k) (by omega)]
      by_cases z1 : B (4 + k) = x
      · rw [if_pos (show nI (B (4 + k)) = nI x by rw [z1]), decide_eq_true z1, Bool.true_and]
        by_cases z2 : B (13 + k) = y
        · rw [if_pos (show nI (B (13 + k)) = nI y by rw [z2]), decide_eq_true z2, Bool.not_true, if_neg (c := false = true) (by decide), show (1 : Int32) = nI 1 from rfl, nI_add]
          rfl
        · rw [if_neg (show ¬ nI (B (13 + k)) = nI y from fun q => z2 ((nI_eq (by omega) (by omega)).mp q)), decide_eq_false z2, Bool.not_false, if_pos (c := true = true) rfl, show (1 : Int32) = nI 1 from rfl, nI_add]
      · rw [if_neg (show ¬ nI (B (4 + k)) = nI x from fun q => z1 ((nI_eq (by omega) (by omega)).mp q)), decide_eq_false z1, Bool.false_and, Bool.not_false, if_pos (c := true = true) rfl, show (1 : Int32) = nI 1 from rfl, nI_add]
/-- the place is written -/
def mCw (c x y : Nat) (S : zS) : zS := z_w (z_w (z_w S 90 (4 + c) (nI x)) 90 (13 + c) (nI y)) 90 0 (nI (c + 1))
theorem s9_c40 {c x y : Nat} {t : Int32} {S1 : zS} (ht : f_X9_takes t S = some (nI y, S1)) (hc : c ≤ 9) (h0 : S1.1 90 0 = nI c) : f_X9_readsCorner_40 (nI x) t S = some ((), mCw c x y S1) := by
  rw [f_X9_readsCorner_40, ht, Option.bind_some]
  dsimp only
  rw [h0, show (4 : Int32) = nI 4 from rfl, nI_add, if_pos ((x_in (by omega)).mpr (by omega)), nI_clamp (by omega), b_wj (by omega), h0, show (13 : Int32) = nI 13 from rfl, nI_add, if_pos ((x_in (by omega)).mpr (by omega)), nI_clamp (by omega), b_wj (by omega), b_wj (by omega), h0, show (1 : Int32) = nI 1 from rfl, nI_add]
  rfl
theorem mCw_fr {c x y : Nat} : x_fr wG S (mCw c x y S) := x_fr_w (x_fr_w (x_fr_w x_fr_rf (Or.inr rfl)) (Or.inr rfl)) (Or.inr rfl)
theorem s9_kItem (hl : len ≤ 110) (hx : ∀ k, k < len → X k ≤ 255) (hP : P ≤ len) (w : uB B) (h9 : B 0 < 9) (hH : H ≤ 1) (hM : M ≤ P) (h : mB B H P X len S) {n : Nat} (hn : len - P < n) (ih : mIH X len m P) : mG S ((f_X9_readsItem 107 S).bind (fun r73 => f_X9_plate_76 (f_X9_plate_25 (m + 1)) (nI M) r73.2)) (g_run X len n (gA.mk B H 107 0 F L M P)) := by
  obtain ⟨n, rfl⟩ : ∃ n', n = n' + 1 := ⟨n - 1, by omega⟩
  have sl := t_s_le (X := X) hP
  have tn := t_n_le (X := X) hP
  have isn : f_X9_isNumber 0 20 S = some (if t_k X len P = 2 ∧ t_v X len P ≤ 20 then nI 1 else nI 0, S) := s9_num2 (y := 20) h hx hP (by omega)
  rw [f_X9_readsItem, if_neg (show ¬ (107 : Int32) = 104 from by decide), if_pos rfl, f_X9_readsCorner, isn, Option.bind_some]
  by_cases c : t_k X len P = 2 ∧ t_v X len P ≤ 20
  · have gt := t_n_gt hP (show t_k X len P ≠ 0 by omega)
    obtain ⟨S2, r2, f2, b2⟩ := s9_tk1 hl hx hP h (by omega)
    have r2' : f_X9_takes (nI 1) S = some (nI (t_v X len P), S2) := r2
    have sl2 := t_s_le (X := X) tn
    have tn2 := t_n_le (X := X) tn
    have isn2 : f_X9_isNumber 0 20 S2 = some (if t_k X len (t_n X len P) = 2 ∧ t_v X len (t_n X len P) ≤ 20 then nI 1 else nI 0, S2) := s9_num2 (y := 20) b2 hx tn (by omega)
    rw [if_pos c]
    dsimp only
    rw [r2', Option.bind_some]
    dsimp only
    rw [isn2, Option.bind_some]
    rw [g_run_go (A := gA.mk B H 107 0 F L M P) (A' := gA.mk B H 107 1 (t_v X len P) (t_v X len P) M (t_n X len P)) (show t_k X len P ≠ 0 by omega) (by
      show g_stp (gA.mk B H 107 0 F L M P) (t_k X len P) (t_v X len P) (t_n X len P) = _
      rw [c.1]
      show (if (107 : Nat) = 0 then _ else if (2 : Nat) = 3 then _ else if (2 : Nat) = 2 then ((if (107 : Nat) = 104 then _ else if (107 : Nat) = 107 then (if (0 : Nat) = 0 then (if t_v X len P ≤ 20 then some (B, H) else none) else _) else _).bind _) else none) = _
      rw [if_neg (by decide), if_neg (by decide), if_pos rfl, if_neg (by decide), if_pos rfl, if_pos rfl, if_pos c.2]
      rfl)]
    obtain ⟨n, rfl⟩ : ∃ n', n = n' + 1 := ⟨n - 1, by omega⟩
    have fr2 := wT9_G f2
    generalize hP1 : t_n X len P = P1 at *
    generalize hv1 : t_v X len P = v1 at *
    have bad : ∀ (hb : t_k X len P1 ≠ 0 → ¬ (t_k X len P1 = 2 ∧ t_v X len P1 ≤ 20 ∧ g_fre B v1 (t_v X len P1) = true)), mG S (((f_X9_readsCorner_40 (nI v1) 0 S2).bind (fun r38 => some ((), r38.2))).bind (fun r73 => f_X9_plate_76 (f_X9_plate_25 (m + 1)) (nI M) r73.2)) (g_run X len (n + 1) (gA.mk B H 107 1 v1 v1 M P1)) := fun hb => by
      have tk0 : f_X9_takes 0 S2 = some (nI 0, z_w S2 87 7 (nI (t_s X len P1))) := s9_tk0 b2
      rw [s9_c40 (y := 0) tk0 (c := B 0) (by omega) (by rw [b_wk (by omega)]; exact b2.2.1 0 (by omega)), Option.bind_some, Option.bind_some]
      dsimp only
      rw [s9_bad (f := t_s X len P1) (by omega) (by unfold mCw; rw [b_wk (by omega), b_wk (by omega), b_wk (by omega), b_wh]), g_run_bad (show (gA.mk B H 107 1 v1 v1 M P1).I ≠ 0 from by show (107 : Nat) ≠ 0; decide) (fun k0 => by
        have hb' := hb k0
        show (if (107 : Nat) = 0 then _ else if t_k X len P1 = 3 then (if (107 : Nat) = 112 then _ else (if (1 : Nat) = (if (107 : Nat) = 104 then 1 else 2) then _ else none)) else if t_k X len P1 = 2 then ((if (107 : Nat) = 104 then _ else if (107 : Nat) = 107 then (if (1 : Nat) = 0 then _ else (if (1 : Nat) = 1 ∧ t_v X len P1 ≤ 20 ∧ B 0 < 9 ∧ g_fre B v1 (t_v X len P1) = true then _ else none)) else _).bind _) else none) = none
        rw [if_neg (by decide)]
        by_cases k3 : t_k X len P1 = 3
        · rw [if_pos k3, if_neg (by decide), if_neg (by decide)]
        · rw [if_neg k3]
          by_cases k2 : t_k X len P1 = 2
          · rw [if_pos k2, if_neg (by decide), if_pos rfl, if_neg (by decide), if_neg (fun q => hb' ⟨k2, q.2.1, q.2.2.2⟩)]; rfl
          · rw [if_neg k2])]
      exact ⟨_, rfl, x_fr_tr (x_fr_w fr2 (Or.inl ⟨rfl, by omega, by omega⟩)) mCw_fr⟩
    by_cases c2 : t_k X len P1 = 2 ∧ t_v X len P1 ≤ 20
    · rw [if_pos c2, if_neg (c := nI 1 = 0) (by decide)]
      dsimp only
      rw [b2.2.2.2.2.2.2.2.2 (by omega), s9_free w b2.2.1 (by omega) (by omega), Option.bind_some]
      by_cases c3 : g_fre B v1 (t_v X len P1) = true
      · have gt2 := t_n_gt tn (show t_k X len P1 ≠ 0 by omega)
        obtain ⟨S3, r3, f3, b3⟩ := s9_tk1 hl hx tn b2 (by omega)
        rw [if_pos c3, if_neg (c := nI 1 = 0) (by decide)]
        dsimp only
        rw [s9_c40 r3 (c := B 0) (by omega) (b3.2.1 0 (by omega)), Option.bind_some, Option.bind_some]
        dsimp only
        rw [g_run_go (A := gA.mk B H 107 1 v1 v1 M P1) (A' := gA.mk (g_cb B v1 (t_v X len P1)) H 107 2 v1 (t_v X len P1) M (t_n X len P1)) (show t_k X len P1 ≠ 0 by omega) (by
          show g_stp (gA.mk B H 107 1 v1 v1 M P1) (t_k X len P1) (t_v X len P1) (t_n X len P1) = _
          rw [c2.1]
          show (if (107 : Nat) = 0 then _ else if (2 : Nat) = 3 then _ else if (2 : Nat) = 2 then ((if (107 : Nat) = 104 then _ else if (107 : Nat) = 107 then (if (1 : Nat) = 0 then _ else (if (1 : Nat) = 1 ∧ t_v X len P1 ≤ 20 ∧ B 0 < 9 ∧ g_fre B v1 (t_v X len P1) = true then some (g_cb B v1 (t_v X len P1), H) else none)) else _).bind _) else none) = _
          rw [if_neg (by decide), if_neg (by decide), if_pos rfl, if_neg (by decide), if_pos rfl, if_neg (by decide), if_pos ⟨rfl, c2.2, h9, c3⟩]
          rfl)]
        obtain ⟨n, rfl⟩ : ∃ n', n = n' + 1 := ⟨n - 1, by omega⟩
        have b4 : mB (g_cb B v1 (t_v X len P1)) H (t_n X len P1) X len (mCw (B 0) v1 (t_v X len P1) S3) := mB_fr b3 (x_fr_w (W := fun q _ => q = 90) (x_fr_w (x_fr_w x_fr_rf rfl) rfl) rfl) (fun q j q1 q2 => by omega) (fun j hj => by
          unfold mCw g_cb
          by_cases j0 : j = 0
          · rw [j0, b_wh, x_up_h]
          · rw [b_wj j0, x_up_j j0]
            by_cases j1 : j = 13 + B 0
            · rw [j1, b_wh, x_up_h]
            · rw [b_wj j1, x_up_j j1]
              by_cases j2 : j = 4 + B 0
              · rw [j2, b_wh, x_up_h]
              · rw [b_wj j2, x_up_j j2]; exact b3.2.1 j hj)
        have rt := g_run_tail (X := X) (len := len) (n := n) (A := gA.mk (g_cb B v1 (t_v X len P1)) H 107 2 v1 (t_v X len P1) M (t_n X len P1)) (A3 := gA.mk (g_cb B v1 (t_v X len P1)) H 0 2 v1 (t_v X len P1) (M + 1) (t_n X len (t_n X len P1))) (by show (107 : Nat) ≠ 0; decide) rfl (fun k v hk => by
          show (if (107 : Nat) = 0 then _ else if k = 3 then _ else if k = 2 then ((if (107 : Nat) = 104 then _ else if (107 : Nat) = 107 then (if (2 : Nat) = 0 then _ else (if (2 : Nat) = 1 ∧ v ≤ 20 ∧ g_cb B v1 (t_v X len P1) 0 < 9 ∧ g_fre (g_cb B v1 (t_v X len P1)) v1 v = true then _ else none)) else _).bind _) else none) = none
          rw [if_neg (by decide), if_neg hk]
          by_cases k2 : k = 2
          · rw [if_pos k2, if_neg (by decide), if_pos rfl, if_neg (by decide), if_neg (c := (2 : Nat) = 1 ∧ v ≤ 20 ∧ g_cb B v1 (t_v X len P1) 0 < 9 ∧ g_fre (g_cb B v1 (t_v X len P1)) v1 v = true) (fun q => absurd q.1 (by decide))]; rfl
          · rw [if_neg k2])
        rw [rt]
        refine mG_tr (x_fr_tr (x_fr_tr fr2 (wT9_G f3)) mCw_fr) (s9_tail hl hx tn2 b4 (by omega) (fun k3 S4 b5 => ?_))
        have gt3 := t_n_gt tn2 (show t_k X len (t_n X len P1) ≠ 0 by omega)
        have tn3 := t_n_le (X := X) tn2
        have sl3 := t_s_le (X := X) tn2
        exact ih _ _ _ _ _ _ _ S4 n (by omega) tn3 (uB_cb w h9 c.2 c2.2) hH (by omega) b5 (by omega)
      · rw [if_neg c3, if_pos (c := nI 0 = 0) nI_0]
        exact bad (fun _ q => c3 q.2.2)
    · rw [if_neg c2, if_pos (c := nI 0 = 0) nI_0]
      exact bad (fun _ q => c2 ⟨q.1, q.2.1⟩)
  · have r2 : f_X9_takes (nI 0) S = some (nI 0, z_w S 87 7 (nI (t_s X len P))) := s9_tk0 h
    have isn2 : f_X9_isNumber 0 20 (z_w S 87 7 (nI (t_s X len P))) = some (if t_k X len P = 2 ∧ t_v X len P ≤ 20 then nI 1 else nI 0, z_w S 87 7 (nI (t_s X len P))) := s9_numG (y := 20) (by rw [b_wj (by omega)]; exact h.2.2.2.2.2.2.1) (fun q => by rw [b_wj (by omega)]; exact h.2.2.2.2.2.2.2.2 q) hx hP (by omega)
    have tk0 : f_X9_takes 0 (z_w S 87 7 (nI (t_s X len P))) = some (nI 0, z_w S 87 7 (nI (t_s X len P))) := s9_tkF (f := t_s X len P) (by omega) b_wh 0
    rw [if_neg c]
    dsimp only
    rw [r2, Option.bind_some]
    dsimp only
    rw [isn2, Option.bind_some, if_neg c, if_pos (c := nI 0 = 0) nI_0]
    dsimp only
    rw [s9_c40 (x := 0) (y := 0) tk0 (c := B 0) (by omega) (by rw [b_wk (by omega)]; exact h.2.1 0 (by omega)), Option.bind_some, Option.bind_some]
    dsimp only
    rw [s9_bad (f := t_s X len P) (by omega) (by unfold mCw; rw [b_wk (by omega), b_wk (by omega), b_wk (by omega), b_wh]), g_run_bad (show (gA.mk B H 107 0 F L M P).I ≠ 0 from by show (107 : Nat) ≠ 0; decide) (fun k0 => by
      show (if (107 : Nat) = 0 then _ else if t_k X len P = 3 then (if (107 : Nat) = 112 then _ else (if (0 : Nat) = (if (107 : Nat) = 104 then 1 else 2) then _ else none)) else if t_k X len P = 2 then ((if (107 : Nat) = 104 then _ else if (107 : Nat) = 107 then (if (0 : Nat) = 0 then (if t_v X len P ≤ 20 then _ else none) else _) else _).bind _) else none) = none
      rw [if_neg (by decide)]
      by_cases k3 : t_k X len P = 3
      · rw [if_pos k3, if_neg (by decide), if_neg (by decide)]
      · rw [if_neg k3]
        by_cases k2 : t_k X len P = 2
        · rw [if_pos k2, if_neg (by decide), if_pos rfl, if_pos rfl, if_neg (fun q => c ⟨k2, q⟩)]; rfl
        · rw [if_neg k2])]
    exact ⟨_, rfl, x_fr_tr (x_fr_w x_fr_rf (Or.inl ⟨rfl, by omega, by omega⟩)) mCw_fr⟩
theorem s9_sItem (hl : len ≤ 110) (hx : ∀ k, k < len → X k ≤ 255) (hP : P ≤ len) (w : uB B) (hH : H ≤ 1) (hM : M ≤ P) (h : mB B H P X len S) {n : Nat} (hn : len - P < n) (ih : mIH X len m P) : mG S ((f_X9_readsItem 115 S).bind (fun r73 => f_X9_plate_76 (f_X9_plate_25 (m + 1)) (nI M) r73.2)) (g_run X len n (gA.mk B H 115 0 F L M P)) := by
  obtain ⟨n, rfl⟩ : ∃ n', n = n' + 1 := ⟨n - 1, by omega⟩
  have wb := w.1
  have sl := t_s_le (X := X) hP
  have tn := t_n_le (X := X) hP
  have isn := s9_isCo h hx hP wb.1
  rw [f_X9_readsItem, if_neg (show ¬ (115 : Int32) = 104 from by decide), if_neg (show ¬ (115 : Int32) = 107 from by decide), if_neg (show ¬ (115 : Int32) = 112 from by decide), f_X9_readsSeam, isn, Option.bind_some]
  by_cases c : t_k X len P = 2 ∧ t_v X len P < B 0
  · have gt := t_n_gt hP (show t_k X len P ≠ 0 by omega)
    obtain ⟨S2, r2, f2, b2⟩ := s9_tk1 hl hx hP h (by omega)
    have r2' : f_X9_takes (nI 1) S = some (nI (t_v X len P), S2) := r2
    have sl2 := t_s_le (X := X) tn
    have tn2 := t_n_le (X := X) tn
    have isn2 := s9_isCo b2 hx tn wb.1
    rw [if_pos c]
    dsimp only
    rw [r2', Option.bind_some]
    dsimp only
    rw [s9_well b2.1, Option.bind_some, if_neg (c := nI 1 = 0) (by decide)]
    dsimp only
    rw [isn2, Option.bind_some]
    rw [g_run_go (A := gA.mk B H 115 0 F L M P) (A' := gA.mk B H 115 1 (t_v X len P) (t_v X len P) M (t_n X len P)) (show t_k X len P ≠ 0 by omega) (by
      show g_stp (gA.mk B H 115 0 F L M P) (t_k X len P) (t_v X len P) (t_n X len P) = _
      rw [c.1]
      show (if (115 : Nat) = 0 then _ else if (2 : Nat) = 3 then _ else if (2 : Nat) = 2 then ((if (115 : Nat) = 104 then _ else if (115 : Nat) = 107 then _ else if (115 : Nat) = 112 then _ else (if t_v X len P < B 0 then (if (0 : Nat) = 0 then some (B, H) else _) else none)).bind _) else none) = _
      rw [if_neg (by decide), if_neg (by decide), if_pos rfl, if_neg (by decide), if_neg (by decide), if_neg (by decide), if_pos c.2, if_pos rfl]
      rfl)]
    obtain ⟨n, rfl⟩ : ∃ n', n = n' + 1 := ⟨n - 1, by omega⟩
    have fr2 := wT9_G f2
    generalize hP1 : t_n X len P = P1 at *
    generalize hv1 : t_v X len P = v1 at *
    have bad : ∀ (hb : t_k X len P1 ≠ 0 → ¬ (t_k X len P1 = 2 ∧ t_v X len P1 < B 0 ∧ t_v X len P1 ≠ v1 ∧ g_jc B v1 (t_v X len P1) ≠ none)), mG S (((f_X9_readsSeam_49 (nI v1) 0 S2).bind (fun r58 => some ((), r58.2))).bind (fun r73 => f_X9_plate_76 (f_X9_plate_25 (m + 1)) (nI M) r73.2)) (g_run X len (n + 1) (gA.mk B H 115 1 v1 v1 M P1)) := fun hb => by
      have tk0 : f_X9_takes 0 S2 = some (nI 0, z_w S2 87 7 (nI (t_s X len P1))) := s9_tk0 b2
      rw [f_X9_readsSeam_49, tk0, Option.bind_some]
      dsimp only
      rw [s9_cutsF (f := t_s X len P1) (by omega) b_wh, Option.bind_some, Option.bind_some, Option.bind_some]
      dsimp only
      rw [s9_bad (f := t_s X len P1) (by omega) b_wh, g_run_bad (show (gA.mk B H 115 1 v1 v1 M P1).I ≠ 0 from by show (115 : Nat) ≠ 0; decide) (fun k0 => by
        have hb' := hb k0
        show (if (115 : Nat) = 0 then _ else if t_k X len P1 = 3 then (if (115 : Nat) = 112 then _ else (if (1 : Nat) = (if (115 : Nat) = 104 then 1 else 2) then _ else none)) else if t_k X len P1 = 2 then ((if (115 : Nat) = 104 then _ else if (115 : Nat) = 107 then _ else if (115 : Nat) = 112 then _ else (if t_v X len P1 < B 0 then (if (1 : Nat) = 0 then _ else (if (1 : Nat) = 1 ∧ t_v X len P1 ≠ v1 then (g_jc B v1 (t_v X len P1)).bind (fun B' => some (B', H)) else none)) else none)).bind _) else none) = none
        rw [if_neg (by decide)]
        by_cases k3 : t_k X len P1 = 3
        · rw [if_pos k3, if_neg (by decide), if_neg (by decide)]
        · rw [if_neg k3]
          by_cases k2 : t_k X len P1 = 2
          · rw [if_pos k2, if_neg (by decide), if_neg (by decide), if_neg (by decide)]
            by_cases z1 : t_v X len P1 < B 0
            · rw [if_pos z1, if_neg (by decide)]
              by_cases z2 : t_v X len P1 ≠ v1
              · rw [if_pos ⟨rfl, z2⟩]
                rcases hj : g_jc B v1 (t_v X len P1) with _ | B'
                · rfl
                · exact absurd ⟨k2, z1, z2, by rw [hj]; intro q; cases q⟩ hb'
              · rw [if_neg (fun q => z2 q.2)]; rfl
            · rw [if_neg z1]; rfl
          · rw [if_neg k2])]
      exact ⟨_, rfl, x_fr_w fr2 (Or.inl ⟨rfl, by omega, by omega⟩)⟩
    by_cases c2 : t_k X len P1 = 2 ∧ t_v X len P1 < B 0
    · rw [if_pos c2, if_neg (c := nI 1 = 0) (by decide)]
      dsimp only
      rw [b2.2.2.2.2.2.2.2.2 (by omega)]
      by_cases c3 : t_v X len P1 = v1
      · rw [if_pos (show nI (t_v X len P1) = nI v1 by rw [c3])]
        exact bad (fun _ q => q.2.2.1 c3)
      · rw [if_neg (show ¬ nI (t_v X len P1) = nI v1 from fun q => c3 ((nI_eq (by omega) (by omega)).mp q)), s9_room w b2.2.1 (by omega) (by omega), Option.bind_some]
        rcases hj : g_jc B v1 (t_v X len P1) with _ | B'
        · rw [if_pos (c := (none : Option (Nat → Nat)) = none) rfl, if_pos (c := nI 0 = 0) nI_0]
          exact bad (fun _ q => q.2.2.2 hj)
        · have gt2 := t_n_gt tn (show t_k X len P1 ≠ 0 by omega)
          obtain ⟨S3, r3, f3, b3⟩ := s9_tk1 hl hx tn b2 (by omega)
          obtain ⟨S4, r4, f4, b4⟩ := s9_cuts w b3.1 b3.2.1 (u := v1) (v := t_v X len P1) (by omega) (by omega) hj
          obtain ⟨q1, q2, q3, q4⟩ := uB_jc w c.2 c2.2 (fun q => c3 q.symm) hj
          rw [if_neg (c := some B' = none) (by intro q; cases q), if_neg (c := nI 1 = 0) (by decide), f_X9_readsSeam_49, r3, Option.bind_some]
          dsimp only
          rw [r4, Option.bind_some, Option.bind_some, Option.bind_some]
          dsimp only
          rw [g_run_go (A := gA.mk B H 115 1 v1 v1 M P1) (A' := gA.mk B' H 115 2 v1 (t_v X len P1) M (t_n X len P1)) (show t_k X len P1 ≠ 0 by omega) (by
            show g_stp (gA.mk B H 115 1 v1 v1 M P1) (t_k X len P1) (t_v X len P1) (t_n X len P1) = _
            rw [c2.1]
            show (if (115 : Nat) = 0 then _ else if (2 : Nat) = 3 then _ else if (2 : Nat) = 2 then ((if (115 : Nat) = 104 then _ else if (115 : Nat) = 107 then _ else if (115 : Nat) = 112 then _ else (if t_v X len P1 < B 0 then (if (1 : Nat) = 0 then _ else (if (1 : Nat) = 1 ∧ t_v X len P1 ≠ v1 then (g_jc B v1 (t_v X len P1)).bind (fun B' => some (B', H)) else none)) else none)).bind _) else none) = _
            rw [if_neg (by decide), if_neg (by decide), if_pos rfl, if_neg (by decide), if_neg (by decide), if_neg (by decide), if_pos c2.2, if_neg (by decide), if_pos ⟨rfl, c3⟩, hj]
            rfl)]
          obtain ⟨n, rfl⟩ : ∃ n', n = n' + 1 := ⟨n - 1, by omega⟩
          have b5 : mB B' H (t_n X len P1) X len S4 := mB_fr b3 f4 (fun q j q1 q2 => by omega) b4
          have rt := g_run_tail (X := X) (len := len) (n := n) (A := gA.mk B' H 115 2 v1 (t_v X len P1) M (t_n X len P1)) (A3 := gA.mk B' H 0 2 v1 (t_v X len P1) (M + 1) (t_n X len (t_n X len P1))) (by show (115 : Nat) ≠ 0; decide) rfl (fun k v hk => by
            show (if (115 : Nat) = 0 then _ else if k = 3 then _ else if k = 2 then ((if (115 : Nat) = 104 then _ else if (115 : Nat) = 107 then _ else if (115 : Nat) = 112 then _ else (if v < B' 0 then (if (2 : Nat) = 0 then _ else (if (2 : Nat) = 1 ∧ v ≠ v1 then _ else none)) else none)).bind _) else none) = none
            rw [if_neg (by decide), if_neg hk]
            by_cases k2 : k = 2
            · rw [if_pos k2, if_neg (by decide), if_neg (by decide), if_neg (by decide)]
              by_cases z1 : v < B' 0
              · rw [if_pos z1, if_neg (by decide), if_neg (fun q => absurd q.1 (by decide))]; rfl
              · rw [if_neg z1]; rfl
            · rw [if_neg k2])
          rw [rt]
          refine mG_tr (x_fr_tr (x_fr_tr fr2 (wT9_G f3)) (x_fr_sub f4 (fun q j hq => Or.inr hq))) (s9_tail hl hx tn2 b5 (by omega) (fun k3 S5 b6 => ?_))
          have gt3 := t_n_gt tn2 (show t_k X len (t_n X len P1) ≠ 0 by omega)
          have tn3 := t_n_le (X := X) tn2
          have sl3 := t_s_le (X := X) tn2
          exact ih _ _ _ _ _ _ _ S5 n (by omega) tn3 q1 hH (by omega) b6 (by omega)
    · rw [if_neg c2, if_pos (c := nI 0 = 0) nI_0]
      exact bad (fun _ q => c2 ⟨q.1, q.2.1⟩)
  · have r2 : f_X9_takes (nI 0) S = some (nI 0, z_w S 87 7 (nI (t_s X len P))) := s9_tk0 h
    have tk0 : f_X9_takes 0 (z_w S 87 7 (nI (t_s X len P))) = some (nI 0, z_w S 87 7 (nI (t_s X len P))) := s9_tkF (f := t_s X len P) (by omega) b_wh 0
    rw [if_neg c]
    dsimp only
    rw [r2, Option.bind_some]
    dsimp only
    rw [s9_ill (f := t_s X len P) (by omega) b_wh, Option.bind_some, if_pos (c := nI 0 = 0) nI_0, f_X9_readsSeam_49]
    dsimp only
    rw [tk0, Option.bind_some]
    dsimp only
    rw [s9_cutsF (f := t_s X len P) (by omega) b_wh, Option.bind_some, Option.bind_some, Option.bind_some]
    dsimp only
    rw [s9_bad (f := t_s X len P) (by omega) b_wh, g_run_bad (show (gA.mk B H 115 0 F L M P).I ≠ 0 from by show (115 : Nat) ≠ 0; decide) (fun k0 => by
      show (if (115 : Nat) = 0 then _ else if t_k X len P = 3 then (if (115 : Nat) = 112 then _ else (if (0 : Nat) = (if (115 : Nat) = 104 then 1 else 2) then _ else none)) else if t_k X len P = 2 then ((if (115 : Nat) = 104 then _ else if (115 : Nat) = 107 then _ else if (115 : Nat) = 112 then _ else (if t_v X len P < B 0 then _ else none)).bind _) else none) = none
      rw [if_neg (by decide)]
      by_cases k3 : t_k X len P = 3
      · rw [if_pos k3, if_neg (by decide), if_neg (by decide)]
      · rw [if_neg k3]
        by_cases k2 : t_k X len P = 2
        · rw [if_pos k2, if_neg (by decide), if_neg (by decide), if_neg (by decide), if_neg (fun q => c ⟨k2, q⟩)]; rfl
        · rw [if_neg k2])]
    exact ⟨_, rfl, x_fr_w x_fr_rf (Or.inl ⟨rfl, by omega, by omega⟩)⟩
end MIU
