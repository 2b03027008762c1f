section CRD
variable {A : gA} {k v pn Q : Nat} {S : zS} {X : Nat → Nat} {len : Nat}
theorem s3_nmb (w : uA A) (h : cA A Q S) (hQ : Q = 3 ∨ Q = 17) (hM : A.M < 1000) (ht : S.1 31 2 = nI (g_ctk k v)) (h4 : k ≤ 4) (hk0 : k ≠ 0) (hk1 : k = 1 → v = 104 ∨ v = 107 ∨ v = 112 ∨ v = 115) (hk2 : k = 2 → S.1 31 3 = nI v) (hv : v < 2 ^ 31) (c0 : ¬ A.I = 0) (k2 : k = 2) : (g_stp A k v pn = none → ∃ S', f_X3_takesToken Q S = some (nI 0, S') ∧ x_fr (wP Q) S S') ∧ ∀ A', g_stp A k v pn = some A' → ∃ S', f_X3_takesToken Q S = some (nI 1, S') ∧ x_fr (wP Q) S S' ∧ cA A' Q S' := by
  have w1 := w.1
  have w2 := w.2.1
  have w4 := w.2.2.2.1
  have w7 := w.2.2.2.2.2.2
  have iL : A.I < 256 := by have := w.2.2.1; omega
  obtain ⟨h1, h2, h3, h5, h6, h7⟩ := id h
  have wb := w1.1
  have fin : ∀ (x : Int32) (S' : zS), x = nI 0 ∨ x = nI 1 → (if x = 0 ∨ x = 1 then some (x, S') else none) = some (x, S') := fun x S' hx => if_pos hx
  unfold g_stp
  have e5 := h5 c0
  have n5 := w4 c0
  clear hk1 w4 w7
  rw [if_neg c0, f_X3_takesToken, h3, if_neg (nI_ne0 (by omega) (by omega)), ht, if_neg (show ¬ k = 3 by omega)]
  have ev : g_ctk k v = 1 := by rw [k2]; rfl
  have hv3 := hk2 k2
  have nb := s3_num2 w h c0 hv3 hv hQ
  rw [if_pos k2, ev, if_neg (show ¬ nI 1 = 59 from by decide), if_pos (show nI 1 = 1 from rfl)]
  rcases hq : g_nb A v with _ | ⟨B', H'⟩
  · obtain ⟨S1, r1, f1⟩ := nb.1 hq
    rw [r1, Option.bind_some, if_pos (c := nI 0 = 0) nI_0]
    exact ⟨fun _ => ⟨S1, rfl, f1⟩, fun A' q => (by cases q)⟩
  · obtain ⟨S1, r1, f1, d1, d2, d3⟩ := nb.2 _ hq
    have e3 : S1.1 31 3 = nI v := by rw [f1.2 _ _ (by omega)]; exact hv3
    have e55 : S1.1 31 5 = nI A.N := by rw [f1.2 _ _ (by omega)]; exact e5
    have e66 : 0 < A.N → S1.1 31 6 = nI A.F := fun q => by rw [f1.2 _ _ (by omega)]; exact (h6 c0 q).1
    have e44 : S1.1 31 4 = nI A.I := by rw [f1.2 _ _ (by omega)]; exact h3
    simp only [r1, Option.bind_some]
    rw [if_neg (c := nI 1 = 0) (by decide), b_wj (by omega), e55]
    have frA : ∀ S2, x_fr (fun a j => a = 31 ∧ 5 ≤ j ∧ j ≤ 7) S1 S2 → S2.1 31 5 = nI (A.N + 1) → S2.1 31 6 = nI (if A.N = 0 then v else A.F) → S2.1 31 7 = nI v → x_fr (wP Q) S S2 ∧ cA (gA.mk B' H' A.I (A.N + 1) (if A.N = 0 then v else A.F) v A.M pn) Q S2 := fun S2 f2 g5 g6 g7 => by
      refine ⟨x_fr_tr (x_fr_sub f1 (fun q j hq => by unfold wP; omega)) (x_fr_sub f2 (fun q j hq => by unfold wP; omega)), ?_⟩
      have this2 : B' 2 ≤ 4 := (uA_stp (A' := gA.mk B' H' A.I (A.N + 1) (if A.N = 0 then v else A.F) v A.M pn) (k := 2) (v := v) (pn := pn) w (fun q => by omega) (by unfold g_stp; rw [if_neg c0, if_neg (by omega), if_pos rfl, hq]; rfl)).1.1.1.2.2.1
      refine ⟨cD_fr d1 this2 f2 (fun q j q1 q2 => by omega) (by rw [f2.2 _ _ (by omega)]; exact d1.1.2.2.2.2), fun q i hi => ?_, (by rw [f2.2 _ _ (by omega)]; exact e44), fun _ => g5, fun _ _ => ⟨g6, g7⟩, (show S2.1 31 8 = nI H' from by rw [f2.2 _ _ (by omega)]; exact d3)⟩
      show S2.1 (Q + 8 + B' 2) i = nI (B' (54 + 5 * B' 2 + i))
      rw [f2.2 _ _ (by omega)]; exact d2 q i hi
    by_cases y : A.N = 0
    · rw [y, if_pos (c := nI 0 = 0) nI_0]
      refine ⟨fun q => (by cases q), fun A' q => ?_⟩
      cases q
      have g := frA (z_w (z_w (z_w S1 31 7 (nI v)) 31 6 (nI v)) 31 5 (nI (A.N + 1))) (x_fr_w (x_fr_w (x_fr_w x_fr_rf ⟨rfl, by omega, by omega⟩) ⟨rfl, by omega, by omega⟩) ⟨rfl, by omega, by omega⟩) b_wh (by rw [b_wj (by omega), b_wh, if_pos y]) (by rw [b_wj (by omega), b_wj (by omega), b_wh])
      rw [y] at g
      refine ⟨_, ?_, g⟩
      rw [e3, b_wj (by omega), e3, b_wj (by omega), b_wj (by omega), e55, y, show (1 : Int32) = nI 1 from rfl, nI_add]
    · rw [if_neg (nI_ne0 (by omega) (by omega))]
      refine ⟨fun q => (by cases q), fun A' q => ?_⟩
      cases q
      have g := frA (z_w (z_w S1 31 7 (nI v)) 31 5 (nI (A.N + 1))) (x_fr_w (x_fr_w x_fr_rf ⟨rfl, by omega, by omega⟩) ⟨rfl, by omega, by omega⟩) b_wh (by rw [b_wj (by omega), b_wj (by omega), e66 (by omega), if_neg y]) (by rw [b_wj (by omega), b_wh])
      refine ⟨_, ?_, g⟩
      rw [e3, show (1 : Int32) = nI 1 from rfl, nI_add]
end CRD
