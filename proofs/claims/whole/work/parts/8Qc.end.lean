section CRD
variable {A : gA} {k v pn Q : Nat} {S : zS} {X : Nat → Nat} {len : Nat}
theorem s3_end (w : uA A) (h : cA A Q S) (hQ : Q = 3 ∨ Q = 17) (hM : A.M < 1000) (ht : S.1 31 2 = nI (g_ctk k v)) (h4 : k ≤ 4) (hk0 : k ≠ 0) (hk1 : k = 1 → v = 104 ∨ v = 107 ∨ v = 112 ∨ v = 115) (hk2 : k = 2 → S.1 31 3 = nI v) (hv : v < 2 ^ 31) (c0 : ¬ A.I = 0) (k3 : k = 3) : (g_stp A k v pn = none → ∃ S', f_X3_takesToken Q S = some (nI 0, S') ∧ x_fr (wP Q) S S') ∧ ∀ A', g_stp A k v pn = some A' → ∃ S', f_X3_takesToken Q S = some (nI 1, S') ∧ x_fr (wP Q) S S' ∧ cA A' Q S' := by
  have w1 := w.1
  have w2 := w.2.1
  have w4 := w.2.2.2.1
  have w7 := w.2.2.2.2.2.2
  have iL : A.I < 256 := by have := w.2.2.1; omega
  obtain ⟨h1, h2, h3, h5, h6, h7⟩ := id h
  have wb := w1.1
  have fin : ∀ (x : Int32) (S' : zS), x = nI 0 ∨ x = nI 1 → (if x = 0 ∨ x = 1 then some (x, S') else none) = some (x, S') := fun x S' hx => if_pos hx
  unfold g_stp
  have e5 := h5 c0
  have n5 := w4 c0
  clear hk1 w4
  rw [if_neg c0, f_X3_takesToken, h3, if_neg (nI_ne0 (by omega) (by omega)), ht]
  have ev : g_ctk k v = 59 := by rw [k3]; rfl
  rw [if_pos k3, ev, if_pos (show nI 59 = 59 from rfl), f_X3_endsItem, h3]
  have r43y : ∀ S2, S2.1 Q 13 = nI A.M → f_X3_endsItem_43 Q 1 S2 = some (nI 1, z_w (z_w S2 31 4 (nI 0)) Q 13 (nI (A.M + 1))) := fun S2 e => by
    rw [f_X3_endsItem_43, if_neg (show ¬ (1 : Int32) = 0 from by decide), if_pos (Or.inr rfl), b_wk (by omega), e, show (1 : Int32) = nI 1 from rfl, nI_add]
    rfl
  have r43n : ∀ S2, f_X3_endsItem_43 Q 0 S2 = some (nI 0, S2) := fun S2 => by
    rw [f_X3_endsItem_43, if_pos rfl, if_pos (Or.inl rfl)]
    rfl
  by_cases i2 : A.I = 112
  · obtain ⟨p1, p2, p3, p4, p5⟩ := w7 i2
    have ring := h2 i2
    rw [if_pos i2, i2, if_pos (show nI 112 = 112 from rfl), f_X3_endsRing, h1.1.2.2.1, e5, if_neg (show ¬ (4 : Int32) ≤ nI (A.B 2) from nI_ge (b := 4) (by omega) (by omega))]
    by_cases z : 3 ≤ A.N
    · have fl := p5 (by omega)
      have f67 := h6 c0 (by omega)
      have jl : A.L < A.B 0 := by rw [fl.2]; exact p2 _ (by omega)
      have jf : A.F < A.B 0 := by rw [fl.1]; exact p2 0 (by omega)
      have ne : A.L ≠ A.F := by
        rw [fl.1, fl.2]
        exact fun q => p3 0 (A.N - 1) (by omega) (by omega) q.symm
      have jn := s1_join (B := A.B) (u := A.L) (v := A.F) h1.1.1 wb.1 wb.2.1 ⟨h1.1.2.1, h1.2.2.1⟩ jl jf ne
      rw [if_neg (show ¬ nI A.N < 3 from nI_nlt (b := 3) (by omega) (by omega)), f67.2, f67.1, if_pos (show A.B 2 < 4 ∧ 3 ≤ A.N from ⟨p1, z⟩)]
      rcases hj : g_jc A.B A.L A.F with _ | B'
      · rw [jn.1 hj, Option.bind_some, if_pos (c := nI 0 = 0) nI_0, Option.bind_some]
        dsimp only
        rw [r43n]
        refine ⟨fun _ => ⟨S, fin (nI 0) S (Or.inl rfl), x_fr_rf⟩, fun A' q => (by cases q)⟩
      · obtain ⟨S2, j1, j2, j3⟩ := jn.2 B' hj
        obtain ⟨q1, q2, q3, q4⟩ := uB_jc w1 jl jf ne hj
        have dj := cD_join h1 j2 j3 q2 wb.1
        have e27 : S2.1 Q 7 = nI (A.B 2) := by rw [j2.2 _ _ (by unfold wJn; omega)]; exact h1.1.2.2.1
        have e25 : S2.1 31 5 = nI A.N := by rw [j2.2 _ _ (by unfold wJn; omega)]; exact e5
        simp only [j1, Option.bind_some]
        rw [if_neg (c := nI 1 = 0) (by decide), e27, if_pos ((x_in (by omega)).mpr (by omega)), nI_clamp (by omega), e25, b_wk (by omega), e27, show (1 : Int32) = nI 1 from rfl, nI_add]
        simp only [Option.bind_some]
        refine ⟨fun q => (by cases q), fun A' q => ?_⟩
        cases q
        have fr : x_fr (fun a j => (a = Q + 6 ∧ j = A.B 2) ∨ (a = Q ∧ (j = 7 ∨ j = 13)) ∨ (a = 31 ∧ j = 4)) S2 (z_w (z_w (z_w (z_w S2 (Q + 6) (A.B 2) (nI A.N)) Q 7 (nI (A.B 2 + 1))) 31 4 (nI 0)) Q 13 (nI (A.M + 1))) := x_fr_w (x_fr_w (x_fr_w (x_fr_w x_fr_rf (Or.inl ⟨rfl, rfl⟩)) (Or.inr (Or.inl ⟨rfl, Or.inl rfl⟩))) (Or.inr (Or.inr ⟨rfl, rfl⟩))) (Or.inr (Or.inl ⟨rfl, Or.inr rfl⟩))
        have r := r43y (z_w (z_w S2 (Q + 6) (A.B 2) (nI A.N)) Q 7 (nI (A.B 2 + 1))) (by rw [b_wj (by omega), b_wk (by omega)]; exact dj.1.2.2.2.2)
        have r' : f_X3_endsItem_43 Q (nI 1) (z_w (z_w S2 (Q + 6) (A.B 2) (nI A.N)) Q 7 (nI (A.B 2 + 1))) = some (nI 1, z_w (z_w (z_w (z_w S2 (Q + 6) (A.B 2) (nI A.N)) Q 7 (nI (A.B 2 + 1))) 31 4 (nI 0)) Q 13 (nI (A.M + 1))) := r
        rw [r']
        have e : ∀ j, j ≠ 2 → j ≠ 50 + A.B 2 → x_up (x_up B' (50 + A.B 2) A.N) 2 (A.B 2 + 1) j = B' j := fun j h1 h2 => by rw [x_up_j h1, x_up_j h2]
        have e2 : x_up (x_up B' (50 + A.B 2) A.N) 2 (A.B 2 + 1) 2 = A.B 2 + 1 := x_up_h _ _ _
        have es : x_up (x_up B' (50 + A.B 2) A.N) 2 (A.B 2 + 1) (50 + A.B 2) = A.N := by rw [x_up_j (by omega), x_up_h]
        have b2 := q2 2 (by omega)
        have b0 := q2 0 (by omega)
        have wb' := q1.1
        refine ⟨_, fin _ _ (Or.inr rfl), x_fr_tr (x_fr_sub j2 (fun q j hq => by unfold wJn at hq; unfold wP; omega)) (x_fr_sub fr (fun q j hq => by unfold wP; omega)), (show cD (x_up (x_up B' (50 + A.B 2) A.N) 2 (A.B 2 + 1)) (A.M + 1) Q _ from ⟨⟨?_, ?_, ?_, ?_, ?_⟩, fun k hk => ?_, fun k hk => ?_, fun p hp => ?_⟩), fun q => absurd (show (0 : Nat) = 112 from q) (by decide), ?_, fun q => absurd rfl q, fun q => absurd rfl q, ?_⟩
        · rw [fr.2 _ _ (by omega), e _ (by omega) (by omega)]; exact dj.1.1
        · rw [fr.2 _ _ (by omega), e _ (by omega) (by omega)]; exact dj.1.2.1
        · rw [b_wj (by omega), b_wk (by omega), b_wh, e2]
        · rw [fr.2 _ _ (by omega), e _ (by omega) (by omega)]; exact dj.1.2.2.2.1
        · rw [b_wh]
        · rw [e _ (by omega) (by omega)] at hk
          rw [fr.2 _ _ (by omega), fr.2 _ _ (by omega), e _ (by omega) (by omega), e _ (by omega) (by omega)]; exact dj.2.1 k hk
        · rw [fr.2 _ _ (by omega), g_M_cong (e _ (by omega) (by omega)) (fun c hc => ⟨e _ (by omega) (by omega), e _ (by omega) (by omega)⟩) (by omega)]; exact dj.2.2.1 k hk
        · rw [e2] at hp
          by_cases y : p = A.B 2
          · rw [y, es]
            refine ⟨?_, fun i hi => ?_⟩
            · rw [b_wk (by omega), b_wk (by omega), b_wk (by omega), b_wh]
            · rw [fr.2 _ _ (by omega), e _ (by omega) (by omega), j2.2 _ _ (by unfold wJn; omega), q2 _ (by omega)]
              exact ring i hi
          · rw [e _ (by omega) (by omega)]
            have := dj.2.2.2 p (by omega)
            refine ⟨by rw [fr.2 _ _ (by omega)]; exact this.1, fun i hi => ?_⟩
            rw [fr.2 _ _ (by omega), e _ (by omega) (by omega)]; exact this.2 i hi
        · show (z_w (z_w (z_w (z_w S2 (Q + 6) (A.B 2) (nI A.N)) Q 7 (nI (A.B 2 + 1))) 31 4 (nI 0)) Q 13 (nI (A.M + 1))).1 31 4 = nI 0
          rw [b_wk (by omega), b_wh]
        · show _ = nI A.H
          rw [fr.2 _ _ (by omega), j2.2 _ _ (by unfold wJn; omega)]; exact h7
    · rw [if_pos (show nI A.N < 3 from nI_lt (b := 3) (by omega) (by omega)), if_neg (show ¬ (A.B 2 < 4 ∧ 3 ≤ A.N) from fun q => z q.2), Option.bind_some]
      dsimp only
      rw [r43n]
      exact ⟨fun _ => ⟨S, fin (nI 0) S (Or.inl rfl), x_fr_rf⟩, fun A' q => (by cases q)⟩
  · have ne112 : ¬ nI A.I = 112 := fun q => i2 ((nI_eq (b := 112) (by omega) (by omega)).mp q)
    rw [if_neg i2, if_neg ne112, e5]
    have r35 : ∀ y : Nat, y ≤ 2 → f_X3_endsItem_35 Q (nI y) (nI A.N) S = if A.N = y then some (nI 1, z_w (z_w S 31 4 (nI 0)) Q 13 (nI (A.M + 1))) else some (nI 0, S) := fun y hy => by
      rw [f_X3_endsItem_35]
      by_cases z : A.N = y
      · rw [if_pos (by rw [z]), if_pos z]; exact r43y S h1.1.2.2.2.2
      · rw [if_neg (fun q => z ((nI_eq (by omega) (by omega)).mp q)), if_neg z]; exact r43n S
    have fr : x_fr (fun a j => (a = Q ∧ j = 13) ∨ (a = 31 ∧ j = 4)) S (z_w (z_w S 31 4 (nI 0)) Q 13 (nI (A.M + 1))) := x_fr_w (x_fr_w x_fr_rf (Or.inr ⟨rfl, rfl⟩)) (Or.inl ⟨rfl, rfl⟩)
    have good : cA (gA.mk A.B A.H 0 A.N A.F A.L (A.M + 1) pn) Q (z_w (z_w S 31 4 (nI 0)) Q 13 (nI (A.M + 1))) :=
      ⟨cD_fr h1 wb.2.2.1 fr (fun q j q1 q2 => by omega) b_wh, fun q => absurd (show (0 : Nat) = 112 from q) (by decide), (show (z_w (z_w S 31 4 (nI 0)) Q 13 (nI (A.M + 1))).1 31 4 = nI 0 from by rw [b_wk (by omega), b_wh]), fun q => absurd rfl q, fun q => absurd rfl q, (show (z_w (z_w S 31 4 (nI 0)) Q 13 (nI (A.M + 1))).1 31 8 = nI A.H from by rw [fr.2 _ _ (by omega)]; exact h7)⟩
    have frP : x_fr (wP Q) S (z_w (z_w S 31 4 (nI 0)) Q 13 (nI (A.M + 1))) := x_fr_sub fr (fun q j hq => by unfold wP; omega)
    by_cases i1 : A.I = 104
    · rw [if_pos (show nI A.I = 104 by rw [i1]; rfl), show (1 : Int32) = nI 1 from rfl, r35 1 (by omega), if_pos i1]
      by_cases z : A.N = 1
      · rw [if_pos z, if_pos z, Option.bind_some]
        refine ⟨fun q => (by cases q), fun A' q => ?_⟩
        cases q
        exact ⟨_, fin (nI 1) _ (Or.inr rfl), frP, good⟩
      · rw [if_neg z, if_neg z, Option.bind_some]
        exact ⟨fun _ => ⟨S, fin (nI 0) S (Or.inl rfl), x_fr_rf⟩, fun A' q => (by cases q)⟩
    · rw [if_neg (show ¬ nI A.I = 104 from fun q => i1 ((nI_eq (b := 104) (by omega) (by omega)).mp q)), show (2 : Int32) = nI 2 from rfl, r35 2 (by omega), if_neg i1]
      by_cases z : A.N = 2
      · rw [if_pos z, if_pos z, Option.bind_some]
        refine ⟨fun q => (by cases q), fun A' q => ?_⟩
        cases q
        exact ⟨_, fin (nI 1) _ (Or.inr rfl), frP, good⟩
      · rw [if_neg z, if_neg z, Option.bind_some]
        exact ⟨fun _ => ⟨S, fin (nI 0) S (Or.inl rfl), x_fr_rf⟩, fun A' q => (by cases q)⟩
end CRD
