section CRD
variable {A : gA} {k v pn Q : Nat} {S : zS} {X : Nat → Nat} {len : Nat}
theorem s3_beg (w : uA A) (h : cA A Q S) (hQ : Q = 3 ∨ Q = 17) (hM : A.M < 1000) (ht : S.1 31 2 = nI (g_ctk k v)) (h4 : k ≤ 4) (hk0 : k ≠ 0) (hk1 : k = 1 → v = 104 ∨ v = 107 ∨ v = 112 ∨ v = 115) (hk2 : k = 2 → S.1 31 3 = nI v) (hv : v < 2 ^ 31) (c0 : A.I = 0) : (g_stp A k v pn = none → ∃ S', f_X3_takesToken Q S = some (nI 0, S') ∧ x_fr (wP Q) S S') ∧ ∀ A', g_stp A k v pn = some A' → ∃ S', f_X3_takesToken Q S = some (nI 1, S') ∧ x_fr (wP Q) S S' ∧ cA A' Q S' := by
  have w1 := w.1
  have w2 := w.2.1
  have w4 := w.2.2.2.1
  have w7 := w.2.2.2.2.2.2
  have iL : A.I < 256 := by have := w.2.2.1; omega
  obtain ⟨h1, h2, h3, h5, h6, h7⟩ := id h
  have wb := w1.1
  have fin : ∀ (x : Int32) (S' : zS), x = nI 0 ∨ x = nI 1 → (if x = 0 ∨ x = 1 then some (x, S') else none) = some (x, S') := fun x S' hx => if_pos hx
  clear w4 w7
  unfold g_stp
  rw [if_pos c0, f_X3_takesToken, h3, c0, if_pos (c := nI 0 = 0) nI_0, f_X3_beginsItem, ht]
  have fr : x_fr (fun q j => q = 31 ∧ (j = 4 ∨ j = 5)) S (z_w (z_w S 31 4 (nI (g_ctk k v))) 31 5 0) := x_fr_w (x_fr_w x_fr_rf ⟨rfl, Or.inl rfl⟩) ⟨rfl, Or.inr rfl⟩
  have frP : x_fr (wP Q) S (z_w (z_w S 31 4 (nI (g_ctk k v))) 31 5 0) := x_fr_sub fr (fun q j hq => Or.inl ⟨hq.1, by omega⟩)
  have v2 : (z_w (z_w S 31 4 (nI (g_ctk k v))) 31 5 0).1 31 2 = nI (g_ctk k v) := by rw [fr.2 _ _ (by omega)]; exact ht
  have v8 : (z_w (z_w S 31 4 (nI (g_ctk k v))) 31 5 0).1 31 8 = nI A.H := by rw [fr.2 _ _ (by omega)]; exact h7
  have vc : (z_w (z_w S 31 4 (nI (g_ctk k v))) 31 5 0).1 Q 0 = nI (A.B 0) := by rw [fr.2 _ _ (by omega)]; exact h1.1.1
  have vp : (z_w (z_w S 31 4 (nI (g_ctk k v))) 31 5 0).1 Q 7 = nI (A.B 2) := by rw [fr.2 _ _ (by omega)]; exact h1.1.2.2.1
  have v4 : (z_w (z_w S 31 4 (nI (g_ctk k v))) 31 5 0).1 31 4 = nI (g_ctk k v) := by rw [b_wj (by omega), b_wh]
  have v5 : (z_w (z_w S 31 4 (nI (g_ctk k v))) 31 5 0).1 31 5 = nI 0 := b_wh
  have dd : cD A.B A.M Q (z_w (z_w S 31 4 (nI (g_ctk k v))) 31 5 0) := cD_fr h1 wb.2.2.1 fr (fun q j q1 q2 => by omega) (by rw [fr.2 _ _ (by omega)]; exact h1.1.2.2.2.2)
  generalize z_w (z_w S 31 4 (nI (g_ctk k v))) 31 5 0 = S1 at *
  rw [v2]
  by_cases k1 : k = 1
  · have ev : g_ctk k v = v := by unfold g_ctk; rw [if_neg hk0, if_pos k1]
    rw [ev] at v4
    rw [ev]
    have good : ∀ S2, S2 = S1 → cA (gA.mk A.B A.H v 0 A.F A.L A.M pn) Q S2 := fun S2 e => by
      subst e
      exact ⟨dd, fun _ i hi => absurd hi (Nat.not_lt_zero i), v4, fun _ => v5, fun _ q => absurd q (Nat.lt_irrefl 0), v8⟩
    rcases hk1 k1 with rfl | rfl | rfl | rfl
    · rw [if_pos (show nI 104 = 104 from rfl), v8]
      by_cases z : A.H = 0
      · rw [z, if_pos (c := nI 0 = 0) nI_0, Option.bind_some, if_pos ⟨k1, fun q => q.2 rfl, fun q => absurd q.1 (by decide), fun q => absurd q.1 (by decide)⟩]
        refine ⟨fun q => (by cases q), fun A' q => ?_⟩
        cases q
        rw [z] at good
        exact ⟨S1, fin (nI 1) S1 (Or.inr rfl), frP, good S1 rfl⟩
      · rw [if_neg (nI_ne0 (by omega) (by omega)), Option.bind_some, if_neg (c := k = 1 ∧ ¬ (104 = 104 ∧ A.H ≠ 0) ∧ ¬ (104 = 107 ∧ 9 ≤ A.B 0) ∧ ¬ (104 = 112 ∧ 4 ≤ A.B 2)) (fun q => q.2.1 ⟨rfl, z⟩)]
        exact ⟨fun _ => ⟨S1, fin (nI 0) S1 (Or.inl rfl), frP⟩, fun A' q => (by cases q)⟩
    · rw [if_neg (show ¬ nI 107 = 104 from by decide), if_pos (show nI 107 = 107 from rfl), vc]
      by_cases z : 9 ≤ A.B 0
      · rw [if_pos (show (9 : Int32) ≤ nI (A.B 0) from nI_le (a := 9) z (by omega)), Option.bind_some, if_neg (c := k = 1 ∧ ¬ (107 = 104 ∧ A.H ≠ 0) ∧ ¬ (107 = 107 ∧ 9 ≤ A.B 0) ∧ ¬ (107 = 112 ∧ 4 ≤ A.B 2)) (fun q => q.2.2.1 ⟨rfl, z⟩)]
        exact ⟨fun _ => ⟨S1, fin (nI 0) S1 (Or.inl rfl), frP⟩, fun A' q => (by cases q)⟩
      · rw [if_neg (show ¬ (9 : Int32) ≤ nI (A.B 0) from nI_ge (b := 9) (by omega) (by omega)), Option.bind_some, if_pos ⟨k1, fun q => absurd q.1 (by decide), fun q => z q.2, fun q => absurd q.1 (by decide)⟩]
        refine ⟨fun q => (by cases q), fun A' q => ?_⟩
        cases q
        exact ⟨S1, fin (nI 1) S1 (Or.inr rfl), frP, good S1 rfl⟩
    · rw [if_neg (show ¬ nI 112 = 104 from by decide), if_neg (show ¬ nI 112 = 107 from by decide), if_pos (show nI 112 = 112 from rfl), vp]
      by_cases z : 4 ≤ A.B 2
      · rw [if_pos (show (4 : Int32) ≤ nI (A.B 2) from nI_le (a := 4) z (by omega)), Option.bind_some, if_neg (c := k = 1 ∧ ¬ (112 = 104 ∧ A.H ≠ 0) ∧ ¬ (112 = 107 ∧ 9 ≤ A.B 0) ∧ ¬ (112 = 112 ∧ 4 ≤ A.B 2)) (fun q => q.2.2.2 ⟨rfl, z⟩)]
        exact ⟨fun _ => ⟨S1, fin (nI 0) S1 (Or.inl rfl), frP⟩, fun A' q => (by cases q)⟩
      · rw [if_neg (show ¬ (4 : Int32) ≤ nI (A.B 2) from nI_ge (b := 4) (by omega) (by omega)), Option.bind_some, if_pos ⟨k1, fun q => absurd q.1 (by decide), fun q => absurd q.1 (by decide), fun q => z q.2⟩]
        refine ⟨fun q => (by cases q), fun A' q => ?_⟩
        cases q
        exact ⟨S1, fin (nI 1) S1 (Or.inr rfl), frP, good S1 rfl⟩
    · rw [if_neg (show ¬ nI 115 = 104 from by decide), if_neg (show ¬ nI 115 = 107 from by decide), if_neg (show ¬ nI 115 = 112 from by decide), if_pos (show nI 115 = 115 from rfl), Option.bind_some, if_pos ⟨k1, fun q => absurd q.1 (by decide), fun q => absurd q.1 (by decide), fun q => absurd q.1 (by decide)⟩]
      refine ⟨fun q => (by cases q), fun A' q => ?_⟩
      cases q
      exact ⟨S1, fin (nI 1) S1 (Or.inr rfl), frP, good S1 rfl⟩
  · have ev : g_ctk k v = 1 ∨ g_ctk k v = 59 ∨ g_ctk k v = 2 := by
      unfold g_ctk
      rw [if_neg hk0, if_neg k1]
      split
      · omega
      · split <;> omega
    have n : ∀ y : Nat, y < 256 → g_ctk k v ≠ y → ¬ nI (g_ctk k v) = nI y := fun y hy hne q => hne ((nI_eq (by omega) (by omega)).mp q)
    rw [if_neg (c := nI (g_ctk k v) = 104) (n 104 (by omega) (by omega)), if_neg (c := nI (g_ctk k v) = 107) (n 107 (by omega) (by omega)), if_neg (c := nI (g_ctk k v) = 112) (n 112 (by omega) (by omega)), if_neg (c := nI (g_ctk k v) = 115) (n 115 (by omega) (by omega)), Option.bind_some, if_neg (fun q => k1 q.1)]
    exact ⟨fun _ => ⟨S1, fin (nI 0) S1 (Or.inl rfl), frP⟩, fun A' q => (by cases q)⟩
end CRD
