section CRD
variable {A : gA} {k v pn Q : Nat} {S : zS} {X : Nat → Nat} {len : Nat}
theorem s3_oth (w : uA A) (h : cA A Q S) (hQ : Q = 3 ∨ Q = 17) (hM : A.M < 1000) (ht : S.1 31 2 = nI (g_ctk k v)) (h4 : k ≤ 4) (hk0 : k ≠ 0) (hk1 : k = 1 → v = 104 ∨ v = 107 ∨ v = 112 ∨ v = 115) (hk2 : k = 2 → S.1 31 3 = nI v) (hv : v < 2 ^ 31) (c0 : ¬ A.I = 0) (k3 : ¬ k = 3) (k2 : ¬ k = 2) : (g_stp A k v pn = none → ∃ S', f_X3_takesToken Q S = some (nI 0, S') ∧ x_fr (wP Q) S S') ∧ ∀ A', g_stp A k v pn = some A' → ∃ S', f_X3_takesToken Q S = some (nI 1, S') ∧ x_fr (wP Q) S S' ∧ cA A' Q S' := by
  have w1 := w.1
  have w2 := w.2.1
  have w4 := w.2.2.2.1
  have w7 := w.2.2.2.2.2.2
  have iL : A.I < 256 := by have := w.2.2.1; omega
  obtain ⟨h1, h2, h3, h5, h6, h7⟩ := id h
  have wb := w1.1
  have fin : ∀ (x : Int32) (S' : zS), x = nI 0 ∨ x = nI 1 → (if x = 0 ∨ x = 1 then some (x, S') else none) = some (x, S') := fun x S' hx => if_pos hx
  unfold g_stp
  have e5 := h5 c0
  have n5 := w4 c0
  rw [if_neg c0, f_X3_takesToken, h3, if_neg (nI_ne0 (by omega) (by omega)), ht, if_neg k3]
  rw [if_neg k2]
  have ev : g_ctk k v = 2 ∨ (g_ctk k v = v ∧ k = 1) := by
    unfold g_ctk
    rw [if_neg hk0]
    by_cases k1 : k = 1
    · rw [if_pos k1]; exact Or.inr ⟨rfl, k1⟩
    · rw [if_neg k1, if_neg k2, if_neg k3]; exact Or.inl rfl
  have ne59 : g_ctk k v ≠ 59 ∧ g_ctk k v ≠ 1 := by
    rcases ev with q | ⟨q, k1⟩
    · omega
    · have := hk1 k1; omega
  have lt : g_ctk k v < 2 ^ 31 := by
    rcases ev with q | ⟨q, _⟩ <;> omega
  rw [if_neg (show ¬ nI (g_ctk k v) = 59 from fun q => ne59.1 ((nI_eq (b := 59) lt (by omega)).mp q)), if_neg (show ¬ nI (g_ctk k v) = 1 from fun q => ne59.2 ((nI_eq (b := 1) lt (by omega)).mp q))]
  exact ⟨fun _ => ⟨S, rfl, x_fr_rf⟩, fun A' q => (by cases q)⟩
/-- one token -/
theorem s3_take (w : uA A) (h : cA A Q S) (hQ : Q = 3 ∨ Q = 17) (hM : A.M < 1000) (ht : S.1 31 2 = nI (g_ctk k v)) (h4 : k ≤ 4) (hk0 : k ≠ 0) (hk1 : k = 1 → v = 104 ∨ v = 107 ∨ v = 112 ∨ v = 115) (hk2 : k = 2 → S.1 31 3 = nI v) (hv : v < 2 ^ 31) : (g_stp A k v pn = none → ∃ S', f_X3_takesToken Q S = some (nI 0, S') ∧ x_fr (wP Q) S S') ∧ ∀ A', g_stp A k v pn = some A' → ∃ S', f_X3_takesToken Q S = some (nI 1, S') ∧ x_fr (wP Q) S S' ∧ cA A' Q S' := by
  by_cases c0 : A.I = 0
  · exact s3_beg w h hQ hM ht h4 hk0 hk1 hk2 hv c0
  · by_cases k3 : k = 3
    · exact s3_end w h hQ hM ht h4 hk0 hk1 hk2 hv c0 k3
    · by_cases k2 : k = 2
      · exact s3_nmb w h hQ hM ht h4 hk0 hk1 hk2 hv c0 k2
      · exact s3_oth w h hQ hM ht h4 hk0 hk1 hk2 hv c0 k3 k2
def wRd (Q : Nat) (q _j : Nat) : Prop := q = 31 ∨ (Q ≤ q ∧ q ≤ Q + 13)
theorem g_stp_M {A A' : gA} {k v pn : Nat} (h : g_stp A k v pn = some A') : A'.M ≤ A.M + 1 := by
  unfold g_stp at h
  split at h
  · split at h
    · cases h; show A.M ≤ A.M + 1; omega
    · cases h
  · split at h
    · split at h
      · split at h
        · rcases hj : g_jc A.B A.L A.F with _ | B'
          · rw [hj] at h; cases h
          · rw [hj] at h; cases h; show A.M + 1 ≤ A.M + 1; omega
        · cases h
      · by_cases z : A.N = (if A.I = 104 then 1 else 2)
        · rw [if_pos z] at h; cases h; show A.M + 1 ≤ A.M + 1; omega
        · rw [if_neg z] at h; cases h
    · split at h
      · rcases hq : g_nb A v with _ | q
        · rw [hq] at h; cases h
        · rw [hq] at h; cases h; show A.M ≤ A.M + 1; omega
      · cases h
/-- the whole reading -/
theorem s3_run (hl : len ≤ 110) (hx : ∀ k, k < len → X k ≤ 255) (hQ : Q = 3 ∨ Q = 17) : ∀ n (A : gA) (S : zS) (g m : Nat), uA A → cA A Q S → S.1 31 1 = nI A.P → (∀ k, k < len → S.1 2 k = nI (X k)) → A.P ≤ len → A.M ≤ A.P → len - A.P < n → len - A.P < m → g ≤ A.P → (∀ f, g_run X len n A = Sum.inl f → f ≤ len ∧ ∃ S', f_X3_read_22 Q m (nI len) (nI g) S = some (nI f, S') ∧ x_fr (wRd Q) S S') ∧ (∀ A', g_run X len n A = Sum.inr A' → ∃ S1, f_X3_read_22 Q m (nI len) (nI g) S = f_X3_read_63 Q (nI len) S1 ∧ x_fr (wRd Q) S S1 ∧ cA A' Q S1 ∧ uA A' ∧ A'.I = 0 ∧ A'.M ≤ len)
  | 0, A, S, g, m, _, _, _, _, _, _, hn, _, _ => absurd hn (Nat.not_lt_zero _)
  | n + 1, A, S, g, m, w, h, h1, ht, hP, hM, hn, hm, hg => by
    obtain ⟨m, rfl⟩ : ∃ m', m = m' + 1 := ⟨m - 1, by omega⟩
    obtain ⟨S1, r1, f1, tk⟩ := s3_tok hl hx ht hP h1
    have cA1 := cA_fr w h f1 (fun q j q1 q2 => by unfold wT3 at q2; omega)
    have f1R : x_fr (wRd Q) S S1 := x_fr_sub f1 (fun q j hq => Or.inl hq.1)
    have sl := t_s_le (X := X) hP
    rw [f_X3_read_22, if_neg (nI_nlt (by omega) (by omega)), r1, Option.bind_some]
    dsimp only
    rw [tk.2.2.1, g_run]
    by_cases k0 : t_k X len A.P = 0
    · have ct : g_ctk (t_k X len A.P) (t_v X len A.P) = 0 := by unfold g_ctk; rw [if_pos k0]
      rw [if_pos k0, ct, if_pos (c := nI 0 = 0) nI_0]
      have i3 := w.2.2.1
      by_cases i0 : A.I = 0
      · rw [if_pos i0]
        refine ⟨fun f q => (by cases q), fun A' q => ?_⟩
        cases q
        exact ⟨S1, rfl, f1R, cA1, w, i0, by omega⟩
      · rw [if_neg i0]
        refine ⟨fun f q => ?_, fun A' q => (by cases q)⟩
        cases q
        refine ⟨Nat.le_refl _, S1, ?_, f1R⟩
        rw [f_X3_read_63, cA1.2.2.1, if_neg (nI_ne0 (by omega) (by omega))]
    · have gt := t_n_gt hP k0
      have cne := g_ctk_ne k0
      have vl := t_v_le hx hP k0
      have cl : g_ctk (t_k X len A.P) (t_v X len A.P) < 2 ^ 31 := by
        unfold g_ctk
        split
        · omega
        · split
          · omega
          · split
            · omega
            · split <;> omega
      have tn := t_n_le (X := X) hP
      have st := s3_take (pn := t_n X len A.P) w cA1 hQ (by omega) tk.2.2.1 (t_k_le X len A.P) k0 (fun q => t_k1 q) tk.2.2.2 (by omega)
      rw [if_neg k0, if_neg (nI_ne0 (Nat.pos_of_ne_zero cne) cl)]
      rcases hs : g_stp A (t_k X len A.P) (t_v X len A.P) (t_n X len A.P) with _ | A'
      · obtain ⟨S2, r2, f2⟩ := st.1 hs
        refine ⟨fun f q => ?_, fun A' q => (by cases q)⟩
        cases q
        refine ⟨by omega, S2, ?_, x_fr_tr f1R (x_fr_sub f2 (fun q j hq => by unfold wP at hq; unfold wRd; omega))⟩
        rw [r2, Option.bind_some, if_pos (c := nI 0 = 0) nI_0]
        dsimp only
        rw [f2.2 _ _ (by unfold wP; omega), tk.1]
      · obtain ⟨S2, r2, f2, c2⟩ := st.2 A' hs
        have us := uA_stp w (fun q => t_k1 q) hs
        have ml := g_stp_M hs
        have f2R : x_fr (wRd Q) S S2 := x_fr_tr f1R (x_fr_sub f2 (fun q j hq => by unfold wP at hq; unfold wRd; omega))
        have ih := s3_run hl hx hQ n A' S2 (g + 1) m us.1 c2 (by rw [us.2, f2.2 _ _ (by unfold wP; omega)]; exact tk.2.1) (fun k hk => by rw [f2R.2 _ _ (by unfold wRd; omega)]; exact ht k hk) (by rw [us.2]; exact tn) (by rw [us.2]; omega) (by rw [us.2]; omega) (by rw [us.2]; omega) (by rw [us.2]; omega)
        rw [r2, Option.bind_some, if_neg (c := nI 1 = 0) (by decide), show (1 : Int32) = nI 1 from rfl, nI_add]
        refine ⟨fun f q => ?_, fun A'' q => ?_⟩
        · obtain ⟨a1, S3, a2, a3⟩ := ih.1 f q
          exact ⟨a1, S3, a2, x_fr_tr f2R a3⟩
        · obtain ⟨S3, a2, a3, a4⟩ := ih.2 A'' q
          exact ⟨S3, a2, x_fr_tr f2R a3, a4⟩
end CRD
