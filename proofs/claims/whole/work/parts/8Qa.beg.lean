/-! ===== the class's loop over tokens ===== -/
section CRD
variable {A : gA} {k v pn Q : Nat} {S : zS} {X : Nat → Nat} {len : Nat}
theorem t_k1 {a : Nat} (h : t_k X len a = 1) : t_v X len a = 104 ∨ t_v X len a = 107 ∨ t_v X len a = 112 ∨ t_v X len a = 115 := by
  unfold t_k at h
  by_cases c : t_s X len a = len
  · rw [if_pos c] at h; omega
  · rw [if_neg c] at h
    by_cases d : g_dig (X (t_s X len a)) = true
    · rw [if_pos d] at h
      split at h <;> omega
    · rw [if_neg d] at h
      by_cases e : X (t_s X len a) = 59
      · rw [if_pos e] at h; omega
      · rw [if_neg e] at h
        by_cases l : g_isL (X (t_s X len a)) = true
        · unfold t_v
          rw [if_neg d]
          unfold g_isL at l
          simp only [Bool.or_eq_true, decide_eq_true_eq] at l
          omega
        · rw [if_neg l] at h; omega
theorem t_k_le (X : Nat → Nat) (len a : Nat) : t_k X len a ≤ 4 := by
  unfold t_k
  split
  · omega
  · split
    · split <;> omega
    · split
      · omega
      · split <;> omega
theorem t_v_le (hx : ∀ k, k < len → X k ≤ 255) {a : Nat} (ha : a ≤ len) (hk : t_k X len a ≠ 0) : t_v X len a ≤ 2000 := by
  have g := t_n_gt ha hk
  unfold t_v
  by_cases d : g_dig (X (t_s X len a)) = true
  · rw [if_pos d]
    have le := t_e_le (X := X) (s := t_s X len a) (len := len) (by omega)
    exact g_vr_le (len := len) (fun k _ hk => hx k hk) _ (by unfold t_d; omega)
  · rw [if_neg d]
    have := hx _ g.2
    omega
theorem g_ctk_ne {a : Nat} (hk : t_k X len a ≠ 0) : g_ctk (t_k X len a) (t_v X len a) ≠ 0 := by
  unfold g_ctk
  rw [if_neg hk]
  by_cases h1 : t_k X len a = 1
  · rw [if_pos h1]
    have := t_k1 h1
    omega
  · rw [if_neg h1]
    split
    · omega
    · split <;> omega
theorem cA_fr {W : Nat → Nat → Prop} {S' : zS} (w : uA A) (h : cA A Q S) (hf : x_fr W S S') (hw : ∀ q j, (q = 31 ∧ 4 ≤ j ∧ j ≤ 8) ∨ (Q ≤ q ∧ q ≤ Q + 13) → ¬ W q j) : cA A Q S' := by
  obtain ⟨⟨h1, h2, h3, h4⟩, h5, h6, h7, h8, h9⟩ := h
  have wb := w.1.1
  refine ⟨⟨⟨?_, ?_, ?_, ?_, ?_⟩, fun k hk => ?_, fun k hk => ?_, fun p hp => ⟨?_, fun i hi => ?_⟩⟩, fun q i hi => ?_, ?_, fun q => ?_, fun q1 q2 => ?_, ?_⟩
  · rw [hf.2 _ _ (hw _ _ (by omega))]; exact h1.1
  · rw [hf.2 _ _ (hw _ _ (by omega))]; exact h1.2.1
  · rw [hf.2 _ _ (hw _ _ (by omega))]; exact h1.2.2.1
  · rw [hf.2 _ _ (hw _ _ (by omega))]; exact h1.2.2.2.1
  · rw [hf.2 _ _ (hw _ _ (by omega))]; exact h1.2.2.2.2
  · rw [hf.2 _ _ (hw _ _ (by omega)), hf.2 _ _ (hw _ _ (by omega))]; exact h2 k hk
  · rw [hf.2 _ _ (hw _ _ (by omega))]; exact h3 k hk
  · rw [hf.2 _ _ (hw _ _ (by omega))]; exact (h4 p hp).1
  · rw [hf.2 _ _ (hw _ _ (by omega))]; exact (h4 p hp).2 i hi
  · have := (w.2.2.2.2.2.2 q).1
    rw [hf.2 _ _ (hw _ _ (by omega))]; exact h5 q i hi
  · rw [hf.2 _ _ (hw _ _ (by omega))]; exact h6
  · rw [hf.2 _ _ (hw _ _ (by omega))]; exact h7 q
  · rw [hf.2 _ _ (hw _ _ (by omega)), hf.2 _ _ (hw _ _ (by omega))]; exact h8 q1 q2
  · rw [hf.2 _ _ (hw _ _ (by omega))]; exact h9
theorem cD_fr {B : Nat → Nat} {M M' : Nat} {W : Nat → Nat → Prop} {S' : zS} (h : cD B M Q S) (h4 : B 2 ≤ 4) (hf : x_fr W S S') (hw : ∀ q j, (q = Q ∧ j ≤ 12) ∨ (Q + 1 ≤ q ∧ q ≤ Q + 13) → ¬ W q j) (h13 : S'.1 Q 13 = nI M') : cD B M' Q S' := by
  obtain ⟨d1, d2, d3, d4⟩ := h
  refine ⟨⟨?_, ?_, ?_, ?_, h13⟩, fun k hk => ?_, fun k hk => ?_, fun p hp => ⟨?_, fun i hi => ?_⟩⟩
  · rw [hf.2 _ _ (hw _ _ (by omega))]; exact d1.1
  · rw [hf.2 _ _ (hw _ _ (by omega))]; exact d1.2.1
  · rw [hf.2 _ _ (hw _ _ (by omega))]; exact d1.2.2.1
  · rw [hf.2 _ _ (hw _ _ (by omega))]; exact d1.2.2.2.1
  · rw [hf.2 _ _ (hw _ _ (by omega)), hf.2 _ _ (hw _ _ (by omega))]; exact d2 k hk
  · rw [hf.2 _ _ (hw _ _ (by omega))]; exact d3 k hk
  · rw [hf.2 _ _ (hw _ _ (by omega))]; exact (d4 p hp).1
  · rw [hf.2 _ _ (hw _ _ (by omega))]; exact (d4 p hp).2 i hi
end CRD
