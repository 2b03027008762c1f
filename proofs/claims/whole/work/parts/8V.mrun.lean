/-! ===== the reference reads as it is told ===== -/
section MRN
variable {X : Nat → Nat} {len : Nat}
theorem g_stp_0 {B : Nat → Nat} {H N F L M P k v pn : Nat} : g_stp (gA.mk B H 0 N F L M P) k v pn = if k = 1 ∧ ¬ (v = 104 ∧ H ≠ 0) ∧ ¬ (v = 107 ∧ 9 ≤ B 0) ∧ ¬ (v = 112 ∧ 4 ≤ B 2) then some (gA.mk B H v 0 F L M pn) else none := rfl
theorem s9_mb {B : Nat → Nat} {H P : Nat} {S : zS} (h : mB B H P X len S) (w : uB B) (hH : H ≤ 1) (k1 : t_k X len P = 1) : f_X9_mayBegin S = some (if ¬ (t_v X len P = 104 ∧ H ≠ 0) ∧ ¬ (t_v X len P = 107 ∧ 9 ≤ B 0) ∧ ¬ (t_v X len P = 112 ∧ 4 ≤ B 2) then nI 1 else nI 0, S) := by
  have wb := w.1
  have tv := t_k1 k1
  rw [f_X9_mayBegin, h.2.2.2.2.2.2.2.2 (by omega)]
  generalize t_v X len P = v at *
  rcases tv with rfl | rfl | rfl | rfl
  · rw [if_pos (show nI 104 = 104 from rfl), h.2.2.1]
    by_cases z : H = 0
    · rw [if_pos (show nI H = 0 by rw [z]; rfl), if_pos ⟨fun q => q.2 z, fun q => absurd q.1 (by decide), fun q => absurd q.1 (by decide)⟩]
      rfl
    · rw [if_neg (nI_ne0 (by omega) (by omega)), if_neg (fun q => q.1 ⟨rfl, z⟩)]
      rfl
  · rw [if_neg (show ¬ nI 107 = 104 from by decide), if_pos (show nI 107 = 107 from rfl), h.2.1 0 (by omega)]
    by_cases z : 9 ≤ B 0
    · rw [if_pos (show (9 : Int32) ≤ nI (B 0) from nI_le (a := 9) z (by omega)), if_neg (fun q => q.2.1 ⟨rfl, z⟩)]
      rfl
    · rw [if_neg (show ¬ (9 : Int32) ≤ nI (B 0) from nI_ge (b := 9) (by omega) (by omega)), if_pos ⟨fun q => absurd q.1 (by decide), fun q => z q.2, fun q => absurd q.1 (by decide)⟩]
      rfl
  · rw [if_neg (show ¬ nI 112 = 104 from by decide), if_neg (show ¬ nI 112 = 107 from by decide), if_neg (show ¬ nI 112 = 115 from by decide), h.2.1 2 (by omega)]
    by_cases z : 4 ≤ B 2
    · rw [if_pos (show (4 : Int32) ≤ nI (B 2) from nI_le (a := 4) z (by omega)), if_neg (fun q => q.2.2 ⟨rfl, z⟩)]
      rfl
    · rw [if_neg (show ¬ (4 : Int32) ≤ nI (B 2) from nI_ge (b := 4) (by omega) (by omega)), if_pos ⟨fun q => absurd q.1 (by decide), fun q => absurd q.1 (by decide), fun q => z q.2⟩]
      rfl
  · rw [if_neg (show ¬ nI 115 = 104 from by decide), if_neg (show ¬ nI 115 = 107 from by decide), if_pos (show nI 115 = 115 from rfl), if_pos ⟨fun q => absurd q.1 (by decide), fun q => absurd q.1 (by decide), fun q => absurd q.1 (by decide)⟩]
    rfl
theorem s9_read (hl : len ≤ 110) (hx : ∀ k, k < len → X k ≤ 255) : ∀ m (B : Nat → Nat) (H N F L M P : Nat) (S : zS) (n : Nat), uB B → H ≤ 1 → M ≤ P → P ≤ len → mB B H P X len S → len - P < n → len - P < m → mG S (f_X9_plate_25 m (nI M) S) (g_run X len n (gA.mk B H 0 N F L M P))
  | 0, _, _, _, _, _, _, _, _, _, _, _, _, _, _, _, hm => absurd hm (Nat.not_lt_zero _)
  | m + 1, B, H, N, F, L, M, P, S, n, w, hH, hM, hP, h, hn, hm => by
    obtain ⟨n, rfl⟩ : ∃ n', n = n' + 1 := ⟨n - 1, by omega⟩
    have kl := t_k_le X len P
    have sl := t_s_le (X := X) hP
    have tn := t_n_le (X := X) hP
    rw [f_X9_plate_25, s9_well h.1, Option.bind_some, if_neg (c := nI 1 = 0) (by decide)]
    dsimp only
    rw [h.2.2.2.2.2.2.1]
    by_cases k0 : t_k X len P = 0
    · have e : g_run X len (n + 1) (gA.mk B H 0 N F L M P) = Sum.inr (gA.mk B H 0 N F L M P) := by
        rw [g_run]
        exact (if_pos k0).trans (if_pos rfl)
      rw [e, if_pos (show nI (t_k X len P) = 0 by rw [k0]; rfl)]
      exact ⟨S, rfl, x_fr_rf, h.1, h.2.1⟩
    · have gt := t_n_gt hP k0
      obtain ⟨m, rfl⟩ : ∃ m', m = m' + 1 := ⟨m - 1, by omega⟩
      have bad : g_stp (gA.mk B H 0 N F L M P) (t_k X len P) (t_v X len P) (t_n X len P) = none → mG S (f_X9_plate_60 (f_X9_plate_25 (m + 1)) (nI M) 0 S) (g_run X len (n + 1) (gA.mk B H 0 N F L M P)) := fun hb => by
        have e : g_run X len (n + 1) (gA.mk B H 0 N F L M P) = Sum.inl (t_s X len P) := by
          have k0' : ¬ t_k X len (gA.mk B H 0 N F L M P).P = 0 := k0
          have hb' : g_stp (gA.mk B H 0 N F L M P) (t_k X len (gA.mk B H 0 N F L M P).P) (t_v X len (gA.mk B H 0 N F L M P).P) (t_n X len (gA.mk B H 0 N F L M P).P) = none := hb
          rw [g_run, if_neg k0', hb']
          rfl
        rw [e, f_X9_plate_60, s9_tk0 h, Option.bind_some]
        dsimp only
        rw [s9_ill (f := t_s X len P) (by omega) b_wh, Option.bind_some, if_pos (c := nI 0 = 0) nI_0]
        dsimp only
        rw [s9_bad (f := t_s X len P) (by omega) b_wh]
        exact ⟨_, rfl, x_fr_w x_fr_rf (Or.inl ⟨rfl, by omega, by omega⟩)⟩
      rw [if_neg (nI_ne0 (by omega) (by omega))]
      by_cases k1 : t_k X len P = 1
      · rw [if_pos (show nI (t_k X len P) = 1 by rw [k1]; rfl), s9_mb h w hH k1, Option.bind_some]
        by_cases c : ¬ (t_v X len P = 104 ∧ H ≠ 0) ∧ ¬ (t_v X len P = 107 ∧ 9 ≤ B 0) ∧ ¬ (t_v X len P = 112 ∧ 4 ≤ B 2)
        · rw [if_pos c, if_neg (c := nI 1 = 0) (by decide)]
          dsimp only
          obtain ⟨S2, r2, f2, b2⟩ := s9_tk1 hl hx hP h k0
          rw [f_X9_plate_60, r2, Option.bind_some]
          dsimp only
          rw [s9_well b2.1, Option.bind_some, if_neg (c := nI 1 = 0) (by decide)]
          dsimp only
          have st : g_stp (gA.mk B H 0 N F L M P) (t_k X len (gA.mk B H 0 N F L M P).P) (t_v X len (gA.mk B H 0 N F L M P).P) (t_n X len (gA.mk B H 0 N F L M P).P) = some (gA.mk B H (t_v X len P) 0 F L M (t_n X len P)) := by
            show g_stp (gA.mk B H 0 N F L M P) (t_k X len P) (t_v X len P) (t_n X len P) = _
            rw [g_stp_0, if_pos ⟨k1, c⟩]
          rw [g_run_go (A := gA.mk B H 0 N F L M P) k0 st]
          refine mG_tr (wT9_G f2) ?_
          have ih : mIH X len m (t_n X len P) := fun B' H' N' F' L' M' P' S' n' e1 e2 e3 e4 e5 e6 e7 => s9_read hl hx (m + 1) B' H' N' F' L' M' P' S' n' e3 e4 e5 e2 e6 e7 (by omega)
          have tv := t_k1 k1
          generalize t_v X len P = v at *
          rcases tv with rfl | rfl | rfl | rfl
          · exact s9_hItem hl hx tn w (by omega) b2 (by omega) ih
          · exact s9_kItem hl hx tn w (by have := c.2.1; omega) hH (by omega) b2 (by omega) ih
          · exact s9_pItem hl hx tn w (by have := c.2.2; omega) hH (by omega) b2 (by omega) ih
          · exact s9_sItem hl hx tn w hH (by omega) b2 (by omega) ih
        · rw [if_neg c, if_pos (c := nI 0 = 0) nI_0]
          exact bad (by rw [g_stp_0, if_neg (fun q => c q.2)])
      · rw [if_neg (show ¬ nI (t_k X len P) = 1 from fun q => k1 ((nI_eq (b := 1) (by omega) (by omega)).mp q))]
        exact bad (by rw [g_stp_0, if_neg (fun q => k1 q.1)])
end MRN
