/-! ===== the reference's reading ===== -/
def wG (q j : Nat) : Prop := (q = 87 ∧ 3 ≤ j ∧ j ≤ 8) ∨ q = 90
def mB (B : Nat → Nat) (H P : Nat) (X : Nat → Nat) (len : Nat) (S : zS) : Prop := S.1 87 7 = -nI 1 ∧ (∀ j, j < 74 → S.1 90 j = nI (B j)) ∧ S.1 87 8 = nI H ∧ S.1 87 2 = nI len ∧ (∀ k, k < len → S.1 88 k = nI (X k)) ∧ mTk X len P S
/-- what comes of it -/
def mG (S0 : zS) (γ : Option (Int32 × zS)) : Sum Nat gA → Prop
  | Sum.inl f => ∃ S', γ = some (-nI 10 - nI f, S') ∧ x_fr wG S0 S'
  | Sum.inr A' => ∃ S1, γ = f_X9_plate_100 (nI A'.M) S1 ∧ x_fr wG S0 S1 ∧ S1.1 87 7 = -nI 1 ∧ ∀ j, j < 74 → S1.1 90 j = nI (A'.B j)
theorem mG_tr {S0 S1 : zS} {γ : Option (Int32 × zS)} {r : Sum Nat gA} (hf : x_fr wG S0 S1) (h : mG S1 γ r) : mG S0 γ r := by
  cases r with
  | inl f => obtain ⟨S', e, f2⟩ := h; exact ⟨S', e, x_fr_tr hf f2⟩
  | inr A' => obtain ⟨S', e, f2, g⟩ := h; exact ⟨S', e, x_fr_tr hf f2, g⟩
section MRD
variable {B : Nat → Nat} {H P : Nat} {X : Nat → Nat} {len : Nat} {S : zS}
theorem s9_well (h : S.1 87 7 = -nI 1) : f_X9_isWell S = some (nI 1, S) := by
  rw [f_X9_isWell, h, if_neg (by decide)]
  rfl
theorem s9_ill {f : Nat} (hf : f < 2 ^ 31) (h : S.1 87 7 = nI f) : f_X9_isWell S = some (nI 0, S) := by
  rw [f_X9_isWell, h, if_pos (show (0 : Int32) ≤ nI f from nI_le (a := 0) (by omega) (by omega))]
  rfl
theorem s9_tkF {f : Nat} (hf : f < 2 ^ 31) (h : S.1 87 7 = nI f) (x : Int32) : f_X9_takes x S = some (nI 0, S) := by
  rw [f_X9_takes, s9_ill hf h, Option.bind_some, if_pos (c := nI 0 = 0) nI_0]
  rfl
theorem s9_tk0 (h : mB B H P X len S) : f_X9_takes 0 S = some (nI 0, z_w S 87 7 (nI (t_s X len P))) := by
  rw [f_X9_takes, s9_well h.1, Option.bind_some, if_neg (c := nI 1 = 0) (by decide), if_pos rfl]
  dsimp only
  rw [h.2.2.2.2.2.2.2.1]
  rfl
theorem s9_tk1 (hl : len ≤ 110) (hx : ∀ k, k < len → X k ≤ 255) (hP : P ≤ len) (h : mB B H P X len S) (hk : t_k X len P ≠ 0) : ∃ S', f_X9_takes 1 S = some (nI (t_v X len P), S') ∧ x_fr wT9 S S' ∧ mB B H (t_n X len P) X len S' := by
  obtain ⟨h1, h2, h3, h4, h5, h6⟩ := h
  obtain ⟨S', r, f, t⟩ := s9_adv hl hx h5 h4 (t_n_le (X := X) hP) h6.1
  refine ⟨S', ?_, f, ?_, fun j hj => ?_, ?_, ?_, fun k hk => ?_, t⟩
  · rw [f_X9_takes, s9_well h1, Option.bind_some, if_neg (c := nI 1 = 0) (by decide), if_neg (show ¬ (1 : Int32) = 0 from by decide)]
    dsimp only
    rw [r, Option.bind_some, h6.2.2.2 hk]
  · rw [f.2 _ _ (by unfold wT9; omega)]; exact h1
  · rw [f.2 _ _ (by unfold wT9; omega)]; exact h2 j hj
  · rw [f.2 _ _ (by unfold wT9; omega)]; exact h3
  · rw [f.2 _ _ (by unfold wT9; omega)]; exact h4
  · rw [f.2 _ _ (by unfold wT9; omega)]; exact h5 k hk
theorem wT9_G {S S' : zS} (h : x_fr wT9 S S') : x_fr wG S S' := x_fr_sub h (fun q j hq => by unfold wT9 at hq; unfold wG; omega)
/-- a fault is told at the end -/
theorem s9_bad {f m : Nat} (hf : f < 2 ^ 31) (h : S.1 87 7 = nI f) (v : Int32) : f_X9_plate_76 (f_X9_plate_25 (m + 1)) v S = some (-nI 10 - nI f, S) := by
  have e : ∀ t, f_X9_plate_90 (f_X9_plate_25 (m + 1)) v t S = some (-nI 10 - nI f, S) := fun t => by
    rw [f_X9_plate_90, s9_tkF hf h, Option.bind_some]
    dsimp only
    rw [f_X9_plate_25, s9_ill hf h, Option.bind_some, if_pos (c := nI 0 = 0) nI_0, f_X9_plate_100, s9_ill hf h, Option.bind_some, if_pos (c := nI 0 = 0) nI_0]
    dsimp only
    rw [h]
    rfl
  rw [f_X9_plate_76]
  split
  · exact e _
  · exact e _
theorem s9_numG (h4 : S.1 87 4 = nI (t_k X len P)) (h6 : t_k X len P ≠ 0 → S.1 87 6 = nI (t_v X len P)) (hx : ∀ k, k < len → X k ≤ 255) (hP : P ≤ len) {y : Nat} (hy : y < 2 ^ 30) : f_X9_isNumber 0 (nI y) S = some (if t_k X len P = 2 ∧ t_v X len P ≤ y then nI 1 else nI 0, S) := by
  have kl := t_k_le X len P
  rw [f_X9_isNumber, h4]
  by_cases c : t_k X len P = 2
  · have vl := t_v_le hx hP (by omega)
    rw [if_pos (show nI (t_k X len P) = 2 by rw [c]; rfl), h6 (by omega)]
    by_cases d : t_v X len P ≤ y
    · have e1 : f_X9_in (nI (t_v X len P)) 0 (nI y) S = some (nI 1, S) := by rw [s9_in, if_pos ⟨show (0 : Int32) ≤ nI (t_v X len P) from nI_le (a := 0) (by omega) (by omega), nI_le d (by omega)⟩]
      rw [e1, Option.bind_some, if_neg (c := nI 1 = 0) (by decide), if_pos ⟨c, d⟩]
      rfl
    · have e1 : f_X9_in (nI (t_v X len P)) 0 (nI y) S = some (nI 0, S) := by
        rw [s9_in, if_neg (fun q => nI_ge (a := y) (b := t_v X len P) (by omega) (by omega) q.2)]
      rw [e1, Option.bind_some, if_pos (c := nI 0 = 0) nI_0, if_neg (fun q => d q.2)]
      rfl
  · rw [if_neg (show ¬ nI (t_k X len P) = 2 from fun q => c ((nI_eq (b := 2) (by omega) (by omega)).mp q)), if_neg (fun q => c q.1)]
    rfl
theorem s9_num2 (h : mB B H P X len S) (hx : ∀ k, k < len → X k ≤ 255) (hP : P ≤ len) {y : Nat} (hy : y < 2 ^ 30) : f_X9_isNumber 0 (nI y) S = some (if t_k X len P = 2 ∧ t_v X len P ≤ y then nI 1 else nI 0, S) := s9_numG h.2.2.2.2.2.2.1 h.2.2.2.2.2.2.2.2 hx hP hy
theorem s9_isCo (h : mB B H P X len S) (hx : ∀ k, k < len → X k ≤ 255) (hP : P ≤ len) (hB : B 0 ≤ 9) : f_X9_isCorner S = some (if t_k X len P = 2 ∧ t_v X len P < B 0 then nI 1 else nI 0, S) := by
  have kl := t_k_le X len P
  rw [f_X9_isCorner, h.2.1 0 (by omega), f_X9_isNumber, h.2.2.2.2.2.2.1]
  by_cases c : t_k X len P = 2
  · have vl := t_v_le hx hP (by omega)
    have e := s9_inM (v := nI (t_v X len P)) (n := B 0) (by omega) S
    rw [if_pos (show nI (t_k X len P) = 2 by rw [c]; rfl), h.2.2.2.2.2.2.2.2 (by omega)]
    by_cases d : t_v X len P < B 0
    · rw [if_pos ⟨_, d, rfl⟩] at e
      have e' : f_X9_in (nI (t_v X len P)) 0 (nI (B 0) - 1) S = some (nI 1, S) := e
      rw [e', Option.bind_some, if_neg (c := nI 1 = 0) (by decide), Option.bind_some, if_pos (c := (1 : Int32) = 0 ∨ (1 : Int32) = 1) (Or.inr rfl), if_pos ⟨c, d⟩]
      rfl
    · rw [if_neg (fun ⟨j, hj, q⟩ => d (by rw [(nI_eq (by omega) (by omega)).mp q]; exact hj))] at e
      have e' : f_X9_in (nI (t_v X len P)) 0 (nI (B 0) - 1) S = some (nI 0, S) := e
      rw [e', Option.bind_some, if_pos (c := nI 0 = 0) nI_0, Option.bind_some, if_pos (c := (0 : Int32) = 0 ∨ (0 : Int32) = 1) (Or.inl rfl), if_neg (fun q => d q.2)]
      rfl
  · rw [if_neg (show ¬ nI (t_k X len P) = 2 from fun q => c ((nI_eq (b := 2) (by omega) (by omega)).mp q)), Option.bind_some, if_pos (c := (0 : Int32) = 0 ∨ (0 : Int32) = 1) (Or.inl rfl), if_neg (fun q => c q.1)]
    rfl
/-- the stop behind an item -/
theorem s9_tail (hl : len ≤ 110) (hx : ∀ k, k < len → X k ≤ 255) (hP : P ≤ len) (h : mB B H P X len S) {n m M N F L : Nat} (hM : M < 1000) (ih : t_k X len P = 3 → ∀ S2, mB B H (t_n X len P) X len S2 → mG S2 (f_X9_plate_25 (m + 1) (nI (M + 1)) S2) (g_run X len n (gA.mk B H 0 N F L (M + 1) (t_n X len P)))) : mG S (f_X9_plate_76 (f_X9_plate_25 (m + 1)) (nI M) S) (if t_k X len P = 0 then Sum.inl len else if t_k X len P = 3 then g_run X len n (gA.mk B H 0 N F L (M + 1) (t_n X len P)) else Sum.inl (t_s X len P)) := by
  have kl := t_k_le X len P
  have sl := t_s_le (X := X) hP
  by_cases k3 : t_k X len P = 3
  · rw [if_neg (by omega), if_pos k3]
    obtain ⟨S', r, f, b⟩ := s9_tk1 hl hx hP h (by omega)
    have e : f_X9_plate_76 (f_X9_plate_25 (m + 1)) (nI M) S = f_X9_plate_25 (m + 1) (nI (M + 1)) S' := by
      rw [f_X9_plate_76, h.2.2.2.2.2.2.1, if_pos (show nI (t_k X len P) = 3 by rw [k3]; rfl), f_X9_plate_90, r, Option.bind_some, show (1 : Int32) = nI 1 from rfl, nI_add]
    rw [e]
    exact mG_tr (wT9_G f) (ih k3 S' b)
  · have bad : f_X9_plate_76 (f_X9_plate_25 (m + 1)) (nI M) S = some (-nI 10 - nI (t_s X len P), z_w S 87 7 (nI (t_s X len P))) := by
      have fr := s9_bad (S := z_w S 87 7 (nI (t_s X len P))) (f := t_s X len P) (m := m) (by omega) b_wh (nI M)
      rw [f_X9_plate_76, h.2.2.2.2.2.2.1, if_neg (show ¬ nI (t_k X len P) = 3 from fun q => k3 ((nI_eq (b := 3) (by omega) (by omega)).mp q)), f_X9_plate_90, s9_tk0 h, Option.bind_some]
      dsimp only
      rw [f_X9_plate_25, s9_ill (f := t_s X len P) (by omega) b_wh, Option.bind_some, if_pos (c := nI 0 = 0) nI_0, f_X9_plate_100, s9_ill (f := t_s X len P) (by omega) b_wh, Option.bind_some, if_pos (c := nI 0 = 0) nI_0]
      dsimp only
      rw [b_wh]
      rfl
    have frz : x_fr wG S (z_w S 87 7 (nI (t_s X len P))) := x_fr_w x_fr_rf (Or.inl ⟨rfl, by omega, by omega⟩)
    rw [bad]
    by_cases k0 : t_k X len P = 0
    · have es : t_s X len P = len := by
        refine Classical.byContradiction (fun q => ?_)
        unfold t_k at k0
        rw [if_neg q] at k0
        split at k0
        · split at k0 <;> omega
        · split at k0
          · omega
          · split at k0 <;> omega
      rw [if_pos k0, es]
      rw [es] at frz
      exact ⟨_, rfl, frz⟩
    · rw [if_neg k0, if_neg k3]
      exact ⟨_, rfl, frz⟩
end MRD
