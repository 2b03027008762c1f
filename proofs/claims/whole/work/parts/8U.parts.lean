/-! ===== parts of the reference ===== -/
theorem g_jc_rb {B : Nat → Nat} {n x u v : Nat} (hn : n < 5) (h2 : B 2 < 4) (h1 : B 1 ≤ 14) : (g_jc B u v = none → g_jc (g_rb B n x) u v = none) ∧ ∀ B1, g_jc B u v = some B1 → ∃ B2, g_jc (g_rb B n x) u v = some B2 ∧ ∀ j, B2 j = x_up B1 (54 + 5 * B 2 + n) x j := by
  have e : ∀ j, j ≠ 54 + 5 * B 2 + n → g_rb B n x j = B j := fun j hj => x_up_j hj
  have e1 : g_rb B n x 1 = B 1 := e 1 (by omega)
  have cut : g_cut (g_rb B n x) u v < g_rb B n x 1 ↔ g_cut B u v < B 1 := by
    rw [g_cut_iff, g_cut_iff, e1]
    constructor
    · rintro ⟨c, hc, ha⟩
      refine ⟨c, hc, ?_⟩
      rw [g_adj_iff] at ha ⊢
      rw [e _ (by omega), e _ (by omega)] at ha
      exact ha
    · rintro ⟨c, hc, ha⟩
      refine ⟨c, hc, ?_⟩
      rw [g_adj_iff] at ha ⊢
      rw [e _ (by omega), e _ (by omega)]
      exact ha
  rcases g_jc_cases (B := B) u v with ⟨c, q⟩ | ⟨c, d, q⟩ | ⟨c, d, q⟩
  · refine ⟨fun z => (by rw [q] at z; cases z), fun B1 z => ?_⟩
    rw [q] at z
    cases z
    exact ⟨g_rb B n x, by unfold g_jc; rw [if_pos (cut.mpr c)], fun j => rfl⟩
  · refine ⟨fun z => (by rw [q] at z; cases z), fun B1 z => ?_⟩
    rw [q] at z
    cases z
    refine ⟨g_jb (g_rb B n x) u v, by unfold g_jc; rw [if_neg (fun y => c (cut.mp y)), e1, if_pos d], fun j => ?_⟩
    unfold g_jb
    rw [e1]
    unfold g_rb x_up
    by_cases j1 : j = 1
    · rw [if_pos j1, if_neg (c := j = 54 + 5 * B 2 + n) (by omega), if_pos j1]
    · rw [if_neg j1]
      by_cases j2 : j = 36 + B 1
      · rw [if_pos j2, if_neg (c := j = 54 + 5 * B 2 + n) (by omega), if_neg j1, if_pos j2]
      · rw [if_neg j2]
        by_cases j3 : j = 22 + B 1
        · rw [if_pos j3, if_neg (c := j = 54 + 5 * B 2 + n) (by omega), if_neg j1, if_neg j2, if_pos j3]
        · rw [if_neg j3]
          by_cases j4 : j = 54 + 5 * B 2 + n
          · rw [if_pos j4, if_pos j4]
          · rw [if_neg j4, if_neg j4, if_neg j1, if_neg j2, if_neg j3]
  · refine ⟨fun _ => by unfold g_jc; rw [if_neg (fun y => c (cut.mp y)), e1, if_neg d], fun B1 z => (by rw [q] at z; cases z)⟩
def mKp (m M : Nat) (γ : Option (Unit × zS)) : Option (Int32 × zS) := (γ.bind (fun r51 => some ((), r51.2))).bind (fun r73 => f_X9_plate_76 (f_X9_plate_25 (m + 1)) (nI M) r73.2)
theorem mKp_some {m M : Nat} {S : zS} : mKp m M (some ((), S)) = f_X9_plate_76 (f_X9_plate_25 (m + 1)) (nI M) S := rfl
section MPT
variable {B : Nat → Nat} {H P F L M n : Nat} {X : Nat → Nat} {len m : Nat} {S : zS}
theorem s9_p222 {p p' : Nat} (hp : p < 5) (h2 : S.1 90 2 = nI p') (x : Nat) : f_X9_readsPart_222 (nI p) (nI x) S = some ((), z_w (z_w S 90 (50 + p) (nI x)) 90 2 (nI (p' + 1))) := by
  rw [f_X9_readsPart_222, show (50 : Int32) = nI 50 from rfl, nI_add, if_pos ((x_in (by omega)).mpr (by omega)), nI_clamp (by omega), b_wj (by omega), h2, show (1 : Int32) = nI 1 from rfl, nI_add]
theorem s9_pBad {p p' f : Nat} (hp : p < 5) (h2 : S.1 90 2 = nI p') (hf : f < 2 ^ 31) (h7 : S.1 87 7 = nI f) (x : Nat) (S0 : zS) (fr : x_fr wG S0 S) : mG S0 (mKp m M (f_X9_readsPart_158 (nI p) (nI x) S)) (Sum.inl f) := by
  have e : f_X9_readsPart_158 (nI p) (nI x) S = some ((), z_w (z_w S 90 (50 + p) (nI x)) 90 2 (nI (p' + 1))) := by
    rw [f_X9_readsPart_158, s9_ill hf h7, Option.bind_some, if_pos (c := nI 0 = 0) nI_0]
    exact s9_p222 hp h2 x
  rw [e, mKp_some, s9_bad hf (by rw [b_wk (by omega), b_wk (by omega)]; exact h7)]
  exact ⟨_, rfl, x_fr_w (x_fr_w fr (Or.inr rfl)) (Or.inr rfl)⟩
theorem s9_p101 (h : mB B H P X len S) (hP : P ≤ len) (hl : len ≤ 110) (hp : B 2 < 5) {met t : Int32} {k : Nat} (x : Nat) : mG S (mKp m M (f_X9_readsPart_101 (f_X9_readsPart_11 (k + 1)) (nI (B 2)) (nI x) met t 0 S)) (Sum.inl (t_s X len P)) := by
  have sl := t_s_le (X := X) hP
  have tk0 : f_X9_takes 0 S = some (nI 0, z_w S 87 7 (nI (t_s X len P))) := s9_tk0 h
  rw [f_X9_readsPart_101, tk0, Option.bind_some]
  dsimp only
  rw [s9_ill (f := t_s X len P) (by omega) b_wh, Option.bind_some, if_pos (c := nI 0 = 0) nI_0]
  dsimp only
  rw [f_X9_readsPart_11, s9_ill (f := t_s X len P) (by omega) b_wh, Option.bind_some, if_pos (c := nI 0 = 0) nI_0]
  exact s9_pBad (p := B 2) (p' := B 2) (f := t_s X len P) hp (by rw [b_wk (by omega)]; exact h.2.1 2 (by omega)) (by omega) b_wh x S (x_fr_w x_fr_rf (Or.inl ⟨rfl, by omega, by omega⟩))
theorem g_stp_p (k v pn : Nat) : g_stp (gA.mk B H 112 n F L M P) k v pn = if k = 3 then (if B 2 < 4 ∧ 3 ≤ n then (g_jc B L F).bind (fun B' => some (gA.mk (x_up (x_up B' (50 + B 2) n) 2 (B 2 + 1)) H 0 n F L (M + 1) pn)) else none) else if k = 2 then ((if B 2 < 4 ∧ n < 5 ∧ v < B 0 ∧ g_new B n v = true then (if n = 0 then some (g_rb B n v, H) else (g_jc (g_rb B n v) L v).bind (fun B' => some (B', H))) else none).bind (fun q => some (gA.mk q.1 q.2 112 (n + 1) (if n = 0 then v else F) v M pn))) else none := rfl
theorem s9_p54 (h : mB B H P X len S) (hx : ∀ k, k < len → X k ≤ 255) (hP : P ≤ len) (w : uB B) (hL : n ≠ 0 → L < B 0) {met last : Nat} (hn : n ≤ 5) (hla : n ≠ 0 → last = L) (hm9 : met < 2 ^ 9) (hm : ∀ v, v < 9 → (met.testBit v = true ↔ ∃ i, i < n ∧ B (54 + 5 * B 2 + i) = v)) (K : Int32 → Int32 → Int32 → zS → Option (Unit × zS)) (p : Int32) : f_X9_readsPart_54 K p (nI n) (nI met) (nI last) S = f_X9_readsPart_101 K p (nI n) (nI met) (nI last) (if n < 5 ∧ t_k X len P = 2 ∧ t_v X len P < B 0 ∧ g_new B n (t_v X len P) = true ∧ (n = 0 ∨ g_jc B L (t_v X len P) ≠ none) then 1 else 0) S := by
  have wb := w.1
  rw [f_X9_readsPart_54]
  by_cases c1 : n < 5
  · rw [if_neg (show ¬ (5 : Int32) ≤ nI n from nI_ge (b := 5) (by omega) (by omega)), s9_isCo h hx hP wb.1, Option.bind_some]
    by_cases c2 : t_k X len P = 2 ∧ t_v X len P < B 0
    · rw [if_pos c2, if_neg (c := nI 1 = 0) (by decide)]
      dsimp only
      rw [h.2.2.2.2.2.2.2.2 (by omega), b_has9 (by omega) (by omega), Option.bind_some]
      have nw : met.testBit (t_v X len P) = true ↔ ¬ g_new B n (t_v X len P) = true := by
        rw [hm _ (by omega), g_new_iff]
        constructor
        · rintro ⟨i, hi, e⟩ q; exact q i hi e
        · intro q
          refine Classical.byContradiction (fun z => q (fun i hi e => z ⟨i, hi, e⟩))
      by_cases c3 : g_new B n (t_v X len P) = true
      · rw [if_neg (c := met.testBit (t_v X len P) = true) (fun q => nw.mp q c3), if_pos (c := nI 0 = 0) nI_0]
        dsimp only
        by_cases c4 : n = 0
        · rw [if_pos (show nI n = 0 by rw [c4]; rfl), if_pos ⟨c1, c2.1, c2.2, c3, Or.inl c4⟩]
        · rw [if_neg (nI_ne0 (by omega) (by omega)), hla c4, h.2.2.2.2.2.2.2.2 (by omega), s9_room w h.2.1 (by have := hL c4; omega) (by omega), Option.bind_some]
          by_cases c5 : g_jc B L (t_v X len P) = none
          · rw [if_pos c5, if_pos (c := nI 0 = 0) nI_0, if_neg (fun q => by rcases q.2.2.2.2 with z | z; exact c4 z; exact z c5)]
          · rw [if_neg c5, if_neg (c := nI 1 = 0) (by decide), if_pos ⟨c1, c2.1, c2.2, c3, Or.inr c5⟩]
      · rw [if_pos (c := met.testBit (t_v X len P) = true) (nw.mpr c3), if_neg (c := nI 1 = 0) (by decide), if_neg (fun q => c3 q.2.2.2.1)]
    · rw [if_neg c2, if_pos (c := nI 0 = 0) nI_0, if_neg (fun q => c2 ⟨q.2.1, q.2.2.1⟩)]
  · rw [if_pos (show (5 : Int32) ≤ nI n from nI_le (a := 5) (by omega) (by omega)), if_neg (fun q => c1 q.1)]
theorem s9_pStep (hl : len ≤ 110) (hx : ∀ k, k < len → X k ≤ 255) {P0 met nn k : Nat} (ih : mIH X len m P0) (h0 : P0 ≤ P) (hP : P ≤ len) (hM : M ≤ P0) (ua : uA (gA.mk B H 112 n F L M P)) (h : mB B H P X len S) (hnn : len - P < nn) (hk : 0 < k) (hm9 : met < 2 ^ 9) (hm : ∀ v, v < 9 → (met.testBit v = true ↔ ∃ i, i < n ∧ B (54 + 5 * B 2 + i) = v)) (nx : n < 5 → ∀ (B' : Nat → Nat) (H' P' F' L' met' nn' : Nat) (S' : zS), P0 ≤ P' → P' ≤ len → uA (gA.mk B' H' 112 (n + 1) F' L' M P') → mB B' H' P' X len S' → len - P' < nn' → met' < 2 ^ 9 → (∀ v, v < 9 → (met'.testBit v = true ↔ ∃ i, i < n + 1 ∧ B' (54 + 5 * B' 2 + i) = v)) → mG S' (mKp m M (f_X9_readsPart_11 k (nI (B' 2)) (nI (n + 1)) (nI met') S')) (g_run X len nn' (gA.mk B' H' 112 (n + 1) F' L' M P'))) : mG S (mKp m M (f_X9_readsPart_11 (k + 1) (nI (B 2)) (nI n) (nI met) S)) (g_run X len nn (gA.mk B H 112 n F L M P)) := by
  obtain ⟨nn, rfl⟩ : ∃ n', nn = n' + 1 := ⟨nn - 1, by omega⟩
  obtain ⟨k, rfl⟩ : ∃ k', k = k' + 1 := ⟨k - 1, by omega⟩
  have w : uB B := ua.1
  have wH : H ≤ 1 := ua.2.1
  have n5 : n ≤ 5 := ua.2.2.2.1 (by show (112 : Nat) ≠ 0; decide)
  have w7 : B 2 < 4 ∧ (∀ i, i < n → B (54 + 5 * B 2 + i) < B 0) ∧ (∀ i j, i < j → j < n → B (54 + 5 * B 2 + i) ≠ B (54 + 5 * B 2 + j)) ∧ (∀ i, i + 1 < n → g_cut B (B (54 + 5 * B 2 + i)) (B (54 + 5 * B 2 + (i + 1))) < B 1) ∧ (0 < n → F = B (54 + 5 * B 2) ∧ L = B (54 + 5 * B 2 + (n - 1))) := ua.2.2.2.2.2.2 rfl
  obtain ⟨p1, p2, p3, p4, p5⟩ := w7
  have wb := w.1
  have kl := t_k_le X len P
  have tn := t_n_le (X := X) hP
  have sl := t_s_le (X := X) hP
  have hL : n ≠ 0 → L < B 0 := fun q => by rw [(p5 (by omega)).2]; exact p2 _ (by omega)
  rw [f_X9_readsPart_11, s9_well h.1, Option.bind_some, if_neg (c := nI 1 = 0) (by decide)]
  dsimp only
  rw [h.2.2.2.2.2.2.1]
  by_cases stop : 3 ≤ n ∧ t_k X len P = 3
  · have gt := t_n_gt hP (show t_k X len P ≠ 0 by omega)
    have fl := p5 (by omega)
    have i1 : (54 : Int32) + 5 * nI (B 2) = nI (54 + 5 * B 2) := by rw [show (54 : Int32) = nI 54 from rfl, show (5 : Int32) = nI 5 from rfl, pk_mul, nI_add]
    have i2 : nI (54 + 5 * B 2) + nI n - 1 = nI (54 + 5 * B 2 + (n - 1)) := by
      rw [nI_add]
      have q : nI (54 + 5 * B 2 + n) - nI 1 = nI (54 + 5 * B 2 + n - 1) := pk_sub (by omega)
      refine Eq.trans q ?_
      exact congrArg nI (by omega)
    have jF : F < B 0 := by rw [fl.1]; exact p2 0 (by omega)
    have jL := hL (by omega)
    have ne : L ≠ F := by rw [fl.1, fl.2]; exact fun q => p3 0 (n - 1) (by omega) (by omega) q.symm
    have rm := s9_room w h.2.1 (u := L) (v := F) (by omega) (by omega)
    have v1 : S.1 90 (54 + 5 * B 2) = nI F := by rw [fl.1]; exact h.2.1 _ (by omega)
    have v2 : S.1 90 (54 + 5 * B 2 + (n - 1)) = nI L := by rw [fl.2]; exact h.2.1 _ (by omega)
    rw [if_neg (show ¬ nI n < 3 from nI_nlt (b := 3) (by omega) (by omega)), if_pos (show nI (t_k X len P) = 3 by rw [stop.2]; rfl), f_X9_readsPart_158, s9_well h.1, Option.bind_some, if_neg (c := nI 1 = 0) (by decide), i1, i2, if_pos ((x_in (by omega)).mpr (by omega)), if_pos ((x_in (by omega)).mpr (by omega)), nI_clamp (by omega), nI_clamp (by omega)]
    dsimp only
    rw [v1, v2, rm, Option.bind_some]
    rcases hj : g_jc B L F with _ | B'
    · rw [if_pos (c := (none : Option (Nat → Nat)) = none) rfl, if_pos (c := nI 0 = 0) nI_0, f_X9_readsPart_214]
      dsimp only
      rw [h.2.2.2.2.2.2.2.1, s9_cutsF (f := t_s X len P) (by omega) b_wh, Option.bind_some]
      dsimp only
      rw [s9_p222 (p' := B 2) (by omega) (by rw [b_wk (by omega)]; exact h.2.1 2 (by omega)), mKp_some, s9_bad (f := t_s X len P) (by omega) (by rw [b_wk (by omega), b_wk (by omega), b_wh]), g_run_bad (show (gA.mk B H 112 n F L M P).I ≠ 0 from by show (112 : Nat) ≠ 0; decide) (fun _ => by
        show g_stp (gA.mk B H 112 n F L M P) (t_k X len P) (t_v X len P) (t_n X len P) = none
        rw [g_stp_p, if_pos stop.2, if_pos ⟨p1, stop.1⟩, hj]
        rfl)]
      exact ⟨_, rfl, x_fr_w (x_fr_w (x_fr_w x_fr_rf (Or.inl ⟨rfl, by omega, by omega⟩)) (Or.inr rfl)) (Or.inr rfl)⟩
    · obtain ⟨S2, r2, f2, b2⟩ := s9_cuts w h.1 h.2.1 (u := L) (v := F) (by omega) (by omega) hj
      obtain ⟨q1, q2, q3, q4⟩ := uB_jc w jL jF ne hj
      have e2 := q2 2 (by omega)
      rw [if_neg (c := some B' = none) (by intro q; cases q), if_neg (c := nI 1 = 0) (by decide), f_X9_readsPart_214]
      dsimp only
      rw [r2, Option.bind_some]
      dsimp only
      rw [s9_p222 (p' := B 2) (by omega) (by rw [b2 2 (by omega), e2]), mKp_some]
      have st : g_stp (gA.mk B H 112 n F L M P) (t_k X len P) (t_v X len P) (t_n X len P) = some (gA.mk (x_up (x_up B' (50 + B 2) n) 2 (B 2 + 1)) H 0 n F L (M + 1) (t_n X len P)) := by
        rw [g_stp_p, if_pos stop.2, if_pos ⟨p1, stop.1⟩, hj]
        rfl
      have us := uA_stp ua (fun q => by omega) st
      rw [g_run_go (A := gA.mk B H 112 n F L M P) (show t_k X len P ≠ 0 by omega) st]
      have f3 : x_fr wG S (z_w (z_w S2 90 (50 + B 2) (nI n)) 90 2 (nI (B 2 + 1))) := x_fr_w (x_fr_w (x_fr_sub f2 (fun q j hq => Or.inr hq)) (Or.inr rfl)) (Or.inr rfl)
      have b3 : mB (x_up (x_up B' (50 + B 2) n) 2 (B 2 + 1)) H P X len (z_w (z_w S2 90 (50 + B 2) (nI n)) 90 2 (nI (B 2 + 1))) := mB_fr h (x_fr_w (W := fun q _ => q = 90) (x_fr_w f2 rfl) rfl) (fun q j q1 q2 => by omega) (fun j hj => by
        by_cases j1 : j = 2
        · rw [j1, b_wh, x_up_h]
        · rw [b_wj j1, x_up_j j1]
          by_cases j2 : j = 50 + B 2
          · rw [j2, b_wh, x_up_h]
          · rw [b_wj j2, x_up_j j2]; exact b2 j hj)
      have tl := s9_tail (m := m) (M := M) (N := n) (F := F) (L := L) (n := nn) hl hx hP b3 (by omega) (fun _ S4 b4 => ih _ _ _ _ _ _ _ S4 nn (by omega) tn us.1.1 wH (by omega) b4 (by omega))
      rw [if_neg (show ¬ t_k X len P = 0 by omega), if_pos stop.2] at tl
      exact mG_tr f3 tl
  · have e31 : ∀ (R R2 : Option (Unit × zS)), (if nI n < 3 then R else (if nI (t_k X len P) = 3 then R2 else R)) = R := fun R R2 => by
      by_cases z : n < 3
      · rw [if_pos (show nI n < 3 from nI_lt (b := 3) z (by omega))]
      · rw [if_neg (show ¬ nI n < 3 from nI_nlt (b := 3) (by omega) (by omega)), if_neg (show ¬ nI (t_k X len P) = 3 from fun q => stop ⟨by omega, (nI_eq (b := 3) (by omega) (by omega)).mp q⟩)]
    rw [e31]
    have i1 : (54 : Int32) + 5 * nI (B 2) = nI (54 + 5 * B 2) := by rw [show (54 : Int32) = nI 54 from rfl, show (5 : Int32) = nI 5 from rfl, pk_mul, nI_add]
    have r31 : f_X9_readsPart_31 (f_X9_readsPart_11 (k + 1)) (nI (B 2)) (nI n) (nI met) S = f_X9_readsPart_54 (f_X9_readsPart_11 (k + 1)) (nI (B 2)) (nI n) (nI met) (nI (if n = 0 then 0 else L)) S := by
      rw [f_X9_readsPart_31]
      by_cases z : n = 0
      · rw [if_pos (show nI n = 0 by rw [z]; rfl), if_pos z]
        rfl
      · have i2 : nI (54 + 5 * B 2) + nI n - 1 = nI (54 + 5 * B 2 + (n - 1)) := by
          rw [nI_add]
          have q : nI (54 + 5 * B 2 + n) - nI 1 = nI (54 + 5 * B 2 + n - 1) := pk_sub (by omega)
          refine Eq.trans q ?_
          exact congrArg nI (by omega)
        rw [if_neg (nI_ne0 (by omega) (by omega)), i1, i2, if_pos ((x_in (by omega)).mpr (by omega)), nI_clamp (by omega), h.2.1 _ (by omega), if_neg z, (p5 (by omega)).2]
    rw [r31, s9_p54 h hx hP w hL n5 (fun q => if_neg q) hm9 hm]
    by_cases ok : n < 5 ∧ t_k X len P = 2 ∧ t_v X len P < B 0 ∧ g_new B n (t_v X len P) = true ∧ (n = 0 ∨ g_jc B L (t_v X len P) ≠ none)
    · have gt := t_n_gt hP (show t_k X len P ≠ 0 by omega)
      obtain ⟨S2, r2, f2, b2⟩ := s9_tk1 hl hx hP h (by omega)
      rw [if_pos ok, f_X9_readsPart_101, r2, Option.bind_some]
      dsimp only
      rw [s9_well b2.1, Option.bind_some, if_neg (c := nI 1 = 0) (by decide)]
      generalize hv : t_v X len P = v at *
      have nw := g_new_iff.mp ok.2.2.2.1
      have vl : v < 9 := by omega
      have r130 : ∀ S3, f_X9_readsPart_130 (f_X9_readsPart_11 (k + 1)) (nI (B 2)) (nI n) (nI met) (nI v) S3 = f_X9_readsPart_11 (k + 1) (nI (B 2)) (nI (n + 1)) (nI (met ||| 2 ^ v)) (z_w S3 90 (54 + 5 * B 2 + n) (nI v)) := fun S3 => by
        rw [f_X9_readsPart_130, i1, nI_add, if_pos ((x_in (by omega)).mpr (by omega)), nI_clamp (by omega), show (1 : Int32) = nI 1 from rfl, x_bit (by omega), fa_or, nI_add]
      have go : ∀ (B1 : Nat → Nat) (S3 : zS), mB B H (t_n X len P) X len S2 → x_fr (fun q _ => q = 90) S2 S3 → (∀ j, j < 74 → S3.1 90 j = nI (B1 j)) → (∀ q, g_stp (gA.mk B H 112 n F L M P) (t_k X len P) v (t_n X len P) = some q → True) → (∃ B2, g_stp (gA.mk B H 112 n F L M P) (t_k X len P) v (t_n X len P) = some (gA.mk B2 H 112 (n + 1) (if n = 0 then v else F) v M (t_n X len P)) ∧ ∀ j, B2 j = x_up B1 (54 + 5 * B 2 + n) v j) → B1 2 = B 2 → (∀ i, i < n → B1 (54 + 5 * B 2 + i) = B (54 + 5 * B 2 + i)) → mG S (mKp m M (f_X9_readsPart_130 (f_X9_readsPart_11 (k + 1)) (nI (B 2)) (nI n) (nI met) (nI v) S3)) (g_run X len (nn + 1) (gA.mk B H 112 n F L M P)) := fun B1 S3 hb2 f3 b3 _ ⟨B2, st, eq⟩ e2 er => by
        have us := uA_stp ua (fun q => by omega) st
        have st' : g_stp (gA.mk B H 112 n F L M P) (t_k X len (gA.mk B H 112 n F L M P).P) (t_v X len (gA.mk B H 112 n F L M P).P) (t_n X len (gA.mk B H 112 n F L M P).P) = some (gA.mk B2 H 112 (n + 1) (if n = 0 then v else F) v M (t_n X len P)) := by
          show g_stp (gA.mk B H 112 n F L M P) (t_k X len P) (t_v X len P) (t_n X len P) = _
          rw [hv]; exact st
        have z2 : B2 2 = B 2 := by rw [eq 2, x_up_j (by omega)]; exact e2
        have b4 : mB B2 H (t_n X len P) X len (z_w S3 90 (54 + 5 * B 2 + n) (nI v)) := mB_fr hb2 (x_fr_w (W := fun q _ => q = 90) f3 rfl) (fun q j q1 q2 => by omega) (fun j hj => by
          rw [eq j]
          by_cases j1 : j = 54 + 5 * B 2 + n
          · rw [j1, b_wh, x_up_h]
          · rw [b_wj j1, x_up_j j1]; exact b3 j hj)
        rw [r130, g_run_go (A := gA.mk B H 112 n F L M P) (show t_k X len P ≠ 0 by omega) st']
        have res := nx ok.1 B2 H (t_n X len P) (if n = 0 then v else F) v (met ||| 2 ^ v) nn (z_w S3 90 (54 + 5 * B 2 + n) (nI v)) (by omega) tn us.1 b4 (by omega) (b_or_lt hm9 (Nat.pow_lt_pow_right (by decide) vl)) (fun y hy => by
          rw [Nat.testBit_or, Bool.or_eq_true, hm y hy, Nat.testBit_two_pow, decide_eq_true_eq, z2]
          constructor
          · rintro (⟨i, hi, q⟩ | q)
            · refine ⟨i, by omega, ?_⟩
              rw [eq _, x_up_j (by omega), er i hi]; exact q
            · refine ⟨n, by omega, ?_⟩
              rw [eq _, x_up_h]; exact q
          · rintro ⟨i, hi, q⟩
            by_cases z : i = n
            · rw [z, eq _, x_up_h] at q; exact Or.inr q
            · rw [eq _, x_up_j (by omega), er i (by omega)] at q
              exact Or.inl ⟨i, by omega, q⟩)
        rw [z2] at res
        exact mG_tr (x_fr_w (x_fr_tr (wT9_G f2) (x_fr_sub f3 (fun q j hq => Or.inr hq))) (Or.inr rfl)) res
      by_cases c4 : n = 0
      · rw [if_pos (show nI n ≤ 0 from nI_le (b := 0) (by omega) (by omega))]
        refine go B S2 b2 x_fr_rf b2.2.1 (fun _ _ => trivial) ⟨g_rb B n v, ?_, fun j => rfl⟩ rfl (fun i _ => rfl)
        rw [g_stp_p, if_neg (by omega), if_pos ok.2.1, if_pos ⟨p1, ok.1, ok.2.2.1, ok.2.2.2.1⟩, if_pos c4]
        rfl
      · have okj : g_jc B L v ≠ none := by
          rcases ok.2.2.2.2 with z | z
          · exact absurd z c4
          · exact z
        rcases hj : g_jc B L v with _ | B1
        · exact absurd hj okj
        · obtain ⟨S3, r3, f3, b3⟩ := s9_cuts w b2.1 b2.2.1 (u := L) (v := v) (by have := hL c4; omega) (by omega) hj
          have ne : L ≠ v := by rw [(p5 (by omega)).2]; exact nw _ (by omega)
          obtain ⟨q1, q2, q3, q4⟩ := uB_jc w (hL c4) ok.2.2.1 ne hj
          obtain ⟨B2, y1, y2⟩ := (g_jc_rb (x := v) (u := L) (v := v) ok.1 p1 wb.2.1).2 B1 hj
          rw [if_neg (show ¬ nI n ≤ 0 from nI_ge (a := 0) (by omega) (by omega)), if_neg c4]
          dsimp only
          rw [r3, Option.bind_some]
          refine go B1 S3 b2 f3 b3 (fun _ _ => trivial) ⟨B2, ?_, y2⟩ (q2 2 (by omega)) (fun i _ => q2 _ (by omega))
          rw [g_stp_p, if_neg (by omega), if_pos ok.2.1, if_pos ⟨p1, ok.1, ok.2.2.1, ok.2.2.2.1⟩, if_neg c4, y1]
          rfl
    · rw [if_neg ok, g_run_bad (show (gA.mk B H 112 n F L M P).I ≠ 0 from by show (112 : Nat) ≠ 0; decide) (fun _ => by
        show g_stp (gA.mk B H 112 n F L M P) (t_k X len P) (t_v X len P) (t_n X len P) = none
        rw [g_stp_p]
        by_cases k3 : t_k X len P = 3
        · rw [if_pos k3, if_neg (fun q => stop ⟨q.2, k3⟩)]
        · rw [if_neg k3]
          by_cases k2 : t_k X len P = 2
          · rw [if_pos k2]
            by_cases z : B 2 < 4 ∧ n < 5 ∧ t_v X len P < B 0 ∧ g_new B n (t_v X len P) = true
            · rw [if_pos z]
              by_cases z0 : n = 0
              · exact absurd ⟨z.2.1, k2, z.2.2.1, z.2.2.2, Or.inl z0⟩ ok
              · rw [if_neg z0]
                have hj : g_jc B L (t_v X len P) = none := Classical.byContradiction (fun y => ok ⟨z.2.1, k2, z.2.2.1, z.2.2.2, Or.inr y⟩)
                rw [(g_jc_rb (x := t_v X len P) (u := L) (v := t_v X len P) z.2.1 p1 wb.2.1).1 hj]
                rfl
            · rw [if_neg z]; rfl
          · rw [if_neg k2])]
      exact s9_p101 h hP hl (by omega) n
theorem s9_pLoop (hl : len ≤ 110) (hx : ∀ k, k < len → X k ≤ 255) {P0 : Nat} (ih : mIH X len m P0) (hM : M ≤ P0) : ∀ d (B : Nat → Nat) (H n P F L met nn k : Nat) (S : zS), n + d = 5 → d < k → P0 ≤ P → P ≤ len → uA (gA.mk B H 112 n F L M P) → mB B H P X len S → len - P < nn → met < 2 ^ 9 → (∀ v, v < 9 → (met.testBit v = true ↔ ∃ i, i < n ∧ B (54 + 5 * B 2 + i) = v)) → mG S (mKp m M (f_X9_readsPart_11 (k + 1) (nI (B 2)) (nI n) (nI met) S)) (g_run X len nn (gA.mk B H 112 n F L M P))
  | 0, B, H, n, P, F, L, met, nn, k, S, hd, hk, h0, hP, ua, h, hnn, hm9, hm => s9_pStep hl hx ih h0 hP hM ua h hnn (by omega) hm9 hm (fun q => absurd q (by omega))
  | d + 1, B, H, n, P, F, L, met, nn, k, S, hd, hk, h0, hP, ua, h, hnn, hm9, hm => by
    obtain ⟨k, rfl⟩ : ∃ k', k = k' + 1 := ⟨k - 1, by omega⟩
    exact s9_pStep hl hx ih h0 hP hM ua h hnn (by omega) hm9 hm (fun _ B' H' P' F' L' met' nn' S' e1 e2 e3 e4 e5 e6 e7 => s9_pLoop hl hx ih hM d B' H' (n + 1) P' F' L' met' nn' k S' (by omega) (by omega) e1 e2 e3 e4 e5 e6 e7)
theorem s9_pItem (hl : len ≤ 110) (hx : ∀ k, k < len → X k ≤ 255) (hP : P ≤ len) (w : uB B) (h4 : B 2 < 4) (hH : H ≤ 1) (hM : M ≤ P) (h : mB B H P X len S) {n : Nat} (hn : len - P < n) (ih : mIH X len m P) : mG S ((f_X9_readsItem 112 S).bind (fun r73 => f_X9_plate_76 (f_X9_plate_25 (m + 1)) (nI M) r73.2)) (g_run X len n (gA.mk B H 112 0 F L M P)) := by
  have ua : uA (gA.mk B H 112 0 F L M P) := ⟨w, hH, Or.inr (Or.inr (Or.inr (Or.inl rfl))), fun _ => Nat.zero_le 5, fun q => absurd (show (112 : Nat) = 107 from q) (by decide), fun q => absurd (show (112 : Nat) = 115 from q) (by decide), fun _ => ⟨h4, fun i hi => absurd hi (Nat.not_lt_zero i), fun i j _ hj => absurd hj (Nat.not_lt_zero j), fun i hi => absurd hi (Nat.not_lt_zero _), fun q => absurd q (Nat.lt_irrefl 0)⟩⟩
  have r := s9_pLoop hl hx ih hM 5 B H 0 P F L 0 n 999 S rfl (by omega) (Nat.le_refl _) hP ua h hn (by decide) (fun v _ => by
    rw [Nat.zero_testBit]
    exact ⟨fun q => (by cases q), fun ⟨i, hi, _⟩ => absurd hi (Nat.not_lt_zero i)⟩)
  have e : (f_X9_readsItem 112 S).bind (fun r73 => f_X9_plate_76 (f_X9_plate_25 (m + 1)) (nI M) r73.2) = mKp m M (f_X9_readsPart_11 1000 (nI (B 2)) (nI 0) (nI 0) S) := by
    rw [f_X9_readsItem, if_neg (show ¬ (112 : Int32) = 104 from by decide), if_neg (show ¬ (112 : Int32) = 107 from by decide), if_pos rfl, f_X9_readsPart, h.2.1 2 (by omega)]
    rfl
  rw [e]
  exact r
end MPT
