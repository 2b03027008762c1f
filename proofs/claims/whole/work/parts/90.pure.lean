/-! ===== the law's loop ===== -/
theorem wT_00 : wT g_B0 := ⟨⟨Nat.zero_le _, Nat.zero_le _, Nat.zero_le _, Nat.zero_le _⟩, fun k hk => absurd hk (Nat.not_lt_zero k), fun c hc => absurd hc (Nat.not_lt_zero c), fun c d _ hd => absurd hd (Nat.not_lt_zero d), fun p hp => absurd hp (Nat.not_lt_zero p), fun p i hp _ => absurd hp (Nat.not_lt_zero p), fun p i hp _ => absurd hp (Nat.not_lt_zero p)⟩
def g_D0 : gD := gD.mk g_B0 g_B0 0 (g_P0 g_B0) (fun _ _ => 0) 0 (fun _ _ => 0) 0 0 g_B0 g_B0 g_B0
theorem wD_0 : wD g_D0 0 :=
  ⟨wT_00, wPl_0 wT_00 0, Nat.zero_le _, fun i hi => absurd hi (Nat.not_lt_zero i), Nat.zero_le _, fun k hk => absurd hk (Nat.not_lt_zero k), by show 0 < 4; omega, fun i _ hk => absurd (show (0 : Nat).testBit i = true from hk) (by rw [Nat.zero_testBit]; decide), ⟨Nat.zero_le _, fun e he => absurd he (Nat.not_lt_zero e)⟩⟩
/-- both answer alike, and go on -/
theorem z_one {D : gD} {τ : Nat} {S : zS} {f8 f9 : zS → Option (Int32 × zS)} (hs : zSim D τ f8 f9) (h2 : D.T 2 ≤ 4) (hc : CI D S) (hm : MI D S) {K : zS → Option (Int32 × zS)} {G : Option (Int32 × zS) → Prop} (go : ∀ D' S', wD D' (τ + 60) → CI D' S' → MI D' S' → G (K S')) : G ((f8 S).bind (fun r => (f9 r.2).bind (fun q => if r.1 = q.1 then K q.2 else some (0, q.2)))) := by
  obtain ⟨r, D', w', c8, c9⟩ := hs
  obtain ⟨S1, e1, ci1, y1⟩ := c8 S hc
  obtain ⟨S2, e2, mi2, y2⟩ := c9 S1 (MI_yC hm y1)
  rw [e1, Option.bind_some]
  dsimp only
  rw [e2, Option.bind_some, if_pos rfl]
  have h0 := wT_b w'.1
  exact go D' S2 w' (CI_yM ci1 h0.2.2.1 y2) mi2
theorem z_loop (L : Nat) (xs : Nat → Int32) (hL : L ≤ 2048) : ∀ n i (D : gD) (S : zS), L < 4 * (i + n) → 0 < n → 4 * i ≤ L + 3 → wD D (60 * i) → CI D S → MI D S → ∃ S', f_L_law_18 L xs n (nI (4 * i)) S = some (1, S')
  | 0, _, _, _, _, h, _, _, _, _ => absurd h (Nat.lt_irrefl 0)
  | n + 1, i, D, S, hn, _, hi, w, hc, hm => by
    have e4 : (Int32.ofNat L - 4 < nI (4 * i)) ↔ L < 4 * i + 4 := by
      have e : (Int32.ofNat L - 4).toInt = (L : Int) - 4 := pk_sub_toInt (a := L) (b := 4) (by omega) (by omega)
      rw [fa_lt, e, nI_toInt (by omega)]
      omega
    rw [f_L_law_18]
    by_cases c : L < 4 * i + 4
    · rw [if_pos (e4.mpr c)]
      exact ⟨S, rfl⟩
    · have i1 : nI (4 * i) + 1 = nI (4 * i + 1) := by rw [show (1 : Int32) = nI 1 from rfl, nI_add]
      have i2 : nI (4 * i) + 2 = nI (4 * i + 2) := by rw [show (2 : Int32) = nI 2 from rfl, nI_add]
      have i3 : nI (4 * i) + 3 = nI (4 * i + 3) := by rw [show (3 : Int32) = nI 3 from rfl, nI_add]
      have i4 : nI (4 * i) + 4 = nI (4 * (i + 1)) := by
        rw [show (4 : Int32) = nI 4 from rfl, nI_add]
        exact congrArg nI (by omega)
      have z0 : z_in (nI (4 * i)) L := (x_in (by omega)).mpr (by omega)
      have z1 : z_in (nI (4 * i + 1)) L := (x_in (by omega)).mpr (by omega)
      have z2 : z_in (nI (4 * i + 2)) L := (x_in (by omega)).mpr (by omega)
      have z3 : z_in (nI (4 * i + 3)) L := (x_in (by omega)).mpr (by omega)
      have hτ : 60 * i < 2 ^ 20 := by omega
      have h2 := (wT_b w.1).2.2.1
      have go : ∀ D' S', wD D' (60 * i + 60) → CI D' S' → MI D' S' → ∃ S'', f_L_law_18 L xs n (nI (4 * (i + 1))) S' = some (1, S'') := fun D' S' w' c' m' => z_loop L xs hL n (i + 1) D' S' (by omega) (by omega) (by omega) (by rw [show 60 * (i + 1) = 60 * i + 60 from by omega]; exact w') c' m'
      rw [if_neg (fun q => c (e4.mp q)), if_pos z0, i1, i2, i3, i4]
      simp only [if_pos z1, if_pos z2, if_pos z3]
      generalize xs (nI (4 * i)).toNatClampNeg &&& 31 = op
      by_cases o0 : op = 0
      · rw [if_pos o0]
        exact z_one (G := fun γ => ∃ S', γ = some (1, S')) (z_type w _) h2 hc hm go
      rw [if_neg o0]
      by_cases o1 : op = 1
      · rw [if_pos o1]
        exact z_one (G := fun γ => ∃ S', γ = some (1, S')) (z_clear w) h2 hc hm go
      rw [if_neg o1]
      by_cases o2 : op = 2
      · rw [if_pos o2]
        exact z_one (G := fun γ => ∃ S', γ = some (1, S')) (z_plate w) h2 hc hm go
      rw [if_neg o2]
      by_cases o3 : op = 3
      · rw [if_pos o3]
        exact z_one (G := fun γ => ∃ S', γ = some (1, S')) (z_corner w _ _) h2 hc hm go
      rw [if_neg o3]
      by_cases o4 : op = 4
      · rw [if_pos o4]
        exact z_one (G := fun γ => ∃ S', γ = some (1, S')) (z_cut w _ _) h2 hc hm go
      rw [if_neg o4]
      by_cases o5 : op = 5
      · rw [if_pos o5]
        exact z_one (G := fun γ => ∃ S', γ = some (1, S')) (z_part w _ _) h2 hc hm go
      rw [if_neg o5]
      by_cases o6 : op = 6
      · rw [if_pos o6]
        exact z_one (G := fun γ => ∃ S', γ = some (1, S')) (z_burns w hτ _) h2 hc hm go
      rw [if_neg o6]
      by_cases o7 : op = 7
      · rw [if_pos o7]
        exact z_one (G := fun γ => ∃ S', γ = some (1, S')) (z_moves w hτ _) h2 hc hm go
      rw [if_neg o7]
      by_cases o8 : op = 8
      · rw [if_pos o8]
        exact z_one (G := fun γ => ∃ S', γ = some (1, S')) (z_follows w hτ) h2 hc hm go
      rw [if_neg o8]
      by_cases o9 : op = 9
      · rw [if_pos o9]
        exact z_one (G := fun γ => ∃ S', γ = some (1, S')) (z_undo w) h2 hc hm go
      rw [if_neg o9]
      by_cases o10 : op = 10
      · rw [if_pos o10]
        exact z_one (G := fun γ => ∃ S', γ = some (1, S')) (z_piece w _ _) h2 hc hm go
      rw [if_neg o10]
      by_cases o11 : op = 11
      · rw [if_pos o11]
        exact z_one (G := fun γ => ∃ S', γ = some (1, S')) (z_link w _) h2 hc hm go
      rw [if_neg o11]
      by_cases o12 : op = 12
      · rw [if_pos o12]
        exact z_one (G := fun γ => ∃ S', γ = some (1, S')) (z_round w _ _ _) h2 hc hm go
      rw [if_neg o12]
      by_cases o13 : op = 13
      · rw [if_pos o13]
        exact z_one (G := fun γ => ∃ S', γ = some (1, S')) (z_tour w _) h2 hc hm go
      rw [if_neg o13]
      by_cases o14 : op = 14
      · rw [if_pos o14]
        exact z_one (G := fun γ => ∃ S', γ = some (1, S')) (z_sees w _ _ _) h2 hc hm go
      rw [if_neg o14]
      by_cases o15 : op = 15
      · rw [if_pos o15]
        exact z_one (G := fun γ => ∃ S', γ = some (1, S')) (z_forget w) h2 hc hm go
      rw [if_neg o15]
      by_cases o16 : op = 16
      · rw [if_pos o16]
        exact z_one (G := fun γ => ∃ S', γ = some (1, S')) (z_unseen w) h2 hc hm go
      rw [if_neg o16]
      by_cases o17 : op = 17
      · rw [if_pos o17]
        exact z_one (G := fun γ => ∃ S', γ = some (1, S')) (z_ask w) h2 hc hm go
      rw [if_neg o17]
      by_cases o18 : op = 18
      · rw [if_pos o18]
        exact z_one (G := fun γ => ∃ S', γ = some (1, S')) (z_keep w _) h2 hc hm go
      rw [if_neg o18]
      by_cases o19 : op = 19
      · rw [if_pos o19]
        exact z_one (G := fun γ => ∃ S', γ = some (1, S')) (z_back w _) h2 hc hm go
      rw [if_neg o19]
      by_cases o20 : op = 20
      · rw [if_pos o20]
        exact z_one (G := fun γ => ∃ S', γ = some (1, S')) (z_count w _) h2 hc hm go
      rw [if_neg o20]
      exact go D S (wD_mono w (by omega)) hc hm
/-! the start -/
theorem z_CI0 (xs : Nat → Int32) : CI g_D0 ((zFI8 (zfi0 xs), 3, 17) : zS) := by
  refine ⟨3, 0, Or.inl rfl, rfl, ⟨⟨⟨rfl, rfl, rfl, rfl⟩, fun k hk => absurd hk (Nat.not_lt_zero k), fun c hc => absurd hc (Nat.not_lt_zero c), fun p hp => absurd hp (Nat.not_lt_zero p)⟩, fun p hp => absurd hp (Nat.not_lt_zero p)⟩, ⟨fun j hj => ?_, fun k hk => ?_⟩, ⟨by omega, rfl, rfl, fun i hi => absurd hi (Nat.not_lt_zero i)⟩, ⟨rfl, fun k hk => absurd hk (Nat.not_lt_zero k)⟩, ⟨rfl, fun i _ hk => absurd (show (0 : Nat).testBit i = true from hk) (by rw [Nat.zero_testBit]; decide)⟩, ⟨rfl, fun e he => absurd he (Nat.not_lt_zero e)⟩, Or.inl rfl, Or.inl rfl⟩
  · rcases (by omega : j = 0 ∨ j = 1 ∨ j = 2 ∨ j = 3) with rfl | rfl | rfl | rfl
    · have e : zFI8a (zfi0 xs) 3 4 = 0 := rfl
      show (1 : Int32) <<< ((zFI8a (zfi0 xs) 3 4) &&& 31) - 1 = nI (2 ^ 0 - 1)
      rw [e]
      decide
    · rfl
    · rfl
    · rfl
  · show (if k < 9 then (-9 : Int32) else zFI8a (zfi0 xs) 33 k) = g_P0 g_B0 (4 + k)
    rw [if_pos hk]
    unfold g_P0
    rw [if_neg (by omega), if_neg (by omega), if_neg (by omega), if_neg (by omega)]
    rfl
theorem z_pure : zPure := by
  intro L xs hL
  have e1 := s9_beg0 (S := ((zFI8 (zfi0 xs), 3, 17) : zS))
  have f1 : x_fr (fun q j => (q = 87 ∧ j = 8) ∨ q = 90) ((zFI8 (zfi0 xs), 3, 17) : zS) (z_w (x_ar ((zFI8 (zfi0 xs), 3, 17) : zS) 90 74 (fun _ => nI 0)) 87 8 (nI 0)) := x_fr_w (x_fr_a x_fr_rf (fun _ _ => Or.inr rfl)) (Or.inl ⟨rfl, rfl⟩)
  have b90 : ∀ j, j < 74 → (z_w (x_ar ((zFI8 (zfi0 xs), 3, 17) : zS) 90 74 (fun _ => nI 0)) 87 8 (nI 0)).1 90 j = nI (g_B0 j) := fun j hj => by rw [b_wk (by omega), x_ar_in hj]; rfl
  obtain ⟨S6, r6, f6, m6, i6, p6, q1, q2, q3, q4, q5⟩ := s9_settles wT_00 b90
  have mi : MI g_D0 S6 := by
    refine ⟨m6, i6, p6, ⟨q3, fun i hi => absurd hi (Nat.not_lt_zero i)⟩, ⟨q1, fun k hk => absurd hk (Nat.not_lt_zero k)⟩, fun i hi => ⟨?_, fun hk => absurd (show (0 : Nat).testBit i = true from hk) (by rw [Nat.zero_testBit]; decide)⟩, ⟨q2, fun e he => absurd he (Nat.not_lt_zero e)⟩⟩
    show S6.1 94 i = (if (0 : Nat).testBit i = true then nI 1 else nI 0)
    rw [Nat.zero_testBit, if_neg (by decide)]
    rcases (by omega : i = 0 ∨ i = 1) with rfl | rfl
    · exact q4
    · exact q5
  have ci : CI g_D0 S6 := CI_yM (z_CI0 xs) (Nat.zero_le 4) ⟨f6.1.trans f1.1, fun q j hq => by rw [f6.2 _ _ (by unfold wSt; omega), f1.2 _ _ (by omega)]⟩
  obtain ⟨S7, r7⟩ := z_loop L xs hL 1000 0 g_D0 S6 (by omega) (by omega) (by omega) wD_0 ci mi
  exact ⟨_, _, S7, e1, r6, r7⟩
