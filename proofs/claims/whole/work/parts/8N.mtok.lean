/-! ===== the reference's tokens ===== -/
def wT9 (q j : Nat) : Prop := q = 87 ∧ 3 ≤ j ∧ j ≤ 6
def mTk (X : Nat → Nat) (len a : Nat) (S : zS) : Prop := S.1 87 3 = nI (t_n X len a) ∧ S.1 87 4 = nI (t_k X len a) ∧ S.1 87 5 = nI (t_s X len a) ∧ (t_k X len a ≠ 0 → S.1 87 6 = nI (t_v X len a))
section TN
variable {X : Nat → Nat} {len a : Nat} {S : zS}
theorem s9_let (hl : len ≤ 110) (ht : ∀ k, k < len → S.1 88 k = nI (X k)) (h2 : S.1 87 2 = nI len) {k : Nat} (hk : k ≤ len) : f_X9_letterAt (nI k) S = some (if k < len then nI (X k) else -nI 1, S) := by
  rw [f_X9_letterAt, h2]
  by_cases c : k < len
  · rw [if_neg (nI_ge c (by omega)), if_pos ((x_in (by omega)).mpr (by omega)), nI_clamp (by omega), ht k c, if_pos c]
  · rw [if_pos (nI_le (by omega) (by omega)), if_neg c]
    rfl
theorem s9_in57 {c : Nat} (hc : c ≤ 255) (S : zS) : f_X9_in (nI c) 48 57 S = some (if g_dig c = true then nI 1 else nI 0, S) := by
  rw [s9_in]
  by_cases d : g_dig c = true
  · have := g_dig_iff.mp d
    rw [if_pos d, if_pos ⟨nI_le (a := 48) this.1 (by omega), nI_le (b := 57) this.2 (by omega)⟩]
  · rw [if_neg d, if_neg]
    · rintro ⟨q1, q2⟩
      apply d
      rw [fa_le] at q1 q2
      rw [nI_toInt (by omega)] at q1 q2
      have z1 : ((48 : Int32)).toInt = 48 := by decide
      have z2 : ((57 : Int32)).toInt = 57 := by decide
      exact g_dig_iff.mpr ⟨by omega, by omega⟩
theorem s9_num (hl : len ≤ 110) (hx : ∀ k, k < len → X k ≤ 255) (ht : ∀ k, k < len → S.1 88 k = nI (X k)) (h2 : S.1 87 2 = nI len) {s : Nat} (hs : s < len) (hd : g_dig (X s) = true) (h3 : S.1 87 3 = nI s) (h5 : S.1 87 5 = nI s) : f_X9_advances_71 1000 (nI (X s)) (z_w S 87 6 0) = some ((), z_w (z_w (z_w S 87 6 (nI (g_vr X s (t_e X len s - s)))) 87 3 (nI (t_e X len s))) 87 4 (nI (if 99 < g_vr X s (t_e X len s - s) ∨ (X s = 48 ∧ 1 < t_e X len s - s) then 4 else 2))) := by
  have le := t_e_le (X := X) (s := s) (len := len) (by omega)
  have gt := t_e_gt hs hd
  have dg : ∀ j, j < t_e X len s - s → 48 ≤ X (s + j) ∧ X (s + j) ≤ 57 := fun j hj => g_dig_iff.mp (t_e_dig (X := X) (len := len) (s := s) (by omega) (by omega) (by omega))
  have es : z_w S 87 6 0 = z_w (z_w S 87 6 (nI (g_vr X s 0))) 87 3 (nI (s + 0)) := by
    refine x_zext (fun q j => ?_) rfl
    rw [b_w (z_w S 87 6 (nI (g_vr X s 0)))]
    by_cases q1 : q = 87
    · subst q1
      rw [if_pos rfl]
      by_cases j1 : j = 3
      · rw [if_pos j1, j1, b_wj (by omega)]; exact h3
      · rw [if_neg j1]; rfl
    · rw [if_neg q1]; rfl
  rw [es]
  refine x_for (F := fun n j => f_X9_advances_71 n (nI (X s)) (z_w (z_w S 87 6 (nI (g_vr X s j))) 87 3 (nI (s + j)))) (N := t_e X len s - s) ?_ ?_ (d := t_e X len s - s) (a := 0) (n := 1000) (by omega) (by omega)
  · intro n
    have vl := g_vr_le (X := X) (len := len) (s := s) (fun k _ hk => hx k hk) (t_e X len s - s) (by omega)
    have w3 : (z_w (z_w S 87 6 (nI (g_vr X s (t_e X len s - s)))) 87 3 (nI (s + (t_e X len s - s)))).1 87 3 = nI (t_e X len s) := by rw [b_wh]; exact congrArg nI (by omega)
    have w2 : (z_w (z_w S 87 6 (nI (g_vr X s (t_e X len s - s)))) 87 3 (nI (s + (t_e X len s - s)))).1 87 2 = nI len := by rw [b_wj (by omega), b_wj (by omega)]; exact h2
    have w5 : (z_w (z_w S 87 6 (nI (g_vr X s (t_e X len s - s)))) 87 3 (nI (s + (t_e X len s - s)))).1 87 5 = nI s := by rw [b_wj (by omega), b_wj (by omega)]; exact h5
    have w6 : (z_w (z_w S 87 6 (nI (g_vr X s (t_e X len s - s)))) 87 3 (nI (s + (t_e X len s - s)))).1 87 6 = nI (g_vr X s (t_e X len s - s)) := by rw [b_wj (by omega), b_wh]
    have wt : ∀ k, k < len → (z_w (z_w S 87 6 (nI (g_vr X s (t_e X len s - s)))) 87 3 (nI (s + (t_e X len s - s)))).1 88 k = nI (X k) := fun k hk => by rw [b_wk (by omega), b_wk (by omega)]; exact ht k hk
    have lt := s9_let hl wt w2 (k := t_e X len s) le.2
    have eo : z_w (z_w S 87 6 (nI (g_vr X s (t_e X len s - s)))) 87 3 (nI (s + (t_e X len s - s))) = z_w (z_w S 87 6 (nI (g_vr X s (t_e X len s - s)))) 87 3 (nI (t_e X len s)) := by rw [show s + (t_e X len s - s) = t_e X len s from by omega]
    have inn : ∀ S1, f_X9_in (if t_e X len s < len then nI (X (t_e X len s)) else -nI 1) 48 57 S1 = some (nI 0, S1) := fun S1 => by
      by_cases c : t_e X len s < len
      · have nd : g_dig (X (t_e X len s)) = false := by
          have := x_fst_yes (fun k => !g_dig (X k)) len (len - s) s (by omega) (by show t_e X len s < len; omega)
          have e : x_fst (fun k => !g_dig (X k)) len (len - s) s = t_e X len s := rfl
          rw [e] at this
          simpa using this
        rw [if_pos c, s9_in57 (hx _ c), nd]
        rfl
      · rw [if_neg c, s9_in, if_neg]
        · rintro ⟨q1, _⟩
          exact absurd q1 (by decide)
    rw [f_X9_advances_71, w3, lt, Option.bind_some]
    dsimp only
    rw [inn, Option.bind_some, if_pos (c := nI 0 = 0) nI_0]
    dsimp only
    rw [w6, eo]
    by_cases z1 : 99 < g_vr X s (t_e X len s - s)
    · rw [if_pos (show (99 : Int32) < nI (g_vr X s (t_e X len s - s)) from nI_lt (a := 99) z1 (by omega)), if_pos (Or.inl z1)]
      rfl
    · rw [if_neg (show ¬ (99 : Int32) < nI (g_vr X s (t_e X len s - s)) from nI_nlt (a := 99) (by omega) (by omega))]
      have xs := hx s hs
      rw [eo] at w3 w5
      by_cases z2 : X s = 48
      · rw [if_pos (show nI (X s) = 48 by rw [z2]; rfl), w3, w5, pk_sub (by omega)]
        by_cases z3 : t_e X len s - s ≤ 1
        · rw [if_pos (show nI (t_e X len s - s) ≤ 1 from nI_le (b := 1) z3 (by omega)), if_neg (fun q => by omega)]
          rfl
        · rw [if_neg (show ¬ nI (t_e X len s - s) ≤ 1 from nI_ge (a := 1) (by omega) (by omega)), if_pos (Or.inr ⟨z2, by omega⟩)]
          rfl
      · rw [if_neg (show ¬ nI (X s) = 48 from fun q => z2 ((nI_eq (b := 48) (by omega) (by omega)).mp q)), if_neg (fun q => by omega)]
        rfl
  · intro n j hj
    have dj := dg j hj
    have gd : g_dig (X (s + j)) = true := g_dig_iff.mpr dj
    have vl := g_vr_le (X := X) (len := len) (s := s) (fun k _ hk => hx k hk) j (by omega)
    have w3 : (z_w (z_w S 87 6 (nI (g_vr X s j))) 87 3 (nI (s + j))).1 87 3 = nI (s + j) := b_wh
    have w2 : (z_w (z_w S 87 6 (nI (g_vr X s j))) 87 3 (nI (s + j))).1 87 2 = nI len := by rw [b_wj (by omega), b_wj (by omega)]; exact h2
    have w6 : (z_w (z_w S 87 6 (nI (g_vr X s j))) 87 3 (nI (s + j))).1 87 6 = nI (g_vr X s j) := by rw [b_wj (by omega), b_wh]
    have wt : ∀ k, k < len → (z_w (z_w S 87 6 (nI (g_vr X s j))) 87 3 (nI (s + j))).1 88 k = nI (X k) := fun k hk => by rw [b_wk (by omega), b_wk (by omega)]; exact ht k hk
    have lt := s9_let hl wt w2 (k := s + j) (by omega)
    rw [if_pos (show s + j < len by omega)] at lt
    have xj := hx (s + j) (by omega)
    rw [f_X9_advances_71, w3, lt, Option.bind_some]
    dsimp only
    rw [s9_in57 xj, Option.bind_some, gd, if_pos rfl, if_neg (c := nI 1 = 0) (by decide), g_vr]
    dsimp only
    rw [w6, w3]
    by_cases c : 99 < g_vr X s j
    · rw [if_neg (show ¬ nI (g_vr X s j) ≤ 99 from nI_ge (a := 99) (by omega) (by omega)), if_pos c, b_wj (by omega), w3, show (1 : Int32) = nI 1 from rfl, nI_add, Nat.add_assoc]
      congr 1
      rw [z_wc _ _ _ (Or.inr (by omega)), z_ww, z_wc (z_w S 87 6 (nI (g_vr X s j))) _ _ (Or.inr (by omega)), z_ww]
    · have ev : (10 : Int32) * nI (g_vr X s j) + nI (X (s + j)) - (48 : Int32) = nI (10 * g_vr X s j + (X (s + j) - 48)) := by
        rw [show (10 : Int32) = nI 10 from rfl, show (48 : Int32) = nI 48 from rfl, pk_mul, nI_add, pk_sub (by omega)]
        exact congrArg nI (by omega)
      rw [if_pos (show nI (g_vr X s j) ≤ 99 from nI_le (b := 99) (by omega) (by omega)), lt, Option.bind_some, if_neg c]
      dsimp only
      rw [ev, b_wj (by omega), w3, show (1 : Int32) = nI 1 from rfl, nI_add, Nat.add_assoc]
      congr 1
      rw [z_wc _ _ _ (Or.inr (by omega)), z_ww, z_wc (z_w S 87 6 (nI (g_vr X s j))) _ _ (Or.inr (by omega)), z_ww]
theorem s9_adv (hl : len ≤ 110) (hx : ∀ k, k < len → X k ≤ 255) (ht : ∀ k, k < len → S.1 88 k = nI (X k)) (h2 : S.1 87 2 = nI len) (ha : a ≤ len) (h3 : S.1 87 3 = nI a) : ∃ S', f_X9_advances S = some ((), S') ∧ x_fr wT9 S S' ∧ mTk X len a S' := by
  have sl := t_s_le (X := X) ha
  have eS : z_w S 87 3 (nI a) = S := by
    refine x_zext (fun q j => ?_) rfl
    rw [b_w]
    by_cases q1 : q = 87
    · subst q1
      rw [if_pos rfl]
      by_cases j1 : j = 3
      · rw [if_pos j1, j1, h3]
      · rw [if_neg j1]
    · rw [if_neg q1]
  have st : ∀ k, k ≤ len → (z_w S 87 3 (nI k)).1 87 3 = nI k ∧ f_X9_letterAt (nI k) (z_w S 87 3 (nI k)) = some (if k < len then nI (X k) else -nI 1, z_w S 87 3 (nI k)) := fun k hk => ⟨b_wh, s9_let hl (fun i hi => by rw [b_wk (by omega)]; exact ht i hi) (by rw [b_wj (by omega)]; exact h2) hk⟩
  have e0 : f_X9_advances_0 1000 S = f_X9_advances_0 1 (z_w S 87 3 (nI (t_s X len a))) := by
    have hh := x_find (F := fun n k => f_X9_advances_0 n (z_w S 87 3 (nI k))) (N := len) (p := fun k => !decide (X k = 32)) (yes := fun k => f_X9_advances_0 1 (z_w S 87 3 (nI k))) (no := f_X9_advances_0 1 (z_w S 87 3 (nI len))) ?_ ?_ (d := len - a) (a := a) (n := 1000) (by omega) (by omega)
    · have hh' : f_X9_advances_0 1000 (z_w S 87 3 (nI a)) = if t_s X len a < len then f_X9_advances_0 1 (z_w S 87 3 (nI (t_s X len a))) else f_X9_advances_0 1 (z_w S 87 3 (nI len)) := hh
      rw [eS] at hh'
      rw [hh']
      by_cases c : t_s X len a < len
      · rw [if_pos c]
      · rw [if_neg c, show t_s X len a = len from by omega]
    · intro n
      have z := st len (Nat.le_refl _)
      rw [if_neg (Nat.lt_irrefl _)] at z
      rw [f_X9_advances_0, f_X9_advances_0, z.1, z.2, Option.bind_some, Option.bind_some, if_neg (show ¬ (-nI 1 : Int32) = 32 from by decide), if_neg (show ¬ (-nI 1 : Int32) = 32 from by decide)]
    · intro n k hk
      have z := st k (by omega)
      rw [if_pos hk] at z
      have xk := hx k hk
      by_cases c : X k = 32
      · rw [f_X9_advances_0, z.1, z.2, Option.bind_some, if_pos (show nI (X k) = 32 by rw [c]; rfl), decide_eq_true c]
        dsimp only
        rw [z.1, z_ww, show (1 : Int32) = nI 1 from rfl, nI_add]
        rfl
      · have nc : ¬ nI (X k) = 32 := fun q => c ((nI_eq (b := 32) (by omega) (by omega)).mp q)
        rw [decide_eq_false c, f_X9_advances_0, f_X9_advances_0, z.1, z.2, Option.bind_some, Option.bind_some, if_neg nc, if_neg nc]
        rfl
  have z := st (t_s X len a) sl.2
  have n32 : ¬ (if t_s X len a < len then nI (X (t_s X len a)) else -nI 1) = 32 := by
    by_cases c : t_s X len a < len
    · have y := x_fst_yes (fun k => !decide (X k = 32)) len (len - a) a (by omega) c
      have y2 : ¬ X (t_s X len a) = 32 := by
        have e : x_fst (fun k => !decide (X k = 32)) len (len - a) a = t_s X len a := rfl
        rw [e] at y
        simpa using y
      have xk := hx _ c
      rw [if_pos c]
      exact fun q => y2 ((nI_eq (b := 32) (by omega) (by omega)).mp q)
    · rw [if_neg c]; decide
  rw [f_X9_advances, e0, f_X9_advances_0, z.1, z.2, Option.bind_some, if_neg n32]
  dsimp only
  rw [z.1]
  have fr1 : x_fr wT9 S (z_w (z_w S 87 3 (nI (t_s X len a))) 87 5 (nI (t_s X len a))) := x_fr_w (x_fr_w x_fr_rf ⟨rfl, by omega, by omega⟩) ⟨rfl, by omega, by omega⟩
  have v3 : (z_w (z_w S 87 3 (nI (t_s X len a))) 87 5 (nI (t_s X len a))).1 87 3 = nI (t_s X len a) := by rw [b_wj (by omega), b_wh]
  have v5 : (z_w (z_w S 87 3 (nI (t_s X len a))) 87 5 (nI (t_s X len a))).1 87 5 = nI (t_s X len a) := b_wh
  have ht1 : ∀ k, k < len → (z_w (z_w S 87 3 (nI (t_s X len a))) 87 5 (nI (t_s X len a))).1 88 k = nI (X k) := fun k hk => by rw [fr1.2 _ _ (by unfold wT9; omega)]; exact ht k hk
  have h21 : (z_w (z_w S 87 3 (nI (t_s X len a))) 87 5 (nI (t_s X len a))).1 87 2 = nI len := by rw [fr1.2 _ _ (by unfold wT9; omega)]; exact h2
  generalize z_w (z_w S 87 3 (nI (t_s X len a))) 87 5 (nI (t_s X len a)) = S1 at *
  rw [v3, s9_let hl ht1 h21 sl.2, Option.bind_some]
  by_cases c : t_s X len a = len
  · rw [if_neg (show ¬ t_s X len a < len by omega), if_neg (show ¬ (0 : Int32) ≤ -nI 1 from by decide)]
    have k0 : t_k X len a = 0 := by unfold t_k; rw [if_pos c]
    refine ⟨_, rfl, x_fr_w fr1 ⟨rfl, by omega, by omega⟩, ?_, ?_, ?_, fun q => absurd k0 q⟩
    · rw [b_wj (by omega), v3]
      unfold t_n
      rw [if_pos c, c]
    · rw [b_wh, k0]; rfl
    · rw [b_wj (by omega)]; exact v5
  · have sx := hx (t_s X len a) (by omega)
    rw [if_pos (show t_s X len a < len by omega), if_pos (show (0 : Int32) ≤ nI (X (t_s X len a)) from nI_le (a := 0) (by omega) (by omega))]
    dsimp only
    rw [s9_in57 sx, Option.bind_some]
    by_cases d : g_dig (X (t_s X len a)) = true
    · rw [if_pos d, if_neg (c := nI 1 = 0) (by decide)]
      dsimp only
      rw [s9_num hl hx ht1 h21 (by omega) d v3 v5]
      have kk : t_k X len a = if 99 < g_vr X (t_s X len a) (t_d X len a) ∨ (X (t_s X len a) = 48 ∧ 1 < t_d X len a) then 4 else 2 := by
        unfold t_k
        rw [if_neg c, if_pos d]
      refine ⟨_, rfl, x_fr_w (x_fr_w (x_fr_w fr1 ⟨rfl, by omega, by omega⟩) ⟨rfl, by omega, by omega⟩) ⟨rfl, by omega, by omega⟩, ?_, ?_, ?_, fun _ => ?_⟩
      · rw [b_wj (by omega), b_wh]
        unfold t_n
        rw [if_neg c, if_pos d]
      · rw [b_wh, kk]
        rfl
      · rw [b_wj (by omega), b_wj (by omega), b_wj (by omega)]; exact v5
      · rw [b_wj (by omega), b_wj (by omega), b_wh]
        unfold t_v
        rw [if_pos d]
        rfl
    · rw [if_neg d, if_pos (c := nI 0 = 0) nI_0]
      dsimp only
      rw [v3, show nI (t_s X len a) + (1 : Int32) = nI (t_s X len a + 1) from by rw [show (1 : Int32) = nI 1 from rfl, nI_add]]
      have tn : t_n X len a = t_s X len a + 1 := by unfold t_n; rw [if_neg c, if_neg d]
      have tv : t_v X len a = X (t_s X len a) := by unfold t_v; rw [if_neg d]
      have kk : t_k X len a = if X (t_s X len a) = 59 then 3 else if g_isL (X (t_s X len a)) = true then 1 else 4 := by
        unfold t_k
        rw [if_neg c, if_neg d]
      have fin : ∀ y : Nat, y = t_k X len a → ∃ S', some ((), z_w (z_w (z_w S1 87 3 (nI (t_s X len a + 1))) 87 6 (nI (X (t_s X len a)))) 87 4 (nI y)) = some ((), S') ∧ x_fr wT9 S S' ∧ mTk X len a S' := fun y hy => by
        refine ⟨_, rfl, x_fr_w (x_fr_w (x_fr_w fr1 ⟨rfl, by omega, by omega⟩) ⟨rfl, by omega, by omega⟩) ⟨rfl, by omega, by omega⟩, ?_, ?_, ?_, fun _ => ?_⟩
        · rw [b_wj (by omega), b_wj (by omega), b_wh, tn]
        · rw [b_wh, hy]
        · rw [b_wj (by omega), b_wj (by omega), b_wj (by omega)]; exact v5
        · rw [b_wj (by omega), b_wh, tv]
      have ne : ∀ y : Nat, y ≤ 255 → X (t_s X len a) ≠ y → ¬ nI (X (t_s X len a)) = nI y := fun y hy h q => h ((nI_eq (by omega) (by omega)).mp q)
      have lt : ∀ y, X (t_s X len a) = y → (y = 104 ∨ y = 107 ∨ y = 112 ∨ y = 115) → 1 = t_k X len a := fun y hy h => by
        have l1 : g_isL (X (t_s X len a)) = true := by
          unfold g_isL
          rw [hy]
          rcases h with rfl | rfl | rfl | rfl <;> rfl
        rw [kk, if_neg (by omega), if_pos l1]
      by_cases l5 : X (t_s X len a) = 59
      · rw [if_pos (show nI (X (t_s X len a)) = 59 by rw [l5]; rfl)]
        exact fin 3 (by rw [kk, if_pos l5])
      · rw [if_neg (show ¬ nI (X (t_s X len a)) = 59 from ne 59 (by omega) l5)]
        by_cases l1 : X (t_s X len a) = 104
        · rw [if_pos (show nI (X (t_s X len a)) = 104 by rw [l1]; rfl)]
          exact fin 1 (lt _ l1 (by omega))
        · rw [if_neg (show ¬ nI (X (t_s X len a)) = 104 from ne 104 (by omega) l1)]
          by_cases l2 : X (t_s X len a) = 107
          · rw [if_pos (show nI (X (t_s X len a)) = 107 by rw [l2]; rfl)]
            exact fin 1 (lt _ l2 (by omega))
          · rw [if_neg (show ¬ nI (X (t_s X len a)) = 107 from ne 107 (by omega) l2)]
            by_cases l3 : X (t_s X len a) = 112
            · rw [if_pos (show nI (X (t_s X len a)) = 112 by rw [l3]; rfl)]
              exact fin 1 (lt _ l3 (by omega))
            · rw [if_neg (show ¬ nI (X (t_s X len a)) = 112 from ne 112 (by omega) l3)]
              by_cases l4 : X (t_s X len a) = 115
              · rw [if_pos (show nI (X (t_s X len a)) = 115 by rw [l4]; rfl)]
                exact fin 1 (lt _ l4 (by omega))
              · rw [if_neg (show ¬ nI (X (t_s X len a)) = 115 from ne 115 (by omega) l4)]
                have nl : ¬ g_isL (X (t_s X len a)) = true := by
                  unfold g_isL
                  simp [l1, l2, l3, l4]
                exact fin 4 (by rw [kk, if_neg l5, if_neg nl])
end TN
