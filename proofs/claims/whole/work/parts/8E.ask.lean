/-! ===== the best question ===== -/
/-- by how many of the cuts below n of u two corners would hang together -/
def g_ty (T : Nat → Nat) (b u x y n : Nat) : Nat := fb_ct (fun c => u.testBit c && g_hg T (b_an b (2 ^ c)) x y) n
def g_gr (T : Nat → Nat) (b u x y : Nat) : Nat := if g_ty T b u x y (T 1) < b_ct u 14 - g_ty T b u x y (T 1) then b_ct u 14 - g_ty T b u x y (T 1) else g_ty T b u x y (T 1)
def g_b1 (T : Nat → Nat) (b u x : Nat) (q : Int32 × Nat) : Nat → Int32 × Nat
  | 0 => q
  | y + 1 => if x < y then (if (g_b1 T b u x q y).2 ≤ g_gr T b u x y then g_b1 T b u x q y else (nI (16 * x + y), g_gr T b u x y)) else g_b1 T b u x q y
def g_b2 (T : Nat → Nat) (b u z : Nat) : Nat → Int32 × Nat
  | 0 => (-nI 9, z)
  | x + 1 => g_b1 T b u x (g_b2 T b u z x) (T 0)
section AK
variable {T : Nat → Nat} {b u P : Nat} {S : zS}
theorem g_ty_le (x y : Nat) (hu : u < 2 ^ T 1) (h1 : T 1 ≤ 14) : g_ty T b u x y (T 1) ≤ b_ct u 14 := by
  have e := b_ct_ext (b := u) (n := T 1) hu (14 - T 1)
  rw [show T 1 + (14 - T 1) = 14 from by omega] at e
  rw [e]
  exact fb_ct_sub (fun k _ h => by rw [Bool.and_eq_true] at h; exact h.1)
theorem g_gr_le (x y : Nat) (hu : u < 2 ^ T 1) (h1 : T 1 ≤ 14) : g_gr T b u x y ≤ 14 := by
  have := g_ty_le (T := T) (b := b) x y hu h1
  have l : b_ct u 14 ≤ 14 := fb_ct_le _ _
  unfold g_gr
  split <;> omega
theorem g_b1_skip (x : Nat) (q : Int32 × Nat) : ∀ y, y ≤ x + 1 → g_b1 T b u x q y = q
  | 0, _ => rfl
  | y + 1, h => by rw [g_b1, if_neg (by omega), g_b1_skip x q y (by omega)]
theorem g_b1_z (hu : u < 2 ^ T 1) (h1 : T 1 ≤ 14) {x : Nat} {q q' : Int32 × Nat} (h : q = q' ∨ (q.1 = q'.1 ∧ 14 < q.2 ∧ 14 < q'.2)) : ∀ y, g_b1 T b u x q y = g_b1 T b u x q' y ∨ ((g_b1 T b u x q y).1 = (g_b1 T b u x q' y).1 ∧ 14 < (g_b1 T b u x q y).2 ∧ 14 < (g_b1 T b u x q' y).2)
  | 0 => h
  | y + 1 => by
    have ih := g_b1_z (x := x) hu h1 h y
    have l := g_gr_le (T := T) (b := b) x y hu h1
    rw [g_b1, g_b1]
    by_cases c : x < y
    · rw [if_pos c, if_pos c]
      rcases ih with ih | ih
      · rw [ih]; exact Or.inl rfl
      · rw [if_neg (by omega), if_neg (by omega)]
        exact Or.inl rfl
    · rw [if_neg c, if_neg c]; exact ih
theorem g_b2_z (hu : u < 2 ^ T 1) (h1 : T 1 ≤ 14) : ∀ x, g_b2 T b u 1000000 x = g_b2 T b u 99 x ∨ ((g_b2 T b u 1000000 x).1 = (g_b2 T b u 99 x).1 ∧ 14 < (g_b2 T b u 1000000 x).2 ∧ 14 < (g_b2 T b u 99 x).2)
  | 0 => Or.inr ⟨rfl, by show 14 < 1000000; omega, by show 14 < 99; omega⟩
  | x + 1 => g_b1_z hu h1 (g_b2_z hu h1 x) (T 0)
theorem g_b2_eq (hu : u < 2 ^ T 1) (h1 : T 1 ≤ 14) (x : Nat) : (g_b2 T b u 1000000 x).1 = (g_b2 T b u 99 x).1 := by
  rcases g_b2_z (b := b) hu h1 x with h | h
  · rw [h]
  · exact h.1
theorem g_b1_le {x : Nat} {q : Int32 × Nat} {z : Nat} (hu : u < 2 ^ T 1) (h1 : T 1 ≤ 14) (hz : 14 ≤ z) (h : q.2 ≤ z) : ∀ y, (g_b1 T b u x q y).2 ≤ z
  | 0 => h
  | y + 1 => by
    have ih := g_b1_le (x := x) hu h1 hz h y
    have l := g_gr_le (T := T) (b := b) x y hu h1
    rw [g_b1]
    split
    · split
      · exact ih
      · show g_gr T b u x y ≤ z; omega
    · exact ih
theorem g_b2_le {z : Nat} (hu : u < 2 ^ T 1) (h1 : T 1 ≤ 14) (hz : 14 ≤ z) : ∀ x, (g_b2 T b u z x).2 ≤ z
  | 0 => Nat.le_refl z
  | x + 1 => g_b1_le hu h1 hz (g_b2_le hu h1 hz x) (T 0)
/-! the class -/
def wK (q _j : Nat) : Prop := q = 79 ∨ q = 81 ∨ q = 82
theorem s7_count (w : wT T) (h : cL T b S) {a : Nat} (ha : a < T 0) {f : Nat → Nat → Nat} (hf : ∀ x y, x < y → y < T 0 → S.1 79 (9 * x + y) = nI (f x y)) (hfl : ∀ x y, f x y ≤ 100) : ∃ S', f_X7_countReached (nI a) (nI (T 0)) S = some ((), S') ∧ x_fr (fun q _ => q = 79) S S' ∧ ∀ x y, x < y → y < T 0 → S'.1 79 (9 * x + y) = nI (f x y + (if x = a ∧ g_hg T b x y = true then 1 else 0)) := by
  have h0 := wT_b w
  have rl := g_reach9 (T := T) (b := b) (a := a) (by omega)
  rw [f_X7_countReached, s7_reach h (by omega), Option.bind_some]
  show ∃ S', f_X7_countReached_14 1000 (nI a) (nI (T 0)) (nI (g_reach (g_M T b) a)) (nI a + nI 1) S = _ ∧ _
  rw [nI_add]
  refine x_forI (F := fun n y S => f_X7_countReached_14 n (nI a) (nI (T 0)) (nI (g_reach (g_M T b) a)) (nI y) S) (N := T 0) (I := fun z S1 => a + 1 ≤ z ∧ x_fr (fun q _ => q = 79) S S1 ∧ ∀ x y, x < y → y < T 0 → S1.1 79 (9 * x + y) = nI (f x y + (if x = a ∧ y < z ∧ g_hg T b x y = true then 1 else 0))) (G := fun γ => ∃ S', γ = some ((), S') ∧ x_fr (fun q _ => q = 79) S S' ∧ ∀ x y, x < y → y < T 0 → S'.1 79 (9 * x + y) = nI (f x y + (if x = a ∧ g_hg T b x y = true then 1 else 0))) ?_ ?_ (d := T 0 - (a + 1)) (a := a + 1) (n := 1000) (S := S) (by omega) (by omega) ⟨Nat.le_refl _, x_fr_rf, fun x y hxy hy => by
    rw [if_neg (by omega), Nat.add_zero]
    exact hf x y hxy hy⟩
  · intro n S1 ⟨_, h1, h2⟩
    refine ⟨S1, ?_, h1, fun x y hxy hy => ?_⟩
    · show f_X7_countReached_14 (n + 1) (nI a) (nI (T 0)) _ (nI (T 0)) S1 = _
      rw [f_X7_countReached_14, if_pos (nI_le (Nat.le_refl _) (by omega))]
    · rw [h2 x y hxy hy]
      congr 2
      have : (x = a ∧ y < T 0 ∧ g_hg T b x y = true) = (x = a ∧ g_hg T b x y = true) := propext ⟨fun q => ⟨q.1, q.2.2⟩, fun q => ⟨q.1, hy, q.2⟩⟩
      simp only [this]
  · intro n z S1 hz ⟨ha1, h1, h2⟩ go
    show ∃ S', f_X7_countReached_14 (n + 1) (nI a) (nI (T 0)) (nI (g_reach (g_M T b) a)) (nI z) S1 = _ ∧ _
    rw [f_X7_countReached_14, if_neg (nI_ge hz (by omega)), b_has8 (by omega) (by omega), Option.bind_some, g_hg_bit w (by omega) (by omega)]
    have fl := hfl a z
    by_cases c : g_hg T b a z = true
    · have v := h2 a z (by omega) hz
      rw [if_neg (fun q => Nat.lt_irrefl _ q.2.1), Nat.add_zero] at v
      rw [if_pos c, if_neg (c := nI 1 = 0) (by decide)]
      have i1 : nI a * (9 : Int32) + nI z = nI (9 * a + z) := by
        rw [show (9 : Int32) = nI 9 from rfl, pk_mul, nI_add]
        exact congrArg nI (by omega)
      rw [i1, if_pos ((x_in (by omega)).mpr (by omega)), if_pos ((x_in (by omega)).mpr (by omega)), nI_clamp (by omega)]
      dsimp only
      rw [v, show (1 : Int32) = nI 1 from rfl, nI_add, nI_add]
      apply go
      refine ⟨by omega, x_fr_w h1 rfl, fun x y hxy hy => ?_⟩
      by_cases e : x = a ∧ y = z
      · rw [e.1, e.2, b_wh, if_pos ⟨rfl, by omega, c⟩]
      · rw [b_wj (by omega), h2 x y hxy hy]
        congr 2
        have : (x = a ∧ y < z ∧ g_hg T b x y = true) = (x = a ∧ y < z + 1 ∧ g_hg T b x y = true) := propext ⟨fun q => ⟨q.1, by omega, q.2.2⟩, fun q => ⟨q.1, by have := q.1; have := q.2.1; omega, q.2.2⟩⟩
        simp only [this]
    · rw [if_neg c, if_pos (c := nI 0 = 0) nI_0]
      dsimp only
      rw [show (1 : Int32) = nI 1 from rfl, nI_add]
      apply go
      refine ⟨by omega, h1, fun x y hxy hy => ?_⟩
      rw [h2 x y hxy hy]
      congr 2
      have : (x = a ∧ y < z ∧ g_hg T b x y = true) = (x = a ∧ y < z + 1 ∧ g_hg T b x y = true) := propext ⟨fun q => ⟨q.1, by omega, q.2.2⟩, fun q => ⟨q.1, by
        have q1 := q.1
        have q2 := q.2.1
        by_cases e : y = z
        · subst e; subst q1; exact absurd q.2.2 c
        · omega, q.2.2⟩⟩
      simp only [this]
theorem s7_t48 (w : wT T) (hP : P = 3 ∨ P = 17) (hp : cP0 T P S) (h : cL T b S) {f : Nat → Nat → Nat} (hf : ∀ x y, x < y → y < T 0 → S.1 79 (9 * x + y) = nI (f x y)) (hfl : ∀ x y, f x y ≤ 50) {γ' : Option (Unit × zS) → Prop} (v2 v3 : Int32) (c : Nat) (K : Int32 → Int32 → Int32 → zS → Option (Unit × zS)) (go : ∀ S', x_fr (fun q _ => q = 79) S S' → (∀ x y, x < y → y < T 0 → S'.1 79 (9 * x + y) = nI (f x y + (if g_hg T b x y = true then 1 else 0))) → γ' (K v2 v3 (nI (c + 1)) S')) : γ' (f_X7_tallyPairs_48 P K 1000 v2 v3 (nI c) (nI 0) S) := by
  have h0 := wT_b w
  refine x_forI (F := fun n a S => f_X7_tallyPairs_48 P K n v2 v3 (nI c) (nI a) S) (N := T 0) (I := fun a S1 => x_fr (fun q _ => q = 79) S S1 ∧ ∀ x y, x < y → y < T 0 → S1.1 79 (9 * x + y) = nI (f x y + (if x < a ∧ g_hg T b x y = true then 1 else 0))) (G := γ') ?_ ?_ (d := T 0) (a := 0) (n := 1000) (S := S) (by omega) (by omega) ⟨x_fr_rf, fun x y hxy hy => by
    rw [if_neg (by omega), Nat.add_zero]
    exact hf x y hxy hy⟩
  · intro n S1 ⟨h1, h2⟩
    have e1 : S1.1 P 0 = nI (T 0) := by rw [h1.2 _ _ (by omega)]; exact hp.1.1
    show γ' (f_X7_tallyPairs_48 P K (n + 1) v2 v3 (nI c) (nI (T 0)) S1)
    rw [f_X7_tallyPairs_48, e1, if_pos (nI_le (Nat.le_refl _) (by omega)), show (1 : Int32) = nI 1 from rfl, nI_add]
    refine go S1 h1 (fun x y hxy hy => ?_)
    rw [h2 x y hxy hy]
    congr 2
    have : (x < T 0 ∧ g_hg T b x y = true) = (g_hg T b x y = true) := propext ⟨fun q => q.2, fun q => ⟨by omega, q⟩⟩
    simp only [this]
  · intro n a S1 ha ⟨h1, h2⟩ go2
    have e1 : S1.1 P 0 = nI (T 0) := by rw [h1.2 _ _ (by omega)]; exact hp.1.1
    have hL : cL T b S1 := fun k hk => by rw [h1.2 _ _ (by omega), h1.2 _ _ (by omega)]; exact h k hk
    obtain ⟨S', r1, r2, r3⟩ := s7_count w hL ha (f := fun x y => f x y + (if x < a ∧ g_hg T b x y = true then 1 else 0)) h2 (fun x y => by
      have := hfl x y
      show f x y + _ ≤ 100
      split <;> omega)
    show γ' (f_X7_tallyPairs_48 P K (n + 1) v2 v3 (nI c) (nI a) S1)
    rw [f_X7_tallyPairs_48, e1, if_neg (nI_ge ha (by omega)), r1, Option.bind_some, show (1 : Int32) = nI 1 from rfl, nI_add]
    apply go2
    refine ⟨x_fr_tr h1 r2, fun x y hxy hy => ?_⟩
    rw [r3 x y hxy hy]
    refine congrArg nI ?_
    show f x y + (if x < a ∧ g_hg T b x y = true then 1 else 0) + (if x = a ∧ g_hg T b x y = true then 1 else 0) = f x y + (if x < a + 1 ∧ g_hg T b x y = true then 1 else 0)
    by_cases q : g_hg T b x y = true
    · by_cases q1 : x < a
      · rw [if_pos ⟨q1, q⟩, if_neg (by omega), if_pos ⟨by omega, q⟩]
      · by_cases q2 : x = a
        · rw [if_neg (by omega), if_pos ⟨q2, q⟩, if_pos ⟨by omega, q⟩]
        · rw [if_neg (by omega), if_neg (by omega), if_neg (by omega)]
    · rw [if_neg (fun z => q z.2), if_neg (fun z => q z.2), if_neg (fun z => q z.2)]
theorem s7_tally (w : wT T) (hP : P = 3 ∨ P = 17) (hp : cP0 T P S) (hb : b < 2 ^ 31) (hu : u < 2 ^ 31) : ∃ S', f_X7_tallyPairs P (nI b) (nI u) S = some ((), S') ∧ x_fr wK S S' ∧ ∀ x y, x < y → y < T 0 → S'.1 79 (9 * x + y) = nI (g_ty T b u x y (T 1)) := by
  have h0 := wT_b w
  rw [f_X7_tallyPairs, s_fill 79 81 (by omega), Option.bind_some]
  have frf : x_fr wK S (x_ar S 79 81 (fun _ => (0 : Int32))) := x_fr_a x_fr_rf (fun _ _ => Or.inl rfl)
  refine x_forI (F := fun n c S => f_X7_tallyPairs_11 P n (nI b) (nI u) (nI c) S) (N := T 1) (I := fun c S1 => x_fr wK S S1 ∧ ∀ x y, x < y → y < T 0 → S1.1 79 (9 * x + y) = nI (g_ty T b u x y c)) (G := fun γ => ∃ S', γ = some ((), S') ∧ x_fr wK S S' ∧ ∀ x y, x < y → y < T 0 → S'.1 79 (9 * x + y) = nI (g_ty T b u x y (T 1))) ?_ ?_ (d := T 1) (a := 0) (n := 1000) (S := x_ar S 79 81 (fun _ => (0 : Int32))) (by omega) (by omega) ⟨frf, fun x y hxy hy => x_ar_in (by omega)⟩
  · intro n S1 ⟨h1, h2⟩
    have e1 : S1.1 P 4 = nI (T 1) := by rw [h1.2 _ _ (by unfold wK; omega)]; exact hp.1.2.1
    refine ⟨S1, ?_, h1, h2⟩
    show f_X7_tallyPairs_11 P (n + 1) (nI b) (nI u) (nI (T 1)) S1 = _
    rw [f_X7_tallyPairs_11, e1, if_pos (nI_le (Nat.le_refl _) (by omega))]
  · intro n c S1 hc ⟨h1, h2⟩ go
    have e1 : S1.1 P 4 = nI (T 1) := by rw [h1.2 _ _ (by unfold wK; omega)]; exact hp.1.2.1
    have hp1 : cP0 T P S1 := cP0_fr hp h1 (fun q j q1 q2 q3 => by unfold wK at q3; omega) (by omega)
    have ty : ∀ x y, g_ty T b u x y (c + 1) = g_ty T b u x y c + (if (u.testBit c && g_hg T (b_an b (2 ^ c)) x y) = true then 1 else 0) := fun _ _ => rfl
    show ∃ S', f_X7_tallyPairs_11 P (n + 1) (nI b) (nI u) (nI c) S1 = _ ∧ _
    rw [f_X7_tallyPairs_11, e1, if_neg (nI_ge hc (by omega)), b_has8 hu (by omega), Option.bind_some]
    by_cases q : u.testBit c = true
    · have lay := s6_lay (W := 80) (P := P) w hp1 (b := b_an b (2 ^ c)) (b_an_lt hb) hP (by omega)
      have fr2 : x_fr wK S1 (x_ar (x_ar S1 82 9 (fun _ => nI 0)) 81 9 (fun k => nI (g_M T (b_an b (2 ^ c)) k))) := x_fr_a (x_fr_a x_fr_rf (fun _ _ => Or.inr (Or.inr rfl))) (fun _ _ => Or.inr (Or.inl rfl))
      rw [if_pos q, if_neg (c := nI 1 = 0) (by decide)]
      dsimp only
      rw [show (1 : Int32) = nI 1 from rfl, x_bit (by omega), x_an hb, lay, Option.bind_some]
      dsimp only
      refine s7_t48 (f := fun x y => g_ty T b u x y c) (γ' := fun γ => ∃ S', γ = some ((), S') ∧ x_fr wK S S' ∧ ∀ x y, x < y → y < T 0 → S'.1 79 (9 * x + y) = nI (g_ty T b u x y (T 1))) w hP (cP0_fr hp1 fr2 (fun q j q1 q2 q3 => by unfold wK at q3; omega) (by omega)) (cL_lay (T := T) (b := b_an b (2 ^ c)) (S := S1)) (fun x y hxy hy => by rw [x_ar_k (by omega), x_ar_k (by omega)]; exact h2 x y hxy hy) (fun x y => by
        have l : g_ty T b u x y c ≤ c := fb_ct_le _ _
        show g_ty T b u x y c ≤ 50
        omega) (nI b) (nI u) c (f_X7_tallyPairs_11 P n) ?_
      intro S' f3 g3
      refine go S' ⟨x_fr_tr h1 (x_fr_tr fr2 (x_fr_sub f3 (fun q j hq => Or.inl hq))), fun x y hxy hy => ?_⟩
      rw [g3 x y hxy hy, ty, q, Bool.true_and]
    · have qf : u.testBit c = false := by simpa using q
      rw [if_neg q, if_pos (c := nI 0 = 0) nI_0]
      dsimp only
      rw [show (1 : Int32) = nI 1 from rfl, nI_add]
      refine go S1 ⟨h1, fun x y hxy hy => ?_⟩
      rw [h2 x y hxy hy, ty, qf]
      rfl
theorem s7_best (w : wT T) (hp : cP0 T P S) (hu : u < 2 ^ T 1) (h : ∀ x y, x < y → y < T 0 → S.1 79 (9 * x + y) = nI (g_ty T b u x y (T 1))) : f_X7_bestQuestion_40 P 1000 (nI (b_ct u 14)) (-nI 9) (nI 1000000) (nI 0) S = some ((g_b2 T b u 1000000 (T 0)).1, S) := by
  have h0 := wT_b w
  have e0 := hp.1.1
  refine x_for (F := fun n a => f_X7_bestQuestion_40 P n (nI (b_ct u 14)) (g_b2 T b u 1000000 a).1 (nI (g_b2 T b u 1000000 a).2) (nI a) S) (N := T 0) ?_ ?_ (d := T 0) (a := 0) (n := 1000) (by omega) (by omega)
  · intro n
    rw [f_X7_bestQuestion_40, e0, if_pos (nI_le (Nat.le_refl _) (by omega))]
  · intro n a ha
    have l0 := g_b2_le (T := T) (b := b) (z := 1000000) hu (by omega) (by omega) a
    rw [f_X7_bestQuestion_40, e0, if_neg (nI_ge ha (by omega)), show (1 : Int32) = nI 1 from rfl, nI_add]
    have hh := x_forA (a0 := a + 1) (F := fun m y => f_X7_bestQuestion_55 P (f_X7_bestQuestion_40 P n) m (nI (b_ct u 14)) (g_b1 T b u a (g_b2 T b u 1000000 a) y).1 (nI (g_b1 T b u a (g_b2 T b u 1000000 a) y).2) (nI a) (nI y) S) (N := T 0) (fin := f_X7_bestQuestion_40 P n (nI (b_ct u 14)) (g_b1 T b u a (g_b2 T b u 1000000 a) (T 0)).1 (nI (g_b1 T b u a (g_b2 T b u 1000000 a) (T 0)).2) (nI (a + 1)) S) ?_ ?_ (d := T 0 - (a + 1)) (a := a + 1) (n := 1000) (Nat.le_refl _) (by omega) (by omega)
    · rw [g_b1_skip a _ (a + 1) (Nat.le_refl _)] at hh
      exact hh
    · intro m
      rw [f_X7_bestQuestion_55, e0, if_pos (nI_le (Nat.le_refl _) (by omega)), show (1 : Int32) = nI 1 from rfl, nI_add]
    · intro m y hy1 hy
      have l1 := g_b1_le (T := T) (b := b) (x := a) (q := g_b2 T b u 1000000 a) hu (by omega) (by omega) l0 y
      have v := h a y (by omega) hy
      have tl := g_ty_le (T := T) (b := b) a y hu (by omega)
      have nl : b_ct u 14 ≤ 14 := fb_ct_le _ _
      have gl := g_gr_le (T := T) (b := b) a y hu (by omega)
      have i1 : nI a * (9 : Int32) + nI y = nI (9 * a + y) := by
        rw [show (9 : Int32) = nI 9 from rfl, pk_mul, nI_add]
        exact congrArg nI (by omega)
      have gr : (if nI (g_ty T b u a y (T 1)) < nI (b_ct u 14) - nI (g_ty T b u a y (T 1)) then nI (b_ct u 14) - nI (g_ty T b u a y (T 1)) else nI (g_ty T b u a y (T 1))) = nI (g_gr T b u a y) := by
        rw [pk_sub tl]
        unfold g_gr
        by_cases q : g_ty T b u a y (T 1) < b_ct u 14 - g_ty T b u a y (T 1)
        · rw [if_pos q, if_pos (nI_lt q (by omega))]
        · rw [if_neg q, if_neg (nI_nlt (by omega) (by omega))]
      rw [f_X7_bestQuestion_55, e0, if_neg (nI_ge hy (by omega)), i1, if_pos ((x_in (by omega)).mpr (by omega)), nI_clamp (by omega), v, gr, g_b1, if_pos (show a < y by omega)]
      by_cases q : (g_b1 T b u a (g_b2 T b u 1000000 a) y).2 ≤ g_gr T b u a y
      · rw [if_pos q, if_pos (nI_le q (by omega)), show (1 : Int32) = nI 1 from rfl, nI_add]
      · rw [if_neg q, if_neg (nI_ge (by omega) (by omega)), show (1 : Int32) = nI 1 from rfl, nI_add, show (16 : Int32) = nI 16 from rfl, pk_mul, nI_add]
/-- the answer -/
def g_ak (T : Nat → Nat) (b u : Nat) : Int32 := if 1 < b_ct u 14 then (g_b2 T b u 99 (T 0)).1 else -nI 9
theorem s7_ask (w : wT T) (hP : P = 3 ∨ P = 17) (hp : cP0 T P S) {m : Nat} {A B H : Nat → Nat} (hz : wZ T m A B H) (hc : cZ m A B H S) (hb : b < 2 ^ 31) : ∃ S', f_X7_bestQuestion P (nI b) S = some (g_ak T b (g_un T b m A B H), S') ∧ x_fr wK S S' := by
  have h0 := wT_b w
  obtain ⟨S1, r1, f1⟩ := s7_sus w hP hp hz hc hb
  have ul : g_un T b m A B H < 2 ^ T 1 := x_mk_lt _ _
  have ul14 : g_un T b m A B H < 2 ^ 14 := Nat.lt_of_lt_of_le ul (Nat.pow_le_pow_right (by decide) (by omega))
  have nl : b_ct (g_un T b m A B H) 14 ≤ 14 := fb_ct_le _ _
  have f1' : x_fr wK S S1 := x_fr_sub f1 (fun q j hq => by unfold wU at hq; unfold wK; omega)
  rw [f_X7_bestQuestion, r1, Option.bind_some]
  dsimp only
  rw [b_bc ul14, Option.bind_some]
  dsimp only
  unfold g_ak
  by_cases c : 1 < b_ct (g_un T b m A B H) 14
  · have hp1 : cP0 T P S1 := cP0_fr hp f1 (fun q j q1 q2 q3 => by unfold wU at q3; omega) (by omega)
    obtain ⟨S2, r2, f2, g2⟩ := s7_tally (u := g_un T b m A B H) w hP hp1 hb (by omega)
    have hp2 : cP0 T P S2 := cP0_fr hp1 f2 (fun q j q1 q2 q3 => by unfold wK at q3; omega) (by omega)
    have be := s7_best (b := b) w hp2 ul g2
    refine ⟨S2, ?_, x_fr_tr f1' f2⟩
    rw [if_pos (show (1 : Int32) < nI (b_ct (g_un T b m A B H) 14) from nI_lt (a := 1) c (by omega)), r2, Option.bind_some, if_pos c, ← g_b2_eq (b := b) ul (by omega)]
    exact be
  · refine ⟨S1, ?_, f1'⟩
    rw [if_neg (show ¬ (1 : Int32) < nI (b_ct (g_un T b m A B H) 14) from nI_nlt (a := 1) (by omega) (by omega)), if_neg c]
    rfl
/-! the reference -/
theorem s9_ak142 (w : wT T) (hm : mT T 89 S) (hu : u < 2 ^ T 1) (h : ∀ k, k < 81 → S.1 108 k = nI (g_ty T b u (k / 9) (k % 9) (T 1))) : f_X9_ask_142 1000 (nI (b_ct u 14)) (-nI 9) (nI 99) (nI 0) S = some (g_ak T b u, S) := by
  have h0 := wT_b w
  have e0 := hm 0 (by omega)
  have nl : b_ct u 14 ≤ 14 := fb_ct_le _ _
  unfold g_ak
  by_cases c : 1 < b_ct u 14
  · rw [if_pos c]
    refine x_for (F := fun n a => f_X9_ask_142 n (nI (b_ct u 14)) (g_b2 T b u 99 a).1 (nI (g_b2 T b u 99 a).2) (nI a) S) (N := T 0) ?_ ?_ (d := T 0) (a := 0) (n := 1000) (by omega) (by omega)
    · intro n
      rw [f_X9_ask_142, e0, if_pos (nI_le (Nat.le_refl _) (by omega))]
    · intro n a ha
      have l0 := g_b2_le (T := T) (b := b) (z := 99) hu (by omega) (by omega) a
      rw [f_X9_ask_142, e0, if_neg (nI_ge ha (by omega)), show (1 : Int32) = nI 1 from rfl, if_neg (nI_ge c (by omega)), nI_add]
      have hh := x_forA (a0 := a + 1) (F := fun m y => f_X9_ask_164 (f_X9_ask_142 n) m (nI (b_ct u 14)) (g_b1 T b u a (g_b2 T b u 99 a) y).1 (nI (g_b1 T b u a (g_b2 T b u 99 a) y).2) (nI a) (nI y) S) (N := T 0) (fin := f_X9_ask_142 n (nI (b_ct u 14)) (g_b1 T b u a (g_b2 T b u 99 a) (T 0)).1 (nI (g_b1 T b u a (g_b2 T b u 99 a) (T 0)).2) (nI (a + 1)) S) ?_ ?_ (d := T 0 - (a + 1)) (a := a + 1) (n := 1000) (Nat.le_refl _) (by omega) (by omega)
      · rw [g_b1_skip a _ (a + 1) (Nat.le_refl _)] at hh
        exact hh
      · intro m
        rw [f_X9_ask_164, e0, if_pos (nI_le (Nat.le_refl _) (by omega)), show (1 : Int32) = nI 1 from rfl, nI_add]
      · intro m y hy1 hy
        have l1 := g_b1_le (T := T) (b := b) (x := a) (q := g_b2 T b u 99 a) hu (by omega) (by omega) l0 y
        have v := h (9 * a + y) (by omega)
        rw [show (9 * a + y) / 9 = a from by omega, show (9 * a + y) % 9 = y from by omega] at v
        have tl := g_ty_le (T := T) (b := b) a y hu (by omega)
        have gl := g_gr_le (T := T) (b := b) a y hu (by omega)
        have i1 : (9 : Int32) * nI a + nI y = nI (9 * a + y) := by
          rw [show (9 : Int32) = nI 9 from rfl, pk_mul, nI_add]
        have r208 : ∀ g : Nat, g = g_gr T b u a y → f_X9_ask_208 (f_X9_ask_142 n) (f_X9_ask_164 (f_X9_ask_142 n) m) (nI (b_ct u 14)) (g_b1 T b u a (g_b2 T b u 99 a) y).1 (nI (g_b1 T b u a (g_b2 T b u 99 a) y).2) (nI a) (nI y) (nI g) S = f_X9_ask_164 (f_X9_ask_142 n) m (nI (b_ct u 14)) (g_b1 T b u a (g_b2 T b u 99 a) (y + 1)).1 (nI (g_b1 T b u a (g_b2 T b u 99 a) (y + 1)).2) (nI a) (nI (y + 1)) S := fun g hg => by
          subst hg
          rw [g_b1, if_pos (show a < y by omega), f_X9_ask_208]
          by_cases q : (g_b1 T b u a (g_b2 T b u 99 a) y).2 ≤ g_gr T b u a y
          · rw [if_pos q, if_pos (nI_le q (by omega)), f_X9_ask_229, if_pos (nI_le q (by omega)), show (1 : Int32) = nI 1 from rfl, nI_add]
          · rw [if_neg q, if_neg (nI_ge (by omega) (by omega)), f_X9_ask_229, if_neg (nI_ge (by omega) (by omega)), show (1 : Int32) = nI 1 from rfl, nI_add, show (16 : Int32) = nI 16 from rfl, pk_mul, nI_add]
        rw [f_X9_ask_164, e0, if_neg (nI_ge hy (by omega)), i1, if_pos ((x_in (by omega)).mpr (by omega)), nI_clamp (by omega), v, pk_sub tl]
        by_cases q : g_ty T b u a y (T 1) ≤ b_ct u 14 - g_ty T b u a y (T 1)
        · rw [if_pos (nI_le q (by omega))]
          refine r208 _ ?_
          unfold g_gr
          split <;> omega
        · rw [if_neg (nI_ge (by omega) (by omega))]
          refine r208 _ ?_
          unfold g_gr
          split <;> omega
  · rw [if_neg c, f_X9_ask_142, e0]
    by_cases z : T 0 = 0
    · rw [if_pos (nI_le (by omega) (by omega))]
    · rw [if_neg (nI_ge (by omega) (by omega)), if_pos (show nI (b_ct u 14) ≤ 1 from nI_le (b := 1) (by omega) (by omega))]
def wJ (q _j : Nat) : Prop := q = 99 ∨ q = 108
theorem s9_ask (w : wT T) (hm : mT T 89 S) (hl : S.1 91 0 = nI b) {m : Nat} {A B H : Nat → Nat} (hz : wZ T m A B H) (hc : mZ m A B H (z_w S 87 0 0)) (hb : b < 2 ^ 31) : ∃ S', f_X9_ask S = some (g_ak T b (g_un T b m A B H), S') ∧ x_fr (fun q j => wJ q j ∨ (q = 87 ∧ j = 0)) S S' := by
  have h0 := wT_b w
  have hm0 : mT T 89 (z_w S 87 0 0) := fun j hj => by rw [b_wk (by omega)]; exact hm j hj
  obtain ⟨S1, r1, f1⟩ := s9_un w hm0 (by rw [b_wk (by omega)]; exact hl) hz hc hb
  have ul : g_un T b m A B H < 2 ^ T 1 := x_mk_lt _ _
  have ul14 : g_un T b m A B H < 2 ^ 14 := Nat.lt_of_lt_of_le ul (Nat.pow_le_pow_right (by decide) (by omega))
  generalize g_un T b m A B H = u at *
  have fr1 : x_fr (fun q j => wJ q j ∨ (q = 87 ∧ j = 0)) S S1 := x_fr_tr (x_fr_w x_fr_rf (Or.inr ⟨rfl, rfl⟩)) (x_fr_sub f1 (fun q j hq => Or.inl (Or.inl hq)))
  rw [f_X9_ask, r1, Option.bind_some]
  dsimp only
  rw [b_ones ul14, Option.bind_some]
  dsimp only
  have fl : f_X9_ask_17 1000 (nI u) (nI (b_ct u 14)) (nI 0) S1 = f_X9_ask_38 1000 (nI u) (nI (b_ct u 14)) (nI 0) (x_ar S1 108 81 (fun _ => nI 0)) := by
    have hh := x_for (F := fun n k => f_X9_ask_17 n (nI u) (nI (b_ct u 14)) (nI k) (x_ar S1 108 k (fun _ => nI 0))) (N := 81) (fin := f_X9_ask_38 1000 (nI u) (nI (b_ct u 14)) (nI 0) (x_ar S1 108 81 (fun _ => nI 0))) ?_ ?_ (d := 81) (a := 0) (n := 1000) (by omega) (by omega)
    · rw [x_ar_0] at hh
      exact hh
    · intro n
      simp (disch := omega) only [f_X9_ask_17, x_l0, x_l1, x_l2, x_l3, x_l4, x_l5, x_l6, x_l7, x_l8, x_l9, x_l10, x_l12, x_l13, x_l14, x_l16, x_l18, x_l20, x_l22, x_l32, x_l36, x_l48, x_l50, x_l54, x_l57, x_l59, x_l74, x_l81, x_l99, x_l104, x_l107, x_l110, x_l112, x_l115, x_l117, x_l162, x_l255, x_l512, x_l99999, x_l1000000, nI_leI, nI_ltI, nI_eq, nI_add, pk_mul, nI_clamp, x_in, x_bit, x_b0, x_b1, x_b0n, fa_or, fa_and, fb_xorI, x_an, Option.bind_some, b_has8, b_has9, ↓reduceIte, not_true_eq_false, not_false_eq_true, x_nn, Bool.false_eq_true, x_ar_k, x_ar_in, x_ar_w, b_wk, b_wj, b_wh, b_w2, x_ar_2, if_pos, if_neg]
    · intro n k hk
      simp (disch := omega) only [f_X9_ask_17, x_l0, x_l1, x_l2, x_l3, x_l4, x_l5, x_l6, x_l7, x_l8, x_l9, x_l10, x_l12, x_l13, x_l14, x_l16, x_l18, x_l20, x_l22, x_l32, x_l36, x_l48, x_l50, x_l54, x_l57, x_l59, x_l74, x_l81, x_l99, x_l104, x_l107, x_l110, x_l112, x_l115, x_l117, x_l162, x_l255, x_l512, x_l99999, x_l1000000, nI_leI, nI_ltI, nI_eq, nI_add, pk_mul, nI_clamp, x_in, x_bit, x_b0, x_b1, x_b0n, fa_or, fa_and, fb_xorI, x_an, Option.bind_some, b_has8, b_has9, ↓reduceIte, not_true_eq_false, not_false_eq_true, x_nn, Bool.false_eq_true, x_ar_k, x_ar_in, x_ar_w, b_wk, b_wj, b_wh, b_w2, x_ar_2, if_pos, if_neg]
      rw [x_ar_s S1 108 k (fun _ => nI 0)]
  show ∃ S', f_X9_ask_17 1000 (nI u) (nI (b_ct u 14)) (nI 0) S1 = _ ∧ _
  rw [fl]
  refine x_forI (F := fun n c S => f_X9_ask_38 n (nI u) (nI (b_ct u 14)) (nI c) S) (N := T 1) (I := fun c S2 => x_fr (fun q j => wJ q j ∨ (q = 87 ∧ j = 0)) S S2 ∧ ∀ k, k < 81 → S2.1 108 k = nI (g_ty T b u (k / 9) (k % 9) c)) (G := fun γ => ∃ S', γ = some (g_ak T b u, S') ∧ x_fr (fun q j => wJ q j ∨ (q = 87 ∧ j = 0)) S S') ?_ ?_ (d := T 1) (a := 0) (n := 1000) (S := x_ar S1 108 81 (fun _ => nI 0)) (by omega) (by omega) ⟨x_fr_a fr1 (fun _ _ => Or.inl (Or.inr rfl)), fun k hk => x_ar_in hk⟩
  · intro n S2 ⟨h1, h2⟩
    have hm2 : mT T 89 S2 := fun j hj => by rw [h1.2 _ _ (by unfold wJ; omega)]; exact hm j hj
    refine ⟨S2, ?_, h1⟩
    show f_X9_ask_38 (n + 1) (nI u) (nI (b_ct u 14)) (nI (T 1)) S2 = _
    rw [f_X9_ask_38, hm2 1 (by omega), if_pos (nI_le (Nat.le_refl _) (by omega))]
    exact s9_ak142 w hm2 ul h2
  · intro n c S2 hc2 ⟨h1, h2⟩ go
    have hm2 : mT T 89 S2 := fun j hj => by rw [h1.2 _ _ (by unfold wJ; omega)]; exact hm j hj
    have e91 : S2.1 91 0 = nI b := by rw [h1.2 _ _ (by unfold wJ; omega)]; exact hl
    have ty : ∀ x y, g_ty T b u x y (c + 1) = g_ty T b u x y c + (if (u.testBit c && g_hg T (b_an b (2 ^ c)) x y) = true then 1 else 0) := fun _ _ => rfl
    show ∃ S', f_X9_ask_38 (n + 1) (nI u) (nI (b_ct u 14)) (nI c) S2 = _ ∧ _
    rw [f_X9_ask_38, hm2 1 (by omega), if_neg (nI_ge hc2 (by omega)), b_has9 (by omega) (by omega), Option.bind_some]
    by_cases q : u.testBit c = true
    · have rt := s9_roots (b := b_an b (2 ^ c)) w hm2 (b_an_lt hb)
      rw [if_pos q, if_neg (c := nI 1 = 0) (by decide)]
      dsimp only
      rw [e91, show (1 : Int32) = nI 1 from rfl, x_bit (by omega), x_an hb, rt, Option.bind_some]
      dsimp only
      have fr3 : x_fr (fun q j => wJ q j ∨ (q = 87 ∧ j = 0)) S (x_ar S2 99 9 (fun j => nI (g_root T (b_an b (2 ^ c)) j))) := x_fr_a h1 (fun _ _ => Or.inl (Or.inl rfl))
      have rows : ∀ k, k < 81 → (x_ar S2 99 9 (fun j => nI (g_root T (b_an b (2 ^ c)) j))).1 108 k = nI (g_ty T b u (k / 9) (k % 9) c) := fun k hk => by rw [x_ar_k (by omega)]; exact h2 k hk
      have roots : ∀ j, j < 9 → (x_ar S2 99 9 (fun j => nI (g_root T (b_an b (2 ^ c)) j))).1 99 j = nI (g_root T (b_an b (2 ^ c)) j) := fun j hj => x_ar_in hj
      generalize x_ar S2 99 9 (fun j => nI (g_root T (b_an b (2 ^ c)) j)) = S3 at *
      refine x_forI (F := fun n k S => f_X9_ask_75 (f_X9_ask_38 _) n (nI u) (nI (b_ct u 14)) (nI c) (nI k) S) (N := 81) (I := fun j S4 => x_fr (fun q _ => q = 108) S3 S4 ∧ ∀ k, k < 81 → S4.1 108 k = nI (if k < j then g_ty T b u (k / 9) (k % 9) (c + 1) else g_ty T b u (k / 9) (k % 9) c)) (G := fun γ => ∃ S', γ = some (g_ak T b u, S') ∧ x_fr (fun q j => wJ q j ∨ (q = 87 ∧ j = 0)) S S') ?_ ?_ (d := 81) (a := 0) (n := 1000) (S := S3) (by omega) (by omega) ⟨x_fr_rf, fun k hk => by rw [if_neg (by omega)]; exact rows k hk⟩
      · intro n2 S4 ⟨h3, h4⟩
        show ∃ S', f_X9_ask_75 (f_X9_ask_38 _) (n2 + 1) (nI u) (nI (b_ct u 14)) (nI c) (nI 81) S4 = _ ∧ _
        rw [f_X9_ask_75, if_pos (show (81 : Int32) ≤ nI 81 from nI_le (Nat.le_refl 81) (by omega)), show (1 : Int32) = nI 1 from rfl, nI_add]
        refine go S4 ⟨x_fr_tr fr3 (x_fr_sub h3 (fun q j hq => Or.inl (Or.inr hq))), fun k hk => ?_⟩
        rw [h4 k hk, if_pos hk]
      · intro n2 k S4 hk ⟨h3, h4⟩ go2
        have v := h4 k hk
        rw [if_neg (by omega)] at v
        have k9 : k / 9 < 9 := by omega
        have m9 : k % 9 < 9 := by omega
        have t1 : S4.1 99 (k / 9) = nI (g_root T (b_an b (2 ^ c)) (k / 9)) := by rw [h3.2 _ _ (by omega)]; exact roots _ k9
        have t2 : S4.1 99 (k % 9) = nI (g_root T (b_an b (2 ^ c)) (k % 9)) := by rw [h3.2 _ _ (by omega)]; exact roots _ m9
        have ra := g_root_self (b := b_an b (2 ^ c)) w (k / 9)
        have rb := g_root_self (b := b_an b (2 ^ c)) w (k % 9)
        have tl : g_ty T b u (k / 9) (k % 9) c ≤ c := fb_ct_le _ _
        have d1 : nI k / (9 : Int32) = nI (k / 9) := pk_div (d := 9) (by omega) (by omega) (by omega)
        have d2 : nI k - nI k / (9 : Int32) * (9 : Int32) = nI (k % 9) := pk_rem (d := 9) (by omega) (by omega) (by omega)
        have r118 : ∀ x : Nat, x ≤ 1 → f_X9_ask_118 (f_X9_ask_38 n) (f_X9_ask_75 (f_X9_ask_38 n) n2) (nI u) (nI (b_ct u 14)) (nI c) (nI k) (nI x) (nI (g_ty T b u (k / 9) (k % 9) c)) (nI k) S4 = f_X9_ask_75 (f_X9_ask_38 n) n2 (nI u) (nI (b_ct u 14)) (nI c) (nI (k + 1)) (z_w S4 108 k (nI (g_ty T b u (k / 9) (k % 9) c + x))) := fun x hx => by
          rw [f_X9_ask_118, if_pos ((x_in (by omega)).mpr hk), nI_clamp (by omega), nI_add, show (1 : Int32) = nI 1 from rfl, nI_add]
        have fin : ∀ x : Nat, g_ty T b u (k / 9) (k % 9) c + x = g_ty T b u (k / 9) (k % 9) (c + 1) → ∃ S', f_X9_ask_75 (f_X9_ask_38 n) n2 (nI u) (nI (b_ct u 14)) (nI c) (nI (k + 1)) (z_w S4 108 k (nI (g_ty T b u (k / 9) (k % 9) c + x))) = some (g_ak T b u, S') ∧ x_fr (fun q j => wJ q j ∨ (q = 87 ∧ j = 0)) S S' := fun x hx => by
          refine go2 _ ⟨x_fr_w h3 rfl, fun i hi => ?_⟩
          by_cases e : i = k
          · subst e; rw [b_wh, if_pos (by omega), hx]
          · rw [b_wj e, h4 i hi]
            by_cases z : i < k
            · rw [if_pos z, if_pos (by omega)]
            · rw [if_neg z, if_neg (by omega)]
        show ∃ S', f_X9_ask_75 (f_X9_ask_38 n) (n2 + 1) (nI u) (nI (b_ct u 14)) (nI c) (nI k) S4 = _ ∧ _
        rw [f_X9_ask_75, if_neg (show ¬ (81 : Int32) ≤ nI k from nI_ge (b := 81) (by omega) (by omega)), if_pos ((x_in (by omega)).mpr hk), d2, d1, if_pos ((x_in (by omega)).mpr k9), if_pos ((x_in (by omega)).mpr m9), nI_clamp (by omega), nI_clamp (by omega), nI_clamp (by omega), t1, t2, v]
        by_cases z : g_root T (b_an b (2 ^ c)) (k / 9) = g_root T (b_an b (2 ^ c)) (k % 9)
        · rw [if_pos (by rw [z]), show (1 : Int32) = nI 1 from rfl, r118 1 (by omega)]
          refine fin 1 ?_
          rw [ty, q]
          unfold g_hg
          rw [decide_eq_true z]
          rfl
        · rw [if_neg (fun z2 => z ((nI_eq (by omega) (by omega)).mp z2)), show (0 : Int32) = nI 0 from rfl, r118 0 (by omega)]
          refine fin 0 ?_
          rw [ty, q]
          unfold g_hg
          rw [decide_eq_false z]
          rfl
    · have qf : u.testBit c = false := by simpa using q
      rw [if_neg q, if_pos (c := nI 0 = 0) nI_0]
      dsimp only
      rw [show (1 : Int32) = nI 1 from rfl, nI_add]
      refine go S2 ⟨h1, fun k hk => ?_⟩
      rw [h2 k hk, ty, qf]
      rfl
end AK
