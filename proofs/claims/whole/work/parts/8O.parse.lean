/-! ===== reading, step by step ===== -/
def gA : Type := (Nat → Nat) × Nat × Nat × Nat × Nat × Nat × Nat × Nat
def gA.B (A : gA) : Nat → Nat := A.1
def gA.H (A : gA) : Nat := A.2.1
def gA.I (A : gA) : Nat := A.2.2.1
def gA.N (A : gA) : Nat := A.2.2.2.1
def gA.F (A : gA) : Nat := A.2.2.2.2.1
def gA.L (A : gA) : Nat := A.2.2.2.2.2.1
def gA.M (A : gA) : Nat := A.2.2.2.2.2.2.1
def gA.P (A : gA) : Nat := A.2.2.2.2.2.2.2
def gA.mk (B : Nat → Nat) (H : Nat) (I : Nat) (N : Nat) (F : Nat) (L : Nat) (M : Nat) (P : Nat) : gA := (B, H, I, N, F, L, M, P)

/-- a cut more -/
def g_jb (B : Nat → Nat) (u v : Nat) : Nat → Nat := x_up (x_up (x_up B (22 + B 1) (if u < v then u else v)) (36 + B 1) (if u < v then v else u)) 1 (B 1 + 1)
def g_jc (B : Nat → Nat) (u v : Nat) : Option (Nat → Nat) := if g_cut B u v < B 1 then some B else if B 1 < 14 then some (g_jb B u v) else none
def g_cb (B : Nat → Nat) (x y : Nat) : Nat → Nat := x_up (x_up (x_up B (4 + B 0) x) (13 + B 0) y) 0 (B 0 + 1)
def g_fre (B : Nat → Nat) (x y : Nat) : Bool := !decide (x_f1 (fun k => decide (B (4 + k) = x) && decide (B (13 + k) = y)) (B 0) < B 0)
def g_new (B : Nat → Nat) (n v : Nat) : Bool := !decide (x_f1 (fun i => decide (B (54 + 5 * B 2 + i) = v)) n < n)
def g_rb (B : Nat → Nat) (n v : Nat) : Nat → Nat := x_up B (54 + 5 * B 2 + n) v
/-- a number is taken -/
def g_nb (A : gA) (v : Nat) : Option ((Nat → Nat) × Nat) :=
  if A.I = 104 then (if A.N = 0 ∧ v ≤ 20 then some (x_up A.B 3 v, 1) else none)
  else if A.I = 107 then (if A.N = 0 then (if v ≤ 20 then some (A.B, A.H) else none) else (if A.N = 1 ∧ v ≤ 20 ∧ A.B 0 < 9 ∧ g_fre A.B A.F v = true then some (g_cb A.B A.F v, A.H) else none))
  else if A.I = 112 then (if A.B 2 < 4 ∧ A.N < 5 ∧ v < A.B 0 ∧ g_new A.B A.N v = true then (if A.N = 0 then some (g_rb A.B A.N v, A.H) else (g_jc (g_rb A.B A.N v) A.L v).bind (fun B' => some (B', A.H))) else none)
  else (if v < A.B 0 then (if A.N = 0 then some (A.B, A.H) else (if A.N = 1 ∧ v ≠ A.F then (g_jc A.B A.F v).bind (fun B' => some (B', A.H)) else none)) else none)
def g_stp (A : gA) (k v pn : Nat) : Option gA :=
  if A.I = 0 then (if k = 1 ∧ ¬ (v = 104 ∧ A.H ≠ 0) ∧ ¬ (v = 107 ∧ 9 ≤ A.B 0) ∧ ¬ (v = 112 ∧ 4 ≤ A.B 2) then some (gA.mk A.B A.H v 0 A.F A.L A.M pn) else none)
  else if k = 3 then
    (if A.I = 112 then (if A.B 2 < 4 ∧ 3 ≤ A.N then (g_jc A.B A.L A.F).bind (fun B' => some (gA.mk (x_up (x_up B' (50 + A.B 2) A.N) 2 (A.B 2 + 1)) A.H 0 A.N A.F A.L (A.M + 1) pn)) else none)
     else (if A.N = (if A.I = 104 then 1 else 2) then some (gA.mk A.B A.H 0 A.N A.F A.L (A.M + 1) pn) else none))
  else if k = 2 then (g_nb A v).bind (fun q => some (gA.mk q.1 q.2 A.I (A.N + 1) (if A.N = 0 then v else A.F) v A.M pn))
  else none
def g_run (X : Nat → Nat) (len : Nat) : Nat → gA → Sum Nat gA
  | 0, _ => Sum.inl 0
  | n + 1, A => if t_k X len A.P = 0 then (if A.I = 0 then Sum.inr A else Sum.inl len) else (match g_stp A (t_k X len A.P) (t_v X len A.P) (t_n X len A.P) with
    | none => Sum.inl (t_s X len A.P)
    | some A' => g_run X len n A')
/-- a picture that is being told -/
def uB (B : Nat → Nat) : Prop := (B 0 ≤ 9 ∧ B 1 ≤ 14 ∧ B 2 ≤ 4 ∧ B 3 ≤ 20) ∧ (∀ k, k < B 0 → B (4 + k) ≤ 20 ∧ B (13 + k) ≤ 20) ∧ (∀ c, c < B 1 → B (22 + c) < B (36 + c) ∧ B (36 + c) < B 0) ∧ (∀ c d, c < d → d < B 1 → ¬ (B (22 + c) = B (22 + d) ∧ B (36 + c) = B (36 + d))) ∧ (∀ p, p < B 2 → 3 ≤ B (50 + p) ∧ B (50 + p) ≤ 5) ∧ (∀ p i, p < B 2 → i < B (50 + p) → B (54 + 5 * p + i) < B 0) ∧ (∀ p i, p < B 2 → i < B (50 + p) → g_cut B (g_rg B p i) (g_rg B p (i + 1)) < B 1)
def uA (A : gA) : Prop := uB A.B ∧ A.H ≤ 1 ∧ (A.I = 0 ∨ A.I = 104 ∨ A.I = 107 ∨ A.I = 112 ∨ A.I = 115) ∧ (A.I ≠ 0 → A.N ≤ 5) ∧ (A.I = 107 → 0 < A.N → A.F ≤ 20) ∧ (A.I = 115 → 0 < A.N → A.F < A.B 0) ∧ (A.I = 112 → A.B 2 < 4 ∧ (∀ i, i < A.N → A.B (54 + 5 * A.B 2 + i) < A.B 0) ∧ (∀ i j, i < j → j < A.N → A.B (54 + 5 * A.B 2 + i) ≠ A.B (54 + 5 * A.B 2 + j)) ∧ (∀ i, i + 1 < A.N → g_cut A.B (A.B (54 + 5 * A.B 2 + i)) (A.B (54 + 5 * A.B 2 + (i + 1))) < A.B 1) ∧ (0 < A.N → A.F = A.B (54 + 5 * A.B 2) ∧ A.L = A.B (54 + 5 * A.B 2 + (A.N - 1))))
theorem x_up_h (f : Nat → Nat) (i x : Nat) : x_up f i x i = x := if_pos rfl
theorem x_up_j {f : Nat → Nat} {i x j : Nat} (h : j ≠ i) : x_up f i x j = f j := if_neg h
section PJ
variable {B : Nat → Nat} {u v : Nat}
theorem g_cut_iff {a b : Nat} : g_cut B a b < B 1 ↔ ∃ c, c < B 1 ∧ g_adj B c a b = true := x_f1_iff
theorem g_adj_iff {c a b : Nat} : g_adj B c a b = true ↔ (B (22 + c) = a ∧ B (36 + c) = b) ∨ (B (22 + c) = b ∧ B (36 + c) = a) := by
  unfold g_adj
  simp only [Bool.or_eq_true, Bool.and_eq_true, beq_iff_eq]
theorem g_jb_0 (hB : B 1 < 14) {j : Nat} (h1 : j ≠ 1) (h2 : j ≠ 22 + B 1) (h3 : j ≠ 36 + B 1) : g_jb B u v j = B j := by
  unfold g_jb
  rw [x_up_j h1, x_up_j h3, x_up_j h2]
theorem g_jb_1 : g_jb B u v 1 = B 1 + 1 := x_up_h _ _ _
theorem g_jb_l (hB : B 1 < 14) : g_jb B u v (22 + B 1) = if u < v then u else v := by
  unfold g_jb
  rw [x_up_j (by omega), x_up_j (by omega), x_up_h]
theorem g_jb_r (hB : B 1 < 14) : g_jb B u v (36 + B 1) = if u < v then v else u := by
  unfold g_jb
  rw [x_up_j (by omega), x_up_h]
/-- what is said of a cut in the new picture -/
theorem g_jb_adj (hB : B 1 < 14) {c a b : Nat} (hc : c < B 1 + 1) : g_adj (g_jb B u v) c a b = true ↔ (c < B 1 ∧ g_adj B c a b = true) ∨ (c = B 1 ∧ ((a = u ∧ b = v) ∨ (a = v ∧ b = u))) := by
  rw [g_adj_iff]
  by_cases e : c = B 1
  · subst e
    rw [g_jb_l hB, g_jb_r hB]
    constructor
    · intro h
      refine Or.inr ⟨rfl, ?_⟩
      by_cases q : u < v
      · rw [if_pos q, if_pos q] at h; omega
      · rw [if_neg q, if_neg q] at h; omega
    · rintro (⟨h, _⟩ | ⟨_, h⟩)
      · omega
      · by_cases q : u < v
        · rw [if_pos q, if_pos q]; omega
        · rw [if_neg q, if_neg q]; omega
  · rw [g_jb_0 hB (by omega) (by omega) (by omega), g_jb_0 hB (by omega) (by omega) (by omega), ← g_adj_iff]
    constructor
    · intro h; exact Or.inl ⟨by omega, h⟩
    · rintro (⟨_, h⟩ | ⟨h, _⟩)
      · exact h
      · exact absurd h e
theorem g_jb_cut (hB : B 1 < 14) {a b : Nat} (h : g_cut B a b < B 1) : g_cut (g_jb B u v) a b < g_jb B u v 1 := by
  obtain ⟨c, hc, ha⟩ := g_cut_iff.mp h
  refine g_cut_iff.mpr ⟨c, by rw [g_jb_1]; omega, (g_jb_adj hB (by omega)).mpr (Or.inl ⟨hc, ha⟩)⟩
theorem g_jb_new (hB : B 1 < 14) : g_cut (g_jb B u v) u v < g_jb B u v 1 :=
  g_cut_iff.mpr ⟨B 1, by rw [g_jb_1]; omega, (g_jb_adj hB (by omega)).mpr (Or.inr ⟨rfl, Or.inl ⟨rfl, rfl⟩⟩)⟩
theorem g_rg_eq {B' : Nat → Nat} {p : Nat} (h1 : B' (50 + p) = B (50 + p)) (h2 : ∀ i, i < 5 → B' (54 + 5 * p + i) = B (54 + 5 * p + i)) (h3 : 0 < B (50 + p)) (h5 : B (50 + p) ≤ 5) (i : Nat) : g_rg B' p i = g_rg B p i := by
  unfold g_rg
  rw [h1, h2 _ (Nat.lt_of_lt_of_le (Nat.mod_lt _ h3) h5)]
theorem uB_jb (w : uB B) (hB : B 1 < 14) (hu : u < B 0) (hv : v < B 0) (huv : u ≠ v) (hn : ¬ g_cut B u v < B 1) : uB (g_jb B u v) := by
  obtain ⟨w1, w2, w3, w4, w5, w6, w7⟩ := w
  have e0 : g_jb B u v 0 = B 0 := g_jb_0 hB (by omega) (by omega) (by omega)
  have e2 : g_jb B u v 2 = B 2 := g_jb_0 hB (by omega) (by omega) (by omega)
  have e3 : g_jb B u v 3 = B 3 := g_jb_0 hB (by omega) (by omega) (by omega)
  have hi : ∀ j, 50 ≤ j → g_jb B u v j = B j := fun j hj => g_jb_0 hB (by omega) (by omega) (by omega)
  refine ⟨⟨by rw [e0]; omega, by rw [g_jb_1]; omega, by rw [e2]; omega, by rw [e3]; omega⟩, fun k hk => ?_, fun c hc => ?_, fun c d hcd hd => ?_, fun p hp => ?_, fun p i hp hi2 => ?_, fun p i hp hi2 => ?_⟩
  · rw [e0] at hk
    rw [g_jb_0 hB (by omega) (by omega) (by omega), g_jb_0 hB (by omega) (by omega) (by omega)]
    exact w2 k hk
  · rw [g_jb_1] at hc
    rw [e0]
    by_cases e : c = B 1
    · rw [e, g_jb_l hB, g_jb_r hB]
      by_cases q : u < v
      · rw [if_pos q, if_pos q]; omega
      · rw [if_neg q, if_neg q]; omega
    · rw [g_jb_0 hB (by omega) (by omega) (by omega), g_jb_0 hB (by omega) (by omega) (by omega)]
      exact w3 c (by omega)
  · rw [g_jb_1] at hd
    have ec := g_jb_0 (u := u) (v := v) hB (j := 22 + c) (by omega) (by omega) (by omega)
    have ec2 := g_jb_0 (u := u) (v := v) hB (j := 36 + c) (by omega) (by omega) (by omega)
    rw [ec, ec2]
    by_cases e : d = B 1
    · rw [e, g_jb_l hB, g_jb_r hB]
      rintro ⟨q1, q2⟩
      apply hn
      refine g_cut_iff.mpr ⟨c, by omega, g_adj_iff.mpr ?_⟩
      by_cases q : u < v
      · rw [if_pos q] at q1 q2; exact Or.inl ⟨q1, q2⟩
      · rw [if_neg q] at q1 q2; exact Or.inr ⟨q1, q2⟩
    · rw [g_jb_0 hB (by omega) (by omega) (by omega), g_jb_0 hB (by omega) (by omega) (by omega)]
      exact w4 c d hcd (by omega)
  · rw [e2] at hp
    rw [hi _ (by omega)]
    exact w5 p hp
  · rw [e2] at hp
    rw [hi _ (by omega)] at hi2
    rw [hi _ (by omega), e0]
    exact w6 p i hp hi2
  · rw [e2] at hp
    have s5 := w5 p hp
    rw [hi _ (by omega)] at hi2
    rw [g_rg_eq (hi _ (by omega)) (fun i _ => hi _ (by omega)) (by omega) (by omega), g_rg_eq (hi _ (by omega)) (fun i _ => hi _ (by omega)) (by omega) (by omega)]
    exact g_jb_cut hB (w7 p i hp hi2)
/-- both may come of a joining -/
theorem g_jc_cases (u v : Nat) : (g_cut B u v < B 1 ∧ g_jc B u v = some B) ∨ (¬ g_cut B u v < B 1 ∧ B 1 < 14 ∧ g_jc B u v = some (g_jb B u v)) ∨ (¬ g_cut B u v < B 1 ∧ ¬ B 1 < 14 ∧ g_jc B u v = none) := by
  unfold g_jc
  by_cases c : g_cut B u v < B 1
  · exact Or.inl ⟨c, if_pos c⟩
  · by_cases d : B 1 < 14
    · exact Or.inr (Or.inl ⟨c, d, by rw [if_neg c, if_pos d]⟩)
    · exact Or.inr (Or.inr ⟨c, d, by rw [if_neg c, if_neg d]⟩)
theorem uB_jc {B' : Nat → Nat} (w : uB B) (hu : u < B 0) (hv : v < B 0) (huv : u ≠ v) (h : g_jc B u v = some B') : uB B' ∧ (∀ j, j = 0 ∨ j = 2 ∨ j = 3 ∨ (4 ≤ j ∧ j < 22) ∨ 50 ≤ j → B' j = B j) ∧ g_cut B' u v < B' 1 ∧ ∀ a b, g_cut B a b < B 1 → g_cut B' a b < B' 1 := by
  have b1 := w.1.2.1
  rcases g_jc_cases (B := B) u v with ⟨c, e⟩ | ⟨c, d, e⟩ | ⟨_, _, e⟩
  · rw [e] at h
    cases h
    exact ⟨w, fun _ _ => rfl, c, fun _ _ q => q⟩
  · rw [e] at h
    cases h
    exact ⟨uB_jb w d hu hv huv c, fun j hj => g_jb_0 d (by omega) (by omega) (by omega), g_jb_new d, fun a b q => g_jb_cut d q⟩
  · rw [e] at h
    cases h
end PJ
theorem uB_up3 {B : Nat → Nat} (w : uB B) {v : Nat} (hv : v ≤ 20) : uB (x_up B 3 v) := by
  obtain ⟨w1, w2, w3, w4, w5, w6, w7⟩ := w
  have e : ∀ j, j ≠ 3 → x_up B 3 v j = B j := fun j hj => x_up_j hj
  have adj : ∀ c a b, g_adj (x_up B 3 v) c a b = g_adj B c a b := fun c a b => by unfold g_adj; rw [e _ (by omega), e _ (by omega)]
  have rg : ∀ p i, g_rg (x_up B 3 v) p i = g_rg B p i := fun p i => by unfold g_rg; rw [e _ (by omega), e _ (by omega)]
  refine ⟨⟨by rw [e _ (by omega)]; omega, by rw [e _ (by omega)]; omega, by rw [e _ (by omega)]; omega, by rw [x_up_h]; exact hv⟩, fun k hk => ?_, fun c hc => ?_, fun c d hcd hd => ?_, fun p hp => ?_, fun p i hp hi => ?_, fun p i hp hi => ?_⟩
  · rw [e _ (by omega)] at hk
    rw [e _ (by omega), e _ (by omega)]; exact w2 k hk
  · rw [e _ (by omega)] at hc
    rw [e _ (by omega), e _ (by omega), e _ (by omega)]; exact w3 c hc
  · rw [e _ (by omega)] at hd
    rw [e _ (by omega), e _ (by omega), e _ (by omega), e _ (by omega)]; exact w4 c d hcd hd
  · rw [e _ (by omega)] at hp
    rw [e _ (by omega)]; exact w5 p hp
  · rw [e _ (by omega)] at hp
    rw [e _ (by omega)] at hi
    rw [e _ (by omega), e _ (by omega)]; exact w6 p i hp hi
  · rw [e _ (by omega)] at hp
    rw [e _ (by omega)] at hi
    rw [rg, rg]
    obtain ⟨c, hc, ha⟩ := g_cut_iff.mp (w7 p i hp hi)
    exact g_cut_iff.mpr ⟨c, by rw [e _ (by omega)]; exact hc, by rw [adj]; exact ha⟩
theorem uB_cb {B : Nat → Nat} (w : uB B) {x y : Nat} (h9 : B 0 < 9) (hx : x ≤ 20) (hy : y ≤ 20) : uB (g_cb B x y) := by
  obtain ⟨w1, w2, w3, w4, w5, w6, w7⟩ := w
  have e : ∀ j, j ≠ 0 → j ≠ 4 + B 0 → j ≠ 13 + B 0 → g_cb B x y j = B j := fun j h1 h2 h3 => by unfold g_cb; rw [x_up_j h1, x_up_j h3, x_up_j h2]
  have e0 : g_cb B x y 0 = B 0 + 1 := x_up_h _ _ _
  have ex : g_cb B x y (4 + B 0) = x := by unfold g_cb; rw [x_up_j (by omega), x_up_j (by omega), x_up_h]
  have ey : g_cb B x y (13 + B 0) = y := by unfold g_cb; rw [x_up_j (by omega), x_up_h]
  have adj : ∀ c a b, g_adj (g_cb B x y) c a b = g_adj B c a b := fun c a b => by unfold g_adj; rw [e _ (by omega) (by omega) (by omega), e _ (by omega) (by omega) (by omega)]
  have rg : ∀ p i, g_rg (g_cb B x y) p i = g_rg B p i := fun p i => by unfold g_rg; rw [e _ (by omega) (by omega) (by omega), e _ (by omega) (by omega) (by omega)]
  refine ⟨⟨by rw [e0]; omega, by rw [e _ (by omega) (by omega) (by omega)]; omega, by rw [e _ (by omega) (by omega) (by omega)]; omega, by rw [e _ (by omega) (by omega) (by omega)]; omega⟩, fun k hk => ?_, fun c hc => ?_, fun c d hcd hd => ?_, fun p hp => ?_, fun p i hp hi => ?_, fun p i hp hi => ?_⟩
  · rw [e0] at hk
    by_cases z : k = B 0
    · rw [z, ex, ey]; exact ⟨hx, hy⟩
    · rw [e _ (by omega) (by omega) (by omega), e _ (by omega) (by omega) (by omega)]; exact w2 k (by omega)
  · rw [e _ (by omega) (by omega) (by omega)] at hc
    have := w3 c hc
    rw [e _ (by omega) (by omega) (by omega), e _ (by omega) (by omega) (by omega), e0]; omega
  · rw [e _ (by omega) (by omega) (by omega)] at hd
    rw [e _ (by omega) (by omega) (by omega), e _ (by omega) (by omega) (by omega), e _ (by omega) (by omega) (by omega), e _ (by omega) (by omega) (by omega)]; exact w4 c d hcd hd
  · rw [e _ (by omega) (by omega) (by omega)] at hp
    rw [e _ (by omega) (by omega) (by omega)]; exact w5 p hp
  · rw [e _ (by omega) (by omega) (by omega)] at hp
    rw [e _ (by omega) (by omega) (by omega)] at hi
    have := w6 p i hp hi
    rw [e _ (by omega) (by omega) (by omega), e0]; omega
  · rw [e _ (by omega) (by omega) (by omega)] at hp
    rw [e _ (by omega) (by omega) (by omega)] at hi
    rw [rg, rg]
    obtain ⟨c, hc, ha⟩ := g_cut_iff.mp (w7 p i hp hi)
    exact g_cut_iff.mpr ⟨c, by rw [e _ (by omega) (by omega) (by omega)]; exact hc, by rw [adj]; exact ha⟩
/-- the row of a ring that is not yet ended -/
theorem uB_rb {B : Nat → Nat} (w : uB B) {n v : Nat} (h2 : B 2 < 4) (hn : n < 5) : uB (g_rb B n v) ∧ ∀ j, j ≠ 54 + 5 * B 2 + n → g_rb B n v j = B j := by
  obtain ⟨w1, w2, w3, w4, w5, w6, w7⟩ := w
  have e : ∀ j, j ≠ 54 + 5 * B 2 + n → g_rb B n v j = B j := fun j h1 => x_up_j h1
  have adj : ∀ c a b, c < 14 → g_adj (g_rb B n v) c a b = g_adj B c a b := fun c a b hc => by unfold g_adj; rw [e _ (by omega), e _ (by omega)]
  refine ⟨⟨⟨by rw [e _ (by omega)]; omega, by rw [e _ (by omega)]; omega, by rw [e _ (by omega)]; omega, by rw [e _ (by omega)]; omega⟩, fun k hk => ?_, fun c hc => ?_, fun c d hcd hd => ?_, fun p hp => ?_, fun p i hp hi => ?_, fun p i hp hi => ?_⟩, e⟩
  · rw [e _ (by omega)] at hk
    rw [e _ (by omega), e _ (by omega)]; exact w2 k hk
  · rw [e _ (by omega)] at hc
    rw [e _ (by omega), e _ (by omega), e _ (by omega)]; exact w3 c hc
  · rw [e _ (by omega)] at hd
    rw [e _ (by omega), e _ (by omega), e _ (by omega), e _ (by omega)]; exact w4 c d hcd hd
  · rw [e _ (by omega)] at hp
    rw [e _ (by omega)]; exact w5 p hp
  · rw [e _ (by omega)] at hp
    rw [e _ (by omega)] at hi
    have := w5 p hp
    rw [e _ (by omega), e _ (by omega)]; exact w6 p i hp hi
  · rw [e _ (by omega)] at hp
    rw [e _ (by omega)] at hi
    have s5 := w5 p hp
    rw [g_rg_eq (e _ (by omega)) (fun i _ => e _ (by omega)) (by omega) (by omega), g_rg_eq (e _ (by omega)) (fun i _ => e _ (by omega)) (by omega) (by omega)]
    obtain ⟨c, hc, ha⟩ := g_cut_iff.mp (w7 p i hp hi)
    exact g_cut_iff.mpr ⟨c, by rw [e _ (by omega)]; exact hc, by rw [adj c _ _ (by omega)]; exact ha⟩
/-- a ring is ended -/
theorem uB_end {B : Nat → Nat} (w : uB B) {n : Nat} (h2 : B 2 < 4) (h3 : 3 ≤ n) (h5 : n ≤ 5) (hr : ∀ i, i < n → B (54 + 5 * B 2 + i) < B 0) (ha : ∀ i, i + 1 < n → g_cut B (B (54 + 5 * B 2 + i)) (B (54 + 5 * B 2 + (i + 1))) < B 1) (hl : g_cut B (B (54 + 5 * B 2 + (n - 1))) (B (54 + 5 * B 2)) < B 1) : uB (x_up (x_up B (50 + B 2) n) 2 (B 2 + 1)) := by
  obtain ⟨w1, w2, w3, w4, w5, w6, w7⟩ := w
  have e : ∀ j, j ≠ 2 → j ≠ 50 + B 2 → x_up (x_up B (50 + B 2) n) 2 (B 2 + 1) j = B j := fun j h1 h2 => by rw [x_up_j h1, x_up_j h2]
  have e2 : x_up (x_up B (50 + B 2) n) 2 (B 2 + 1) 2 = B 2 + 1 := x_up_h _ _ _
  have es : x_up (x_up B (50 + B 2) n) 2 (B 2 + 1) (50 + B 2) = n := by rw [x_up_j (by omega), x_up_h]
  have adj : ∀ c a b, c < 14 → g_adj (x_up (x_up B (50 + B 2) n) 2 (B 2 + 1)) c a b = g_adj B c a b := fun c a b hc => by unfold g_adj; rw [e _ (by omega) (by omega), e _ (by omega) (by omega)]
  have cut : ∀ a b, g_cut B a b < B 1 → g_cut (x_up (x_up B (50 + B 2) n) 2 (B 2 + 1)) a b < x_up (x_up B (50 + B 2) n) 2 (B 2 + 1) 1 := fun a b h => by
    obtain ⟨c, hc, ha⟩ := g_cut_iff.mp h
    exact g_cut_iff.mpr ⟨c, by rw [e _ (by omega) (by omega)]; exact hc, by rw [adj c _ _ (by omega)]; exact ha⟩
  refine ⟨⟨by rw [e _ (by omega) (by omega)]; omega, by rw [e _ (by omega) (by omega)]; omega, by rw [e2]; omega, by rw [e _ (by omega) (by omega)]; omega⟩, fun k hk => ?_, fun c hc => ?_, fun c d hcd hd => ?_, fun p hp => ?_, fun p i hp hi => ?_, fun p i hp hi => ?_⟩
  · rw [e _ (by omega) (by omega)] at hk
    rw [e _ (by omega) (by omega), e _ (by omega) (by omega)]; exact w2 k hk
  · rw [e _ (by omega) (by omega)] at hc
    rw [e _ (by omega) (by omega), e _ (by omega) (by omega), e _ (by omega) (by omega)]; exact w3 c hc
  · rw [e _ (by omega) (by omega)] at hd
    rw [e _ (by omega) (by omega), e _ (by omega) (by omega), e _ (by omega) (by omega), e _ (by omega) (by omega)]; exact w4 c d hcd hd
  · rw [e2] at hp
    by_cases z : p = B 2
    · rw [z, es]; omega
    · rw [e _ (by omega) (by omega)]; exact w5 p (by omega)
  · rw [e2] at hp
    by_cases z : p = B 2
    · rw [z, es] at hi
      rw [z, e _ (by omega) (by omega), e _ (by omega) (by omega)]; exact hr i hi
    · rw [e _ (by omega) (by omega)] at hi
      rw [e _ (by omega) (by omega), e _ (by omega) (by omega)]; exact w6 p i (by omega) hi
  · rw [e2] at hp
    by_cases z : p = B 2
    · rw [z, es] at hi
      have rg : ∀ i, i < n → g_rg (x_up (x_up B (50 + B 2) n) 2 (B 2 + 1)) (B 2) i = B (54 + 5 * B 2 + i) := fun i hi => by unfold g_rg; rw [es, Nat.mod_eq_of_lt hi, e _ (by omega) (by omega)]
      rw [z, rg i hi]
      by_cases q : i + 1 < n
      · rw [rg (i + 1) q]; exact cut _ _ (ha i q)
      · have en : i + 1 = n := by omega
        have r0 : g_rg (x_up (x_up B (50 + B 2) n) 2 (B 2 + 1)) (B 2) (i + 1) = B (54 + 5 * B 2) := by unfold g_rg; rw [es, show (i + 1) % n = 0 from by rw [en, Nat.mod_self], e _ (by omega) (by omega)]; rfl
        rw [r0, show i = n - 1 from by omega]
        exact cut _ _ hl
    · rw [e _ (by omega) (by omega)] at hi
      have s5 := w5 p (by omega)
      rw [g_rg_eq (e _ (by omega) (by omega)) (fun i _ => e _ (by omega) (by omega)) (by omega) (by omega), g_rg_eq (e _ (by omega) (by omega)) (fun i _ => e _ (by omega) (by omega)) (by omega) (by omega)]
      exact cut _ _ (w7 p i (by omega) hi)
theorem g_new_iff {B : Nat → Nat} {n v : Nat} : g_new B n v = true ↔ ∀ i, i < n → B (54 + 5 * B 2 + i) ≠ v := by
  unfold g_new
  rw [Bool.not_eq_true', decide_eq_false_iff_not, x_f1_iff]
  constructor
  · intro h i hi q
    exact h ⟨i, hi, decide_eq_true q⟩
  · rintro h ⟨i, hi, q⟩
    exact h i hi (of_decide_eq_true q)
theorem uA_0 {B : Nat → Nat} {H N F L M P : Nat} (w1 : uB B) (w2 : H ≤ 1) : uA (gA.mk B H 0 N F L M P) :=
  ⟨w1, w2, Or.inl rfl, fun q => absurd rfl q, fun q => absurd (show (0 : Nat) = 107 from q) (by decide), fun q => absurd (show (0 : Nat) = 115 from q) (by decide), fun q => absurd (show (0 : Nat) = 112 from q) (by decide)⟩
/-- a step keeps all well -/
theorem uA_stp {A A' : gA} {k v pn : Nat} (w : uA A) (hk : k = 1 → v = 104 ∨ v = 107 ∨ v = 112 ∨ v = 115) (h : g_stp A k v pn = some A') : uA A' ∧ A'.P = pn := by
  obtain ⟨w1, w2, w3, w4, w5, w6, w7⟩ := w
  have wb := w1.1
  unfold g_stp at h
  by_cases c0 : A.I = 0
  · rw [if_pos c0] at h
    by_cases c1 : k = 1 ∧ ¬ (v = 104 ∧ A.H ≠ 0) ∧ ¬ (v = 107 ∧ 9 ≤ A.B 0) ∧ ¬ (v = 112 ∧ 4 ≤ A.B 2)
    · rw [if_pos c1] at h
      cases h
      refine ⟨⟨w1, w2, ?_, fun _ => Nat.zero_le _, fun _ q => absurd q (Nat.lt_irrefl 0), fun _ q => absurd q (Nat.lt_irrefl 0), fun q => ⟨?_, fun i hi => absurd hi (Nat.not_lt_zero i), fun i j _ hj => absurd hj (Nat.not_lt_zero j), fun i hi => absurd hi (Nat.not_lt_zero _), fun q => absurd q (Nat.lt_irrefl 0)⟩⟩, rfl⟩
      · show v = 0 ∨ v = 104 ∨ v = 107 ∨ v = 112 ∨ v = 115
        have := hk c1.1
        omega
      · have q' : v = 112 := q
        show A.B 2 < 4
        have := c1.2.2.2
        omega
    · rw [if_neg c1] at h; cases h
  · rw [if_neg c0] at h
    have w4' := w4 c0
    by_cases c3 : k = 3
    · rw [if_pos c3] at h
      by_cases i2 : A.I = 112
      · rw [if_pos i2] at h
        obtain ⟨p1, p2, p3, p4, p5⟩ := w7 i2
        by_cases c4 : A.B 2 < 4 ∧ 3 ≤ A.N
        · rw [if_pos c4] at h
          have fl := p5 (by omega)
          rcases hj : g_jc A.B A.L A.F with _ | B'
          · rw [hj] at h; cases h
          · rw [hj] at h
            cases h
            have jl : A.L < A.B 0 := by rw [fl.2]; exact p2 _ (by omega)
            have jf : A.F < A.B 0 := by rw [fl.1]; exact p2 0 (by omega)
            have ne : A.L ≠ A.F := by
              rw [fl.1, fl.2]
              exact fun q => p3 0 (A.N - 1) (by omega) (by omega) q.symm
            obtain ⟨q1, q2, q3, q4⟩ := uB_jc w1 jl jf ne hj
            have e2 := q2 2 (by omega)
            have e0 := q2 0 (by omega)
            have er : ∀ i, B' (54 + 5 * A.B 2 + i) = A.B (54 + 5 * A.B 2 + i) := fun i => q2 _ (by omega)
            refine ⟨uA_0 ?_ w2, rfl⟩
            show uB (x_up (x_up B' (50 + A.B 2) A.N) 2 (A.B 2 + 1))
            rw [← e2]
            refine uB_end q1 (by rw [e2]; exact c4.1) c4.2 w4' (fun i hi => ?_) (fun i hi => ?_) ?_
            · rw [e2, er, e0]; exact p2 i hi
            · rw [e2, er, er]; exact q4 _ _ (p4 i hi)
            · have er0 := er 0
              rw [Nat.add_zero] at er0
              rw [e2, er, er0, ← fl.2, ← fl.1]; exact q3
        · rw [if_neg c4] at h; cases h
      · rw [if_neg i2] at h
        by_cases c4 : A.N = (if A.I = 104 then 1 else 2)
        · rw [if_pos c4] at h
          cases h
          exact ⟨uA_0 w1 w2, rfl⟩
        · rw [if_neg c4] at h; cases h
    · rw [if_neg c3] at h
      by_cases c2 : k = 2
      · rw [if_pos c2] at h
        rcases hq : g_nb A v with _ | ⟨B', H'⟩
        · rw [hq] at h; cases h
        · rw [hq] at h
          cases h
          refine ⟨?_, rfl⟩
          show uA (gA.mk B' H' A.I (A.N + 1) (if A.N = 0 then v else A.F) v A.M pn)
          unfold g_nb at hq
          by_cases i1 : A.I = 104
          · rw [if_pos i1] at hq
            by_cases z : A.N = 0 ∧ v ≤ 20
            · rw [if_pos z] at hq
              cases hq
              refine ⟨uB_up3 w1 z.2, Nat.le_refl 1, w3, fun _ => ?_, fun q => ?_, fun q => ?_, fun q => ?_⟩
              · show A.N + 1 ≤ 5; omega
              · have q' : A.I = 107 := q; omega
              · have q' : A.I = 115 := q; omega
              · have q' : A.I = 112 := q; omega
            · rw [if_neg z] at hq; cases hq
          · rw [if_neg i1] at hq
            by_cases i2 : A.I = 107
            · rw [if_pos i2] at hq
              by_cases z : A.N = 0
              · rw [if_pos z] at hq
                by_cases z2 : v ≤ 20
                · rw [if_pos z2] at hq
                  cases hq
                  refine ⟨w1, w2, w3, fun _ => ?_, fun _ _ => ?_, fun q => ?_, fun q => ?_⟩
                  · show A.N + 1 ≤ 5; omega
                  · show (if A.N = 0 then v else A.F) ≤ 20
                    rw [if_pos z]; exact z2
                  · have q' : A.I = 115 := q; omega
                  · have q' : A.I = 112 := q; omega
                · rw [if_neg z2] at hq; cases hq
              · rw [if_neg z] at hq
                by_cases z2 : A.N = 1 ∧ v ≤ 20 ∧ A.B 0 < 9 ∧ g_fre A.B A.F v = true
                · rw [if_pos z2] at hq
                  cases hq
                  refine ⟨uB_cb w1 z2.2.2.1 (w5 i2 (by omega)) z2.2.1, w2, w3, fun _ => ?_, fun _ _ => ?_, fun q => ?_, fun q => ?_⟩
                  · show A.N + 1 ≤ 5; omega
                  · show (if A.N = 0 then v else A.F) ≤ 20
                    rw [if_neg z]; exact w5 i2 (by omega)
                  · have q' : A.I = 115 := q; omega
                  · have q' : A.I = 112 := q; omega
                · rw [if_neg z2] at hq; cases hq
            · rw [if_neg i2] at hq
              by_cases i3 : A.I = 112
              · rw [if_pos i3] at hq
                obtain ⟨p1, p2, p3, p4, p5⟩ := w7 i3
                by_cases z : A.B 2 < 4 ∧ A.N < 5 ∧ v < A.B 0 ∧ g_new A.B A.N v = true
                · rw [if_pos z] at hq
                  obtain ⟨ur, er⟩ := uB_rb w1 (v := v) z.1 z.2.1
                  have nw := g_new_iff.mp z.2.2.2
                  have rr : ∀ i, i ≠ A.N → g_rb A.B A.N v (54 + 5 * A.B 2 + i) = A.B (54 + 5 * A.B 2 + i) := fun i hi => er _ (by omega)
                  have rn : g_rb A.B A.N v (54 + 5 * A.B 2 + A.N) = v := x_up_h _ _ _
                  have e2 : g_rb A.B A.N v 2 = A.B 2 := er _ (by omega)
                  have e0 : g_rb A.B A.N v 0 = A.B 0 := er _ (by omega)
                  have cutr : ∀ a b, g_cut A.B a b < A.B 1 → g_cut (g_rb A.B A.N v) a b < g_rb A.B A.N v 1 := fun a b q => by
                    obtain ⟨c, hc, ha⟩ := g_cut_iff.mp q
                    refine g_cut_iff.mpr ⟨c, by rw [er _ (by omega)]; exact hc, ?_⟩
                    rw [g_adj_iff] at ha ⊢
                    rw [er _ (by omega), er _ (by omega)]
                    exact ha
                  have main : ∀ B'', uB B'' → (∀ j, j = 0 ∨ j = 2 ∨ j = 3 ∨ (4 ≤ j ∧ j < 22) ∨ 50 ≤ j → B'' j = g_rb A.B A.N v j) → (∀ a b, g_cut (g_rb A.B A.N v) a b < g_rb A.B A.N v 1 → g_cut B'' a b < B'' 1) → (0 < A.N → g_cut B'' A.L v < B'' 1) → uA (gA.mk B'' A.H A.I (A.N + 1) (if A.N = 0 then v else A.F) v A.M pn) := fun B'' ub eq cu nl => by
                    have f2 : B'' 2 = A.B 2 := (eq 2 (by omega)).trans e2
                    have f0 : B'' 0 = A.B 0 := (eq 0 (by omega)).trans e0
                    have fr : ∀ i, i ≠ A.N → B'' (54 + 5 * A.B 2 + i) = A.B (54 + 5 * A.B 2 + i) := fun i hi => (eq _ (by omega)).trans (rr i hi)
                    have fn : B'' (54 + 5 * A.B 2 + A.N) = v := (eq _ (by omega)).trans rn
                    refine ⟨ub, w2, w3, fun _ => ?_, fun q => ?_, fun q => ?_, fun _ => ⟨?_, fun i hi => ?_, fun i j hij hj => ?_, fun i hi => ?_, fun _ => ⟨?_, ?_⟩⟩⟩
                    · show A.N + 1 ≤ 5; omega
                    · have q' : A.I = 107 := q; omega
                    · have q' : A.I = 115 := q; omega
                    · show B'' 2 < 4; rw [f2]; exact z.1
                    · have hi' : i < A.N + 1 := hi
                      show B'' (54 + 5 * B'' 2 + i) < B'' 0
                      rw [f2, f0]
                      by_cases y : i = A.N
                      · rw [y, fn]; exact z.2.2.1
                      · rw [fr i y]; exact p2 i (by omega)
                    · have hj' : j < A.N + 1 := hj
                      show B'' (54 + 5 * B'' 2 + i) ≠ B'' (54 + 5 * B'' 2 + j)
                      rw [f2, fr i (by omega)]
                      by_cases y : j = A.N
                      · rw [y, fn]; exact nw i (by omega)
                      · rw [fr j y]; exact p3 i j hij (by omega)
                    · have hi' : i + 1 < A.N + 1 := hi
                      show g_cut B'' (B'' (54 + 5 * B'' 2 + i)) (B'' (54 + 5 * B'' 2 + (i + 1))) < B'' 1
                      rw [f2, fr i (by omega)]
                      by_cases y : i + 1 = A.N
                      · rw [y, fn, show A.B (54 + 5 * A.B 2 + i) = A.L from by rw [(p5 (by omega)).2, show A.N - 1 = i from by omega]]
                        exact nl (by omega)
                      · rw [fr (i + 1) y]; exact cu _ _ (cutr _ _ (p4 i (by omega)))
                    · show (if A.N = 0 then v else A.F) = B'' (54 + 5 * B'' 2)
                      rw [f2]
                      by_cases y : A.N = 0
                      · rw [if_pos y]
                        rw [y, Nat.add_zero] at fn
                        exact fn.symm
                      · have := fr 0 (by omega)
                        rw [Nat.add_zero] at this
                        rw [if_neg y, this]; exact (p5 (by omega)).1
                    · show v = B'' (54 + 5 * B'' 2 + (A.N + 1 - 1))
                      rw [f2, Nat.add_sub_cancel, fn]
                  by_cases z2 : A.N = 0
                  · rw [if_pos z2] at hq
                    cases hq
                    exact main _ ur (fun _ _ => rfl) (fun _ _ q => q) (fun q => by omega)
                  · rw [if_neg z2] at hq
                    rcases hj : g_jc (g_rb A.B A.N v) A.L v with _ | B''
                    · rw [hj] at hq; cases hq
                    · rw [hj] at hq
                      cases hq
                      have jl : A.L < A.B 0 := by rw [(p5 (by omega)).2]; exact p2 _ (by omega)
                      obtain ⟨q1, q2, q3, q4⟩ := uB_jc ur (by rw [e0]; exact jl) (by rw [e0]; exact z.2.2.1) (by rw [(p5 (by omega)).2]; exact nw _ (by omega)) hj
                      exact main _ q1 q2 q4 (fun _ => q3)
                · rw [if_neg z] at hq; cases hq
              · rw [if_neg i3] at hq
                have i4 : A.I = 115 := by omega
                by_cases z : v < A.B 0
                · rw [if_pos z] at hq
                  by_cases z2 : A.N = 0
                  · rw [if_pos z2] at hq
                    cases hq
                    refine ⟨w1, w2, w3, fun _ => ?_, fun q => ?_, fun _ _ => ?_, fun q => ?_⟩
                    · show A.N + 1 ≤ 5; omega
                    · have q' : A.I = 107 := q; omega
                    · show (if A.N = 0 then v else A.F) < A.B 0
                      rw [if_pos z2]; exact z
                    · have q' : A.I = 112 := q; omega
                  · rw [if_neg z2] at hq
                    by_cases z3 : A.N = 1 ∧ v ≠ A.F
                    · rw [if_pos z3] at hq
                      rcases hj : g_jc A.B A.F v with _ | B''
                      · rw [hj] at hq; cases hq
                      · rw [hj] at hq
                        cases hq
                        have jf := w6 i4 (by omega)
                        obtain ⟨q1, q2, q3, q4⟩ := uB_jc w1 jf z (fun q => z3.2 q.symm) hj
                        refine ⟨q1, w2, w3, fun _ => ?_, fun q => ?_, fun _ _ => ?_, fun q => ?_⟩
                        · show A.N + 1 ≤ 5; omega
                        · have q' : A.I = 107 := q; omega
                        · show (if A.N = 0 then v else A.F) < B' 0
                          rw [if_neg z2, q2 0 (by omega)]; exact jf
                        · have q' : A.I = 112 := q; omega
                    · rw [if_neg z3] at hq; cases hq
                · rw [if_neg z] at hq; cases hq
      · rw [if_neg c2] at h; cases h
