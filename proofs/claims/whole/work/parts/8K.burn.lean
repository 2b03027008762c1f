/-! ===== burning and moving ===== -/
theorem x_f1_iff {p : Nat → Bool} {n : Nat} : x_f1 p n < n ↔ ∃ k, k < n ∧ p k = true :=
  ⟨fun h => ⟨_, h, x_f1_yes h⟩, fun ⟨_, hk, hp⟩ => x_f1_ex hk hp⟩
/-- part p would fall ahead of q, which is in it -/
def g_wf1 (T : Nat → Nat) (b q p : Nat) : Bool := (g_in T q).testBit p && decide (g_rc T p &&& b = 0) && !decide (g_rc T q &&& b = 0)
def g_wf (T : Nat → Nat) (b : Nat) : Bool := decide (x_f1 (fun q => decide (x_f1 (g_wf1 T b q) (T 2) < T 2)) (T 2) < T 2)
theorem g_wf_iff {T : Nat → Nat} {b : Nat} : g_wf T b = true ↔ ∃ q p, q < T 2 ∧ p < T 2 ∧ g_wf1 T b q p = true := by
  unfold g_wf
  rw [decide_eq_true_eq, x_f1_iff]
  constructor
  · rintro ⟨q, hq, h⟩
    rw [decide_eq_true_eq, x_f1_iff] at h
    obtain ⟨p, hp, h⟩ := h
    exact ⟨q, p, hq, hp, h⟩
  · rintro ⟨q, p, hq, hp, h⟩
    exact ⟨q, hq, by rw [decide_eq_true_eq, x_f1_iff]; exact ⟨p, hp, h⟩⟩
section BU
variable {T : Nat → Nat} {b P : Nat} {S : zS}
theorem s2_ml (w : wT T) (hc : cP T P S) {p0 c : Nat} (hl : S.1 p0 0 = nI b) (hb : b < 2 ^ 14) (hcl : c < 14) : f_X2_mayLose p0 (nI c) P S = some (if g_wf T (b_an b (2 ^ c)) = true then nI 0 else nI 1, S) := by
  have h0 := wT_b w
  have e2 := hc.1.1.2.2.1
  have l14 : b_an b (2 ^ c) < 2 ^ 14 := b_an_lt hb
  rw [f_X2_mayLose, hl, show (1 : Int32) = nI 1 from rfl, x_bit (by omega), x_an (by omega)]
  generalize b_an b (2 ^ c) = d at *
  have hh := x_find (F := fun n q => f_X2_mayLose_14 p0 P n (nI d) (nI q) S) (N := T 2) (p := fun q => decide (x_f1 (g_wf1 T d q) (T 2) < T 2)) (yes := fun _ => some (nI 0, S)) (no := some (nI 1, S)) ?_ ?_ (d := T 2) (a := 0) (n := 1000) (by omega) (by omega)
  · refine Eq.trans hh ?_
    unfold g_wf
    show (if x_f1 (fun q => decide (x_f1 (g_wf1 T d q) (T 2) < T 2)) (T 2) < T 2 then some (nI 0, S) else some (nI 1, S)) = _
    by_cases z : x_f1 (fun q => decide (x_f1 (g_wf1 T d q) (T 2) < T 2)) (T 2) < T 2
    · rw [if_pos z, decide_eq_true z, if_pos rfl]
    · rw [if_neg z, decide_eq_false z, if_neg (by decide)]
  · intro n
    rw [f_X2_mayLose_14, e2, if_pos (nI_le (Nat.le_refl _) (by omega))]
    rfl
  · intro n q hq
    have rq := (hc.2 q hq).1
    have rl := g_rc_lt w hq
    have al : g_rc T q &&& d < 2 ^ 14 := Nat.lt_of_le_of_lt Nat.and_le_left rl
    rw [f_X2_mayLose_14, e2, if_neg (nI_ge hq (by omega)), if_pos ((x_in (by omega)).mpr (by omega)), nI_clamp (by omega), rq, fa_and]
    by_cases c1 : g_rc T q &&& d = 0
    · have no : ¬ x_f1 (g_wf1 T d q) (T 2) < T 2 := fun z => by
        obtain ⟨p, _, h⟩ := x_f1_iff.mp z
        unfold g_wf1 at h
        rw [c1] at h
        simp at h
      rw [c1, if_pos (c := nI 0 = 0) nI_0, decide_eq_false no, if_neg (by decide), show (1 : Int32) = nI 1 from rfl, nI_add]
    · rw [if_neg (nI_ne0 (by omega) (by omega))]
      have hi := x_find (F := fun m p => f_X2_mayLose_41 p0 P (f_X2_mayLose_14 p0 P n) m (nI d) (nI q) (nI p) S) (N := T 2) (p := g_wf1 T d q) (yes := fun _ => some (nI 0, S)) (no := f_X2_mayLose_14 p0 P n (nI d) (nI (q + 1)) S) ?_ ?_ (d := T 2) (a := 0) (n := 1000) (by omega) (by omega)
      · refine Eq.trans hi ?_
        show (if x_f1 (g_wf1 T d q) (T 2) < T 2 then some (nI 0, S) else f_X2_mayLose_14 p0 P n (nI d) (nI (q + 1)) S) = _
        by_cases z : x_f1 (g_wf1 T d q) (T 2) < T 2
        · rw [if_pos z, decide_eq_true z, if_pos rfl]
        · rw [if_neg z, decide_eq_false z, if_neg (by decide)]
      · intro m
        rw [f_X2_mayLose_41, e2, if_pos (nI_le (Nat.le_refl _) (by omega)), show (1 : Int32) = nI 1 from rfl, nI_add]
      · intro m p hp
        have iq := (hc.2 q hq).2
        have rp := (hc.2 p hp).1
        have il := g_in_lt w q
        have rl2 := g_rc_lt w hp
        have al2 : g_rc T p &&& d < 2 ^ 14 := Nat.lt_of_le_of_lt Nat.and_le_left rl2
        rw [f_X2_mayLose_41, e2, if_neg (nI_ge hp (by omega)), if_pos ((x_in (by omega)).mpr (by omega)), nI_clamp (by omega), iq, b_has8 (by omega) (by omega), Option.bind_some]
        unfold g_wf1
        rw [decide_eq_false c1]
        by_cases q1 : (g_in T q).testBit p = true
        · rw [q1, if_pos rfl, if_neg (c := nI 1 = 0) (by decide), if_pos ((x_in (by omega)).mpr (by omega)), nI_clamp (by omega)]
          dsimp only
          rw [rp, fa_and]
          by_cases q2 : g_rc T p &&& d = 0
          · rw [q2, if_pos (c := nI 0 = 0) nI_0]
            simp
            rfl
          · rw [if_neg (nI_ne0 (by omega) (by omega)), decide_eq_false q2, show (1 : Int32) = nI 1 from rfl, nI_add]
            simp
        · have q1' : (g_in T q).testBit p = false := by simpa using q1
          rw [q1', if_neg (c := false = true) (by decide), if_pos (c := nI 0 = 0) nI_0, show (1 : Int32) = nI 1 from rfl, nI_add]
          simp
theorem s9_wf (w : wT T) (h : mT T 89 S) (hi : ∀ p, p < T 2 → S.1 98 p = nI (g_in T p)) (hb : b < 2 ^ 14) : f_X9_wouldFall (nI b) S = some (if g_wf T b = true then nI 1 else nI 0, S) := by
  have h0 := wT_b w
  have e2 := h 2 (by omega)
  have fin : g_wf T b = decide (x_f1 (fun p => decide (x_f1 (fun q => g_wf1 T b q p) (T 2) < T 2)) (T 2) < T 2) := by
    rw [Bool.eq_iff_iff, g_wf_iff, decide_eq_true_eq, x_f1_iff]
    constructor
    · rintro ⟨q, p, hq, hp, z⟩
      exact ⟨p, hp, by rw [decide_eq_true_eq, x_f1_iff]; exact ⟨q, hq, z⟩⟩
    · rintro ⟨p, hp, z⟩
      rw [decide_eq_true_eq, x_f1_iff] at z
      obtain ⟨q, hq, z⟩ := z
      exact ⟨q, p, hq, hp, z⟩
  rw [f_X9_wouldFall, fin]
  refine x_for (F := fun n p => f_X9_wouldFall_4 n (nI b) (if decide (x_f1 (fun p => decide (x_f1 (fun q => g_wf1 T b q p) (T 2) < T 2)) p < p) = true then nI 1 else nI 0) (nI p) S) (N := T 2) ?_ ?_ (d := T 2) (a := 0) (n := 1000) (by omega) (by omega)
  · intro n
    rw [f_X9_wouldFall_4, e2, if_pos (nI_le (Nat.le_refl _) (by omega))]
    split <;> rfl
  · intro n p hp
    rw [f_X9_wouldFall_4, e2, if_neg (nI_ge hp (by omega)), x_f1_succ]
    generalize decide (x_f1 (fun p => decide (x_f1 (fun q => g_wf1 T b q p) (T 2) < T 2)) p < p) = z
    have hh := x_for (F := fun m q => f_X9_wouldFall_17 (f_X9_wouldFall_4 n) m (nI b) (if (z || decide (x_f1 (fun q => g_wf1 T b q p) q < q)) = true then nI 1 else nI 0) (nI p) (nI q) S) (N := T 2) (fin := f_X9_wouldFall_4 n (nI b) (if (z || decide (x_f1 (fun q => g_wf1 T b q p) (T 2) < T 2)) = true then nI 1 else nI 0) (nI (p + 1)) S) ?_ ?_ (d := T 2) (a := 0) (n := 1000) (by omega) (by omega)
    · have e0 : decide (x_f1 (fun q => g_wf1 T b q p) 0 < 0) = false := decide_eq_false (Nat.not_lt_zero _)
      rw [e0, Bool.or_false] at hh
      exact hh
    · intro m
      rw [f_X9_wouldFall_17, e2, if_pos (nI_le (Nat.le_refl _) (by omega)), show (1 : Int32) = nI 1 from rfl, nI_add]
    · intro m q hq
      rw [f_X9_wouldFall_17, e2, if_neg (nI_ge hq (by omega)), x_f1_succ, ← Bool.or_assoc]
      generalize (z || decide (x_f1 (fun q => g_wf1 T b q p) q < q)) = y
      by_cases c : y = true
      · rw [c, if_pos rfl, if_neg (c := nI 1 = 0) (by decide), Bool.true_or, if_pos rfl, show (1 : Int32) = nI 1 from rfl, nI_add]
      · have c' : y = false := by simpa using c
        have il := g_in_lt w q
        have rl := g_rc_lt w hq
        have rl2 := g_rc_lt w hp
        have al : g_rc T q &&& b < 2 ^ 14 := Nat.lt_of_le_of_lt Nat.and_le_left rl
        have al2 : g_rc T p &&& b < 2 ^ 14 := Nat.lt_of_le_of_lt Nat.and_le_left rl2
        rw [c', if_neg (c := false = true) (by decide), if_pos (c := nI 0 = 0) nI_0, Bool.false_or, if_pos ((x_in (by omega)).mpr (by omega)), nI_clamp (by omega), hi q hq, b_has9 (by omega) (by omega), Option.bind_some]
        unfold g_wf1
        by_cases q1 : (g_in T q).testBit p = true
        · rw [q1, if_pos rfl, if_neg (c := nI 1 = 0) (by decide)]
          dsimp only
          rw [s9_rc w h hp, Option.bind_some]
          dsimp only
          rw [fa_and]
          by_cases q2 : g_rc T p &&& b = 0
          · rw [q2, if_pos (c := nI 0 = 0) nI_0, s9_rc w h hq, Option.bind_some]
            dsimp only
            rw [fa_and]
            by_cases q3 : g_rc T q &&& b = 0
            · rw [q3, if_pos (c := nI 0 = 0) nI_0, show (1 : Int32) = nI 1 from rfl, nI_add]
              rfl
            · rw [if_neg (nI_ne0 (by omega) (by omega)), decide_eq_false q3, show (1 : Int32) = nI 1 from rfl, nI_add]
              rfl
          · rw [if_neg (nI_ne0 (by omega) (by omega)), decide_eq_false q2, show (1 : Int32) = nI 1 from rfl, nI_add]
            rfl
        · have q1' : (g_in T q).testBit p = false := by simpa using q1
          rw [q1', if_neg (c := false = true) (by decide), if_pos (c := nI 0 = 0) nI_0, show (1 : Int32) = nI 1 from rfl, nI_add]
          rfl
end BU
/-- when a corner is cool -/
def g_cl (T : Nat → Nat) (Pl : Nat → Int32) (k : Nat) : Nat := if Pl (4 + k) = -nI 9 then 0 else (Pl (4 + k)).toNatClampNeg + T 3
def g_m2 (a b : Nat) : Nat := if a < b then b else a
theorem g_m2_le {a b M : Nat} (ha : a ≤ M) (hb : b ≤ M) : g_m2 a b ≤ M := by unfold g_m2; split <;> assumption
theorem g_m2_I {a b : Nat} (ha : a < 2 ^ 31) (hb : b < 2 ^ 31) : (if nI a < nI b then nI b else nI a) = nI (g_m2 a b) := by
  unfold g_m2
  by_cases q : a < b
  · rw [if_pos q, if_pos (nI_lt q (by omega))]
  · rw [if_neg q, if_neg (nI_nlt (by omega) (by omega))]
def g_mx (T : Nat → Nat) (Pl : Nat → Int32) (u v : Nat) : Nat := g_m2 (g_m2 (g_tm Pl) (g_cl T Pl v - g_way T u v)) (g_cl T Pl u)
def g_bg (T : Nat → Nat) (Pl : Nat → Int32) (u v : Nat) : Nat := if Pl 3 = nI 1 ∧ g_cl T Pl v ≤ g_tm Pl + g_way T u v then g_tm Pl else g_mx T Pl u v
theorem g_bgY {T : Nat → Nat} {Pl : Nat → Int32} {u v : Nat} (h : Pl 3 = nI 1 ∧ g_cl T Pl v ≤ g_tm Pl + g_way T u v) : g_bg T Pl u v = g_tm Pl := if_pos h
theorem g_bgN {T : Nat → Nat} {Pl : Nat → Int32} {u v : Nat} (h : ¬ (Pl 3 = nI 1 ∧ g_cl T Pl v ≤ g_tm Pl + g_way T u v)) : g_bg T Pl u v = g_mx T Pl u v := if_neg h
theorem g_mx_tm {T : Nat → Nat} {Pl : Nat → Int32} {u v : Nat} (h1 : g_cl T Pl u ≤ g_tm Pl) (h2 : g_cl T Pl v ≤ g_tm Pl + g_way T u v) : g_mx T Pl u v = g_tm Pl := by
  unfold g_mx g_m2
  have e : (if g_tm Pl < g_cl T Pl v - g_way T u v then g_cl T Pl v - g_way T u v else g_tm Pl) = g_tm Pl := if_neg (by omega)
  rw [e]
  exact if_neg (by omega)
def g_bP (T : Nat → Nat) (Pl : Nat → Int32) (u v c : Nat) : Nat → Int32 := fun j => if j = 3 then nI 1 else if j = 1 then nI v else if j = 0 then nI (b_an (g_lf Pl) (2 ^ c)) else if j = 4 + v then nI (g_bg T Pl u v + g_way T u v) else if j = 2 then nI (g_bg T Pl u v + g_way T u v) else if j = 4 + u then nI (g_bg T Pl u v) else Pl j
def g_mP (T : Nat → Nat) (Pl : Nat → Int32) (u v : Nat) : Nat → Int32 := fun j => if j = 3 then nI 0 else if j = 1 then nI v else if j = 2 then nI (g_tm Pl + g_way T u v) else Pl j
section BV
variable {T : Nat → Nat} {τ u v c : Nat} {Pl : Nat → Int32} {S : zS}
theorem g_cl_le (h : wPl T τ Pl) (w : wT T) (hτ : τ < 2 ^ 20) {k : Nat} (hk : k < 9) : g_cl T Pl k ≤ τ + 20 := by
  have h0 := wT_b w
  unfold g_cl
  rcases h.2.2.2.2 k hk with q | ⟨x, hx, q⟩
  · rw [if_pos q]; omega
  · rw [if_neg (by rw [q]; exact nI_n9 (by omega)), q, nI_clamp (by omega)]
    omega
theorem g_bg_le (h : wPl T τ Pl) (w : wT T) (hτ : τ < 2 ^ 20) (hu : u < T 0) (hv : v < T 0) : g_bg T Pl u v ≤ τ + 20 := by
  have h0 := wT_b w
  have l1 := g_cl_le h w hτ (k := u) (by omega)
  have l2 := g_cl_le h w hτ (k := v) (by omega)
  have l3 := (wPl_tm hτ h).2
  unfold g_bg
  split
  · omega
  · exact g_m2_le (g_m2_le (by omega) (by omega)) (by omega)
theorem wPl_b (h : wPl T τ Pl) (w : wT T) (hτ : τ < 2 ^ 20) (hu : u < T 0) (hv : v < T 0) : wPl T (τ + 60) (g_bP T Pl u v c) := by
  have h0 := wT_b w
  have l := wPl_lf w h
  have lb := g_bg_le h w hτ hu hv
  have lw := g_way_le w hu hv
  refine ⟨⟨b_an (g_lf Pl) (2 ^ c), b_an_lt l.2.1, ?_⟩, Or.inr ⟨v, hv, ?_⟩, ⟨g_bg T Pl u v + g_way T u v, by omega, ?_⟩, Or.inr ?_, fun k hk => ?_⟩
  · unfold g_bP; rw [if_neg (by omega), if_neg (by omega), if_pos rfl]
  · unfold g_bP; rw [if_neg (by omega), if_pos rfl]
  · unfold g_bP; rw [if_neg (by omega), if_neg (by omega), if_neg (by omega), if_neg (by omega), if_pos rfl]
  · unfold g_bP; rw [if_pos rfl]
  · unfold g_bP
    rw [if_neg (by omega), if_neg (by omega), if_neg (by omega)]
    by_cases q1 : 4 + k = 4 + v
    · rw [if_pos q1]; exact Or.inr ⟨_, by omega, rfl⟩
    · rw [if_neg q1, if_neg (by omega)]
      by_cases q2 : 4 + k = 4 + u
      · rw [if_pos q2]; exact Or.inr ⟨_, by omega, rfl⟩
      · rw [if_neg q2]
        rcases h.2.2.2.2 k hk with z | ⟨x, hx, z⟩
        · exact Or.inl z
        · exact Or.inr ⟨x, by omega, z⟩
theorem wPl_m (h : wPl T τ Pl) (w : wT T) (hτ : τ < 2 ^ 20) (hu : u < T 0) (hv : v < T 0) : wPl T (τ + 60) (g_mP T Pl u v) := by
  have h0 := wT_b w
  have lt := (wPl_tm hτ h).2
  have lw := g_way_le w hu hv
  refine ⟨?_, Or.inr ⟨v, hv, ?_⟩, ⟨g_tm Pl + g_way T u v, by omega, ?_⟩, Or.inl ?_, fun k hk => ?_⟩
  · obtain ⟨b, hb, e⟩ := h.1
    refine ⟨b, hb, ?_⟩
    unfold g_mP; rw [if_neg (by omega), if_neg (by omega), if_neg (by omega)]; exact e
  · unfold g_mP; rw [if_neg (by omega), if_pos rfl]
  · unfold g_mP; rw [if_neg (by omega), if_neg (by omega), if_pos rfl]
  · unfold g_mP; rw [if_pos rfl]
  · unfold g_mP
    rw [if_neg (by omega), if_neg (by omega), if_neg (by omega)]
    rcases h.2.2.2.2 k hk with z | ⟨x, hx, z⟩
    · exact Or.inl z
    · exact Or.inr ⟨x, by omega, z⟩
theorem s2_cool (h : wPl T τ Pl) (hτ : τ < 2 ^ 20) (hc : cPl Pl 32 S) {k : Nat} (hk : k < 9) : f_X2_coolAt 32 (nI k) (nI (T 3)) S = some (nI (g_cl T Pl k), S) := by
  have e := hc.2 k hk
  unfold g_cl
  rcases h.2.2.2.2 k hk with q | ⟨x, hx, q⟩
  · rw [q] at e
    rw [if_pos q, f_X2_coolAt, if_pos ((x_in (by omega)).mpr hk), nI_clamp (by omega), e, if_pos (show (-nI 9 : Int32) = -9 from rfl)]
    rfl
  · rw [q] at e
    rw [if_neg (by rw [q]; exact nI_n9 (by omega)), q, nI_clamp (by omega), f_X2_coolAt, if_pos ((x_in (by omega)).mpr hk), nI_clamp (by omega), e, if_neg (show ¬ nI x = -9 from nI_n9 (by omega)), if_pos ((x_in (by omega)).mpr hk), nI_add]
theorem x_sub_le {a b t : Nat} (ha : a < 2 ^ 30) (hb : b < 2 ^ 30) (ht : t < 2 ^ 30) : (nI t < nI a - nI b) ↔ t < a - b := by
  rw [fa_lt, pk_sub_toInt ha hb, nI_toInt (by omega)]
  omega
theorem x_max {a b t : Nat} (ha : a < 2 ^ 30) (hb : b < 2 ^ 30) (ht : t < 2 ^ 30) : (if nI t < nI a - nI b then nI a - nI b else nI t) = nI (g_m2 t (a - b)) := by
  unfold g_m2
  by_cases q : t < a - b
  · rw [if_pos q, if_pos ((x_sub_le ha hb ht).mpr q), pk_sub (by omega)]
  · rw [if_neg q, if_neg (fun z => q ((x_sub_le ha hb ht).mp z))]
theorem s2_bob (h : wPl T τ Pl) (w : wT T) (hτ : τ < 2 ^ 20) {P : Nat} (hP : cP0 T P S) (hc : cPl Pl 32 S) (hu : u < T 0) (hv : v < T 0) (ht : Pl 1 = nI u) : f_X2_beginOfBurn 32 (nI v) P S = some (nI (g_bg T Pl u v), S) := by
  have h0 := wT_b w
  have c1 := s2_cool h hτ hc (k := u) (by omega)
  have c2 := s2_cool h hτ hc (k := v) (by omega)
  have l1 := g_cl_le h w hτ (k := u) (by omega)
  have l2 := g_cl_le h w hτ (k := v) (by omega)
  have l3 := wPl_tm hτ h
  have lw := g_way_le w hu hv
  have e12 := hP.1.2.2.2
  have e1 : S.1 32 1 = nI u := (hc.1 1 (by omega)).trans ht
  have e2 : S.1 32 2 = nI (g_tm Pl) := (hc.1 2 (by omega)).trans l3.1
  have e3 := hc.1 3 (by omega)
  have b40 : f_X2_beginOfBurn_40 32 P (nI (g_cl T Pl v) - nI (g_way T u v)) S = some (nI (g_mx T Pl u v), S) := by
    rw [f_X2_beginOfBurn_40, e1, e12, c1, Option.bind_some, e2, x_max (by omega) (by omega) (by omega)]
    have lm : g_m2 (g_tm Pl) (g_cl T Pl v - g_way T u v) ≤ 2 ^ 25 := g_m2_le (by omega) (by omega)
    rw [g_m2_I (by omega) (by omega)]
    rfl
  rw [f_X2_beginOfBurn, e12, c2, Option.bind_some]
  dsimp only
  rw [e1, s1_way w hP hu hv, Option.bind_some]
  dsimp only
  rw [e3]
  rcases h.2.2.2.1 with j | j
  · rw [j, if_pos (c := nI 0 = 0) nI_0, g_bgN (fun z => absurd (j.symm.trans z.1) (by decide))]
    exact b40
  · rw [j, if_neg (c := nI 1 = 0) (by decide), e2]
    by_cases q : g_tm Pl < g_cl T Pl v - g_way T u v
    · rw [if_pos ((x_sub_le (by omega) (by omega) (by omega)).mpr q), b40, g_bgN (fun z => by have := z.2; omega)]
    · rw [if_neg (fun z => q ((x_sub_le (by omega) (by omega) (by omega)).mp z)), g_bgY ⟨j, by omega⟩]
def wE2 (q _j : Nat) : Prop := q = 32 ∨ q = 33
theorem s2_burn (h : wPl T τ Pl) (w : wT T) (hτ : τ < 2 ^ 20) {P : Nat} (hPP : P = 3 ∨ P = 17) (hP : cP0 T P S) (hc : cPl Pl 32 S) (hu : u < T 0) (hv : v < T 0) (huv : u ≠ v) (ht : Pl 1 = nI u) (hcl : c < 14) : ∃ S', f_X2_burn 32 (nI c) (nI v) P S = some ((), S') ∧ x_fr wE2 S S' ∧ cPl (g_bP T Pl u v c) 32 S' := by
  have h0 := wT_b w
  have l := wPl_lf w h
  have lb := g_bg_le h w hτ hu hv
  have lw := g_way_le w hu hv
  have e1 : S.1 32 1 = nI u := (hc.1 1 (by omega)).trans ht
  have e0 : S.1 32 0 = nI (g_lf Pl) := (hc.1 0 (by omega)).trans l.1
  have bob := s2_bob h w hτ hP hc hu hv ht
  have fr1 : x_fr wE2 S (z_w S 33 u (nI (g_bg T Pl u v))) := x_fr_w x_fr_rf (Or.inr rfl)
  have hP1 := cP0_fr hP fr1 (fun q j q1 q2 q3 => by unfold wE2 at q3; omega) h0.2.2.1
  have wy := s1_way w hP1 hu hv
  refine ⟨z_w (z_w (z_w (z_w (z_w (z_w S 33 u (nI (g_bg T Pl u v))) 32 2 (nI (g_bg T Pl u v + g_way T u v))) 33 v (nI (g_bg T Pl u v + g_way T u v))) 32 0 (nI (b_an (g_lf Pl) (2 ^ c)))) 32 1 (nI v)) 32 3 (nI 1), ?_, ?_, ?_⟩
  · rw [f_X2_burn, e1, s1_hasT w hP hu, Option.bind_some, if_neg (c := nI 1 = 0) (by decide)]
    dsimp only
    rw [s1_hasT w hP hv, Option.bind_some, if_neg (c := nI 1 = 0) (by decide)]
    dsimp only
    rw [bob, Option.bind_some]
    dsimp only
    rw [e1, if_pos ((x_in (by omega)).mpr (by omega)), nI_clamp (by omega), b_wk (by omega), e1, wy, Option.bind_some, if_pos ((x_in (by omega)).mpr (by omega)), nI_clamp (by omega)]
    dsimp only
    rw [nI_add, b_wh, b_wk (by omega), b_wj (by omega), b_wk (by omega), e0, show (1 : Int32) = nI 1 from rfl, x_bit (by omega), x_an (by omega)]
  · exact x_fr_w (x_fr_w (x_fr_w (x_fr_w (x_fr_w fr1 (Or.inl rfl)) (Or.inr rfl)) (Or.inl rfl)) (Or.inl rfl)) (Or.inl rfl)
  · refine ⟨fun j hj => ?_, fun k hk => ?_⟩
    · unfold g_bP
      rcases (by omega : j = 0 ∨ j = 1 ∨ j = 2 ∨ j = 3) with rfl | rfl | rfl | rfl
      · rw [b_wj (by omega), b_wj (by omega), b_wh, if_neg (by omega), if_neg (by omega), if_pos rfl]
      · rw [b_wj (by omega), b_wh, if_neg (by omega), if_pos rfl]
      · rw [b_wj (by omega), b_wj (by omega), b_wj (by omega), b_wk (by omega), b_wh, if_neg (by omega), if_neg (by omega), if_neg (by omega), if_neg (by omega), if_pos rfl]
      · rw [b_wh, if_pos rfl]
    · unfold g_bP
      show (z_w _ 32 3 (nI 1)).1 33 k = _
      rw [b_wk (by omega), b_wk (by omega), b_wk (by omega), if_neg (by omega), if_neg (by omega), if_neg (by omega)]
      by_cases q1 : k = v
      · rw [q1, b_wh, if_pos rfl]
      · rw [b_wj q1, b_wk (by omega), if_neg (by omega), if_neg (by omega)]
        by_cases q2 : k = u
        · rw [q2, b_wh, if_pos rfl]
        · rw [b_wj q2, if_neg (by omega)]
          exact hc.2 k hk
theorem s2_move (h : wPl T τ Pl) (w : wT T) (hτ : τ < 2 ^ 20) {P : Nat} (hP : cP0 T P S) (hc : cPl Pl 32 S) (hu : u < T 0) (hv : v < T 0) (ht : Pl 1 = nI u) : ∃ S', f_X2_move 32 (nI v) P S = some ((), S') ∧ x_fr wE2 S S' ∧ cPl (g_mP T Pl u v) 32 S' := by
  have h0 := wT_b w
  have l3 := wPl_tm hτ h
  have lw := g_way_le w hu hv
  have e1 : S.1 32 1 = nI u := (hc.1 1 (by omega)).trans ht
  have e2 : S.1 32 2 = nI (g_tm Pl) := (hc.1 2 (by omega)).trans l3.1
  refine ⟨z_w (z_w (z_w S 32 2 (nI (g_tm Pl + g_way T u v))) 32 1 (nI v)) 32 3 (nI 0), ?_, x_fr_w (x_fr_w (x_fr_w x_fr_rf (Or.inl rfl)) (Or.inl rfl)) (Or.inl rfl), fun j hj => ?_, fun k hk => ?_⟩
  · rw [f_X2_move, e1, s1_way w hP hu hv, Option.bind_some]
    dsimp only
    rw [e2, nI_add]
    rfl
  · unfold g_mP
    rcases (by omega : j = 0 ∨ j = 1 ∨ j = 2 ∨ j = 3) with rfl | rfl | rfl | rfl
    · rw [b_wj (by omega), b_wj (by omega), b_wj (by omega), if_neg (by omega), if_neg (by omega), if_neg (by omega)]; exact hc.1 0 (by omega)
    · rw [b_wj (by omega), b_wh, if_neg (by omega), if_pos rfl]
    · rw [b_wj (by omega), b_wj (by omega), b_wh, if_neg (by omega), if_neg (by omega), if_pos rfl]
    · rw [b_wh, if_pos rfl]
  · unfold g_mP
    rw [b_wk (by omega), b_wk (by omega), b_wk (by omega), if_neg (by omega), if_neg (by omega), if_neg (by omega)]
    exact hc.2 k hk
/-! the reference -/
theorem s9_cool (h : wPl T τ Pl) (hτ : τ < 2 ^ 20) (hm : mT T 89 S) (w : wT T) (hc : mPl Pl 91 0 S) {k x : Nat} (hk : k < 9) (hx : x < 2 ^ 30) : f_X9_isCool (nI k) (nI x) S = some (if g_cl T Pl k ≤ x then nI 1 else nI 0, S) := by
  have h0 := wT_b w
  have e := hc (4 + k) (by omega)
  rw [Nat.zero_add] at e
  have e3 := hm 3 (by omega)
  unfold g_cl
  rw [f_X9_isCool, show (4 : Int32) = nI 4 from rfl, nI_add, if_pos ((x_in (by omega)).mpr (by omega)), nI_clamp (by omega), e]
  rcases h.2.2.2.2 k hk with q | ⟨y, hy, q⟩
  · rw [q, if_pos (show (-nI 9 : Int32) = -9 from rfl), if_pos rfl, if_pos (Nat.zero_le x)]
    rfl
  · have n9 : ¬ nI y = -nI 9 := nI_n9 (by omega)
    rw [q, if_neg (show ¬ nI y = -9 from n9), if_pos ((x_in (by omega)).mpr (by omega)), e3, nI_add, if_neg n9, nI_clamp (by omega)]
    by_cases z : y + T 3 ≤ x
    · rw [if_neg (nI_nlt z (by omega)), if_pos z]; rfl
    · rw [if_pos (nI_lt (by omega) (by omega)), if_neg z]; rfl
theorem s9_begins (h : wPl T τ Pl) (w : wT T) (hτ : τ < 2 ^ 20) (hm : mT T 89 S) (hc : mPl Pl 91 0 S) (hu : u < T 0) (hv : v < T 0) : f_X9_beginsAt (nI u) (nI v) S = some (nI (g_bg T Pl u v), S) := by
  have h0 := wT_b w
  have l1 := g_cl_le h w hτ (k := u) (by omega)
  have l2 := g_cl_le h w hτ (k := v) (by omega)
  have l3 := wPl_tm hτ h
  have lw := g_way_le w hu hv
  have p91 : ∀ j, j < 13 → S.1 91 j = Pl j := fun j hj => by have := hc j hj; rw [Nat.zero_add] at this; exact this
  have e2 : S.1 91 2 = nI (g_tm Pl) := (p91 2 (by omega)).trans l3.1
  have e3 := p91 3 (by omega)
  have eu := p91 (4 + u) (by omega)
  have ev := p91 (4 + v) (by omega)
  have eh := hm 3 (by omega)
  have b48 : f_X9_beginsAt_48 (nI u) (nI v) (nI (g_tm Pl)) (nI (g_way T u v)) S = some (nI (g_mx T Pl u v), S) := by
    have b120 : ∀ a, a < 2 ^ 30 → f_X9_beginsAt_120 (nI (g_tm Pl)) (nI (g_cl T Pl u)) (nI a) S = some (nI (g_m2 (g_m2 (g_tm Pl) a) (g_cl T Pl u)), S) := fun a ha => by
      have fin : ∀ x y, x = y → some (nI x, S) = some (nI y, S) := fun x y e => by rw [e]
      rw [f_X9_beginsAt_120]
      by_cases q : g_cl T Pl u ≤ g_tm Pl
      · rw [if_pos (nI_le q (by omega)), f_X9_beginsAt_136]
        by_cases q2 : a ≤ g_tm Pl
        · rw [if_pos (nI_le q2 (by omega))]
          refine fin _ _ ?_
          have e : g_m2 (g_tm Pl) a = g_tm Pl := if_neg (by omega)
          rw [e]
          exact (if_neg (by omega)).symm
        · rw [if_neg (nI_ge (by omega) (by omega))]
          refine fin _ _ ?_
          have e : g_m2 (g_tm Pl) a = a := if_pos (by omega)
          rw [e]
          exact (if_neg (by omega)).symm
      · rw [if_neg (nI_ge (by omega) (by omega)), f_X9_beginsAt_136]
        by_cases q2 : a ≤ g_cl T Pl u
        · rw [if_pos (nI_le q2 (by omega))]
          refine fin _ _ ?_
          have l := g_m2_le (a := g_tm Pl) (b := a) (M := g_cl T Pl u) (by omega) q2
          show _ = (if g_m2 (g_tm Pl) a < g_cl T Pl u then g_cl T Pl u else g_m2 (g_tm Pl) a)
          split <;> omega
        · rw [if_neg (nI_ge (by omega) (by omega))]
          refine fin _ _ ?_
          have e : g_m2 (g_tm Pl) a = a := if_pos (by omega)
          rw [e]
          exact (if_neg (by omega)).symm
    have mx : g_mx T Pl u v = g_m2 (g_m2 (g_tm Pl) (g_cl T Pl v - g_way T u v)) (g_cl T Pl u) := rfl
    have b83 : f_X9_beginsAt_83 (nI v) (nI (g_way T u v)) (nI (g_tm Pl)) (nI (g_cl T Pl u)) S = some (nI (g_mx T Pl u v), S) := by
      rw [f_X9_beginsAt_83, show (4 : Int32) = nI 4 from rfl, nI_add, if_pos ((x_in (by omega)).mpr (by omega)), nI_clamp (by omega), ev]
      rcases h.2.2.2.2 v (by omega) with q | ⟨y, hy, q⟩
      · have cz : g_cl T Pl v = 0 := by unfold g_cl; rw [if_pos q]
        rw [q, if_pos (show (-nI 9 : Int32) = -9 from rfl), mx, cz, Nat.zero_sub]
        exact b120 0 (by omega)
      · have n9 : ¬ nI y = -nI 9 := nI_n9 (by omega)
        have cz : g_cl T Pl v = y + T 3 := by unfold g_cl; rw [q, if_neg n9, nI_clamp (by omega)]
        rw [q, if_neg (show ¬ nI y = -9 from n9), if_pos ((x_in (by omega)).mpr (by omega)), eh, nI_add, mx, cz]
        by_cases z : g_way T u v ≤ y + T 3
        · rw [pk_sub z]
          exact b120 _ (by omega)
        · have neg : (nI (y + T 3) - nI (g_way T u v)) ≤ nI 0 := by
            rw [fa_le, pk_sub_toInt (by omega) (by omega), nI_toInt (by omega)]
            omega
          have b0 := b120 0 (by omega)
          rw [show y + T 3 - g_way T u v = 0 from by omega]
          rw [← b0, f_X9_beginsAt_120, f_X9_beginsAt_120]
          have big : ∀ t : Nat, t < 2 ^ 30 → f_X9_beginsAt_136 (nI (y + T 3) - nI (g_way T u v)) (nI t) S = f_X9_beginsAt_136 (nI 0) (nI t) S := fun t ht => by
            rw [f_X9_beginsAt_136, f_X9_beginsAt_136, if_pos (nI_le (Nat.zero_le t) (by omega)), if_pos]
            rw [fa_le] at neg ⊢
            rw [nI_toInt (by omega)] at neg ⊢
            omega
          rw [big _ (by omega), big _ (by omega)]
    rw [f_X9_beginsAt_48, show (4 : Int32) = nI 4 from rfl, nI_add, if_pos ((x_in (by omega)).mpr (by omega)), nI_clamp (by omega), eu]
    rcases h.2.2.2.2 u (by omega) with q | ⟨y, hy, q⟩
    · have cz : g_cl T Pl u = 0 := by unfold g_cl; rw [if_pos q]
      rw [q, if_pos (show (-nI 9 : Int32) = -9 from rfl), ← b83, cz]
      rfl
    · have n9 : ¬ nI y = -nI 9 := nI_n9 (by omega)
      have cz : g_cl T Pl u = y + T 3 := by unfold g_cl; rw [q, if_neg n9, nI_clamp (by omega)]
      rw [q, if_neg (show ¬ nI y = -9 from n9), if_pos ((x_in (by omega)).mpr (by omega)), eh, nI_add, ← b83, cz]
  have c1 := s9_cool h hτ hm w hc (k := u) (x := g_tm Pl) (by omega) (by omega)
  have c2 := s9_cool h hτ hm w hc (k := v) (x := g_tm Pl + g_way T u v) (by omega) (by omega)
  have b34 : f_X9_beginsAt_34 (nI u) (nI v) (nI (g_tm Pl)) (nI (g_way T u v)) S = some (nI (if g_cl T Pl v ≤ g_tm Pl + g_way T u v then g_tm Pl else g_mx T Pl u v), S) := by
    rw [f_X9_beginsAt_34, nI_add, c2, Option.bind_some]
    by_cases q : g_cl T Pl v ≤ g_tm Pl + g_way T u v
    · rw [if_pos q, if_neg (c := nI 1 = 0) (by decide), if_pos q]
    · rw [if_neg q, if_pos (c := nI 0 = 0) nI_0, if_neg q]
      exact b48
  rw [f_X9_beginsAt, s9_way w hm hu hv, Option.bind_some]
  dsimp only
  rw [e3, e2]
  rcases h.2.2.2.1 with j | j
  · rw [j, if_neg (show ¬ nI 0 = 1 from by decide), c1, Option.bind_some, g_bgN (fun z => absurd (j.symm.trans z.1) (by decide))]
    by_cases q : g_cl T Pl u ≤ g_tm Pl
    · rw [if_pos q, if_neg (c := nI 1 = 0) (by decide)]
      dsimp only
      rw [b34]
      by_cases q2 : g_cl T Pl v ≤ g_tm Pl + g_way T u v
      · rw [if_pos q2, g_mx_tm q q2]
      · rw [if_neg q2]
    · rw [if_neg q, if_pos (c := nI 0 = 0) nI_0]
      exact b48
  · rw [j, if_pos (show nI 1 = 1 from rfl), b34]
    by_cases q2 : g_cl T Pl v ≤ g_tm Pl + g_way T u v
    · rw [if_pos q2, g_bgY ⟨j, q2⟩]
    · rw [if_neg q2, g_bgN (fun z => q2 z.2)]
end BV
