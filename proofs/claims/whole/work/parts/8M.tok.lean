/-! ===== tokens ===== -/
def g_dig (c : Nat) : Bool := decide (48 ≤ c) && decide (c ≤ 57)
def g_isL (c : Nat) : Bool := decide (c = 104) || decide (c = 107) || decide (c = 112) || decide (c = 115)
/-- where a token begins -/
def t_s (X : Nat → Nat) (len a : Nat) : Nat := x_fst (fun k => !decide (X k = 32)) len (len - a) a
/-- where digits end -/
def t_e (X : Nat → Nat) (len s : Nat) : Nat := x_fst (fun k => !g_dig (X k)) len (len - s) s
def g_vr (X : Nat → Nat) (s : Nat) : Nat → Nat
  | 0 => 0
  | j + 1 => if 99 < g_vr X s j then g_vr X s j else 10 * g_vr X s j + (X (s + j) - 48)
def g_vc (X : Nat → Nat) (s : Nat) : Nat → Nat
  | 0 => 0
  | j + 1 => if 2 ≤ j then g_vc X s j else g_vc X s j * 10 + (X (s + j) - 48)
def t_d (X : Nat → Nat) (len a : Nat) : Nat := t_e X len (t_s X len a) - t_s X len a
/-- 0 the end, 1 a letter, 2 a number, 3 a stop, 4 wrong -/
def t_k (X : Nat → Nat) (len a : Nat) : Nat := if t_s X len a = len then 0 else if g_dig (X (t_s X len a)) = true then (if 99 < g_vr X (t_s X len a) (t_d X len a) ∨ (X (t_s X len a) = 48 ∧ 1 < t_d X len a) then 4 else 2) else if X (t_s X len a) = 59 then 3 else if g_isL (X (t_s X len a)) = true then 1 else 4
def t_v (X : Nat → Nat) (len a : Nat) : Nat := if g_dig (X (t_s X len a)) = true then g_vr X (t_s X len a) (t_d X len a) else X (t_s X len a)
def t_n (X : Nat → Nat) (len a : Nat) : Nat := if t_s X len a = len then len else if g_dig (X (t_s X len a)) = true then t_e X len (t_s X len a) else t_s X len a + 1
def g_ctk (k v : Nat) : Nat := if k = 0 then 0 else if k = 1 then v else if k = 2 then 1 else if k = 3 then 59 else 2
section TK
variable {X : Nat → Nat} {len a : Nat}
theorem t_s_le (h : a ≤ len) : a ≤ t_s X len a ∧ t_s X len a ≤ len := x_fst_le _ len (len - a) a (by omega)
theorem t_e_le {s : Nat} (h : s ≤ len) : s ≤ t_e X len s ∧ t_e X len s ≤ len := x_fst_le _ len (len - s) s (by omega)
theorem t_e_dig {s k : Nat} (h : s ≤ len) (h1 : s ≤ k) (h2 : k < t_e X len s) : g_dig (X k) = true := by
  have := x_fst_no (fun k => !g_dig (X k)) len (len - s) s (by omega) k h1 h2
  simpa using this
theorem t_e_gt {s : Nat} (h : s < len) (hd : g_dig (X s) = true) : s < t_e X len s := by
  have l := t_e_le (X := X) (s := s) (len := len) (by omega)
  by_cases c : t_e X len s = s
  · have := x_fst_yes (fun k => !g_dig (X k)) len (len - s) s (by omega) (by show t_e X len s < len; omega)
    have e : x_fst (fun k => !g_dig (X k)) len (len - s) s = s := c
    rw [e, hd] at this
    cases this
  · omega
theorem t_n_le (h : a ≤ len) : t_n X len a ≤ len := by
  have h1 := t_s_le (X := X) h
  have h2 := t_e_le (X := X) (s := t_s X len a) (len := len) h1.2
  unfold t_n
  split
  · omega
  · split <;> omega
theorem t_n_gt (h : a ≤ len) (hk : t_k X len a ≠ 0) : t_s X len a < t_n X len a ∧ t_s X len a < len := by
  have h1 := t_s_le (X := X) h
  unfold t_k at hk
  by_cases c : t_s X len a = len
  · rw [if_pos c] at hk; exact absurd rfl hk
  · unfold t_n
    rw [if_neg c]
    refine ⟨?_, by omega⟩
    by_cases d : g_dig (X (t_s X len a)) = true
    · rw [if_pos d]; exact t_e_gt (by omega) d
    · rw [if_neg d]; omega
theorem g_dig_iff {c : Nat} : g_dig c = true ↔ 48 ≤ c ∧ c ≤ 57 := by
  unfold g_dig
  rw [Bool.and_eq_true, decide_eq_true_eq, decide_eq_true_eq]
theorem g_vr_le {s : Nat} (hx : ∀ k, s ≤ k → k < len → X k ≤ 255) : ∀ j, s + j ≤ len → g_vr X s j ≤ 2000
  | 0, _ => by rw [g_vr]; omega
  | j + 1, h => by
    have ih := g_vr_le hx j (by omega)
    have := hx (s + j) (by omega) (by omega)
    rw [g_vr]
    split <;> omega
theorem g_vc_le {s : Nat} (hx : ∀ k, s ≤ k → k < len → X k ≤ 255) : ∀ j, s + j ≤ len → g_vc X s j ≤ 300 * 11 ^ (if j ≤ 2 then j else 2)
  | 0, _ => by rw [g_vc]; omega
  | j + 1, h => by
    have ih := g_vc_le hx j (by omega)
    have := hx (s + j) (by omega) (by omega)
    rw [g_vc]
    by_cases c : 2 ≤ j
    · rw [if_pos c, if_neg (by omega)]
      by_cases c2 : j ≤ 2
      · rw [if_pos c2, show j = 2 from by omega] at ih
        rw [show j = 2 from by omega]
        exact ih
      · rw [if_neg c2] at ih; exact ih
    · rw [if_neg c, if_pos (by omega)]
      rw [if_pos (by omega)] at ih
      rcases (by omega : j = 0 ∨ j = 1) with rfl | rfl
      · rw [g_vc] at ih ⊢; omega
      · omega
theorem g_vc_31 {s : Nat} (hx : ∀ k, s ≤ k → k < len → X k ≤ 255) {j : Nat} (h : s + j ≤ len) : g_vc X s j ≤ 300 * 121 := by
  have := g_vc_le hx j h
  refine Nat.le_trans this (Nat.mul_le_mul_left 300 ?_)
  show 11 ^ (if j ≤ 2 then j else 2) ≤ 11 ^ 2
  refine Nat.pow_le_pow_right (by omega) ?_
  split <;> omega
theorem g_vr_stay {s : Nat} {j : Nat} (h : 99 < g_vr X s j) : ∀ d, g_vr X s (j + d) = g_vr X s j
  | 0 => rfl
  | d + 1 => by
    have ih := g_vr_stay h d
    show g_vr X s (j + d + 1) = _
    rw [g_vr, ih, if_pos h]
/-- right numbers are the same on both sides -/
theorem g_num {s n : Nat} (hn : 0 < n) (hd : ∀ j, j < n → 48 ≤ X (s + j) ∧ X (s + j) ≤ 57) : ((99 < g_vr X s n ∨ (X s = 48 ∧ 1 < n)) ↔ ¬ (n = 1 ∨ (n = 2 ∧ X s ≠ 48))) ∧ ((n = 1 ∨ (n = 2 ∧ X s ≠ 48)) → g_vc X s n = g_vr X s n) := by
  have h0 := hd 0 hn
  rw [Nat.add_zero] at h0
  have r1 : g_vr X s 1 = X s - 48 := by
    show (if 99 < g_vr X s 0 then g_vr X s 0 else 10 * g_vr X s 0 + (X (s + 0) - 48)) = _
    rw [g_vr, if_neg (by omega), Nat.add_zero]
    omega
  have c1 : g_vc X s 1 = X s - 48 := by
    show (if 2 ≤ 0 then g_vc X s 0 else g_vc X s 0 * 10 + (X (s + 0) - 48)) = _
    rw [g_vc, if_neg (by omega), Nat.add_zero]
    omega
  by_cases n1 : n = 1
  · subst n1
    rw [r1, c1]
    refine ⟨⟨fun h => by omega, fun h => absurd (Or.inl rfl) h⟩, fun _ => rfl⟩
  · have h1 := hd 1 (by omega)
    have r2 : g_vr X s 2 = 10 * (X s - 48) + (X (s + 1) - 48) := by
      show (if 99 < g_vr X s 1 then g_vr X s 1 else 10 * g_vr X s 1 + (X (s + 1) - 48)) = _
      rw [r1, if_neg (by omega)]
    have c2 : g_vc X s 2 = 10 * (X s - 48) + (X (s + 1) - 48) := by
      show (if 2 ≤ 1 then g_vc X s 1 else g_vc X s 1 * 10 + (X (s + 1) - 48)) = _
      rw [c1, if_neg (by omega)]
      omega
    by_cases n2 : n = 2
    · subst n2
      rw [r2, c2]
      refine ⟨⟨fun h q => ?_, fun h => ?_⟩, fun _ => rfl⟩
      · omega
      · omega
    · have h2 := hd 2 (by omega)
      refine ⟨⟨fun _ q => by omega, fun _ => ?_⟩, fun q => by omega⟩
      by_cases z : X s = 48
      · exact Or.inr ⟨z, by omega⟩
      · refine Or.inl ?_
        have r3 : g_vr X s 3 = 10 * g_vr X s 2 + (X (s + 2) - 48) := by
          show (if 99 < g_vr X s 2 then g_vr X s 2 else 10 * g_vr X s 2 + (X (s + 2) - 48)) = _
          rw [if_neg (by omega)]
        have big : 99 < g_vr X s 3 := by omega
        have := g_vr_stay big (n - 3)
        rw [show 3 + (n - 3) = n from by omega] at this
        omega
end TK
section TR3
variable {X : Nat → Nat} {len a : Nat} {S : zS}
def wT3 (q j : Nat) : Prop := q = 31 ∧ j ≤ 3
theorem s3_dig {c : Nat} (hc : c ≤ 255) (S : zS) : f_X3_isDigit (nI c) S = some (if g_dig c = true then nI 1 else nI 0, S) := by
  rw [f_X3_isDigit]
  by_cases h1 : c < 48
  · rw [if_pos (show nI c < 48 from nI_lt (b := 48) h1 (by omega)), if_neg (fun q => by have := g_dig_iff.mp q; omega)]
    rfl
  · rw [if_neg (show ¬ nI c < 48 from nI_nlt (b := 48) (by omega) (by omega))]
    by_cases h2 : 57 < c
    · rw [if_pos (show (57 : Int32) < nI c from nI_lt (a := 57) h2 (by omega)), if_neg (fun q => by have := g_dig_iff.mp q; omega)]
      rfl
    · rw [if_neg (show ¬ (57 : Int32) < nI c from nI_nlt (a := 57) (by omega) (by omega)), if_pos (g_dig_iff.mpr ⟨by omega, by omega⟩)]
      rfl
theorem s3_num (hl : len ≤ 110) (hx : ∀ k, k < len → X k ≤ 255) (ht : ∀ k, k < len → S.1 2 k = nI (X k)) {s : Nat} (hs : s < len) (hd : g_dig (X s) = true) (h1 : S.1 31 1 = nI s) : f_X3_readNumber (nI len) S = some ((), z_w (z_w (z_w S 31 3 (nI (g_vc X s (t_e X len s - s)))) 31 1 (nI (t_e X len s))) 31 2 (nI (if 99 < g_vr X s (t_e X len s - s) ∨ (X s = 48 ∧ 1 < t_e X len s - s) then 2 else 1))) := by
  have le := t_e_le (X := X) (s := s) (len := len) (by omega)
  have gt := t_e_gt hs hd
  have dg : ∀ j, j < t_e X len s - s → 48 ≤ X (s + j) ∧ X (s + j) ≤ 57 := fun j hj => g_dig_iff.mp (t_e_dig (X := X) (len := len) (s := s) (by omega) (by omega) (by omega))
  have nm := g_num (X := X) (s := s) (n := t_e X len s - s) (by omega) dg
  have r107 : ∀ x : Nat, x ≤ 1 → ∀ S1, f_X3_readNumber_107 (nI x) S1 = some ((), z_w S1 31 2 (nI (if x = 0 then 2 else 1))) := fun x hx S1 => by
    rcases (by omega : x = 0 ∨ x = 1) with rfl | rfl
    · rw [f_X3_readNumber_107, if_pos (c := nI 0 = 0) nI_0]; rfl
    · rw [f_X3_readNumber_107, if_neg (c := nI 1 = 0) (by decide)]; rfl
  have r87 : ∀ S1, f_X3_readNumber_87 (nI (t_e X len s - s)) (nI (if X s = 48 then 1 else 0)) S1 = some ((), z_w S1 31 2 (nI (if 99 < g_vr X s (t_e X len s - s) ∨ (X s = 48 ∧ 1 < t_e X len s - s) then 2 else 1))) := fun S1 => by
    rw [f_X3_readNumber_87]
    generalize hn : t_e X len s - s = n at *
    by_cases n1 : n = 1
    · rw [if_pos (show nI n = 1 by rw [n1]; rfl), if_neg (fun q => nm.1.mp q (Or.inl n1)), show (1 : Int32) = nI 1 from rfl, r107 1 (by omega)]
      rfl
    · rw [if_neg (show ¬ nI n = 1 from fun q => n1 ((nI_eq (b := 1) (by omega) (by omega)).mp q))]
      by_cases n2 : n = 2
      · rw [if_pos (show nI n = 2 by rw [n2]; rfl)]
        by_cases z : X s = 48
        · rw [if_pos z, if_neg (c := nI 1 = 0) (by decide), if_pos (Or.inr ⟨z, by omega⟩), show (0 : Int32) = nI 0 from rfl, r107 0 (by omega)]
          rfl
        · rw [if_neg z, if_pos (c := nI 0 = 0) nI_0, if_neg (fun q => nm.1.mp q (Or.inr ⟨n2, z⟩)), show (1 : Int32) = nI 1 from rfl, r107 1 (by omega)]
          rfl
      · rw [if_neg (show ¬ nI n = 2 from fun q => n2 ((nI_eq (b := 2) (by omega) (by omega)).mp q)), if_pos (nm.1.mpr (by omega)), show (0 : Int32) = nI 0 from rfl, r107 0 (by omega)]
        rfl
  have run : ∀ z : Int32, z = nI (if X s = 48 then 1 else 0) → f_X3_readNumber_25 1000 (nI len) (nI 0) z (z_w (z_w S 31 3 (nI 0)) 31 1 (nI s)) = some ((), z_w (z_w (z_w S 31 3 (nI (g_vc X s (t_e X len s - s)))) 31 1 (nI (t_e X len s))) 31 2 (nI (if 99 < g_vr X s (t_e X len s - s) ∨ (X s = 48 ∧ 1 < t_e X len s - s) then 2 else 1))) := fun z hz => by
    subst hz
    refine x_for (F := fun n j => f_X3_readNumber_25 n (nI len) (nI j) (nI (if X s = 48 then 1 else 0)) (z_w (z_w S 31 3 (nI (g_vc X s j))) 31 1 (nI (s + j)))) (N := t_e X len s - s) ?_ ?_ (d := t_e X len s - s) (a := 0) (n := 1000) (by omega) (by omega)
    · intro n
      rw [show s + (t_e X len s - s) = t_e X len s from by omega, ← r87, f_X3_readNumber_25, b_wh]
      by_cases c : len ≤ t_e X len s
      · rw [if_pos (nI_le c (by omega))]
      · have nd : g_dig (X (t_e X len s)) = false := by
          have := x_fst_yes (fun k => !g_dig (X k)) len (len - s) s (by omega) (by show t_e X len s < len; omega)
          have e : x_fst (fun k => !g_dig (X k)) len (len - s) s = t_e X len s := rfl
          rw [e] at this
          simpa using this
        rw [if_neg (nI_ge (by omega) (by omega)), if_pos ((x_in (by omega)).mpr (by omega)), nI_clamp (by omega), b_wk (by omega), b_wk (by omega), ht _ (by omega), s3_dig (hx _ (by omega)), Option.bind_some, nd, if_neg (c := false = true) (by decide), if_pos (c := nI 0 = 0) nI_0]
    · intro n j hj
      have dj := dg j hj
      have gd : g_dig (X (s + j)) = true := g_dig_iff.mpr dj
      have vl := g_vc_31 (X := X) (len := len) (s := s) (fun k _ hk => hx k hk) (j := j) (by omega)
      have w1 : (z_w (z_w S 31 3 (nI (g_vc X s j))) 31 1 (nI (s + j))).1 31 1 = nI (s + j) := b_wh
      have w2 : (z_w (z_w S 31 3 (nI (g_vc X s j))) 31 1 (nI (s + j))).1 2 (s + j) = nI (X (s + j)) := by rw [b_wk (by omega), b_wk (by omega)]; exact ht _ (by omega)
      have w3 : (z_w (z_w S 31 3 (nI (g_vc X s j))) 31 1 (nI (s + j))).1 31 3 = nI (g_vc X s j) := by rw [b_wj (by omega), b_wh]
      have ev : nI (g_vc X s j) * (10 : Int32) + nI (X (s + j)) - (48 : Int32) = nI (g_vc X s j * 10 + (X (s + j) - 48)) := by
        rw [show (10 : Int32) = nI 10 from rfl, show (48 : Int32) = nI 48 from rfl, pk_mul, nI_add, pk_sub (by omega)]
        exact congrArg nI (by omega)
      rw [f_X3_readNumber_25, w1, if_neg (nI_ge (by omega) (by omega)), if_pos ((x_in (by omega)).mpr (by omega)), nI_clamp (by omega), w2, s3_dig (hx _ (by omega)), Option.bind_some, gd, if_pos rfl, if_neg (c := nI 1 = 0) (by decide), g_vc]
      dsimp only
      by_cases c : 2 ≤ j
      · rw [if_pos (show (2 : Int32) ≤ nI j from nI_le (a := 2) c (by omega)), if_pos c, w1, z_ww, show (1 : Int32) = nI 1 from rfl, nI_add, nI_add, Nat.add_assoc]
      · rw [if_neg (show ¬ (2 : Int32) ≤ nI j from nI_ge (b := 2) (by omega) (by omega)), if_neg c, w1, if_pos ((x_in (by omega)).mpr (by omega)), nI_clamp (by omega), w2, w3, ev, b_wj (by omega), b_wh, show (1 : Int32) = nI 1 from rfl, nI_add, nI_add, Nat.add_assoc]
        congr 1
        rw [z_wc _ _ _ (Or.inr (by omega)), z_ww, z_wc (z_w S 31 3 (nI (g_vc X s j))) _ _ (Or.inr (by omega)), z_ww]
  have e31 : (z_w S 31 3 0).1 31 1 = nI s := by rw [b_wj (by omega)]; exact h1
  have es : z_w S 31 3 0 = z_w (z_w S 31 3 (nI 0)) 31 1 (nI s) := by
    refine x_zext (fun q j => ?_) rfl
    rw [b_w (z_w S 31 3 (nI 0))]
    by_cases q1 : q = 31
    · subst q1
      rw [if_pos rfl]
      by_cases j1 : j = 1
      · rw [if_pos j1, j1]; exact e31
      · rw [if_neg j1]; rfl
    · rw [if_neg q1]; rfl
  rw [f_X3_readNumber, e31, if_pos ((x_in (by omega)).mpr (by omega)), nI_clamp (by omega), b_wk (by omega), ht s hs]
  by_cases z : X s = 48
  · rw [if_pos (show nI (X s) = 48 by rw [z]; rfl), es]
    exact run _ (by rw [if_pos z]; rfl)
  · have := hx s hs
    rw [if_neg (show ¬ nI (X s) = 48 from fun q => z ((nI_eq (b := 48) (by omega) (by omega)).mp q)), es]
    exact run _ (by rw [if_neg z]; rfl)
/-- the class's token -/
def cTk (X : Nat → Nat) (len a : Nat) (S : zS) : Prop := S.1 31 0 = nI (t_s X len a) ∧ S.1 31 1 = nI (t_n X len a) ∧ S.1 31 2 = nI (g_ctk (t_k X len a) (t_v X len a)) ∧ (t_k X len a = 2 → S.1 31 3 = nI (t_v X len a))
theorem s3_tok (hl : len ≤ 110) (hx : ∀ k, k < len → X k ≤ 255) (ht : ∀ k, k < len → S.1 2 k = nI (X k)) (ha : a ≤ len) (h1 : S.1 31 1 = nI a) : ∃ S', f_X3_readToken (nI len) S = some ((), S') ∧ x_fr wT3 S S' ∧ cTk X len a S' := by
  have sl := t_s_le (X := X) ha
  have eS : z_w S 31 1 (nI a) = S := by
    refine x_zext (fun q j => ?_) rfl
    rw [b_w]
    by_cases q1 : q = 31
    · subst q1
      rw [if_pos rfl]
      by_cases j1 : j = 1
      · rw [if_pos j1, j1, h1]
      · rw [if_neg j1]
    · rw [if_neg q1]
  have e7 : f_X3_readToken_7 1000 (nI len) S = f_X3_readToken_39 (nI len) (z_w S 31 1 (nI (t_s X len a))) := by
    have hh := x_find (F := fun n k => f_X3_readToken_7 n (nI len) (z_w S 31 1 (nI k))) (N := len) (p := fun k => !decide (X k = 32)) (yes := fun k => f_X3_readToken_39 (nI len) (z_w S 31 1 (nI k))) (no := f_X3_readToken_39 (nI len) (z_w S 31 1 (nI len))) ?_ ?_ (d := len - a) (a := a) (n := 1000) (by omega) (by omega)
    · have hh' : f_X3_readToken_7 1000 (nI len) (z_w S 31 1 (nI a)) = if t_s X len a < len then f_X3_readToken_39 (nI len) (z_w S 31 1 (nI (t_s X len a))) else f_X3_readToken_39 (nI len) (z_w S 31 1 (nI len)) := hh
      rw [eS] at hh'
      rw [hh']
      by_cases c : t_s X len a < len
      · rw [if_pos c]
      · rw [if_neg c, show t_s X len a = len from by omega]
    · intro n
      rw [f_X3_readToken_7, b_wh, if_pos (nI_le (Nat.le_refl _) (by omega))]
    · intro n k hk
      have := hx k hk
      rw [f_X3_readToken_7, b_wh, if_neg (nI_ge hk (by omega)), if_pos ((x_in (by omega)).mpr (by omega)), nI_clamp (by omega), b_wk (by omega), ht k hk]
      by_cases c : X k = 32
      · rw [if_pos (show nI (X k) = 32 by rw [c]; rfl), c, z_ww, show (1 : Int32) = nI 1 from rfl, nI_add]
        simp
      · rw [if_neg (show ¬ nI (X k) = 32 from fun q => c ((nI_eq (b := 32) (by omega) (by omega)).mp q)), decide_eq_false c]
        rfl
  rw [f_X3_readToken, if_neg (show ¬ (110 : Int32) < nI len from nI_nlt (a := 110) (by omega) (by omega)), e7, f_X3_readToken_39, b_wh]
  have v1 : (z_w (z_w S 31 1 (nI (t_s X len a))) 31 0 (nI (t_s X len a))).1 31 1 = nI (t_s X len a) := by rw [b_wj (by omega), b_wh]
  have fr1 : x_fr wT3 S (z_w (z_w S 31 1 (nI (t_s X len a))) 31 0 (nI (t_s X len a))) := x_fr_w (x_fr_w x_fr_rf ⟨rfl, by omega⟩) ⟨rfl, by omega⟩
  have ht1 : ∀ k, k < len → (z_w (z_w S 31 1 (nI (t_s X len a))) 31 0 (nI (t_s X len a))).1 2 k = nI (X k) := fun k hk => by rw [fr1.2 _ _ (by unfold wT3; omega)]; exact ht k hk
  have v0 : (z_w (z_w S 31 1 (nI (t_s X len a))) 31 0 (nI (t_s X len a))).1 31 0 = nI (t_s X len a) := b_wh
  generalize z_w (z_w S 31 1 (nI (t_s X len a))) 31 0 (nI (t_s X len a)) = S1 at *
  rw [v1]
  by_cases c : t_s X len a = len
  · rw [if_neg (nI_nlt (by omega) (by omega))]
    refine ⟨_, rfl, x_fr_w fr1 ⟨rfl, by omega⟩, ?_, ?_, ?_, fun q => ?_⟩
    · rw [b_wj (by omega)]; exact v0
    · rw [b_wj (by omega), v1]
      unfold t_n
      rw [if_pos c, c]
    · rw [b_wh]
      unfold g_ctk t_k
      rw [if_pos c, if_pos rfl]
      rfl
    · unfold t_k at q
      rw [if_pos c] at q
      omega
  · have sx := hx (t_s X len a) (by omega)
    rw [if_pos (nI_lt (by omega) (by omega)), if_pos ((x_in (by omega)).mpr (by omega)), nI_clamp (by omega), ht1 _ (by omega), s3_dig sx, Option.bind_some]
    by_cases d : g_dig (X (t_s X len a)) = true
    · rw [if_pos d, if_neg (c := nI 1 = 0) (by decide)]
      dsimp only
      rw [s3_num hl hx ht1 (by omega) d v1, Option.bind_some]
      have le := t_e_le (X := X) (s := t_s X len a) (len := len) sl.2
      have gt := t_e_gt (X := X) (len := len) (s := t_s X len a) (by omega) d
      have dg : ∀ j, j < t_e X len (t_s X len a) - t_s X len a → 48 ≤ X (t_s X len a + j) ∧ X (t_s X len a + j) ≤ 57 := fun j hj => g_dig_iff.mp (t_e_dig (X := X) (len := len) (s := t_s X len a) (by omega) (by omega) (by omega))
      have nm := g_num (X := X) (s := t_s X len a) (n := t_e X len (t_s X len a) - t_s X len a) (by omega) dg
      have kk : t_k X len a = if 99 < g_vr X (t_s X len a) (t_d X len a) ∨ (X (t_s X len a) = 48 ∧ 1 < t_d X len a) then 4 else 2 := by
        unfold t_k
        rw [if_neg c, if_pos d]
      refine ⟨_, rfl, x_fr_w (x_fr_w (x_fr_w fr1 ⟨rfl, by omega⟩) ⟨rfl, by omega⟩) ⟨rfl, by omega⟩, ?_, ?_, ?_, fun q => ?_⟩
      · rw [b_wj (by omega), b_wj (by omega), b_wj (by omega)]; exact v0
      · rw [b_wj (by omega), b_wh]
        unfold t_n
        rw [if_neg c, if_pos d]
      · rw [b_wh, kk]
        unfold g_ctk t_d
        by_cases z : 99 < g_vr X (t_s X len a) (t_e X len (t_s X len a) - t_s X len a) ∨ (X (t_s X len a) = 48 ∧ 1 < t_e X len (t_s X len a) - t_s X len a)
        · rw [if_pos z, if_pos z]; rfl
        · rw [if_neg z, if_neg z]; rfl
      · rw [b_wj (by omega), b_wj (by omega), b_wh]
        unfold t_v
        rw [if_pos d]
        rw [kk] at q
        have z : ¬ (99 < g_vr X (t_s X len a) (t_d X len a) ∨ (X (t_s X len a) = 48 ∧ 1 < t_d X len a)) := fun z => by rw [if_pos z] at q; omega
        unfold t_d at z ⊢
        rw [nm.2 (Classical.byContradiction (fun y => z (nm.1.mpr y)))]
    · rw [if_neg d, if_pos (c := nI 0 = 0) nI_0]
      dsimp only
      have eN : S1.1 31 1 + 1 = nI (t_s X len a + 1) := by rw [v1, show (1 : Int32) = nI 1 from rfl, nI_add]
      rw [v1, show nI (t_s X len a) + (1 : Int32) = nI (t_s X len a + 1) from by rw [← v1]; exact eN]
      have tn : t_n X len a = t_s X len a + 1 := by unfold t_n; rw [if_neg c, if_neg d]
      have tv : t_v X len a = X (t_s X len a) := by unfold t_v; rw [if_neg d]
      have fin : ∀ y : Nat, y = g_ctk (t_k X len a) (t_v X len a) → t_k X len a ≠ 2 → ∃ S', some ((), z_w (z_w S1 31 1 (nI (t_s X len a + 1))) 31 2 (nI y)) = some ((), S') ∧ x_fr wT3 S S' ∧ cTk X len a S' := fun y hy hk => by
        refine ⟨_, rfl, x_fr_w (x_fr_w fr1 ⟨rfl, by omega⟩) ⟨rfl, by omega⟩, ?_, ?_, ?_, fun q => absurd q hk⟩
        · rw [b_wj (by omega), b_wj (by omega)]; exact v0
        · rw [b_wj (by omega), b_wh, tn]
        · rw [b_wh, hy]
      have ne : ∀ y : Nat, y ≤ 255 → X (t_s X len a) ≠ y → ¬ nI (X (t_s X len a)) = nI y := fun y hy h q => h ((nI_eq (by omega) (by omega)).mp q)
      have kk : t_k X len a = if X (t_s X len a) = 59 then 3 else if g_isL (X (t_s X len a)) = true then 1 else 4 := by
        unfold t_k
        rw [if_neg c, if_neg d]
      have yes : f_X3_readToken_134 (nI (X (t_s X len a))) 1 (z_w S1 31 1 (nI (t_s X len a + 1))) = some ((), z_w (z_w S1 31 1 (nI (t_s X len a + 1))) 31 2 (nI (X (t_s X len a)))) := by
        rw [f_X3_readToken_134, if_neg (show ¬ (1 : Int32) = 0 from by decide)]
      have no : f_X3_readToken_134 (nI (X (t_s X len a))) 0 (z_w S1 31 1 (nI (t_s X len a + 1))) = some ((), z_w (z_w S1 31 1 (nI (t_s X len a + 1))) 31 2 (nI 2)) := by
        rw [f_X3_readToken_134, if_pos rfl]
        rfl
      have lt : ∀ y, X (t_s X len a) = y → (y = 104 ∨ y = 107 ∨ y = 112 ∨ y = 115) → X (t_s X len a) = g_ctk (t_k X len a) (t_v X len a) ∧ t_k X len a ≠ 2 := fun y hy h => by
        have l1 : g_isL (X (t_s X len a)) = true := by
          unfold g_isL
          rw [hy]
          rcases h with rfl | rfl | rfl | rfl <;> rfl
        rw [kk, if_neg (by omega), if_pos l1, tv]
        exact ⟨rfl, by omega⟩
      by_cases l1 : X (t_s X len a) = 104
      · rw [if_pos (show nI (X (t_s X len a)) = 104 by rw [l1]; rfl), yes]
        exact fin _ (lt _ l1 (by omega)).1 (lt _ l1 (by omega)).2
      · rw [if_neg (show ¬ nI (X (t_s X len a)) = 104 from ne 104 (by omega) l1)]
        by_cases l2 : X (t_s X len a) = 107
        · rw [if_pos (show nI (X (t_s X len a)) = 107 by rw [l2]; rfl), yes]
          exact fin _ (lt _ l2 (by omega)).1 (lt _ l2 (by omega)).2
        · rw [if_neg (show ¬ nI (X (t_s X len a)) = 107 from ne 107 (by omega) l2)]
          by_cases l3 : X (t_s X len a) = 112
          · rw [if_pos (show nI (X (t_s X len a)) = 112 by rw [l3]; rfl), yes]
            exact fin _ (lt _ l3 (by omega)).1 (lt _ l3 (by omega)).2
          · rw [if_neg (show ¬ nI (X (t_s X len a)) = 112 from ne 112 (by omega) l3)]
            by_cases l4 : X (t_s X len a) = 115
            · rw [if_pos (show nI (X (t_s X len a)) = 115 by rw [l4]; rfl), yes]
              exact fin _ (lt _ l4 (by omega)).1 (lt _ l4 (by omega)).2
            · rw [if_neg (show ¬ nI (X (t_s X len a)) = 115 from ne 115 (by omega) l4)]
              have nl : ¬ g_isL (X (t_s X len a)) = true := by
                unfold g_isL
                simp [l1, l2, l3, l4]
              by_cases l5 : X (t_s X len a) = 59
              · rw [if_pos (show nI (X (t_s X len a)) = 59 by rw [l5]; rfl), yes]
                refine fin _ ?_ ?_
                · rw [kk, if_pos l5, l5]; rfl
                · rw [kk, if_pos l5]; omega
              · rw [if_neg (show ¬ nI (X (t_s X len a)) = 59 from ne 59 (by omega) l5), no]
                refine fin _ ?_ ?_
                · rw [kk, if_neg l5, if_neg nl]; rfl
                · rw [kk, if_neg l5, if_neg nl]; omega
end TR3
