/-! ===== counting bits ===== -/
def x_bc1 (x : Nat) : Nat := x - ((x / 2) &&& 1431655765)
def x_bc2 (a : Nat) : Nat := (a &&& 858993459) + ((a / 4) &&& 858993459)
def x_bc3 (b : Nat) : Nat := (b + b / 16) &&& 252645135
def x_bc4 (c : Nat) : Nat := c + c / 256
def x_bc5 (d : Nat) : Nat := (d + d / 65536) &&& 63
def x_bcN (x : Nat) : Nat := x_bc5 (x_bc4 (x_bc3 (x_bc2 (x_bc1 x))))
set_option maxRecDepth 100000 in
theorem x_bcN_all : (List.range 128).all (fun i => (List.range 128).all (fun j => x_bcN (128 * i + j) == b_ct (128 * i + j) 14)) = true := by decide +kernel
theorem x_bcN_eq {b : Nat} (hb : b < 2 ^ 14) : x_bcN b = b_ct b 14 := by
  have h1 := List.all_eq_true.mp x_bcN_all (b / 128) (List.mem_range.mpr (by omega))
  have h2 := List.all_eq_true.mp h1 (b % 128) (List.mem_range.mpr (by omega))
  have h3 : 128 * (b / 128) + b % 128 = b := by omega
  rw [h3] at h2
  exact beq_iff_eq.mp h2
theorem x_us {n : Nat} (hn : n < 2 ^ 32) (s : Int32) (k : Nat) (hs : ((s.toUInt32 &&& Int32.toUInt32 31).toBitVec % 32).toNat = k) : ((nI n).toUInt32 >>> (s.toUInt32 &&& Int32.toUInt32 31)).toInt32 = nI (n / 2 ^ k) := pk_ushrN hn s k hs
theorem b_bc {b : Nat} (hb : b < 2 ^ 14) (S : zS) : f_J6_bitCount_0f7a4 (nI b) S = some (nI (b_ct b 14), S) := by
  rw [← x_bcN_eq hb]
  unfold f_J6_bitCount_0f7a4 x_bcN
  refine congrArg (fun z => some (z, S)) ?_
  have m1 : (1431655765 : Int32) = nI 1431655765 := rfl
  have m2 : (858993459 : Int32) = nI 858993459 := rfl
  have m3 : (252645135 : Int32) = nI 252645135 := rfl
  have m4 : (63 : Int32) = nI 63 := rfl
  have a1 : b / 2 &&& 1431655765 ≤ b := Nat.le_trans Nat.and_le_left (Nat.div_le_self _ _)
  have e1 : nI b - ((((nI b).toUInt32 >>> ((1 : Int32).toUInt32 &&& Int32.toUInt32 31)).toInt32) &&& 1431655765) = nI (x_bc1 b) := by
    rw [x_us (by omega) 1 1 (by decide), m1, fa_and, Nat.pow_one, pk_sub a1]
    rfl
  rw [e1]
  have h1 : x_bc1 b < 2 ^ 14 := by unfold x_bc1; omega
  generalize x_bc1 b = a at h1
  have e2 : ((nI a).toUInt32 >>> ((2 : Int32).toUInt32 &&& Int32.toUInt32 31)).toInt32 = nI (a / 4) := x_us (by omega) 2 2 (by decide)
  have e2' : nI ((a &&& 858993459) + ((a / 4) &&& 858993459)) = nI (x_bc2 a) := rfl
  rw [e2, m2, fa_and, fa_and, nI_add, e2']
  have h2 : x_bc2 a < 2 ^ 15 := by
    have q1 : a &&& 858993459 ≤ a := Nat.and_le_left
    have q2 : a / 4 &&& 858993459 ≤ a / 4 := Nat.and_le_left
    unfold x_bc2
    omega
  generalize x_bc2 a = c at h2
  have e3 : ((nI c).toUInt32 >>> ((4 : Int32).toUInt32 &&& Int32.toUInt32 31)).toInt32 = nI (c / 16) := x_us (by omega) 4 4 (by decide)
  have e3' : nI ((c + c / 16) &&& 252645135) = nI (x_bc3 c) := rfl
  rw [e3, m3, nI_add, fa_and, e3']
  have h3 : x_bc3 c < 2 ^ 16 := by
    have q1 : (c + c / 16) &&& 252645135 ≤ c + c / 16 := Nat.and_le_left
    unfold x_bc3
    omega
  generalize x_bc3 c = d at h3
  have e4 : ((nI d).toUInt32 >>> ((8 : Int32).toUInt32 &&& Int32.toUInt32 31)).toInt32 = nI (d / 256) := x_us (by omega) 8 8 (by decide)
  have e4' : nI (d + d / 256) = nI (x_bc4 d) := rfl
  rw [e4, nI_add, e4']
  have h4 : x_bc4 d < 2 ^ 17 := by unfold x_bc4; omega
  generalize x_bc4 d = e at h4
  have e5 : ((nI e).toUInt32 >>> ((16 : Int32).toUInt32 &&& Int32.toUInt32 31)).toInt32 = nI (e / 65536) := x_us (by omega) 16 16 (by decide)
  rw [e5, nI_add, m4, fa_and]
  rfl
def x_onN : Nat → Nat → Nat → Option Nat
  | 0, _, _ => none
  | n + 1, a, b => if b = 0 then some a else x_onN n (a + 1) (b &&& (b - 1))
set_option maxRecDepth 100000 in
theorem x_onN_all : (List.range 128).all (fun i => (List.range 128).all (fun j => x_onN 15 0 (128 * i + j) == some (b_ct (128 * i + j) 14))) = true := by decide +kernel
theorem x_onN_run : ∀ (m n a b r : Nat) (S : zS), x_onN m a b = some r → m ≤ n → b < 2 ^ 31 → f_X9_ones_4 n (nI a) (nI b) S = some (nI r, S)
  | 0, _, _, _, _, _, h, _, _ => by cases h
  | m + 1, n, a, b, r, S, h, hn, hb => by
    obtain ⟨n, rfl⟩ : ∃ k, n = k + 1 := ⟨n - 1, by omega⟩
    rw [x_onN] at h
    rw [f_X9_ones_4]
    by_cases e : b = 0
    · rw [if_pos e] at h
      subst e
      rw [if_pos nI_0]
      cases h
      rfl
    · rw [if_neg e] at h
      rw [if_neg (nI_ne0 (by omega) hb)]
      have e1 : nI b - 1 = nI (b - 1) := pk_sub (a := b) (b := 1) (by omega)
      rw [e1, fa_and, nI_1]
      exact x_onN_run m n (a + 1) _ r S h (by omega) (Nat.lt_of_le_of_lt Nat.and_le_left hb)
theorem b_ones {b : Nat} (hb : b < 2 ^ 14) (S : zS) : f_X9_ones (nI b) S = some (nI (b_ct b 14), S) := by
  have h1 := List.all_eq_true.mp x_onN_all (b / 128) (List.mem_range.mpr (by omega))
  have h2 := List.all_eq_true.mp h1 (b % 128) (List.mem_range.mpr (by omega))
  have h3 : 128 * (b / 128) + b % 128 = b := by omega
  rw [h3] at h2
  exact x_onN_run 15 1000 0 b _ S (beq_iff_eq.mp h2) (by omega) (by omega)
/-- the lowest bit of a set of nine -/
def x_low (b : Nat) : Nat := x_f1 (fun i => b.testBit i) 9
theorem x_low_yes {b : Nat} (h0 : b ≠ 0) (hb : b < 2 ^ 9) : x_low b < 9 ∧ b.testBit (x_low b) = true ∧ ∀ i, i < x_low b → b.testBit i = false := by
  have h : x_low b < 9 := by
    by_cases h : x_low b < 9
    · exact h
    · exfalso
      apply h0
      apply Nat.eq_of_testBit_eq
      intro i
      rw [Nat.zero_testBit]
      by_cases hi : i < 9
      · exact x_f1_no (p := fun i => b.testBit i) (n := 9) (k := i) (Nat.lt_of_lt_of_le hi (Nat.le_of_not_lt h))
      · exact b_bit_hi hb (by omega)
  exact ⟨h, x_f1_yes (p := fun i => b.testBit i) h, fun i hi => x_f1_no (p := fun i => b.testBit i) (n := 9) hi⟩
set_option maxRecDepth 100000 in
theorem x_tz_all : (List.range 512).all (fun b => decide (b = 0 ∨ (f_J6_numberOfTrailingZeros_0f7a4 (nI b) ((fun _ _ => 0), 0, 0)).map (fun r => r.1) = some (nI (x_low b)))) = true := by decide +kernel
theorem x_tz_S (x : Int32) (S : zS) : f_J6_numberOfTrailingZeros_0f7a4 x S = ((f_J6_numberOfTrailingZeros_0f7a4 x ((fun _ _ => 0), 0, 0)).map (fun r => r.1)).map (fun r => (r, S)) := by
  unfold f_J6_numberOfTrailingZeros_0f7a4 f_J6_numberOfTrailingZeros_0f7a4_34 f_J6_numberOfTrailingZeros_0f7a4_49 f_J6_numberOfTrailingZeros_0f7a4_62
  repeat' split
  all_goals rfl
theorem b_tz {b : Nat} (h0 : b ≠ 0) (hb : b < 2 ^ 9) (S : zS) : f_J6_numberOfTrailingZeros_0f7a4 (nI b) S = some (nI (x_low b), S) := by
  have h1 := of_decide_eq_true (List.all_eq_true.mp x_tz_all b (List.mem_range.mpr hb))
  rcases h1 with h1 | h1
  · exact absurd h1 h0
  · rw [x_tz_S, h1]
    rfl
theorem b_low {b : Nat} (h0 : b ≠ 0) (hb : b < 2 ^ 9) (S : zS) : f_X9_lowest (nI b) S = some (nI (x_low b), S) := by
  have hl := x_low_yes h0 hb
  unfold f_X9_lowest
  refine x_for (F := fun n k => f_X9_lowest_2 n (nI b) (nI k) S) (N := x_low b) ?_ ?_ (d := x_low b) (a := 0) (n := 1000) (by omega) (by omega)
  · intro n
    have h9 := hl.1
    simp (disch := omega) only [f_X9_lowest_2, x_l0, x_l1, x_l2, x_l3, x_l4, x_l5, x_l6, x_l7, x_l8, x_l9, x_l10, x_l12, x_l13, x_l14, x_l16, x_l18, x_l20, x_l22, x_l32, x_l36, x_l48, x_l50, x_l54, x_l57, x_l59, x_l74, x_l81, x_l99, x_l104, x_l107, x_l110, x_l112, x_l115, x_l117, x_l162, x_l255, x_l512, x_l99999, x_l1000000, nI_leI, nI_ltI, nI_eq, nI_add, pk_mul, nI_clamp, x_in, x_bit, x_b0, x_b1, x_b0n, fa_or, fa_and, fb_xorI, x_an, Option.bind_some, b_has8, b_has9, ↓reduceIte, not_true_eq_false, not_false_eq_true, hl.2.1]
    rfl
  · intro n k hk
    have h9 := hl.1
    have h2 := hl.2.2 k hk
    simp (disch := omega) only [f_X9_lowest_2, x_l0, x_l1, x_l2, x_l3, x_l4, x_l5, x_l6, x_l7, x_l8, x_l9, x_l10, x_l12, x_l13, x_l14, x_l16, x_l18, x_l20, x_l22, x_l32, x_l36, x_l48, x_l50, x_l54, x_l57, x_l59, x_l74, x_l81, x_l99, x_l104, x_l107, x_l110, x_l112, x_l115, x_l117, x_l162, x_l255, x_l512, x_l99999, x_l1000000, nI_leI, nI_ltI, nI_eq, nI_add, pk_mul, nI_clamp, x_in, x_bit, x_b0, x_b1, x_b0n, fa_or, fa_and, fb_xorI, x_an, Option.bind_some, b_has8, b_has9, ↓reduceIte, not_true_eq_false, not_false_eq_true, h2]
    simp
