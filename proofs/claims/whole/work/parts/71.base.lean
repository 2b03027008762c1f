/-! ===== pure part: numbers, bits, places ===== -/
theorem x_l0 : (0 : Int32) = nI 0 := rfl
theorem x_l1 : (1 : Int32) = nI 1 := rfl
theorem x_l2 : (2 : Int32) = nI 2 := rfl
theorem x_l3 : (3 : Int32) = nI 3 := rfl
theorem x_l4 : (4 : Int32) = nI 4 := rfl
theorem x_l5 : (5 : Int32) = nI 5 := rfl
theorem x_l6 : (6 : Int32) = nI 6 := rfl
theorem x_l7 : (7 : Int32) = nI 7 := rfl
theorem x_l8 : (8 : Int32) = nI 8 := rfl
theorem x_l9 : (9 : Int32) = nI 9 := rfl
theorem x_l10 : (10 : Int32) = nI 10 := rfl
theorem x_l12 : (12 : Int32) = nI 12 := rfl
theorem x_l13 : (13 : Int32) = nI 13 := rfl
theorem x_l14 : (14 : Int32) = nI 14 := rfl
theorem x_l16 : (16 : Int32) = nI 16 := rfl
theorem x_l18 : (18 : Int32) = nI 18 := rfl
theorem x_l20 : (20 : Int32) = nI 20 := rfl
theorem x_l22 : (22 : Int32) = nI 22 := rfl
theorem x_l32 : (32 : Int32) = nI 32 := rfl
theorem x_l36 : (36 : Int32) = nI 36 := rfl
theorem x_l48 : (48 : Int32) = nI 48 := rfl
theorem x_l50 : (50 : Int32) = nI 50 := rfl
theorem x_l54 : (54 : Int32) = nI 54 := rfl
theorem x_l57 : (57 : Int32) = nI 57 := rfl
theorem x_l59 : (59 : Int32) = nI 59 := rfl
theorem x_l74 : (74 : Int32) = nI 74 := rfl
theorem x_l81 : (81 : Int32) = nI 81 := rfl
theorem x_l99 : (99 : Int32) = nI 99 := rfl
theorem x_l104 : (104 : Int32) = nI 104 := rfl
theorem x_l107 : (107 : Int32) = nI 107 := rfl
theorem x_l110 : (110 : Int32) = nI 110 := rfl
theorem x_l112 : (112 : Int32) = nI 112 := rfl
theorem x_l115 : (115 : Int32) = nI 115 := rfl
theorem x_l117 : (117 : Int32) = nI 117 := rfl
theorem x_l162 : (162 : Int32) = nI 162 := rfl
theorem x_l255 : (255 : Int32) = nI 255 := rfl
theorem x_l512 : (512 : Int32) = nI 512 := rfl
theorem x_l99999 : (99999 : Int32) = nI 99999 := rfl
theorem x_l1000000 : (1000000 : Int32) = nI 1000000 := rfl
theorem b_in {j n : Nat} (h : j < n) (hn : n < 2 ^ 31) : z_in (nI j) n := by
  refine ⟨?_, ?_⟩ <;> rw [nI_toInt (by omega)] <;> omega
theorem x_in {j n : Nat} (h : j < 2 ^ 31) : z_in (nI j) n ↔ j < n := by
  unfold z_in
  rw [nI_toInt h]
  omega
theorem b_inN {x : Int32} {n : Nat} (hn : n < 2 ^ 31) (h : z_in x n) : ∃ j, j < n ∧ x = nI j := vp_in_of (vp_in_iff.mpr h) hn
theorem b_w (S : zS) (q i k j : Nat) (x : Int32) : (z_w S q i x).1 k j = if k = q then (if j = i then x else S.1 q j) else S.1 k j := by
  show z_ui S.1 q (upd (S.1 q) i x) k j = _
  unfold z_ui upd
  by_cases h : k = q
  · subst h
    rw [if_pos rfl, if_pos rfl]
  · rw [if_neg h, if_neg h]
theorem b_w2 (S : zS) (q i : Nat) (x : Int32) : (z_w S q i x).2 = S.2 := rfl
theorem b_wk {S : zS} {q i k j : Nat} {x : Int32} (h : k ≠ q) : (z_w S q i x).1 k j = S.1 k j := by
  rw [b_w, if_neg h]
theorem b_wj {S : zS} {q i j : Nat} {x : Int32} (h : j ≠ i) : (z_w S q i x).1 q j = S.1 q j := by rw [b_w, if_pos rfl, if_neg h]
theorem b_wh {S : zS} {q i : Nat} {x : Int32} : (z_w S q i x).1 q i = x := by rw [b_w, if_pos rfl, if_pos rfl]
theorem b_sh : ∀ k, k < 31 → ((nI k &&& 31).toBitVec.smod 32).toNat = k := by decide
theorem b_shr {b k : Nat} (hb : b < 2 ^ 31) (hk : k < 31) : nI b >>> (nI k &&& 31) = nI (b / 2 ^ k) := pk_shrN hb _ k (b_sh k hk)
theorem b_shl {n k : Nat} (hk : k < 31) (h : n * 2 ^ k < 2 ^ 32) : nI n <<< (nI k &&& 31) = nI (n * 2 ^ k) := pk_shlN _ k (b_sh k hk) h
theorem x_bit {k : Nat} (hk : k < 31) : nI 1 <<< (nI k &&& 31) = nI (2 ^ k) := by
  have h : (2 : Nat) ^ k < 2 ^ 31 := Nat.pow_lt_pow_right (by decide) hk
  have := b_shl (n := 1) hk (by omega)
  rw [Nat.one_mul] at this
  exact this
theorem b_and1 {b : Nat} (hb : b < 2 ^ 31) : nI b &&& 1 = nI (b % 2) := pk_andN (by omega) 1 (by decide)
theorem b_tb {b k : Nat} (hb : b < 2 ^ 31) (hk : k < 31) : (nI b >>> (nI k &&& 31)) &&& 1 = if b.testBit k then 1 else 0 := by
  rw [b_shr hb hk, b_and1 (Nat.lt_of_le_of_lt (Nat.div_le_self _ _) hb)]
  have h := Nat.testBit_eq_decide_div_mod_eq (x := b) (i := k)
  by_cases ht : b.testBit k = true
  · rw [if_pos ht]
    rw [ht] at h
    have h2 : b / 2 ^ k % 2 = 1 := by simpa using h.symm
    rw [h2]
    rfl
  · rw [if_neg ht]
    have ht' : b.testBit k = false := by simpa using ht
    rw [ht'] at h
    have h2 : ¬ b / 2 ^ k % 2 = 1 := by simpa using h.symm
    have h3 : b / 2 ^ k % 2 = 0 := by omega
    rw [h3]
    rfl
theorem b_has8 {b k : Nat} (hb : b < 2 ^ 31) (hk : k < 31) (S : zS) : f_X8_has (nI b) (nI k) S = some (if b.testBit k = true then nI 1 else nI 0, S) := by
  unfold f_X8_has
  rw [b_tb hb hk]
  by_cases ht : b.testBit k = true <;> simp [ht] <;> rfl
theorem b_has9 {b k : Nat} (hb : b < 2 ^ 31) (hk : k < 31) (S : zS) : f_X9_has (nI b) (nI k) S = some (if b.testBit k = true then nI 1 else nI 0, S) := by
  unfold f_X9_has
  rw [b_tb hb hk]
  by_cases ht : b.testBit k = true <;> simp [ht] <;> rfl
theorem x_b0 {c : Prop} [Decidable c] : ((if c then nI 1 else nI 0) = nI 0) ↔ ¬ c := by
  by_cases h : c
  · rw [if_pos h]
    exact ⟨fun q => absurd q (by decide), fun q => absurd h q⟩
  · rw [if_neg h]
    exact ⟨fun _ => h, fun _ => rfl⟩
theorem x_b1 {c : Prop} [Decidable c] : ((if c then nI 1 else nI 0) = nI 0 ∨ (if c then nI 1 else nI 0) = nI 1) ↔ True := by
  by_cases h : c
  · rw [if_pos h]; exact ⟨fun _ => trivial, fun _ => Or.inr rfl⟩
  · rw [if_neg h]; exact ⟨fun _ => trivial, fun _ => Or.inl rfl⟩
theorem x_b0n {c : Prop} [Decidable c] : ((if c then nI 1 else nI 0) = nI 1) ↔ c := by
  by_cases h : c
  · rw [if_pos h]; exact ⟨fun _ => h, fun _ => rfl⟩
  · rw [if_neg h]
    exact ⟨fun q => absurd q (by decide), fun q => absurd q h⟩
/-- a without the bits of b -/
def b_an (a b : Nat) : Nat := a &&& ((2 ^ 31 - 1) ^^^ b)
theorem b_an_bit {a b : Nat} (ha : a < 2 ^ 31) (i : Nat) : (b_an a b).testBit i = (a.testBit i && !b.testBit i) := by
  unfold b_an
  rw [Nat.testBit_and, Nat.testBit_xor, Nat.testBit_two_pow_sub_one]
  by_cases hi : i < 31
  · simp [hi]
  · have : a.testBit i = false := Nat.testBit_lt_two_pow (Nat.lt_of_lt_of_le ha (Nat.pow_le_pow_right (by decide) (by omega)))
    simp [this]
theorem b_an_lt {a b n : Nat} (h : a < 2 ^ n) : b_an a b < 2 ^ n := Nat.lt_of_le_of_lt Nat.and_le_left h
theorem b_an_le (a b : Nat) : b_an a b ≤ a := Nat.and_le_left
theorem x_an {a b : Nat} (ha : a < 2 ^ 31) : nI a &&& (nI b ^^^ (-nI 1)) = nI (b_an a b) := by
  apply Int32.toBitVec_inj.1
  apply BitVec.eq_of_getLsbD_eq
  intro i hi
  have e1 : (-nI 1 : Int32).toBitVec = BitVec.allOnes 32 := by decide
  rw [Int32.toBitVec_and, Int32.toBitVec_xor, e1]
  show (BitVec.ofNat 32 a &&& (BitVec.ofNat 32 b ^^^ BitVec.allOnes 32)).getLsbD i = (BitVec.ofNat 32 (b_an a b)).getLsbD i
  rw [BitVec.getLsbD_and, BitVec.getLsbD_xor, BitVec.getLsbD_allOnes, BitVec.getLsbD_ofNat, BitVec.getLsbD_ofNat, BitVec.getLsbD_ofNat, b_an_bit ha]
  simp [hi]
theorem b_lt_of_bits {b n : Nat} (h : ∀ i, n ≤ i → b.testBit i = false) : b < 2 ^ n := Nat.lt_pow_two_of_testBit b h
theorem b_or_lt {a b n : Nat} (ha : a < 2 ^ n) (hb : b < 2 ^ n) : a ||| b < 2 ^ n := Nat.or_lt_two_pow ha hb
theorem b_bit_hi {b n i : Nat} (hb : b < 2 ^ n) (hi : n ≤ i) : b.testBit i = false := Nat.testBit_lt_two_pow (Nat.lt_of_lt_of_le hb (Nat.pow_le_pow_right (by decide) hi))
/-- how many of the first n bits -/
def b_ct (b n : Nat) : Nat := fb_ct (fun i => b.testBit i) n
/-! ===== loops ===== -/
theorem x_for {γ : Type} {F : Nat → Nat → γ} {N : Nat} {fin : γ} (hd : ∀ n, F (n + 1) N = fin) (hs : ∀ n k, k < N → F (n + 1) k = F n (k + 1)) : ∀ {d a n : Nat}, N = a + d → d < n → F n a = fin
  | 0, a, n, h, hn => by
    obtain ⟨m, rfl⟩ : ∃ m, n = m + 1 := ⟨n - 1, by omega⟩
    have : a = N := by omega
    subst this
    exact hd m
  | d + 1, a, n, h, hn => by
    obtain ⟨m, rfl⟩ : ∃ m, n = m + 1 := ⟨n - 1, by omega⟩
    rw [hs m a (by omega)]
    exact x_for hd hs (d := d) (by omega) (by omega)
/-- the first k of a .. with p k, N if there is none -/
def x_fst (p : Nat → Bool) (N : Nat) : Nat → Nat → Nat
  | 0, _ => N
  | d + 1, a => if p a then a else x_fst p N d (a + 1)
theorem x_find {γ : Type} {F : Nat → Nat → γ} {N : Nat} {p : Nat → Bool} {yes : Nat → γ} {no : γ} (hd : ∀ n, F (n + 1) N = no) (hs : ∀ n k, k < N → F (n + 1) k = if p k = true then yes k else F n (k + 1)) : ∀ {d a n : Nat}, N = a + d → d < n → F n a = if x_fst p N d a < N then yes (x_fst p N d a) else no
  | 0, a, n, h, hn => by
    obtain ⟨m, rfl⟩ : ∃ m, n = m + 1 := ⟨n - 1, by omega⟩
    have : a = N := by omega
    subst this
    rw [hd m, x_fst, if_neg (by omega)]
  | d + 1, a, n, h, hn => by
    obtain ⟨m, rfl⟩ : ∃ m, n = m + 1 := ⟨n - 1, by omega⟩
    rw [hs m a (by omega), x_fst]
    by_cases hp : p a = true
    · rw [if_pos hp, if_pos hp, if_pos (by omega)]
    · rw [if_neg hp, if_neg hp]
      exact x_find hd hs (d := d) (by omega) (by omega)
theorem x_fst_le (p : Nat → Bool) (N : Nat) : ∀ d a, N = a + d → a ≤ x_fst p N d a ∧ x_fst p N d a ≤ N
  | 0, a, h => by rw [x_fst]; omega
  | d + 1, a, h => by
    rw [x_fst]
    by_cases hp : p a = true
    · rw [if_pos hp]; omega
    · rw [if_neg hp]
      have := x_fst_le p N d (a + 1) (by omega)
      omega
theorem x_fst_yes (p : Nat → Bool) (N : Nat) : ∀ d a, N = a + d → x_fst p N d a < N → p (x_fst p N d a) = true
  | 0, a, h, h2 => by rw [x_fst] at h2; omega
  | d + 1, a, h, h2 => by
    rw [x_fst] at h2 ⊢
    by_cases hp : p a = true
    · rw [if_pos hp]; exact hp
    · rw [if_neg hp] at h2 ⊢
      exact x_fst_yes p N d (a + 1) (by omega) h2
theorem x_fst_no (p : Nat → Bool) (N : Nat) : ∀ d a, N = a + d → ∀ k, a ≤ k → k < x_fst p N d a → p k = false
  | 0, a, h, k, h1, h2 => by rw [x_fst] at h2; omega
  | d + 1, a, h, k, h1, h2 => by
    rw [x_fst] at h2
    by_cases hp : p a = true
    · rw [if_pos hp] at h2; omega
    · rw [if_neg hp] at h2
      by_cases e : k = a
      · subst e; simpa using hp
      · exact x_fst_no p N d (a + 1) (by omega) k (by omega) h2
/-- the first k < n with p k, n if there is none -/
def x_f1 (p : Nat → Bool) (n : Nat) : Nat := x_fst p n n 0
theorem x_f1_le (p : Nat → Bool) (n : Nat) : x_f1 p n ≤ n := (x_fst_le p n n 0 (by omega)).2
theorem x_f1_yes {p : Nat → Bool} {n : Nat} (h : x_f1 p n < n) : p (x_f1 p n) = true := x_fst_yes p n n 0 (by omega) h
theorem x_f1_no {p : Nat → Bool} {n k : Nat} (h : k < x_f1 p n) : p k = false := x_fst_no p n n 0 (by omega) k (by omega) h
theorem x_f1_eq {p : Nat → Bool} {n k : Nat} (hk : k < n) (hp : p k = true) (hn : ∀ j, j < k → p j = false) : x_f1 p n = k := by
  have h1 := x_f1_le p n
  by_cases h : x_f1 p n < k
  · have h2 := x_f1_yes (p := p) (n := n) (by omega)
    rw [hn _ h] at h2
    cases h2
  · by_cases h3 : k < x_f1 p n
    · have := x_f1_no h3
      rw [hp] at this
      cases this
    · omega
theorem x_f1_none {p : Nat → Bool} {n : Nat} (h : ∀ k, k < n → p k = false) : x_f1 p n = n := by
  have h1 := x_f1_le p n
  by_cases h2 : x_f1 p n < n
  · have := x_f1_yes h2
    rw [h _ h2] at this
    cases this
  · omega
theorem x_f1_ex {p : Nat → Bool} {n k : Nat} (hk : k < n) (hp : p k = true) : x_f1 p n < n := by
  by_cases h : x_f1 p n < n
  · exact h
  · have := x_f1_no (p := p) (n := n) (k := k) (by omega)
    rw [hp] at this
    cases this
theorem x_f1_cong {p q : Nat → Bool} {n : Nat} (h : ∀ k, k < n → p k = q k) : x_f1 p n = x_f1 q n := by
  by_cases hp : x_f1 p n < n
  · symm
    refine x_f1_eq hp ?_ ?_
    · rw [← h _ hp]; exact x_f1_yes hp
    · intro j hj
      rw [← h j (by omega)]
      exact x_f1_no hj
  · have h1 := x_f1_le p n
    have e : x_f1 p n = n := by omega
    rw [e]
    symm
    refine x_f1_none (fun k hk => ?_)
    rw [← h k hk]
    exact x_f1_no (n := n) (by omega)
/-! ===== sets built bit by bit ===== -/
def x_mk (p : Nat → Bool) : Nat → Nat
  | 0 => 0
  | n + 1 => x_mk p n ||| (if p n then 2 ^ n else 0)
theorem x_mk_bit (p : Nat → Bool) : ∀ n i, (x_mk p n).testBit i = (decide (i < n) && p i)
  | 0, i => by rw [x_mk]; simp
  | n + 1, i => by
    rw [x_mk, Nat.testBit_or, x_mk_bit p n i]
    by_cases e : i = n
    · subst e
      by_cases hp : p i = true
      · rw [if_pos hp]; simp [hp]
      · rw [if_neg hp]; simp [hp]
    · have e2 : ¬ n = i := fun q => e q.symm
      have h1 : (if p n = true then 2 ^ n else 0).testBit i = false := by
        by_cases hp : p n = true
        · rw [if_pos hp, Nat.testBit_two_pow]; simp [e2]
        · rw [if_neg hp]; simp
      rw [h1]
      by_cases hi : i < n
      · have : i < n + 1 := by omega
        simp [hi, this]
      · have : ¬ i < n + 1 := by omega
        simp [hi, this]
theorem x_mk_lt (p : Nat → Bool) (n : Nat) : x_mk p n < 2 ^ n := by
  apply b_lt_of_bits
  intro i hi
  rw [x_mk_bit]
  have : ¬ i < n := by omega
  simp [this]
theorem x_mk_31 (p : Nat → Bool) {n : Nat} (h : n ≤ 31) : x_mk p n < 2 ^ 31 := Nat.lt_of_lt_of_le (x_mk_lt p n) (Nat.pow_le_pow_right (by decide) h)
theorem x_mk_yes {p : Nat → Bool} {n : Nat} (h : p n = true) : x_mk p n ||| 2 ^ n = x_mk p (n + 1) := by rw [x_mk, if_pos h]
theorem x_mk_no {p : Nat → Bool} {n : Nat} (h : ¬ p n = true) : x_mk p (n + 1) = x_mk p n := by rw [x_mk, if_neg h, Nat.or_zero]
theorem x_mk_cong {p q : Nat → Bool} {n : Nat} (h : ∀ k, k < n → p k = q k) : x_mk p n = x_mk q n := by
  apply Nat.eq_of_testBit_eq
  intro i
  rw [x_mk_bit, x_mk_bit]
  by_cases hi : i < n
  · rw [h i hi]
  · simp [hi]
theorem x_mk_ext {b n : Nat} {p : Nat → Bool} (hb : b < 2 ^ n) (h : ∀ i, i < n → b.testBit i = p i) : b = x_mk p n := by
  apply Nat.eq_of_testBit_eq
  intro i
  rw [x_mk_bit]
  by_cases hi : i < n
  · rw [h i hi]; simp [hi]
  · rw [b_bit_hi hb (by omega)]; simp [hi]
/-- all of f 0 .. f (n-1), or-ed -/
def x_or (f : Nat → Nat) : Nat → Nat
  | 0 => 0
  | n + 1 => x_or f n ||| f n
theorem x_or_lt {f : Nat → Nat} {m : Nat} : ∀ {n : Nat}, (∀ k, k < n → f k < 2 ^ m) → x_or f n < 2 ^ m
  | 0, _ => Nat.two_pow_pos m
  | n + 1, h => b_or_lt (x_or_lt (fun k hk => h k (by omega))) (h n (by omega))
theorem x_or_bit (f : Nat → Nat) (i : Nat) : ∀ n, (x_or f n).testBit i = true ↔ ∃ k, k < n ∧ (f k).testBit i = true
  | 0 => by rw [x_or]; simp
  | n + 1 => by
    rw [x_or, Nat.testBit_or, Bool.or_eq_true, x_or_bit f i n]
    constructor
    · rintro (⟨k, hk, h⟩ | h)
      · exact ⟨k, by omega, h⟩
      · exact ⟨n, by omega, h⟩
    · rintro ⟨k, hk, h⟩
      by_cases e : k = n
      · subst e; exact Or.inr h
      · exact Or.inl ⟨k, by omega, h⟩
theorem x_or_cong {f g : Nat → Nat} : ∀ {n : Nat}, (∀ k, k < n → f k = g k) → x_or f n = x_or g n
  | 0, _ => rfl
  | n + 1, h => by rw [x_or, x_or, x_or_cong (fun k hk => h k (by omega)), h n (by omega)]
/-! ===== an array written whole ===== -/
/-- the first n of array q are f -/
def x_ar (S : zS) (q n : Nat) (f : Nat → Int32) : zS := (fun k j => if k = q ∧ j < n then f j else S.1 k j, S.2)
theorem x_ar_1 (S : zS) (q n : Nat) (f : Nat → Int32) (k j : Nat) : (x_ar S q n f).1 k j = if k = q ∧ j < n then f j else S.1 k j := rfl
theorem x_ar_2 (S : zS) (q n : Nat) (f : Nat → Int32) : (x_ar S q n f).2 = S.2 := rfl
theorem x_ar_in {S : zS} {q n j : Nat} {f : Nat → Int32} (h : j < n) : (x_ar S q n f).1 q j = f j := if_pos ⟨rfl, h⟩
theorem x_ar_k {S : zS} {q n k j : Nat} {f : Nat → Int32} (h : k ≠ q) : (x_ar S q n f).1 k j = S.1 k j := if_neg (fun e => h e.1)
theorem x_ar_0 (S : zS) (q : Nat) (f : Nat → Int32) : x_ar S q 0 f = S := by
  refine Prod.ext (funext fun k => funext fun j => ?_) rfl
  exact if_neg (by omega)
theorem x_zext {S S' : zS} (h1 : ∀ k j, S.1 k j = S'.1 k j) (h2 : S.2 = S'.2) : S = S' := Prod.ext (funext fun k => funext fun j => h1 k j) h2
theorem x_ar_s (S : zS) (q n : Nat) (f : Nat → Int32) : z_w (x_ar S q n f) q n (f n) = x_ar S q (n + 1) f := by
  refine x_zext (fun k j => ?_) rfl
  rw [b_w, x_ar_1, x_ar_1, x_ar_1]
  by_cases hk : k = q
  · subst hk
    by_cases hj : j = n
    · subst hj; simp
    · have e : (j < n) ↔ (j < n + 1) := by omega
      simp [hj, e]
  · simp [hk]
theorem x_ar_w {S : zS} {q n i : Nat} {f : Nat → Int32} {x : Int32} (h : i < n) : z_w (x_ar S q n f) q i x = x_ar S q n (upd f i x) := by
  refine x_zext (fun k j => ?_) rfl
  rw [b_w, x_ar_1, x_ar_1, x_ar_1]
  unfold upd
  by_cases hk : k = q
  · subst hk
    by_cases hj : j = i
    · subst hj; simp [h]
    · simp [hj]
  · simp [hk]
theorem x_ar_g {S : zS} {q n : Nat} {f g : Nat → Int32} (h : ∀ j, j < n → f j = g j) : x_ar S q n f = x_ar S q n g := by
  refine x_zext (fun k j => ?_) rfl
  rw [x_ar_1, x_ar_1]
  by_cases hj : k = q ∧ j < n
  · rw [if_pos hj, if_pos hj, h j hj.2]
  · rw [if_neg hj, if_neg hj]
theorem x_ar_self (S : zS) (q n : Nat) : x_ar S q n (S.1 q) = S := by
  refine x_zext (fun k j => ?_) rfl
  rw [x_ar_1]
  by_cases hj : k = q ∧ j < n
  · rw [if_pos hj, hj.1]
  · rw [if_neg hj]
theorem x_ar_ar (S : zS) (q n : Nat) (f g : Nat → Int32) : x_ar (x_ar S q n f) q n g = x_ar S q n g := by
  refine x_zext (fun k j => ?_) rfl
  rw [x_ar_1, x_ar_1, x_ar_1]
  by_cases hj : k = q ∧ j < n
  · rw [if_pos hj, if_pos hj]
  · rw [if_neg hj, if_neg hj, if_neg hj]
/-- fill -/
theorem s_fill (q N : Nat) (hN : N < 1000) (x : Int32) (S : zS) : f_J7_fill_53178 q N x S = some ((), x_ar S q N (fun _ => x)) := by
  unfold f_J7_fill_53178
  have h := x_for (F := fun n k => f_J7_fill_53178_5 q N n x (nI k) (nI N) (x_ar S q k (fun _ => x))) (N := N) (fin := some ((), x_ar S q N (fun _ => x))) ?_ ?_ (d := N) (a := 0) (n := 1000) (by omega) (by omega)
  · rw [x_ar_0] at h
    exact h
  · intro n
    simp only [f_J7_fill_53178_5]
    rw [if_pos (nI_le (Nat.le_refl N) (by omega))]
  · intro n k hk
    simp (disch := omega) only [f_J7_fill_53178_5, x_l0, x_l1, x_l2, x_l3, x_l4, x_l5, x_l6, x_l7, x_l8, x_l9, x_l10, x_l12, x_l13, x_l14, x_l16, x_l18, x_l20, x_l22, x_l32, x_l36, x_l48, x_l50, x_l54, x_l57, x_l59, x_l74, x_l81, x_l99, x_l104, x_l107, x_l110, x_l112, x_l115, x_l117, x_l162, x_l255, x_l512, x_l99999, x_l1000000, nI_leI, nI_ltI, nI_eq, nI_add, pk_mul, nI_clamp, x_in, x_bit, x_b0, x_b1, x_b0n, fa_or, fa_and, fb_xorI, x_an, Option.bind_some, b_has8, b_has9, ↓reduceIte, not_true_eq_false, not_false_eq_true, if_pos, if_neg]
    rw [x_ar_s S q k (fun _ => x)]
