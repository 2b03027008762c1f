/-! ===== which cut ===== -/
def g_hg (T : Nat → Nat) (b x y : Nat) : Bool := decide (g_root T b x = g_root T b y)
def g_as (T : Nat → Nat) (b : Nat) (A B H : Nat → Nat) (e : Nat) : Bool := g_hg T b (A e) (B e) == decide (H e = 1)
def g_un (T : Nat → Nat) (b m : Nat) (A B H : Nat → Nat) : Nat := x_mk (fun c => b.testBit c && x_al (g_as T (b_an b (2 ^ c)) A B H) m) (T 1)
/-- what was seen -/
def wZ (T : Nat → Nat) (m : Nat) (A B H : Nat → Nat) : Prop := m ≤ 6 ∧ ∀ e, e < m → A e < T 0 ∧ B e < T 0 ∧ H e ≤ 1
def cZ (m : Nat) (A B H : Nat → Nat) (S : zS) : Prop := S.1 75 0 = nI m ∧ ∀ e, e < m → S.1 76 e = nI (A e) ∧ S.1 77 e = nI (B e) ∧ S.1 78 e = nI (H e)
def mZ (m : Nat) (A B H : Nat → Nat) (S : zS) : Prop := S.1 87 19 = nI m ∧ ∀ e, e < m → S.1 95 e = nI (A e) ∧ S.1 96 e = nI (B e) ∧ S.1 97 e = nI (H e)
theorem x_al_f1 (p : Nat → Bool) (m : Nat) : (x_f1 (fun e => !p e) m < m) ↔ ¬ x_al p m = true := by
  constructor
  · intro h q
    have y := x_f1_yes h
    rw [x_al_iff.mp q _ h] at y
    cases y
  · intro h
    refine Classical.byContradiction (fun q => h (x_al_iff.mpr (fun k hk => ?_)))
    have l := x_f1_le (fun e => !p e) m
    have := x_f1_no (p := fun e => !p e) (n := m) (k := k) (by omega)
    simpa using this
section UN
variable {T : Nat → Nat} {b m P : Nat} {A B H : Nat → Nat} {S : zS}
/-- the web is laid of b -/
def cL (T : Nat → Nat) (b : Nat) (S : zS) : Prop := ∀ k, k < 9 → S.1 81 k = nI (g_M T b k) ∧ S.1 82 k = nI 0
theorem s7_reach (h : cL T b S) {a : Nat} (ha : a < 9) : f_X6_reach 80 (nI a) S = some (nI (g_reach (g_M T b) a), S) := by
  have hW : cW 80 (g_M T b) (fun _ => 0) S := fun k hk => ⟨h k hk, g_M_lt b k, Nat.two_pow_pos 9⟩
  have r := s6_reach hW ha
  have e : (fun k => g_M T b k ||| (fun _ => 0) k) = g_M T b := funext (fun k => Nat.or_zero _)
  rw [e] at r
  exact r
theorem g_hg_bit (w : wT T) {x y : Nat} (hx : x < 9) (hy : y < 9) : (g_reach (g_M T b) x).testBit y = g_hg T b x y := by
  rw [Bool.eq_iff_iff, g_reach_bit (fun x _ => g_M_lt b x) hx]
  unfold g_hg
  rw [decide_eq_true_eq, g_root_eq w hx hy]
theorem g_reach9 {a : Nat} (ha : a < 9) : g_reach (g_M T b) a < 2 ^ 9 := g_reach_lt (fun x _ => g_M_lt b x) ha
theorem cL_lay : cL T b (x_ar (x_ar S 82 9 (fun _ => nI 0)) 81 9 (fun k => nI (g_M T b k))) := fun k hk => ⟨x_ar_in hk, by rw [x_ar_k (by omega), x_ar_in hk]⟩
theorem s7_all (w : wT T) (hz : wZ T m A B H) (hc : cZ m A B H S) (h : cL T b S) : f_X7_allIsAsSeen S = some (if x_al (g_as T b A B H) m = true then nI 1 else nI 0, S) := by
  have h0 := wT_b w
  have hm := hz.1
  rw [f_X7_allIsAsSeen]
  have hh := x_find (F := fun n k => f_X7_allIsAsSeen_2 n (nI k) S) (N := m) (p := fun e => !g_as T b A B H e) (yes := fun _ => some (nI 0, S)) (no := some (nI 1, S)) ?_ ?_ (d := m) (a := 0) (n := 1000) (by omega) (by omega)
  · refine Eq.trans hh ?_
    show (if x_f1 (fun e => !g_as T b A B H e) m < m then some (nI 0, S) else some (nI 1, S)) = _
    by_cases c : x_al (g_as T b A B H) m = true
    · rw [if_pos c, if_neg (fun q => (x_al_f1 _ m).mp q c)]
    · rw [if_neg c, if_pos ((x_al_f1 _ m).mpr c)]
  · intro n
    rw [f_X7_allIsAsSeen_2, hc.1, if_pos (nI_le (Nat.le_refl _) (by omega))]
    rfl
  · intro n e he
    obtain ⟨z1, z2, z3⟩ := hz.2 e he
    obtain ⟨c1, c2, c3⟩ := hc.2 e he
    have rl := g_reach9 (T := T) (b := b) (a := A e) (by omega)
    rw [f_X7_allIsAsSeen_2, hc.1, if_neg (nI_ge he (by omega)), if_pos ((x_in (by omega)).mpr (by omega)), nI_clamp (by omega), c1, s7_reach h (by omega), Option.bind_some, if_pos ((x_in (by omega)).mpr (by omega))]
    dsimp only
    rw [c2, b_has8 (by omega) (by omega), Option.bind_some, g_hg_bit w (by omega) (by omega)]
    have r40 : ∀ x : Nat, x ≤ 1 → f_X7_allIsAsSeen_40 (f_X7_allIsAsSeen_2 n) (nI e) (nI x) S = if x = H e then f_X7_allIsAsSeen_2 n (nI (e + 1)) S else some (nI 0, S) := fun x hx => by
      rw [f_X7_allIsAsSeen_40, if_pos ((x_in (by omega)).mpr (by omega)), nI_clamp (by omega), c3]
      simp (disch := omega) only [nI_eq, x_l1, nI_add]
      rfl
    unfold g_as
    by_cases q : g_hg T b (A e) (B e) = true
    · rw [if_pos q, if_neg (c := nI 1 = 0) (by decide)]
      dsimp only
      rw [show (1 : Int32) = nI 1 from rfl, r40 1 (by omega), q]
      by_cases q2 : H e = 1
      · rw [if_pos q2.symm, q2]; rfl
      · rw [if_neg (fun z => q2 z.symm), decide_eq_false q2]; rfl
    · have q' : g_hg T b (A e) (B e) = false := by simpa using q
      rw [if_neg q, if_pos (c := nI 0 = 0) nI_0]
      dsimp only
      rw [show (0 : Int32) = nI 0 from rfl, r40 0 (by omega), q']
      by_cases q2 : H e = 1
      · rw [if_neg (by omega), q2]; rfl
      · rw [if_pos (by omega), decide_eq_false q2]; rfl
def wU (q _j : Nat) : Prop := q = 81 ∨ q = 82
theorem cZ_fr {W : Nat → Nat → Prop} {S' : zS} (h : cZ m A B H S) (hf : x_fr W S S') (hw : ∀ q j, 75 ≤ q ∧ q ≤ 78 → ¬ W q j) : cZ m A B H S' := by
  refine ⟨?_, fun e he => ⟨?_, ?_, ?_⟩⟩
  · rw [hf.2 _ _ (hw 75 0 (by omega))]; exact h.1
  · rw [hf.2 _ _ (hw 76 e (by omega))]; exact (h.2 e he).1
  · rw [hf.2 _ _ (hw 77 e (by omega))]; exact (h.2 e he).2.1
  · rw [hf.2 _ _ (hw 78 e (by omega))]; exact (h.2 e he).2.2
theorem s7_sus (w : wT T) (hP : P = 3 ∨ P = 17) (hp : cP0 T P S) (hz : wZ T m A B H) (hc : cZ m A B H S) (hb : b < 2 ^ 31) : ∃ S', f_X7_suspects P (nI b) S = some (nI (g_un T b m A B H), S') ∧ x_fr wU S S' := by
  have h0 := wT_b w
  refine x_forI (F := fun n c S => f_X7_suspects_5 P n (nI b) (nI (x_mk (fun c => b.testBit c && x_al (g_as T (b_an b (2 ^ c)) A B H) m) c)) (nI c) S) (N := T 1) (I := fun c S1 => x_fr wU S S1) (G := fun γ => ∃ S', γ = some (nI (g_un T b m A B H), S') ∧ x_fr wU S S') ?_ ?_ (d := T 1) (a := 0) (n := 1000) (S := S) (by omega) (by omega) x_fr_rf
  · intro n S1 h1
    have e1 : S1.1 P 4 = nI (T 1) := by rw [h1.2 _ _ (by unfold wU; omega)]; exact hp.1.2.1
    refine ⟨S1, ?_, h1⟩
    show f_X7_suspects_5 P (n + 1) (nI b) (nI (g_un T b m A B H)) (nI (T 1)) S1 = _
    rw [f_X7_suspects_5, e1, if_pos (nI_le (Nat.le_refl _) (by omega))]
  · intro n c S1 hc1 h1 go
    have e1 : S1.1 P 4 = nI (T 1) := by rw [h1.2 _ _ (by unfold wU; omega)]; exact hp.1.2.1
    have hp1 : cP0 T P S1 := cP0_fr hp h1 (fun q j q1 q2 q3 => by unfold wU at q3; omega) (by omega)
    have ml := x_mk_31 (fun c => b.testBit c && x_al (g_as T (b_an b (2 ^ c)) A B H) m) (n := c) (by omega)
    show ∃ S', f_X7_suspects_5 P (n + 1) (nI b) _ (nI c) S1 = _ ∧ _
    rw [f_X7_suspects_5, e1, if_neg (nI_ge hc1 (by omega)), b_has8 hb (by omega), Option.bind_some]
    by_cases q : b.testBit c = true
    · have lay := s6_lay (W := 80) (P := P) w hp1 (b := b_an b (2 ^ c)) (b_an_lt hb) hP (by omega)
      have fr2 : x_fr wU S (x_ar (x_ar S1 82 9 (fun _ => nI 0)) 81 9 (fun k => nI (g_M T (b_an b (2 ^ c)) k))) := x_fr_a (x_fr_a h1 (fun _ _ => Or.inr rfl)) (fun _ _ => Or.inl rfl)
      have al := s7_all w hz (cZ_fr hc fr2 (fun q j q1 q2 => by unfold wU at q2; omega)) (cL_lay (T := T) (b := b_an b (2 ^ c)) (S := S1))
      rw [if_pos q, if_neg (c := nI 1 = 0) (by decide)]
      dsimp only
      rw [show (1 : Int32) = nI 1 from rfl, x_bit (by omega), show (-nI 1 : Int32) = -nI 1 from rfl, x_an hb, lay, Option.bind_some]
      dsimp only
      rw [al, Option.bind_some]
      by_cases q2 : x_al (g_as T (b_an b (2 ^ c)) A B H) m = true
      · rw [if_pos q2, if_neg (c := nI 1 = 0) (by decide)]
        dsimp only
        rw [nI_add, fa_or, x_mk_yes (p := fun c => b.testBit c && x_al (g_as T (b_an b (2 ^ c)) A B H) m) (by show (b.testBit c && x_al (g_as T (b_an b (2 ^ c)) A B H) m) = true; rw [q, q2]; rfl)]
        exact go _ fr2
      · rw [if_neg q2, if_pos (c := nI 0 = 0) nI_0]
        dsimp only
        rw [nI_add, ← x_mk_no (p := fun c => b.testBit c && x_al (g_as T (b_an b (2 ^ c)) A B H) m) (n := c) (fun z => q2 (by rw [Bool.and_eq_true] at z; exact z.2))]
        exact go _ fr2
    · rw [if_neg q, if_pos (c := nI 0 = 0) nI_0]
      dsimp only
      rw [show (1 : Int32) = nI 1 from rfl, nI_add, ← x_mk_no (p := fun c => b.testBit c && x_al (g_as T (b_an b (2 ^ c)) A B H) m) (n := c) (fun z => q (by rw [Bool.and_eq_true] at z; exact z.1))]
      exact go _ h1
/-! the reference -/
theorem s9_un48 (w : wT T) (hz : wZ T m A B H) (hc : mZ m A B H S) (h : ∀ j, j < 9 → S.1 99 j = nI (g_root T b j)) {v c : Nat} (hv : v < 2 ^ 31) (hcl : c < 31) (K : Int32 → Int32 → zS → Option (Int32 × zS)) : f_X9_unseenSet_48 K 1000 (nI v) (nI c) (nI 1) (nI 0) S = K (nI (if x_al (g_as T b A B H) m = true then v ||| 2 ^ c else v)) (nI (c + 1)) S := by
  have h0 := wT_b w
  have hm := hz.1
  refine x_for (F := fun n e => f_X9_unseenSet_48 K n (nI v) (nI c) (if x_al (g_as T b A B H) e = true then nI 1 else nI 0) (nI e) S) (N := m) ?_ ?_ (d := m) (a := 0) (n := 1000) (by omega) (by omega)
  · intro n
    rw [f_X9_unseenSet_48, hc.1, if_pos (nI_le (Nat.le_refl _) (by omega))]
    by_cases q : x_al (g_as T b A B H) m = true
    · rw [if_pos q, if_neg (c := nI 1 = 0) (by decide), if_pos q, show (1 : Int32) = nI 1 from rfl, x_bit hcl, nI_add, fa_or]
    · rw [if_neg q, if_pos (c := nI 0 = 0) nI_0, if_neg q, show (1 : Int32) = nI 1 from rfl, nI_add, show (0 : Int32) = nI 0 from rfl, fa_or, Nat.or_zero]
  · intro n e he
    obtain ⟨z1, z2, z3⟩ := hz.2 e he
    obtain ⟨c1, c2, c3⟩ := hc.2 e he
    have al : x_al (g_as T b A B H) (e + 1) = (x_al (g_as T b A B H) e && g_as T b A B H e) := rfl
    have ra := g_root_self (b := b) w (A e)
    have rb := g_root_self (b := b) w (B e)
    rw [f_X9_unseenSet_48, hc.1, if_neg (nI_ge he (by omega)), al]
    by_cases q : x_al (g_as T b A B H) e = true
    · rw [if_pos q, if_neg (c := nI 1 = 0) (by decide), if_pos ((x_in (by omega)).mpr (by omega)), nI_clamp (by omega), c1, if_pos ((x_in (by omega)).mpr (by omega)), if_pos ((x_in (by omega)).mpr (by omega)), c2, if_pos ((x_in (by omega)).mpr (by omega)), nI_clamp (by omega), nI_clamp (by omega), h _ (by omega), h _ (by omega), q, Bool.true_and]
      have r93 : ∀ x : Nat, x ≤ 1 → f_X9_unseenSet_93 K (f_X9_unseenSet_48 K n) (nI v) (nI c) (nI e) (nI x) S = f_X9_unseenSet_48 K n (nI v) (nI c) (if decide (x = 1) == decide (H e = 1) then nI 1 else nI 0) (nI (e + 1)) S := fun x hx => by
        rw [f_X9_unseenSet_93, if_pos ((x_in (by omega)).mpr (by omega)), nI_clamp (by omega), c3]
        rcases (by omega : H e = 0 ∨ H e = 1) with q1 | q1 <;> rcases (by omega : x = 0 ∨ x = 1) with rfl | rfl <;> rw [q1, f_X9_unseenSet_109, f_X9_unseenSet_109] <;> simp (disch := omega) only [x_l1, nI_add] <;> rfl
      unfold g_as g_hg
      by_cases q3 : g_root T b (A e) = g_root T b (B e)
      · rw [if_pos (by rw [q3]), show (1 : Int32) = nI 1 from rfl, r93 1 (by omega), decide_eq_true q3]
        rfl
      · rw [if_neg (fun z => q3 ((nI_eq (by omega) (by omega)).mp z)), show (0 : Int32) = nI 0 from rfl, r93 0 (by omega), decide_eq_false q3]
        rfl
    · have q' : x_al (g_as T b A B H) e = false := by simpa using q
      rw [if_neg q, if_pos (c := nI 0 = 0) nI_0, q', Bool.false_and, if_neg (by decide), show (1 : Int32) = nI 1 from rfl, nI_add]
      rfl
def wN (q _j : Nat) : Prop := q = 99
theorem mZ_fr {W : Nat → Nat → Prop} {S' : zS} (h : mZ m A B H S) (hf : x_fr W S S') (hw : ∀ q j, (q = 87 ∧ j = 19) ∨ (95 ≤ q ∧ q ≤ 97) → ¬ W q j) : mZ m A B H S' := by
  refine ⟨?_, fun e he => ⟨?_, ?_, ?_⟩⟩
  · rw [hf.2 _ _ (hw 87 19 (by omega))]; exact h.1
  · rw [hf.2 _ _ (hw 95 e (by omega))]; exact (h.2 e he).1
  · rw [hf.2 _ _ (hw 96 e (by omega))]; exact (h.2 e he).2.1
  · rw [hf.2 _ _ (hw 97 e (by omega))]; exact (h.2 e he).2.2
theorem s9_un (w : wT T) (hm : mT T 89 S) (hl : S.1 91 0 = nI b) (hz : wZ T m A B H) (hc : mZ m A B H S) (hb : b < 2 ^ 31) : ∃ S', f_X9_unseenSet S = some (nI (g_un T b m A B H), S') ∧ x_fr wN S S' := by
  have h0 := wT_b w
  refine x_forI (F := fun n c S => f_X9_unseenSet_4 n (nI (x_mk (fun c => b.testBit c && x_al (g_as T (b_an b (2 ^ c)) A B H) m) c)) (nI c) S) (N := T 1) (I := fun c S1 => x_fr wN S S1) (G := fun γ => ∃ S', γ = some (nI (g_un T b m A B H), S') ∧ x_fr wN S S') ?_ ?_ (d := T 1) (a := 0) (n := 1000) (S := S) (by omega) (by omega) x_fr_rf
  · intro n S1 h1
    have e1 : S1.1 89 1 = nI (T 1) := by rw [h1.2 _ _ (by unfold wN; omega)]; exact hm 1 (by omega)
    refine ⟨S1, ?_, h1⟩
    show f_X9_unseenSet_4 (n + 1) (nI (g_un T b m A B H)) (nI (T 1)) S1 = _
    rw [f_X9_unseenSet_4, e1, if_pos (nI_le (Nat.le_refl _) (by omega))]
  · intro n c S1 hc1 h1 go
    have e1 : S1.1 89 1 = nI (T 1) := by rw [h1.2 _ _ (by unfold wN; omega)]; exact hm 1 (by omega)
    have e91 : S1.1 91 0 = nI b := by rw [h1.2 _ _ (by unfold wN; omega)]; exact hl
    have hm1 : mT T 89 S1 := fun j hj => by rw [h1.2 _ _ (by unfold wN; omega)]; exact hm j hj
    have ml := x_mk_31 (fun c => b.testBit c && x_al (g_as T (b_an b (2 ^ c)) A B H) m) (n := c) (by omega)
    show ∃ S', f_X9_unseenSet_4 (n + 1) _ (nI c) S1 = _ ∧ _
    rw [f_X9_unseenSet_4, e1, if_neg (nI_ge hc1 (by omega)), e91, b_has9 hb (by omega), Option.bind_some]
    by_cases q : b.testBit c = true
    · have rt := s9_roots (b := b_an b (2 ^ c)) w hm1 (b_an_lt hb)
      have fr2 : x_fr wN S (x_ar S1 99 9 (fun j => nI (g_root T (b_an b (2 ^ c)) j))) := x_fr_a h1 (fun _ _ => rfl)
      have r48 := s9_un48 (b := b_an b (2 ^ c)) (S := x_ar S1 99 9 (fun j => nI (g_root T (b_an b (2 ^ c)) j))) w hz (mZ_fr hc fr2 (fun q j q1 q2 => by unfold wN at q2; omega)) (fun j hj => x_ar_in hj) ml (show c < 31 by omega) (f_X9_unseenSet_4 n)
      rw [if_pos q, if_neg (c := nI 1 = 0) (by decide)]
      dsimp only
      rw [e91, show (1 : Int32) = nI 1 from rfl, x_bit (by omega), x_an hb, rt, Option.bind_some]
      dsimp only
      rw [show (0 : Int32) = nI 0 from rfl, r48]
      have e : (if x_al (g_as T (b_an b (2 ^ c)) A B H) m = true then x_mk (fun c => b.testBit c && x_al (g_as T (b_an b (2 ^ c)) A B H) m) c ||| 2 ^ c else x_mk (fun c => b.testBit c && x_al (g_as T (b_an b (2 ^ c)) A B H) m) c) = x_mk (fun c => b.testBit c && x_al (g_as T (b_an b (2 ^ c)) A B H) m) (c + 1) := by
        by_cases q2 : x_al (g_as T (b_an b (2 ^ c)) A B H) m = true
        · rw [if_pos q2, x_mk_yes (p := fun c => b.testBit c && x_al (g_as T (b_an b (2 ^ c)) A B H) m) (by show (b.testBit c && x_al (g_as T (b_an b (2 ^ c)) A B H) m) = true; rw [q, q2]; rfl)]
        · rw [if_neg q2, ← x_mk_no (p := fun c => b.testBit c && x_al (g_as T (b_an b (2 ^ c)) A B H) m) (n := c) (fun z => q2 (by rw [Bool.and_eq_true] at z; exact z.2))]
      rw [e]
      exact go _ fr2
    · rw [if_neg q, if_pos (c := nI 0 = 0) nI_0]
      dsimp only
      rw [show (1 : Int32) = nI 1 from rfl, nI_add, ← x_mk_no (p := fun c => b.testBit c && x_al (g_as T (b_an b (2 ^ c)) A B H) m) (n := c) (fun z => q (by rw [Bool.and_eq_true] at z; exact z.1))]
      exact go _ h1
end UN
