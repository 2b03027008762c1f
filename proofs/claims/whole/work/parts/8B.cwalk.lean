/-! ===== the class's walk ===== -/
def g_R (E : Nat → Nat → Nat → Bool) (κ u : Nat) : Nat := x_mk (E κ u) 9
theorem x_row_flip {F G : Nat → Nat → Bool} {u v j : Nat} (hu : u < 9) (hv : v < 9) (huv : u ≠ v) (hj : j < 9) (h : ∀ x y, x < 9 → y < 9 → G x y = Bool.xor (F x y) (decide ((x = u ∧ y = v) ∨ (x = v ∧ y = u)))) : x_mk (G j) 9 = if j = v then x_mk (F j) 9 ^^^ 2 ^ u else if j = u then x_mk (F j) 9 ^^^ 2 ^ v else x_mk (F j) 9 := by
  apply Nat.eq_of_testBit_eq
  intro i
  rw [x_mk_bit]
  by_cases hi : i < 9
  · rw [h j i hj hi, decide_eq_true hi, Bool.true_and]
    by_cases c1 : j = v
    · subst c1
      rw [if_pos rfl, Nat.testBit_xor, x_mk_bit, Nat.testBit_two_pow, decide_eq_true hi, Bool.true_and]
      congr 1
      apply decide_eq_decide.mpr
      omega
    · rw [if_neg c1]
      by_cases c2 : j = u
      · subst c2
        rw [if_pos rfl, Nat.testBit_xor, x_mk_bit, Nat.testBit_two_pow, decide_eq_true hi, Bool.true_and]
        congr 1
        apply decide_eq_decide.mpr
        omega
      · rw [if_neg c2, x_mk_bit, decide_eq_true hi, Bool.true_and, decide_eq_false (by omega), Bool.xor_false]
  · rw [decide_eq_false hi, Bool.false_and]
    symm
    have l : ∀ (r k : Nat), r < 2 ^ 9 → k < 9 → (r ^^^ 2 ^ k).testBit i = false := fun r k hr hk => by
      rw [Nat.testBit_xor, b_bit_hi hr (by omega), Nat.testBit_two_pow, decide_eq_false (by omega)]
      rfl
    split
    · exact l _ _ (x_mk_lt _ _) hu
    · split
      · exact l _ _ (x_mk_lt _ _) hv
      · exact b_bit_hi (x_mk_lt (F j) 9) (by omega)
section CW
variable {E : Nat → Nat → Nat → Bool} {S : zS}
def cE (E : Nat → Nat → Nat → Bool) (S : zS) : Prop := ∀ k, k < 9 → S.1 73 k = nI (g_R E 0 k) ∧ S.1 74 k = nI (g_R E 1 k)
theorem g_R_lt (κ u : Nat) : g_R E κ u < 2 ^ 9 := x_mk_lt _ _
theorem g_R_bit {κ u v : Nat} (hv : v < 9) : (g_R E κ u).testBit v = E κ u v := by
  unfold g_R
  rw [x_mk_bit, decide_eq_true hv, Bool.true_and]
theorem g_R_MO : (fun k => g_R E 0 k ||| g_R E 1 k) = g_MO E := by
  funext k
  apply Nat.eq_of_testBit_eq
  intro i
  unfold g_MO g_R
  rw [Nat.testBit_or, x_mk_bit, x_mk_bit, x_mk_bit, Bool.and_or_distrib_left]
theorem g_R_rm (hE : wE E) {κ u v j : Nat} (he : E κ u v = true) (hj : j < 9) : g_R (g_rm E κ u v) κ j = if j = v then g_R E κ j ^^^ 2 ^ u else if j = u then g_R E κ j ^^^ 2 ^ v else g_R E κ j := by
  obtain ⟨_, hu, hv, huv, hs⟩ := hE κ u v he
  refine x_row_flip (F := E κ) (G := g_rm E κ u v κ) hu hv huv hj (fun x y _ _ => ?_)
  unfold g_rm g_hit
  by_cases c : (x = u ∧ y = v) ∨ (x = v ∧ y = u)
  · have e1 : E κ x y = true := by
      rcases c with ⟨rfl, rfl⟩ | ⟨rfl, rfl⟩
      · exact he
      · exact hs
    have cc : ((decide (x = u) && decide (y = v)) || (decide (x = v) && decide (y = u))) = true := by
      simp only [Bool.or_eq_true, Bool.and_eq_true, decide_eq_true_eq]; exact c
    rw [e1, cc, decide_eq_true c]
    simp
  · have cc : ((decide (x = u) && decide (y = v)) || (decide (x = v) && decide (y = u))) = false := by
      rw [← Bool.not_eq_true]
      simp only [Bool.or_eq_true, Bool.and_eq_true, decide_eq_true_eq]; exact c
    rw [cc, decide_eq_false c]
    simp
theorem g_R_rmo {κ κ' u v j : Nat} (h : κ' ≠ κ) : g_R (g_rm E κ u v) κ' j = g_R E κ' j := by
  unfold g_R
  refine x_mk_cong (fun y _ => ?_)
  unfold g_rm g_hit
  simp [h]
theorem x_ar_of {q n : Nat} {f : Nat → Int32} (h : ∀ k, k < n → S.1 q k = f k) : x_ar S q n f = S := by
  rw [← x_ar_g h, x_ar_self]
theorem s6_turn2 {q : Nat} {R : Nat → Nat} {u v : Nat} (hR : ∀ k, k < 9 → S.1 q k = nI (R k)) (hu : u < 9) (hv : v < 9) (huv : u ≠ v) : f_X6_turn q (nI u) (nI v) S = some ((), x_ar S q 9 (fun k => nI (if k = v then R k ^^^ 2 ^ u else if k = u then R k ^^^ 2 ^ v else R k))) := by
  have := s6_turn (S := S) (q := q) (R := R) hu hv huv
  rw [x_ar_of (f := fun k => nI (R k)) hR] at this
  exact this
theorem x_xx (r k : Nat) : r ^^^ 2 ^ k ^^^ 2 ^ k = r := by
  rw [Nat.xor_assoc, Nat.xor_self, Nat.xor_zero]
theorem s5_tie (hE : wE E) (h : cE E S) {κ q u v : Nat} (hκ : κ < 2) (hq : q = 73 + κ) (hu : u < 9) (hv : v < 9) : f_X5_takesTie q (nI u) (nI v) S = some (if g_so E u κ v = true then (nI 1, x_ar S q 9 (fun k => nI (g_R (g_rm E κ u v) κ k))) else (nI 0, S)) := by
  have hR : ∀ k, k < 9 → S.1 q k = nI (g_R E κ k) := fun k hk => by
    rcases (by omega : κ = 0 ∨ κ = 1) with rfl | rfl
    · rw [hq]; exact (h k hk).1
    · rw [hq]; exact (h k hk).2
  have l1 := g_R_lt (E := E) κ u
  rw [f_X5_takesTie, if_pos ((x_in (by omega)).mpr hu), nI_clamp (by omega), hR u hu, b_has8 (by omega) (by omega), Option.bind_some, g_R_bit hv]
  by_cases he : E κ u v = true
  · obtain ⟨_, _, _, huv, _⟩ := hE κ u v he
    have e1 : x_ar S q 9 (fun k => nI (if k = v then g_R E κ k ^^^ 2 ^ u else if k = u then g_R E κ k ^^^ 2 ^ v else g_R E κ k)) = x_ar S q 9 (fun k => nI (g_R (g_rm E κ u v) κ k)) := x_ar_g (fun j hj => by rw [g_R_rm hE he hj])
    have hW : cW 72 (g_R (g_rm E κ u v) 0) (g_R (g_rm E κ u v) 1) (x_ar S q 9 (fun k => nI (g_R (g_rm E κ u v) κ k))) := fun k hk => by
      refine ⟨?_, g_R_lt _ _, g_R_lt _ _⟩
      rcases (by omega : κ = 0 ∨ κ = 1) with rfl | rfl
      · subst hq
        refine ⟨x_ar_in hk, ?_⟩
        rw [x_ar_k (by omega), g_R_rmo (by omega)]
        exact (h k hk).2
      · subst hq
        refine ⟨?_, x_ar_in hk⟩
        rw [x_ar_k (by omega), g_R_rmo (by omega)]
        exact (h k hk).1
    have al := s6_all hW hv
    rw [g_R_MO] at al
    rw [if_pos he, if_neg (c := nI 1 = 0) (by decide), s6_turn2 hR hu hv huv, Option.bind_some]
    dsimp only
    rw [e1, al, Option.bind_some]
    dsimp only
    unfold g_so
    rw [he]
    by_cases c : x_ok (g_MO (g_rm E κ u v)) v = true
    · rw [if_pos c, if_neg (c := nI 1 = 0) (by decide), c, if_pos (by rfl)]
      rfl
    · have c' : x_ok (g_MO (g_rm E κ u v)) v = false := by simpa using c
      rw [if_neg c, if_pos (c := nI 0 = 0) nI_0, s6_turn2 (S := x_ar S q 9 (fun k => nI (g_R (g_rm E κ u v) κ k))) (R := g_R (g_rm E κ u v) κ) (fun k hk => x_ar_in hk) hu hv huv, Option.bind_some, c', if_neg (by decide), x_ar_ar]
      have e2 : x_ar S q 9 (fun k => nI (if k = v then g_R (g_rm E κ u v) κ k ^^^ 2 ^ u else if k = u then g_R (g_rm E κ u v) κ k ^^^ 2 ^ v else g_R (g_rm E κ u v) κ k)) = S := x_ar_of (fun k hk => by
        rw [hR k hk, g_R_rm hE he hk]
        congr 1
        by_cases c1 : k = v
        · rw [if_pos c1, if_pos c1, x_xx]
        · rw [if_neg c1, if_neg c1]
          by_cases c2 : k = u
          · rw [if_pos c2, if_pos c2, x_xx]
          · rw [if_neg c2, if_neg c2])
      rw [e2]
      rfl
  · have c : ¬ g_so E u κ v = true := by
      unfold g_so
      rw [Bool.and_eq_true]
      exact fun q => he q.1
    rw [if_neg he, if_pos (c := nI 0 = 0) nI_0, if_neg c]
    rfl
noncomputable def cN (E : Nat → Nat → Nat → Bool) (u m k : Nat) (S : zS) : zS := z_w (z_w (x_ar S (73 + g_kd E u k) 9 (fun j => nI (g_R (g_rm E (g_kd E u k) u k) (g_kd E u k) j))) 70 m (nI k)) 71 m (nI (1 - g_kd E u k))
theorem s5_notes {κ m k q : Nat} {f : Nat → Int32} (hq : q = 73 ∨ q = 74) (hs : S.1 69 1 = nI m) (hm : m < 18) (x : Int32) : f_X5_notes (nI k) x (x_ar S q 9 f) = some (nI 1, z_w (z_w (x_ar S q 9 f) 70 m (nI k)) 71 m x) := by
  have e : (x_ar S q 9 f).1 69 1 = nI m := by rw [x_ar_k (by omega)]; exact hs
  rw [f_X5_notes, e, if_pos ((x_in (by omega)).mpr hm), nI_clamp (by omega), b_wk (by omega), e, if_pos ((x_in (by omega)).mpr hm), nI_clamp (by omega)]
  rfl
theorem s5_step (hE : wE E) (h : cE E S) {u m : Nat} (hu : u < 9) (hs : S.1 69 1 = nI m) (hm : m < 18) (hn : g_nv E u m < 9) : f_X5_takesStep (nI u) S = some (nI 1, cN E u m (g_nv E u m) S) := by
  have hh := x_find (F := fun n k => f_X5_takesStep_23 n (nI u) (nI k) S) (N := 9) (p := g_sp E u m) (yes := fun k => some (nI 1, cN E u m k S)) (no := some (nI 0, S)) ?_ ?_ (d := 9) (a := 0) (n := 1000) (by omega) (by omega)
  · rw [f_X5_takesStep, if_neg (show ¬ nI u < 0 from nI_nlt (b := 0) (by omega) (by omega)), if_neg (show ¬ (9 : Int32) ≤ nI u from nI_ge (b := 9) (by omega) (by omega)), hs, if_pos (show nI m < 18 from nI_lt (b := 18) (by omega) (by omega))]
    refine Eq.trans hh ?_
    exact if_pos hn
  · intro n
    rw [f_X5_takesStep_23, if_pos (show (9 : Int32) ≤ nI 9 from nI_le (Nat.le_refl 9) (by omega))]
    rfl
  · intro n k hk
    have t0 := s5_tie hE h (κ := 0) (q := 73) (by omega) rfl hu hk
    have t1 := s5_tie hE h (κ := 1) (q := 74) (by omega) rfl hu hk
    rw [f_X5_takesStep_23, if_neg (show ¬ (9 : Int32) ≤ nI k from nI_ge (b := 9) (by omega) (by omega)), t0, Option.bind_some]
    by_cases c0 : g_so E u 0 k = true
    · have y : g_sp E u m k = true := by unfold g_sp; rw [c0]; rfl
      have kd : g_kd E u k = 0 := by unfold g_kd; rw [if_pos c0]
      rw [if_pos c0, if_pos y, if_neg (c := nI 1 = 0) (by decide)]
      dsimp only
      rw [s5_notes (κ := 0) (Or.inl rfl) hs hm, Option.bind_some]
      dsimp only
      rw [if_pos (show nI 1 = 0 ∨ nI 1 = 1 from Or.inr rfl)]
      unfold cN
      rw [kd]
      rfl
    · rw [if_neg c0, if_pos (c := nI 0 = 0) nI_0]
      dsimp only
      rw [hs]
      by_cases cm : m = 0
      · have y : ¬ g_sp E u m k = true := by unfold g_sp; simp [c0, cm]
        rw [if_pos (show nI m ≤ 0 from nI_le (b := 0) (by omega) (by omega)), if_neg y]
        simp (disch := omega) only [x_l1, nI_add]
      · rw [if_neg (show ¬ nI m ≤ 0 from nI_ge (a := 0) (by omega) (by omega)), t1, Option.bind_some]
        by_cases c1 : g_so E u 1 k = true
        · have y : g_sp E u m k = true := by unfold g_sp; rw [c1, decide_eq_true (show 0 < m by omega)]; simp
          have kd : g_kd E u k = 1 := by unfold g_kd; rw [if_neg c0]
          rw [if_pos c1, if_pos y, if_neg (c := nI 1 = 0) (by decide)]
          dsimp only
          rw [s5_notes (κ := 1) (Or.inr rfl) hs hm, Option.bind_some]
          dsimp only
          rw [if_pos (show nI 1 = 0 ∨ nI 1 = 1 from Or.inr rfl)]
          unfold cN
          rw [kd]
          rfl
        · have y : ¬ g_sp E u m k = true := by unfold g_sp; simp [c0, c1]
          rw [if_neg c1, if_neg y, if_pos (c := nI 0 = 0) nI_0]
          simp (disch := omega) only [x_l1, nI_add]
end CW
def wW (q _j : Nat) : Prop := 69 ≤ q ∧ q ≤ 74
/-- the walk over piece p is right -/
def cWR (T : Nat → Nat) (b t p : Nat) (S : zS) : Prop := S.1 69 1 = nI (g_ns T b p) ∧ ∀ i, i < g_ns T b p → S.1 70 i = nI (g_wt T b t p i) ∧ S.1 71 i = nI (1 - g_wc T b t p i)
section CG
variable {T : Nat → Nat} {b t p P : Nat} {S : zS}
theorem cE_step {n : Nat} (h : cE (g_wl T b t p n).1 S) {m : Nat} (hm : m = n) : cE (g_wl T b t p (n + 1)).1 (cN (g_wl T b t p n).1 (g_wl T b t p n).2 m (g_wt T b t p n) S) := by
  subst hm
  intro k hk
  have e : (g_wl T b t p (m + 1)).1 = g_rm (g_wl T b t p m).1 (g_wc T b t p m) (g_wl T b t p m).2 (g_wt T b t p m) := rfl
  have e2 : g_kd (g_wl T b t p m).1 (g_wl T b t p m).2 (g_wt T b t p m) = g_wc T b t p m := rfl
  have l := g_wc_lt (T := T) (b := b) (t := t) (p := p) m
  rw [e]
  unfold cN
  rw [e2]
  generalize g_wc T b t p m = κ at *
  rw [b_wk (by omega), b_wk (by omega), b_wk (by omega), b_wk (by omega)]
  rcases (by omega : κ = 0 ∨ κ = 1) with rfl | rfl
  · refine ⟨x_ar_in hk, ?_⟩
    rw [x_ar_k (by omega), g_R_rmo (by omega)]
    exact (h k hk).2
  · refine ⟨?_, x_ar_in hk⟩
    rw [x_ar_k (by omega), g_R_rmo (by omega)]
    exact (h k hk).1
theorem s5_go48 (w : wT T) (hp : p < g_np T b) (h : cE (g_E T b p) S) (hs : S.1 69 1 = nI 0) : ∃ S', f_X5_go_48 P 1000 (nI p) (nI (g_ns T b p)) (nI (g_st T b t p)) S = some ((), S') ∧ x_fr wW S S' ∧ S'.1 69 0 = nI p ∧ cWR T b t p S' := by
  have hN := g_ns_le (b := b) (p := p) w
  refine x_forI (F := fun n k S => f_X5_go_48 P n (nI p) (nI (g_ns T b p)) (nI (g_wl T b t p k).2) S) (N := g_ns T b p) (I := fun n S1 => x_fr wW S S1 ∧ cE (g_wl T b t p n).1 S1 ∧ S1.1 69 1 = nI n ∧ ∀ i, i < n → S1.1 70 i = nI (g_wt T b t p i) ∧ S1.1 71 i = nI (1 - g_wc T b t p i)) (G := fun γ => ∃ S', γ = some ((), S') ∧ x_fr wW S S' ∧ S'.1 69 0 = nI p ∧ cWR T b t p S') ?_ ?_ (d := g_ns T b p) (a := 0) (n := 1000) (S := S) (by omega) (by omega) ⟨x_fr_rf, h, hs, fun i hi => absurd hi (Nat.not_lt_zero i)⟩
  · intro n S1 ⟨h1, h2, h3, h4⟩
    refine ⟨z_w S1 69 0 (nI p), ?_, x_fr_w h1 ⟨by omega, by omega⟩, b_wh, ?_, fun i hi => ⟨?_, ?_⟩⟩
    · show f_X5_go_48 P (n + 1) (nI p) (nI (g_ns T b p)) _ S1 = _
      rw [f_X5_go_48, h3, if_pos (nI_le (Nat.le_refl _) (by omega))]
    · rw [b_wj (by omega)]; exact h3
    · rw [b_wk (by omega)]; exact (h4 i hi).1
    · rw [b_wk (by omega)]; exact (h4 i hi).2
  · intro n k S1 hk ⟨h1, h2, h3, h4⟩ go
    have ok := g_wl_ok (t := t) w hp (n := k) (by omega)
    have ok3 := ok.2.2 hk
    have st := s5_step ok.1 h2 ok.2.1 h3 (by omega) ok3.1
    have e : f_X5_go_48 P (n + 1) (nI p) (nI (g_ns T b p)) (nI (g_wl T b t p k).2) S1 = f_X5_go_48 P n (nI p) (nI (g_ns T b p)) (nI (g_wl T b t p (k + 1)).2) (z_w (cN (g_wl T b t p k).1 (g_wl T b t p k).2 k (g_wt T b t p k) S1) 69 1 (nI (k + 1))) := by
      have l := g_wc_lt (T := T) (b := b) (t := t) (p := p) k
      have e1 : (cN (g_wl T b t p k).1 (g_wl T b t p k).2 k (g_wt T b t p k) S1).1 69 1 = nI k := by
        unfold cN
        rw [b_wk (by omega), b_wk (by omega), x_ar_k (by omega)]; exact h3
      have e2 : (cN (g_wl T b t p k).1 (g_wl T b t p k).2 k (g_wt T b t p k) S1).1 70 k = nI (g_wt T b t p k) := by
        unfold cN
        rw [b_wk (by omega), b_wh]
      have st' : f_X5_takesStep (nI (g_wl T b t p k).2) S1 = some (nI 1, cN (g_wl T b t p k).1 (g_wl T b t p k).2 k (g_wt T b t p k) S1) := st
      rw [f_X5_go_48, h3, if_neg (nI_ge hk (by omega)), st', Option.bind_some, if_neg (c := nI 1 = 0) (by decide)]
      dsimp only
      rw [e1, if_pos ((x_in (by omega)).mpr (by omega)), nI_clamp (by omega), e2, g_wl_succ]
      simp (disch := omega) only [x_l1, nI_add]
    show ∃ S', f_X5_go_48 P (n + 1) (nI p) (nI (g_ns T b p)) (nI (g_wl T b t p k).2) S1 = _ ∧ _
    rw [e]
    apply go
    have l : g_kd (g_wl T b t p k).1 (g_wl T b t p k).2 (g_wt T b t p k) < 2 := g_wc_lt (T := T) (b := b) (t := t) (p := p) k
    have fr : x_fr wW S1 (cN (g_wl T b t p k).1 (g_wl T b t p k).2 k (g_wt T b t p k) S1) := x_fr_w (x_fr_w (x_fr_a x_fr_rf (fun _ _ => ⟨by omega, by omega⟩)) ⟨by omega, by omega⟩) ⟨by omega, by omega⟩
    refine ⟨x_fr_w (x_fr_tr h1 fr) ⟨by omega, by omega⟩, ?_, b_wh, fun i hi => ⟨?_, ?_⟩⟩
    · have c := cE_step h2 (m := k) rfl
      intro j hj
      rw [b_wk (by omega), b_wk (by omega)]
      exact c j hj
    · rw [b_wk (by omega)]
      unfold cN
      rw [b_wk (by omega)]
      by_cases c : i = k
      · subst c; rw [b_wh]
      · rw [b_wj c, x_ar_k (by omega)]; exact (h4 i (by omega)).1
    · rw [b_wk (by omega)]
      unfold cN
      by_cases c : i = k
      · subst c; rw [b_wh]; rfl
      · rw [b_wj c, b_wk (by omega), x_ar_k (by omega)]; exact (h4 i (by omega)).2
/-- links of which one corner is below k -/
def g_EL (T : Nat → Nat) (b p k u v : Nat) : Bool := g_E T b p 1 u v && (decide (u < k) || decide (v < k))
theorem s5_lay17 (w : wT T) (hp : p < g_np T b) (h60 : S.1 60 p = nI (g_od T b p)) (h64 : ∀ k, k < 9 → S.1 64 k = g_pa T b (g_np T b) k) : f_X5_layOut_17 P 1000 (nI p) (nI 0) (x_ar S 74 9 (fun _ => nI 0)) = some ((), x_ar S 74 9 (fun j => nI (g_R (g_E T b p) 1 j))) := by
  have hN := g_np_le (b := b) w
  have hE := g_E_w (b := b) (p := p) w
  have ol := g_od_lt (T := T) (b := b) p
  have e0 : x_ar S 74 9 (fun _ => nI 0) = x_ar S 74 9 (fun j => nI (x_mk (g_EL T b p 0 j) 9)) := x_ar_g (fun j _ => congrArg nI (by
    apply Nat.eq_of_testBit_eq
    intro i
    rw [x_mk_bit, Nat.zero_testBit]
    unfold g_EL
    simp))
  have e9 : x_ar S 74 9 (fun j => nI (g_R (g_E T b p) 1 j)) = x_ar S 74 9 (fun j => nI (x_mk (g_EL T b p 9 j) 9)) := x_ar_g (fun j hj => congrArg nI (x_mk_cong (fun i hi => by
    unfold g_EL
    simp [hj, hi])))
  rw [e0, e9]
  refine x_for (F := fun n k => f_X5_layOut_17 P n (nI p) (nI k) (x_ar S 74 9 (fun j => nI (x_mk (g_EL T b p k j) 9)))) (N := 9) ?_ ?_ (d := 9) (a := 0) (n := 1000) (by omega) (by omega)
  · intro n
    simp (disch := omega) only [f_X5_layOut_17, x_l0, x_l1, x_l2, x_l3, x_l4, x_l5, x_l6, x_l7, x_l8, x_l9, x_l10, x_l12, x_l13, x_l14, x_l16, x_l18, x_l20, x_l22, x_l32, x_l36, x_l48, x_l50, x_l54, x_l57, x_l59, x_l74, x_l81, x_l99, x_l104, x_l107, x_l110, x_l112, x_l115, x_l117, x_l162, x_l255, x_l512, x_l99999, x_l1000000, nI_leI, nI_ltI, nI_eq, nI_add, pk_mul, nI_clamp, x_in, x_bit, x_b0, x_b1, x_b0n, fa_or, fa_and, fb_xorI, x_an, Option.bind_some, b_has8, b_has9, ↓reduceIte, not_true_eq_false, not_false_eq_true, x_nn, Bool.false_eq_true, x_ar_k, x_ar_in, x_ar_w, b_wk, b_wj, b_wh, b_w2, x_ar_2, if_pos, if_neg]
  · intro n k hk
    have f60 : (x_ar S 74 9 (fun j => nI (x_mk (g_EL T b p k j) 9))).1 60 p = nI (g_od T b p) := by rw [x_ar_k (by omega)]; exact h60
    have f64 : (x_ar S 74 9 (fun j => nI (x_mk (g_EL T b p k j) 9))).1 64 k = g_pa T b (g_np T b) k := by rw [x_ar_k (by omega)]; exact h64 k hk
    rw [f_X5_layOut_17, if_neg (show ¬ (9 : Int32) ≤ nI k from nI_ge (b := 9) (by omega) (by omega)), if_pos ((x_in (by omega)).mpr (by omega)), nI_clamp (by omega), f60, b_has8 (by omega) (by omega), Option.bind_some]
    by_cases c : (g_od T b p).testBit k = true
    · obtain ⟨m, m1, m2, m3, m4, m5⟩ := g_mt_m w c
      have pa : g_pa T b (g_np T b) k = nI m := (g_pa_in w c hp (g_np T b) (Nat.le_refl _) hp).trans m3
      have only : ∀ y, y < 9 → (g_E T b p 1 k y = true ↔ y = m) := fun y hy => ⟨fun q => nI_inj9 hy m5 (((g_E_1m w).mp q).2.1.symm.trans m3), fun q => by rw [q]; exact (g_E_1m w).mpr ⟨c, m3, m5⟩⟩
      have only2 : ∀ x, x < 9 → (g_E T b p 1 x k = true ↔ x = m) := fun x hx => ⟨fun q => (only x hx).mp (hE 1 x k q).2.2.2.2, fun q => (hE 1 k x ((only x hx).mpr q)).2.2.2.2⟩
      rw [if_pos c, if_neg (c := nI 1 = 0) (by decide)]
      dsimp only
      rw [if_pos ((x_in (by omega)).mpr hk), nI_clamp (by omega), f64, pa]
      by_cases c2 : m ≤ k
      · rw [if_pos (nI_le c2 (by omega))]
        simp (disch := omega) only [x_l1, nI_add]
        congr 1
        refine x_ar_g (fun j hj => congrArg nI (x_mk_cong (fun i hi => ?_)))
        unfold g_EL
        rw [Bool.eq_iff_iff]
        simp only [Bool.and_eq_true, Bool.or_eq_true, decide_eq_true_eq]
        constructor
        · rintro ⟨q1, q2⟩; exact ⟨q1, by omega⟩
        · rintro ⟨q1, q2⟩
          refine ⟨q1, ?_⟩
          by_cases z1 : j = k
          · subst z1
            have := (only i hi).mp q1
            omega
          · by_cases z2 : i = k
            · subst z2
              have := (only2 j hj).mp q1
              omega
            · omega
      · rw [if_neg (nI_ge (by omega) (by omega)), if_pos ((x_in (by omega)).mpr hk)]
        have tn := s6_turn (S := S) (q := 74) (R := fun j => x_mk (g_EL T b p k j) 9) hk m5 (fun q => m2 q.symm)
        rw [tn, Option.bind_some]
        simp (disch := omega) only [x_l1, nI_add]
        congr 1
        refine x_ar_g (fun j hj => congrArg nI ?_)
        symm
        refine x_row_flip (F := g_EL T b p k) (G := g_EL T b p (k + 1)) hk m5 (fun q => m2 q.symm) hj (fun x y hx hy => ?_)
        unfold g_EL
        by_cases z : (x = k ∧ y = m) ∨ (x = m ∧ y = k)
        · rw [decide_eq_true z]
          rcases z with ⟨rfl, rfl⟩ | ⟨rfl, rfl⟩
          · have := (only y hy).mpr rfl
            rw [this]
            simp
            omega
          · have := (only2 x hx).mpr rfl
            rw [this]
            simp
            omega
        · rw [decide_eq_false z, Bool.xor_false, Bool.eq_iff_iff]
          simp only [Bool.and_eq_true, Bool.or_eq_true, decide_eq_true_eq]
          constructor
          · rintro ⟨q1, q2⟩
            refine ⟨q1, ?_⟩
            by_cases z1 : x = k
            · subst z1
              exact absurd (Or.inl ⟨rfl, (only y hy).mp q1⟩) z
            · by_cases z2 : y = k
              · subst z2
                exact absurd (Or.inr ⟨(only2 x hx).mp q1, rfl⟩) z
              · omega
          · rintro ⟨q1, q2⟩; exact ⟨q1, by omega⟩
    · rw [if_neg c, if_pos (c := nI 0 = 0) nI_0]
      simp (disch := omega) only [x_l1, nI_add]
      congr 1
      refine x_ar_g (fun j hj => congrArg nI (x_mk_cong (fun i hi => ?_)))
      unfold g_EL
      rw [Bool.eq_iff_iff]
      simp only [Bool.and_eq_true, Bool.or_eq_true, decide_eq_true_eq]
      constructor
      · rintro ⟨q1, q2⟩; exact ⟨q1, by omega⟩
      · rintro ⟨q1, q2⟩
        refine ⟨q1, ?_⟩
        by_cases z1 : j = k
        · subst z1
          exact absurd ((g_E_1m w).mp q1).1 c
        · by_cases z2 : i = k
          · subst z2
            exact absurd ((g_E_1m w).mp (hE 1 j i q1).2.2.2.2).1 c
          · omega
theorem s5_go (w : wT T) (hc : cP0 T P S) (hP : P = 3 ∨ P = 17) (hS : cS T b t S) (hp : p < g_np T b) (hk : S.1 69 0 = nI p → cWR T b t p S) : ∃ S', f_X5_go P (nI p) S = some ((), S') ∧ x_fr wW S S' ∧ S'.1 69 0 = nI p ∧ cWR T b t p S' := by
  have hN := g_np_le (b := b) w
  have h0 := wT_b w
  have nl := g_ns_le (b := b) (p := p) w
  by_cases c : S.1 69 0 = nI p
  · refine ⟨S, ?_, x_fr_rf, c, hk c⟩
    rw [f_X5_go, if_pos c]
  · have cul := g_cu_lt (b := b) w p
    have lay := s6_lay (W := 72) w hc (b := g_cu T b p) (by omega) hP (by omega)
    have fr1 : x_fr wW S (x_ar (x_ar S 74 9 (fun _ => nI 0)) 73 9 (fun k => nI (g_M T (g_cu T b p) k))) := x_fr_a (x_fr_a x_fr_rf (fun _ _ => ⟨by omega, by omega⟩)) (fun _ _ => ⟨by omega, by omega⟩)
    have sw : x_ar (x_ar S 74 9 (fun _ => nI 0)) 73 9 (fun k => nI (g_M T (g_cu T b p) k)) = x_ar (x_ar S 73 9 (fun k => nI (g_M T (g_cu T b p) k))) 74 9 (fun _ => nI 0) := by
      refine x_zext (fun k j => ?_) rfl
      simp only [x_ar_1]
      by_cases q1 : k = 73 ∧ j < 9
      · rw [if_pos q1, if_neg (fun q => by omega), if_pos q1]
      · by_cases q2 : k = 74 ∧ j < 9
        · rw [if_neg q1, if_pos q2, if_pos q2]
        · rw [if_neg q1, if_neg q2, if_neg q2, if_neg q1]
    have l17 := s5_lay17 (S := x_ar S 73 9 (fun k => nI (g_M T (g_cu T b p) k))) (P := P) w hp (by rw [x_ar_k (by omega)]; exact (hS.1.1.2 p hp).2.1) (fun k hk => by rw [x_ar_k (by omega)]; exact hS.2.2.1 k hk)
    have fr2 : x_fr wW S (x_ar (x_ar S 73 9 (fun k => nI (g_M T (g_cu T b p) k))) 74 9 (fun j => nI (g_R (g_E T b p) 1 j))) := x_fr_a (x_fr_a x_fr_rf (fun _ _ => ⟨by omega, by omega⟩)) (fun _ _ => ⟨by omega, by omega⟩)
    have hE2 : cE (g_E T b p) (x_ar (x_ar S 73 9 (fun k => nI (g_M T (g_cu T b p) k))) 74 9 (fun j => nI (g_R (g_E T b p) 1 j))) := fun k hk => by
      refine ⟨?_, x_ar_in hk⟩
      rw [x_ar_k (by omega), x_ar_in hk]
      congr 1
      apply Nat.eq_of_testBit_eq
      intro i
      unfold g_R
      rw [x_mk_bit, g_E_0]
      by_cases hi : i < 9
      · simp [hi]
      · rw [b_bit_hi (g_M_lt (T := T) (g_cu T b p) k) (by omega)]; simp [hi]
    have hS2 := cS_fr hS fr2 (fun q j q1 q2 => by unfold wW at q2; omega)
    generalize x_ar (x_ar S 73 9 (fun k => nI (g_M T (g_cu T b p) k))) 74 9 (fun j => nI (g_R (g_E T b p) 1 j)) = S2 at *
    have so := s4_stepsOf hS2.1.1 w hp
    have sto := s4_startOf hS2.1.1 w hp
    obtain ⟨S', g1, g2, g3, g4⟩ := s5_go48 (P := P) (t := t) (S := z_w S2 69 1 (nI 0)) w hp (fun k hk => by rw [b_wk (by omega), b_wk (by omega)]; exact hE2 k hk) b_wh
    refine ⟨S', ?_, x_fr_tr (x_fr_w fr2 ⟨by omega, by omega⟩) g2, g3, g4⟩
    have e58 := (hS.1.1.2 p hp).1
    have hlay : f_X5_layOut P (nI p) S = some ((), S2) := by
      rw [f_X5_layOut, if_pos ((x_in (by omega)).mpr (by omega)), nI_clamp (by omega), e58, lay, Option.bind_some, sw]
      exact l17
    rw [f_X5_go, if_neg c, s4_hasT hS.1.1 w hp, Option.bind_some, if_neg (c := nI 1 = 0) (by decide)]
    dsimp only
    rw [hlay, Option.bind_some]
    dsimp only
    rw [so, Option.bind_some]
    dsimp only
    rw [sto, Option.bind_some]
    dsimp only
    rw [if_neg (show ¬ (18 : Int32) < nI (g_ns T b p) from nI_nlt (a := 18) (by omega) (by omega))]
    exact g1
end CG
