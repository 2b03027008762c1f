def w_X8_unseen (k j : Nat) : Prop := k = 81 ∨ k = 82
set_option maxHeartbeats 4000000 in
theorem fr_X8_unseen : ∀ (S : zS), zFR w_X8_unseen (f_X8_unseen  S) S := by
  intro  S
  unfold f_X8_unseen
  repeat' (first
    | with_reducible exact fr_none
    | with_reducible refine fr_if (fun _ => ?_) (fun _ => ?_)
    | with_reducible refine fr_some ?_
    | with_reducible exact z_fr_rf
    | with_reducible assumption
    | with_reducible refine fr_bind (fr_X7_suspects _ _ _) (fun k j hkj => by unfold w_X7_suspects at hkj; unfold w_X8_unseen; rcases hkj with hkj | hkj; (exact Or.inl hkj); (exact Or.inr hkj)) ?_ (fun _ _ => ?_))
def w_X9_unseenSet (k j : Nat) : Prop := k = 99
set_option maxHeartbeats 4000000 in
theorem fr_X9_unseenSet_109 {K4 : Int32 → Int32 → zS → Option (Int32 × zS)} (hK4 : ∀ (v1 : Int32) (v2 : Int32) (S : zS), zFR w_X9_unseenSet (K4 v1 v2 S) S) {K48 : Int32 → Int32 → Int32 → Int32 → zS → Option (Int32 × zS)} (hK48 : ∀ (v1 : Int32) (v2 : Int32) (v3 : Int32) (v4 : Int32) (S : zS), zFR w_X9_unseenSet (K48 v1 v2 v3 v4 S) S) : ∀ (v1 : Int32) (v2 : Int32) (v4 : Int32) (t0 : Int32) (t1 : Int32) (S : zS), zFR w_X9_unseenSet (f_X9_unseenSet_109 K4 K48 v1 v2 v4 t0 t1 S) S := by
  intro v1 v2 v4 t0 t1 S
  unfold f_X9_unseenSet_109
  repeat' (first
    | with_reducible exact fr_none
    | with_reducible refine fr_if (fun _ => ?_) (fun _ => ?_)
    | with_reducible refine fr_some ?_
    | with_reducible exact z_fr_rf
    | with_reducible assumption
    | with_reducible refine fr_bind (fr_X9_has _ _ _) (fun k j hkj => by unfold w_X9_has at hkj; exact hkj.elim) ?_ (fun _ _ => ?_)
    | with_reducible refine fr_bind (fr_X9_roots _ _) (fun k j hkj => by unfold w_X9_roots at hkj; unfold w_X9_unseenSet; exact hkj) ?_ (fun _ _ => ?_)
    | with_reducible refine fr_go ?_ (hK48 _ _ _ _ _)
    | with_reducible refine fr_go ?_ (hK4 _ _ _))
set_option maxHeartbeats 4000000 in
theorem fr_X9_unseenSet_93 {K4 : Int32 → Int32 → zS → Option (Int32 × zS)} (hK4 : ∀ (v1 : Int32) (v2 : Int32) (S : zS), zFR w_X9_unseenSet (K4 v1 v2 S) S) {K48 : Int32 → Int32 → Int32 → Int32 → zS → Option (Int32 × zS)} (hK48 : ∀ (v1 : Int32) (v2 : Int32) (v3 : Int32) (v4 : Int32) (S : zS), zFR w_X9_unseenSet (K48 v1 v2 v3 v4 S) S) : ∀ (v1 : Int32) (v2 : Int32) (v4 : Int32) (t0 : Int32) (S : zS), zFR w_X9_unseenSet (f_X9_unseenSet_93 K4 K48 v1 v2 v4 t0 S) S := by
  intro v1 v2 v4 t0 S
  unfold f_X9_unseenSet_93
  repeat' (first
    | with_reducible exact fr_none
    | with_reducible refine fr_if (fun _ => ?_) (fun _ => ?_)
    | with_reducible refine fr_some ?_
    | with_reducible exact z_fr_rf
    | with_reducible assumption
    | with_reducible refine fr_bind (fr_X9_has _ _ _) (fun k j hkj => by unfold w_X9_has at hkj; exact hkj.elim) ?_ (fun _ _ => ?_)
    | with_reducible refine fr_bind (fr_X9_roots _ _) (fun k j hkj => by unfold w_X9_roots at hkj; unfold w_X9_unseenSet; exact hkj) ?_ (fun _ _ => ?_)
    | with_reducible refine fr_go ?_ (fr_X9_unseenSet_109 (by first | exact hK4 | exact ih) (by first | exact hK48 | exact ih) _ _ _ _ _ _)
    | with_reducible refine fr_go ?_ (hK48 _ _ _ _ _)
    | with_reducible refine fr_go ?_ (hK4 _ _ _))
set_option maxHeartbeats 4000000 in
theorem fr_X9_unseenSet_48 {K4 : Int32 → Int32 → zS → Option (Int32 × zS)} (hK4 : ∀ (v1 : Int32) (v2 : Int32) (S : zS), zFR w_X9_unseenSet (K4 v1 v2 S) S) : ∀ (n : Nat) (v1 : Int32) (v2 : Int32) (v3 : Int32) (v4 : Int32) (S : zS), zFR w_X9_unseenSet (f_X9_unseenSet_48 K4 n v1 v2 v3 v4 S) S := by
  intro n
  induction n with
  | zero =>
    intro v1 v2 v3 v4 S r hr
    cases (show (none : Option (Int32 × zS)) = some r from hr)
  | succ n ih =>
    intro v1 v2 v3 v4 S
    rw [f_X9_unseenSet_48]
    repeat' (first
    | with_reducible exact fr_none
    | with_reducible refine fr_if (fun _ => ?_) (fun _ => ?_)
    | with_reducible refine fr_some ?_
    | with_reducible exact z_fr_rf
    | with_reducible assumption
    | with_reducible refine fr_bind (fr_X9_has _ _ _) (fun k j hkj => by unfold w_X9_has at hkj; exact hkj.elim) ?_ (fun _ _ => ?_)
    | with_reducible refine fr_bind (fr_X9_roots _ _) (fun k j hkj => by unfold w_X9_roots at hkj; unfold w_X9_unseenSet; exact hkj) ?_ (fun _ _ => ?_)
    | with_reducible refine fr_go ?_ (fr_X9_unseenSet_109 (by first | exact hK4 | exact ih) (by first | exact hK48 | exact ih) _ _ _ _ _ _)
    | with_reducible refine fr_go ?_ (fr_X9_unseenSet_93 (by first | exact hK4 | exact ih) (by first | exact hK48 | exact ih) _ _ _ _ _)
    | with_reducible refine fr_go ?_ (hK48 _ _ _ _ _)
    | with_reducible refine fr_go ?_ (hK4 _ _ _)
    | with_reducible refine fr_go ?_ (ih _ _ _ _ _))
set_option maxHeartbeats 4000000 in
theorem fr_X9_unseenSet_4 : ∀ (n : Nat) (v1 : Int32) (v2 : Int32) (S : zS), zFR w_X9_unseenSet (f_X9_unseenSet_4 n v1 v2 S) S := by
  intro n
  induction n with
  | zero =>
    intro v1 v2 S r hr
    cases (show (none : Option (Int32 × zS)) = some r from hr)
  | succ n ih =>
    intro v1 v2 S
    rw [f_X9_unseenSet_4]
    repeat' (first
    | with_reducible exact fr_none
    | with_reducible refine fr_if (fun _ => ?_) (fun _ => ?_)
    | with_reducible refine fr_some ?_
    | with_reducible exact z_fr_rf
    | with_reducible assumption
    | with_reducible refine fr_bind (fr_X9_has _ _ _) (fun k j hkj => by unfold w_X9_has at hkj; exact hkj.elim) ?_ (fun _ _ => ?_)
    | with_reducible refine fr_bind (fr_X9_roots _ _) (fun k j hkj => by unfold w_X9_roots at hkj; unfold w_X9_unseenSet; exact hkj) ?_ (fun _ _ => ?_)
    | with_reducible refine fr_go ?_ (fr_X9_unseenSet_109 (by first | exact hK4 | exact ih) (by first | exact hK48 | exact ih) _ _ _ _ _ _)
    | with_reducible refine fr_go ?_ (fr_X9_unseenSet_93 (by first | exact hK4 | exact ih) (by first | exact hK48 | exact ih) _ _ _ _ _)
    | with_reducible refine fr_go ?_ (fr_X9_unseenSet_48 (by first | exact hK4 | exact ih) 1000 _ _ _ _ _)
    | with_reducible refine fr_go ?_ (hK48 _ _ _ _ _)
    | with_reducible refine fr_go ?_ (hK4 _ _ _)
    | with_reducible refine fr_go ?_ (ih _ _ _))
set_option maxHeartbeats 4000000 in
theorem fr_X9_unseenSet : ∀ (S : zS), zFR w_X9_unseenSet (f_X9_unseenSet  S) S := by
  intro  S
  unfold f_X9_unseenSet
  repeat' (first
    | with_reducible exact fr_none
    | with_reducible refine fr_if (fun _ => ?_) (fun _ => ?_)
    | with_reducible refine fr_some ?_
    | with_reducible exact z_fr_rf
    | with_reducible assumption
    | with_reducible refine fr_bind (fr_X9_has _ _ _) (fun k j hkj => by unfold w_X9_has at hkj; exact hkj.elim) ?_ (fun _ _ => ?_)
    | with_reducible refine fr_bind (fr_X9_roots _ _) (fun k j hkj => by unfold w_X9_roots at hkj; unfold w_X9_unseenSet; exact hkj) ?_ (fun _ _ => ?_)
    | with_reducible refine fr_go ?_ (fr_X9_unseenSet_109 (by first | exact hK4 | exact ih) (by first | exact hK48 | exact ih) _ _ _ _ _ _)
    | with_reducible refine fr_go ?_ (fr_X9_unseenSet_93 (by first | exact hK4 | exact ih) (by first | exact hK48 | exact ih) _ _ _ _ _)
    | with_reducible refine fr_go ?_ (fr_X9_unseenSet_48 (by first | exact hK4 | exact ih) 1000 _ _ _ _ _)
    | with_reducible refine fr_go ?_ (fr_X9_unseenSet_4 1000 _ _ _)
    | with_reducible refine fr_go ?_ (hK48 _ _ _ _ _)
    | with_reducible refine fr_go ?_ (hK4 _ _ _))
def w_X9_unseen (k j : Nat) : Prop := (k = 87 ∧ j = 0) ∨ k = 99
set_option maxHeartbeats 4000000 in
theorem fr_X9_unseen : ∀ (S : zS), zFR w_X9_unseen (f_X9_unseen  S) S := by
  intro  S
  unfold f_X9_unseen
  repeat' (first
    | with_reducible exact fr_none
    | with_reducible refine fr_if (fun _ => ?_) (fun _ => ?_)
    | with_reducible refine fr_some ?_
    | with_reducible refine z_fr_w ?_ (by unfold w_X9_unseen; first | (exact Or.inl ⟨rfl, rfl⟩))
    | with_reducible refine z_fr_u ?_ (by intro j9; unfold w_X9_unseen; first | (exact Or.inl ⟨rfl, rfl⟩))
    | with_reducible exact z_fr_rf
    | with_reducible assumption
    | with_reducible refine fr_bind (fr_X9_unseenSet _) (fun k j hkj => by unfold w_X9_unseenSet at hkj; unfold w_X9_unseen; exact Or.inr hkj) ?_ (fun _ _ => ?_))
def w_X7_countReached (k j : Nat) : Prop := k = 79
set_option maxHeartbeats 4000000 in
theorem fr_X7_countReached_14 : ∀ (n : Nat) (v1 : Int32) (v2 : Int32) (v3 : Int32) (v4 : Int32) (S : zS), zFR w_X7_countReached (f_X7_countReached_14 n v1 v2 v3 v4 S) S := by
  intro n
  induction n with
  | zero =>
    intro v1 v2 v3 v4 S r hr
    cases (show (none : Option (Unit × zS)) = some r from hr)
  | succ n ih =>
    intro v1 v2 v3 v4 S
    rw [f_X7_countReached_14]
    repeat' (first
    | with_reducible exact fr_none
    | with_reducible refine fr_if (fun _ => ?_) (fun _ => ?_)
    | with_reducible refine fr_some ?_
    | with_reducible refine z_fr_w ?_ (by unfold w_X7_countReached; first | (exact rfl))
    | with_reducible refine z_fr_u ?_ (by intro j9; unfold w_X7_countReached; first | (exact rfl))
    | with_reducible exact z_fr_rf
    | with_reducible assumption
    | with_reducible refine fr_bind (fr_X6_reach _ _ _) (fun k j hkj => by unfold w_X6_reach at hkj; exact hkj.elim) ?_ (fun _ _ => ?_)
    | with_reducible refine fr_bind (fr_X8_has _ _ _) (fun k j hkj => by unfold w_X8_has at hkj; exact hkj.elim) ?_ (fun _ _ => ?_)
    | with_reducible refine fr_go ?_ (ih _ _ _ _ _))
set_option maxHeartbeats 4000000 in
theorem fr_X7_countReached : ∀ (a1 : Int32) (a2 : Int32) (S : zS), zFR w_X7_countReached (f_X7_countReached a1 a2 S) S := by
  intro a1 a2 S
  unfold f_X7_countReached
  repeat' (first
    | with_reducible exact fr_none
    | with_reducible refine fr_if (fun _ => ?_) (fun _ => ?_)
    | with_reducible refine fr_some ?_
    | with_reducible refine z_fr_w ?_ (by unfold w_X7_countReached; first | (exact rfl))
    | with_reducible refine z_fr_u ?_ (by intro j9; unfold w_X7_countReached; first | (exact rfl))
    | with_reducible exact z_fr_rf
    | with_reducible assumption
    | with_reducible refine fr_bind (fr_X6_reach _ _ _) (fun k j hkj => by unfold w_X6_reach at hkj; exact hkj.elim) ?_ (fun _ _ => ?_)
    | with_reducible refine fr_bind (fr_X8_has _ _ _) (fun k j hkj => by unfold w_X8_has at hkj; exact hkj.elim) ?_ (fun _ _ => ?_)
    | with_reducible refine fr_go ?_ (fr_X7_countReached_14 1000 _ _ _ _ _))
def w_X7_tallyPairs (p1 : Nat) (k j : Nat) : Prop := k = 79 ∨ k = 81 ∨ k = 82
set_option maxHeartbeats 4000000 in
theorem fr_X7_tallyPairs_48 {p1 : Nat} {K11 : Int32 → Int32 → Int32 → zS → Option (Unit × zS)} (hK11 : ∀ (v2 : Int32) (v3 : Int32) (v4 : Int32) (S : zS), zFR (w_X7_tallyPairs p1) (K11 v2 v3 v4 S) S) : ∀ (n : Nat) (v2 : Int32) (v3 : Int32) (v4 : Int32) (v5 : Int32) (S : zS), zFR (w_X7_tallyPairs p1) (f_X7_tallyPairs_48 p1 K11 n v2 v3 v4 v5 S) S := by
  intro n
  induction n with
  | zero =>
    intro v2 v3 v4 v5 S r hr
    cases (show (none : Option (Unit × zS)) = some r from hr)
  | succ n ih =>
    intro v2 v3 v4 v5 S
    rw [f_X7_tallyPairs_48]
    repeat' (first
    | with_reducible exact fr_none
    | with_reducible refine fr_if (fun _ => ?_) (fun _ => ?_)
    | with_reducible refine fr_some ?_
    | with_reducible exact z_fr_rf
    | with_reducible assumption
    | with_reducible refine fr_bind (fr_J7_fill_53178 _ _ _ _) (fun k j hkj => by unfold w_J7_fill_53178 at hkj; unfold w_X7_tallyPairs; exact Or.inl hkj) ?_ (fun _ _ => ?_)
    | with_reducible refine fr_bind (fr_X8_has _ _ _) (fun k j hkj => by unfold w_X8_has at hkj; exact hkj.elim) ?_ (fun _ _ => ?_)
    | with_reducible refine fr_bind (fr_X6_lay _ _ _ _) (fun k j hkj => by unfold w_X6_lay at hkj; unfold w_X7_tallyPairs; rcases hkj with hkj | hkj; (exact Or.inr (Or.inl hkj)); (exact Or.inr (Or.inr hkj))) ?_ (fun _ _ => ?_)
    | with_reducible refine fr_bind (fr_X7_countReached _ _ _) (fun k j hkj => by unfold w_X7_countReached at hkj; unfold w_X7_tallyPairs; exact Or.inl hkj) ?_ (fun _ _ => ?_)
    | with_reducible refine fr_go ?_ (hK11 _ _ _ _)
    | with_reducible refine fr_go ?_ (ih _ _ _ _ _))
set_option maxHeartbeats 4000000 in
theorem fr_X7_tallyPairs_11 {p1 : Nat} : ∀ (n : Nat) (v2 : Int32) (v3 : Int32) (v4 : Int32) (S : zS), zFR (w_X7_tallyPairs p1) (f_X7_tallyPairs_11 p1 n v2 v3 v4 S) S := by
  intro n
  induction n with
  | zero =>
    intro v2 v3 v4 S r hr
    cases (show (none : Option (Unit × zS)) = some r from hr)
  | succ n ih =>
    intro v2 v3 v4 S
    rw [f_X7_tallyPairs_11]
    repeat' (first
    | with_reducible exact fr_none
    | with_reducible refine fr_if (fun _ => ?_) (fun _ => ?_)
    | with_reducible refine fr_some ?_
    | with_reducible exact z_fr_rf
    | with_reducible assumption
    | with_reducible refine fr_bind (fr_J7_fill_53178 _ _ _ _) (fun k j hkj => by unfold w_J7_fill_53178 at hkj; unfold w_X7_tallyPairs; exact Or.inl hkj) ?_ (fun _ _ => ?_)
    | with_reducible refine fr_bind (fr_X8_has _ _ _) (fun k j hkj => by unfold w_X8_has at hkj; exact hkj.elim) ?_ (fun _ _ => ?_)
    | with_reducible refine fr_bind (fr_X6_lay _ _ _ _) (fun k j hkj => by unfold w_X6_lay at hkj; unfold w_X7_tallyPairs; rcases hkj with hkj | hkj; (exact Or.inr (Or.inl hkj)); (exact Or.inr (Or.inr hkj))) ?_ (fun _ _ => ?_)
    | with_reducible refine fr_bind (fr_X7_countReached _ _ _) (fun k j hkj => by unfold w_X7_countReached at hkj; unfold w_X7_tallyPairs; exact Or.inl hkj) ?_ (fun _ _ => ?_)
    | with_reducible refine fr_go ?_ (fr_X7_tallyPairs_48 (by first | exact hK11 | exact ih) 1000 _ _ _ _ _)
    | with_reducible refine fr_go ?_ (hK11 _ _ _ _)
    | with_reducible refine fr_go ?_ (ih _ _ _ _))
set_option maxHeartbeats 4000000 in
theorem fr_X7_tallyPairs : ∀ (p1 : Nat) (a2 : Int32) (a3 : Int32) (S : zS), zFR (w_X7_tallyPairs p1) (f_X7_tallyPairs p1 a2 a3 S) S := by
  intro p1 a2 a3 S
  unfold f_X7_tallyPairs
  repeat' (first
    | with_reducible exact fr_none
    | with_reducible refine fr_if (fun _ => ?_) (fun _ => ?_)
    | with_reducible refine fr_some ?_
    | with_reducible exact z_fr_rf
    | with_reducible assumption
    | with_reducible refine fr_bind (fr_J7_fill_53178 _ _ _ _) (fun k j hkj => by unfold w_J7_fill_53178 at hkj; unfold w_X7_tallyPairs; exact Or.inl hkj) ?_ (fun _ _ => ?_)
    | with_reducible refine fr_bind (fr_X8_has _ _ _) (fun k j hkj => by unfold w_X8_has at hkj; exact hkj.elim) ?_ (fun _ _ => ?_)
    | with_reducible refine fr_bind (fr_X6_lay _ _ _ _) (fun k j hkj => by unfold w_X6_lay at hkj; unfold w_X7_tallyPairs; rcases hkj with hkj | hkj; (exact Or.inr (Or.inl hkj)); (exact Or.inr (Or.inr hkj))) ?_ (fun _ _ => ?_)
    | with_reducible refine fr_bind (fr_X7_countReached _ _ _) (fun k j hkj => by unfold w_X7_countReached at hkj; unfold w_X7_tallyPairs; exact Or.inl hkj) ?_ (fun _ _ => ?_)
    | with_reducible refine fr_go ?_ (fr_X7_tallyPairs_48 (by first | exact hK11 | exact ih) 1000 _ _ _ _ _)
    | with_reducible refine fr_go ?_ (fr_X7_tallyPairs_11 1000 _ _ _ _)
    | with_reducible refine fr_go ?_ (hK11 _ _ _ _))
def w_X7_bestQuestion (p1 : Nat) (k j : Nat) : Prop := k = 79 ∨ k = 81 ∨ k = 82
set_option maxHeartbeats 4000000 in
theorem fr_X7_bestQuestion_55 {p1 : Nat} {K40 : Int32 → Int32 → Int32 → Int32 → zS → Option (Int32 × zS)} (hK40 : ∀ (v4 : Int32) (v5 : Int32) (v6 : Int32) (v7 : Int32) (S : zS), zFR (w_X7_bestQuestion p1) (K40 v4 v5 v6 v7 S) S) : ∀ (n : Nat) (v4 : Int32) (v5 : Int32) (v6 : Int32) (v7 : Int32) (v8 : Int32) (S : zS), zFR (w_X7_bestQuestion p1) (f_X7_bestQuestion_55 p1 K40 n v4 v5 v6 v7 v8 S) S := by
  intro n
  induction n with
  | zero =>
    intro v4 v5 v6 v7 v8 S r hr
    cases (show (none : Option (Int32 × zS)) = some r from hr)
  | succ n ih =>
    intro v4 v5 v6 v7 v8 S
    rw [f_X7_bestQuestion_55]
    repeat' (first
    | with_reducible exact fr_none
    | with_reducible refine fr_if (fun _ => ?_) (fun _ => ?_)
    | with_reducible refine fr_some ?_
    | with_reducible exact z_fr_rf
    | with_reducible assumption
    | with_reducible refine fr_bind (fr_X7_suspects _ _ _) (fun k j hkj => by unfold w_X7_suspects at hkj; unfold w_X7_bestQuestion; rcases hkj with hkj | hkj; (exact Or.inr (Or.inl hkj)); (exact Or.inr (Or.inr hkj))) ?_ (fun _ _ => ?_)
    | with_reducible refine fr_bind (fr_J6_bitCount_0f7a4 _ _) (fun k j hkj => by unfold w_J6_bitCount_0f7a4 at hkj; exact hkj.elim) ?_ (fun _ _ => ?_)
    | with_reducible refine fr_bind (fr_X7_tallyPairs _ _ _ _) (fun k j hkj => by unfold w_X7_tallyPairs at hkj; unfold w_X7_bestQuestion; rcases hkj with hkj | hkj | hkj; (exact Or.inl hkj); (exact Or.inr (Or.inl hkj)); (exact Or.inr (Or.inr hkj))) ?_ (fun _ _ => ?_)
    | with_reducible refine fr_go ?_ (hK40 _ _ _ _ _)
    | with_reducible refine fr_go ?_ (ih _ _ _ _ _ _))
set_option maxHeartbeats 4000000 in
theorem fr_X7_bestQuestion_40 {p1 : Nat} : ∀ (n : Nat) (v4 : Int32) (v5 : Int32) (v6 : Int32) (v7 : Int32) (S : zS), zFR (w_X7_bestQuestion p1) (f_X7_bestQuestion_40 p1 n v4 v5 v6 v7 S) S := by
  intro n
  induction n with
  | zero =>
    intro v4 v5 v6 v7 S r hr
    cases (show (none : Option (Int32 × zS)) = some r from hr)
  | succ n ih =>
    intro v4 v5 v6 v7 S
    rw [f_X7_bestQuestion_40]
    repeat' (first
    | with_reducible exact fr_none
    | with_reducible refine fr_if (fun _ => ?_) (fun _ => ?_)
    | with_reducible refine fr_some ?_
    | with_reducible exact z_fr_rf
    | with_reducible assumption
    | with_reducible refine fr_bind (fr_X7_suspects _ _ _) (fun k j hkj => by unfold w_X7_suspects at hkj; unfold w_X7_bestQuestion; rcases hkj with hkj | hkj; (exact Or.inr (Or.inl hkj)); (exact Or.inr (Or.inr hkj))) ?_ (fun _ _ => ?_)
    | with_reducible refine fr_bind (fr_J6_bitCount_0f7a4 _ _) (fun k j hkj => by unfold w_J6_bitCount_0f7a4 at hkj; exact hkj.elim) ?_ (fun _ _ => ?_)
    | with_reducible refine fr_bind (fr_X7_tallyPairs _ _ _ _) (fun k j hkj => by unfold w_X7_tallyPairs at hkj; unfold w_X7_bestQuestion; rcases hkj with hkj | hkj | hkj; (exact Or.inl hkj); (exact Or.inr (Or.inl hkj)); (exact Or.inr (Or.inr hkj))) ?_ (fun _ _ => ?_)
    | with_reducible refine fr_go ?_ (fr_X7_bestQuestion_55 (by first | exact hK40 | exact ih) 1000 _ _ _ _ _ _)
    | with_reducible refine fr_go ?_ (hK40 _ _ _ _ _)
    | with_reducible refine fr_go ?_ (ih _ _ _ _ _))
set_option maxHeartbeats 4000000 in
theorem fr_X7_bestQuestion : ∀ (p1 : Nat) (a2 : Int32) (S : zS), zFR (w_X7_bestQuestion p1) (f_X7_bestQuestion p1 a2 S) S := by
  intro p1 a2 S
  unfold f_X7_bestQuestion
  repeat' (first
    | with_reducible exact fr_none
    | with_reducible refine fr_if (fun _ => ?_) (fun _ => ?_)
    | with_reducible refine fr_some ?_
    | with_reducible exact z_fr_rf
    | with_reducible assumption
    | with_reducible refine fr_bind (fr_X7_suspects _ _ _) (fun k j hkj => by unfold w_X7_suspects at hkj; unfold w_X7_bestQuestion; rcases hkj with hkj | hkj; (exact Or.inr (Or.inl hkj)); (exact Or.inr (Or.inr hkj))) ?_ (fun _ _ => ?_)
    | with_reducible refine fr_bind (fr_J6_bitCount_0f7a4 _ _) (fun k j hkj => by unfold w_J6_bitCount_0f7a4 at hkj; exact hkj.elim) ?_ (fun _ _ => ?_)
    | with_reducible refine fr_bind (fr_X7_tallyPairs _ _ _ _) (fun k j hkj => by unfold w_X7_tallyPairs at hkj; unfold w_X7_bestQuestion; rcases hkj with hkj | hkj | hkj; (exact Or.inl hkj); (exact Or.inr (Or.inl hkj)); (exact Or.inr (Or.inr hkj))) ?_ (fun _ _ => ?_)
    | with_reducible refine fr_go ?_ (fr_X7_bestQuestion_55 (by first | exact hK40 | exact ih) 1000 _ _ _ _ _ _)
    | with_reducible refine fr_go ?_ (fr_X7_bestQuestion_40 1000 _ _ _ _ _)
    | with_reducible refine fr_go ?_ (hK40 _ _ _ _ _))
def w_X8_ask (k j : Nat) : Prop := k = 79 ∨ k = 81 ∨ k = 82
set_option maxHeartbeats 4000000 in
theorem fr_X8_ask : ∀ (S : zS), zFR w_X8_ask (f_X8_ask  S) S := by
  intro  S
  unfold f_X8_ask
  repeat' (first
    | with_reducible exact fr_none
    | with_reducible refine fr_if (fun _ => ?_) (fun _ => ?_)
    | with_reducible refine fr_some ?_
    | with_reducible exact z_fr_rf
    | with_reducible assumption
    | with_reducible refine fr_bind (fr_X7_bestQuestion _ _ _) (fun k j hkj => by unfold w_X7_bestQuestion at hkj; unfold w_X8_ask; rcases hkj with hkj | hkj | hkj; (exact Or.inl hkj); (exact Or.inr (Or.inl hkj)); (exact Or.inr (Or.inr hkj))) ?_ (fun _ _ => ?_))
def w_X9_ask (k j : Nat) : Prop := k = 108 ∨ (k = 87 ∧ j = 0) ∨ k = 99
set_option maxHeartbeats 4000000 in
theorem fr_X9_ask_229 {K142 : Int32 → Int32 → Int32 → Int32 → zS → Option (Int32 × zS)} (hK142 : ∀ (v2 : Int32) (v3 : Int32) (v4 : Int32) (v5 : Int32) (S : zS), zFR w_X9_ask (K142 v2 v3 v4 v5 S) S) {K164 : Int32 → Int32 → Int32 → Int32 → Int32 → zS → Option (Int32 × zS)} (hK164 : ∀ (v2 : Int32) (v3 : Int32) (v4 : Int32) (v5 : Int32) (v6 : Int32) (S : zS), zFR w_X9_ask (K164 v2 v3 v4 v5 v6 S) S) : ∀ (v2 : Int32) (v4 : Int32) (v5 : Int32) (v6 : Int32) (v8 : Int32) (t0 : Int32) (S : zS), zFR w_X9_ask (f_X9_ask_229 K142 K164 v2 v4 v5 v6 v8 t0 S) S := by
  intro v2 v4 v5 v6 v8 t0 S
  unfold f_X9_ask_229
  repeat' (first
    | with_reducible exact fr_none
    | with_reducible refine fr_if (fun _ => ?_) (fun _ => ?_)
    | with_reducible refine fr_some ?_
    | with_reducible refine z_fr_w ?_ (by unfold w_X9_ask; first | (exact Or.inr (Or.inl ⟨rfl, rfl⟩)) | (exact Or.inl rfl))
    | with_reducible refine z_fr_u ?_ (by intro j9; unfold w_X9_ask; first | (exact Or.inr (Or.inl ⟨rfl, rfl⟩)) | (exact Or.inl rfl))
    | with_reducible exact z_fr_rf
    | with_reducible assumption
    | with_reducible refine fr_bind (fr_X9_unseenSet _) (fun k j hkj => by unfold w_X9_unseenSet at hkj; unfold w_X9_ask; exact Or.inr (Or.inr hkj)) ?_ (fun _ _ => ?_)
    | with_reducible refine fr_bind (fr_X9_ones _ _) (fun k j hkj => by unfold w_X9_ones at hkj; exact hkj.elim) ?_ (fun _ _ => ?_)
    | with_reducible refine fr_bind (fr_X9_has _ _ _) (fun k j hkj => by unfold w_X9_has at hkj; exact hkj.elim) ?_ (fun _ _ => ?_)
    | with_reducible refine fr_bind (fr_X9_roots _ _) (fun k j hkj => by unfold w_X9_roots at hkj; unfold w_X9_ask; exact Or.inr (Or.inr hkj)) ?_ (fun _ _ => ?_)
    | with_reducible refine fr_go ?_ (hK38 _ _ _ _)
    | with_reducible refine fr_go ?_ (hK75 _ _ _ _ _)
    | with_reducible refine fr_go ?_ (hK164 _ _ _ _ _ _)
    | with_reducible refine fr_go ?_ (hK142 _ _ _ _ _))
set_option maxHeartbeats 4000000 in
theorem fr_X9_ask_208 {K142 : Int32 → Int32 → Int32 → Int32 → zS → Option (Int32 × zS)} (hK142 : ∀ (v2 : Int32) (v3 : Int32) (v4 : Int32) (v5 : Int32) (S : zS), zFR w_X9_ask (K142 v2 v3 v4 v5 S) S) {K164 : Int32 → Int32 → Int32 → Int32 → Int32 → zS → Option (Int32 × zS)} (hK164 : ∀ (v2 : Int32) (v3 : Int32) (v4 : Int32) (v5 : Int32) (v6 : Int32) (S : zS), zFR w_X9_ask (K164 v2 v3 v4 v5 v6 S) S) : ∀ (v2 : Int32) (v3 : Int32) (v4 : Int32) (v5 : Int32) (v6 : Int32) (t0 : Int32) (S : zS), zFR w_X9_ask (f_X9_ask_208 K142 K164 v2 v3 v4 v5 v6 t0 S) S := by
  intro v2 v3 v4 v5 v6 t0 S
  unfold f_X9_ask_208
  repeat' (first
    | with_reducible exact fr_none
    | with_reducible refine fr_if (fun _ => ?_) (fun _ => ?_)
    | with_reducible refine fr_some ?_
    | with_reducible refine z_fr_w ?_ (by unfold w_X9_ask; first | (exact Or.inr (Or.inl ⟨rfl, rfl⟩)) | (exact Or.inl rfl))
    | with_reducible refine z_fr_u ?_ (by intro j9; unfold w_X9_ask; first | (exact Or.inr (Or.inl ⟨rfl, rfl⟩)) | (exact Or.inl rfl))
    | with_reducible exact z_fr_rf
    | with_reducible assumption
    | with_reducible refine fr_bind (fr_X9_unseenSet _) (fun k j hkj => by unfold w_X9_unseenSet at hkj; unfold w_X9_ask; exact Or.inr (Or.inr hkj)) ?_ (fun _ _ => ?_)
    | with_reducible refine fr_bind (fr_X9_ones _ _) (fun k j hkj => by unfold w_X9_ones at hkj; exact hkj.elim) ?_ (fun _ _ => ?_)
    | with_reducible refine fr_bind (fr_X9_has _ _ _) (fun k j hkj => by unfold w_X9_has at hkj; exact hkj.elim) ?_ (fun _ _ => ?_)
    | with_reducible refine fr_bind (fr_X9_roots _ _) (fun k j hkj => by unfold w_X9_roots at hkj; unfold w_X9_ask; exact Or.inr (Or.inr hkj)) ?_ (fun _ _ => ?_)
    | with_reducible refine fr_go ?_ (fr_X9_ask_229 (by first | exact hK142 | exact ih) (by first | exact hK164 | exact ih) _ _ _ _ _ _ _)
    | with_reducible refine fr_go ?_ (hK38 _ _ _ _)
    | with_reducible refine fr_go ?_ (hK75 _ _ _ _ _)
    | with_reducible refine fr_go ?_ (hK164 _ _ _ _ _ _)
    | with_reducible refine fr_go ?_ (hK142 _ _ _ _ _))
set_option maxHeartbeats 4000000 in
theorem fr_X9_ask_164 {K142 : Int32 → Int32 → Int32 → Int32 → zS → Option (Int32 × zS)} (hK142 : ∀ (v2 : Int32) (v3 : Int32) (v4 : Int32) (v5 : Int32) (S : zS), zFR w_X9_ask (K142 v2 v3 v4 v5 S) S) : ∀ (n : Nat) (v2 : Int32) (v3 : Int32) (v4 : Int32) (v5 : Int32) (v6 : Int32) (S : zS), zFR w_X9_ask (f_X9_ask_164 K142 n v2 v3 v4 v5 v6 S) S := by
  intro n
  induction n with
  | zero =>
    intro v2 v3 v4 v5 v6 S r hr
    cases (show (none : Option (Int32 × zS)) = some r from hr)
  | succ n ih =>
    intro v2 v3 v4 v5 v6 S
    rw [f_X9_ask_164]
    repeat' (first
    | with_reducible exact fr_none
    | with_reducible refine fr_if (fun _ => ?_) (fun _ => ?_)
    | with_reducible refine fr_some ?_
    | with_reducible refine z_fr_w ?_ (by unfold w_X9_ask; first | (exact Or.inr (Or.inl ⟨rfl, rfl⟩)) | (exact Or.inl rfl))
    | with_reducible refine z_fr_u ?_ (by intro j9; unfold w_X9_ask; first | (exact Or.inr (Or.inl ⟨rfl, rfl⟩)) | (exact Or.inl rfl))
    | with_reducible exact z_fr_rf
    | with_reducible assumption
    | with_reducible refine fr_bind (fr_X9_unseenSet _) (fun k j hkj => by unfold w_X9_unseenSet at hkj; unfold w_X9_ask; exact Or.inr (Or.inr hkj)) ?_ (fun _ _ => ?_)
    | with_reducible refine fr_bind (fr_X9_ones _ _) (fun k j hkj => by unfold w_X9_ones at hkj; exact hkj.elim) ?_ (fun _ _ => ?_)
    | with_reducible refine fr_bind (fr_X9_has _ _ _) (fun k j hkj => by unfold w_X9_has at hkj; exact hkj.elim) ?_ (fun _ _ => ?_)
    | with_reducible refine fr_bind (fr_X9_roots _ _) (fun k j hkj => by unfold w_X9_roots at hkj; unfold w_X9_ask; exact Or.inr (Or.inr hkj)) ?_ (fun _ _ => ?_)
    | with_reducible refine fr_go ?_ (fr_X9_ask_229 (by first | exact hK142 | exact ih) (by first | exact hK164 | exact ih) _ _ _ _ _ _ _)
    | with_reducible refine fr_go ?_ (fr_X9_ask_208 (by first | exact hK142 | exact ih) (by first | exact hK164 | exact ih) _ _ _ _ _ _ _)
    | with_reducible refine fr_go ?_ (hK38 _ _ _ _)
    | with_reducible refine fr_go ?_ (hK75 _ _ _ _ _)
    | with_reducible refine fr_go ?_ (hK164 _ _ _ _ _ _)
    | with_reducible refine fr_go ?_ (hK142 _ _ _ _ _)
    | with_reducible refine fr_go ?_ (ih _ _ _ _ _ _))
set_option maxHeartbeats 4000000 in
theorem fr_X9_ask_142 : ∀ (n : Nat) (v2 : Int32) (v3 : Int32) (v4 : Int32) (v5 : Int32) (S : zS), zFR w_X9_ask (f_X9_ask_142 n v2 v3 v4 v5 S) S := by
  intro n
  induction n with
  | zero =>
    intro v2 v3 v4 v5 S r hr
    cases (show (none : Option (Int32 × zS)) = some r from hr)
  | succ n ih =>
    intro v2 v3 v4 v5 S
    rw [f_X9_ask_142]
    repeat' (first
    | with_reducible exact fr_none
    | with_reducible refine fr_if (fun _ => ?_) (fun _ => ?_)
    | with_reducible refine fr_some ?_
    | with_reducible refine z_fr_w ?_ (by unfold w_X9_ask; first | (exact Or.inr (Or.inl ⟨rfl, rfl⟩)) | (exact Or.inl rfl))
    | with_reducible refine z_fr_u ?_ (by intro j9; unfold w_X9_ask; first | (exact Or.inr (Or.inl ⟨rfl, rfl⟩)) | (exact Or.inl rfl))
    | with_reducible exact z_fr_rf
    | with_reducible assumption
    | with_reducible refine fr_bind (fr_X9_unseenSet _) (fun k j hkj => by unfold w_X9_unseenSet at hkj; unfold w_X9_ask; exact Or.inr (Or.inr hkj)) ?_ (fun _ _ => ?_)
    | with_reducible refine fr_bind (fr_X9_ones _ _) (fun k j hkj => by unfold w_X9_ones at hkj; exact hkj.elim) ?_ (fun _ _ => ?_)
    | with_reducible refine fr_bind (fr_X9_has _ _ _) (fun k j hkj => by unfold w_X9_has at hkj; exact hkj.elim) ?_ (fun _ _ => ?_)
    | with_reducible refine fr_bind (fr_X9_roots _ _) (fun k j hkj => by unfold w_X9_roots at hkj; unfold w_X9_ask; exact Or.inr (Or.inr hkj)) ?_ (fun _ _ => ?_)
    | with_reducible refine fr_go ?_ (fr_X9_ask_229 (by first | exact hK142 | exact ih) (by first | exact hK164 | exact ih) _ _ _ _ _ _ _)
    | with_reducible refine fr_go ?_ (fr_X9_ask_208 (by first | exact hK142 | exact ih) (by first | exact hK164 | exact ih) _ _ _ _ _ _ _)
    | with_reducible refine fr_go ?_ (fr_X9_ask_164 (by first | exact hK142 | exact ih) 1000 _ _ _ _ _ _)
    | with_reducible refine fr_go ?_ (hK38 _ _ _ _)
    | with_reducible refine fr_go ?_ (hK75 _ _ _ _ _)
    | with_reducible refine fr_go ?_ (hK164 _ _ _ _ _ _)
    | with_reducible refine fr_go ?_ (hK142 _ _ _ _ _)
    | with_reducible refine fr_go ?_ (ih _ _ _ _ _))
set_option maxHeartbeats 4000000 in
theorem fr_X9_ask_118 {K38 : Int32 → Int32 → Int32 → zS → Option (Int32 × zS)} (hK38 : ∀ (v1 : Int32) (v2 : Int32) (v3 : Int32) (S : zS), zFR w_X9_ask (K38 v1 v2 v3 S) S) {K75 : Int32 → Int32 → Int32 → Int32 → zS → Option (Int32 × zS)} (hK75 : ∀ (v1 : Int32) (v2 : Int32) (v3 : Int32) (v4 : Int32) (S : zS), zFR w_X9_ask (K75 v1 v2 v3 v4 S) S) : ∀ (v1 : Int32) (v2 : Int32) (v3 : Int32) (v4 : Int32) (t0 : Int32) (t1 : Int32) (t2 : Int32) (S : zS), zFR w_X9_ask (f_X9_ask_118 K38 K75 v1 v2 v3 v4 t0 t1 t2 S) S := by
  intro v1 v2 v3 v4 t0 t1 t2 S
  unfold f_X9_ask_118
  repeat' (first
    | with_reducible exact fr_none
    | with_reducible refine fr_if (fun _ => ?_) (fun _ => ?_)
    | with_reducible refine fr_some ?_
    | with_reducible refine z_fr_w ?_ (by unfold w_X9_ask; first | (exact Or.inr (Or.inl ⟨rfl, rfl⟩)) | (exact Or.inl rfl))
    | with_reducible refine z_fr_u ?_ (by intro j9; unfold w_X9_ask; first | (exact Or.inr (Or.inl ⟨rfl, rfl⟩)) | (exact Or.inl rfl))
    | with_reducible exact z_fr_rf
    | with_reducible assumption
    | with_reducible refine fr_bind (fr_X9_unseenSet _) (fun k j hkj => by unfold w_X9_unseenSet at hkj; unfold w_X9_ask; exact Or.inr (Or.inr hkj)) ?_ (fun _ _ => ?_)
    | with_reducible refine fr_bind (fr_X9_ones _ _) (fun k j hkj => by unfold w_X9_ones at hkj; exact hkj.elim) ?_ (fun _ _ => ?_)
    | with_reducible refine fr_bind (fr_X9_has _ _ _) (fun k j hkj => by unfold w_X9_has at hkj; exact hkj.elim) ?_ (fun _ _ => ?_)
    | with_reducible refine fr_bind (fr_X9_roots _ _) (fun k j hkj => by unfold w_X9_roots at hkj; unfold w_X9_ask; exact Or.inr (Or.inr hkj)) ?_ (fun _ _ => ?_)
    | with_reducible refine fr_go ?_ (fr_X9_ask_229 (by first | exact hK142 | exact ih) (by first | exact hK164 | exact ih) _ _ _ _ _ _ _)
    | with_reducible refine fr_go ?_ (fr_X9_ask_208 (by first | exact hK142 | exact ih) (by first | exact hK164 | exact ih) _ _ _ _ _ _ _)
    | with_reducible refine fr_go ?_ (fr_X9_ask_164 (by first | exact hK142 | exact ih) 1000 _ _ _ _ _ _)
    | with_reducible refine fr_go ?_ (fr_X9_ask_142 1000 _ _ _ _ _)
    | with_reducible refine fr_go ?_ (hK38 _ _ _ _)
    | with_reducible refine fr_go ?_ (hK75 _ _ _ _ _)
    | with_reducible refine fr_go ?_ (hK164 _ _ _ _ _ _)
    | with_reducible refine fr_go ?_ (hK142 _ _ _ _ _))
set_option maxHeartbeats 4000000 in
theorem fr_X9_ask_75 {K38 : Int32 → Int32 → Int32 → zS → Option (Int32 × zS)} (hK38 : ∀ (v1 : Int32) (v2 : Int32) (v3 : Int32) (S : zS), zFR w_X9_ask (K38 v1 v2 v3 S) S) : ∀ (n : Nat) (v1 : Int32) (v2 : Int32) (v3 : Int32) (v4 : Int32) (S : zS), zFR w_X9_ask (f_X9_ask_75 K38 n v1 v2 v3 v4 S) S := by
  intro n
  induction n with
  | zero =>
    intro v1 v2 v3 v4 S r hr
    cases (show (none : Option (Int32 × zS)) = some r from hr)
  | succ n ih =>
    intro v1 v2 v3 v4 S
    rw [f_X9_ask_75]
    repeat' (first
    | with_reducible exact fr_none
    | with_reducible refine fr_if (fun _ => ?_) (fun _ => ?_)
    | with_reducible refine fr_some ?_
    | with_reducible refine z_fr_w ?_ (by unfold w_X9_ask; first | (exact Or.inr (Or.inl ⟨rfl, rfl⟩)) | (exact Or.inl rfl))
    | with_reducible refine z_fr_u ?_ (by intro j9; unfold w_X9_ask; first | (exact Or.inr (Or.inl ⟨rfl, rfl⟩)) | (exact Or.inl rfl))
    | with_reducible exact z_fr_rf
    | with_reducible assumption
    | with_reducible refine fr_bind (fr_X9_unseenSet _) (fun k j hkj => by unfold w_X9_unseenSet at hkj; unfold w_X9_ask; exact Or.inr (Or.inr hkj)) ?_ (fun _ _ => ?_)
    | with_reducible refine fr_bind (fr_X9_ones _ _) (fun k j hkj => by unfold w_X9_ones at hkj; exact hkj.elim) ?_ (fun _ _ => ?_)
    | with_reducible refine fr_bind (fr_X9_has _ _ _) (fun k j hkj => by unfold w_X9_has at hkj; exact hkj.elim) ?_ (fun _ _ => ?_)
    | with_reducible refine fr_bind (fr_X9_roots _ _) (fun k j hkj => by unfold w_X9_roots at hkj; unfold w_X9_ask; exact Or.inr (Or.inr hkj)) ?_ (fun _ _ => ?_)
    | with_reducible refine fr_go ?_ (fr_X9_ask_229 (by first | exact hK142 | exact ih) (by first | exact hK164 | exact ih) _ _ _ _ _ _ _)
    | with_reducible refine fr_go ?_ (fr_X9_ask_208 (by first | exact hK142 | exact ih) (by first | exact hK164 | exact ih) _ _ _ _ _ _ _)
    | with_reducible refine fr_go ?_ (fr_X9_ask_164 (by first | exact hK142 | exact ih) 1000 _ _ _ _ _ _)
    | with_reducible refine fr_go ?_ (fr_X9_ask_142 1000 _ _ _ _ _)
    | with_reducible refine fr_go ?_ (fr_X9_ask_118 (by first | exact hK38 | exact ih) (by first | exact hK75 | exact ih) _ _ _ _ _ _ _ _)
    | with_reducible refine fr_go ?_ (hK38 _ _ _ _)
    | with_reducible refine fr_go ?_ (hK75 _ _ _ _ _)
    | with_reducible refine fr_go ?_ (hK164 _ _ _ _ _ _)
    | with_reducible refine fr_go ?_ (hK142 _ _ _ _ _)
    | with_reducible refine fr_go ?_ (ih _ _ _ _ _))
set_option maxHeartbeats 4000000 in
theorem fr_X9_ask_38 : ∀ (n : Nat) (v1 : Int32) (v2 : Int32) (v3 : Int32) (S : zS), zFR w_X9_ask (f_X9_ask_38 n v1 v2 v3 S) S := by
  intro n
  induction n with
  | zero =>
    intro v1 v2 v3 S r hr
    cases (show (none : Option (Int32 × zS)) = some r from hr)
  | succ n ih =>
    intro v1 v2 v3 S
    rw [f_X9_ask_38]
    repeat' (first
    | with_reducible exact fr_none
    | with_reducible refine fr_if (fun _ => ?_) (fun _ => ?_)
    | with_reducible refine fr_some ?_
    | with_reducible refine z_fr_w ?_ (by unfold w_X9_ask; first | (exact Or.inr (Or.inl ⟨rfl, rfl⟩)) | (exact Or.inl rfl))
    | with_reducible refine z_fr_u ?_ (by intro j9; unfold w_X9_ask; first | (exact Or.inr (Or.inl ⟨rfl, rfl⟩)) | (exact Or.inl rfl))
    | with_reducible exact z_fr_rf
    | with_reducible assumption
    | with_reducible refine fr_bind (fr_X9_unseenSet _) (fun k j hkj => by unfold w_X9_unseenSet at hkj; unfold w_X9_ask; exact Or.inr (Or.inr hkj)) ?_ (fun _ _ => ?_)
    | with_reducible refine fr_bind (fr_X9_ones _ _) (fun k j hkj => by unfold w_X9_ones at hkj; exact hkj.elim) ?_ (fun _ _ => ?_)
    | with_reducible refine fr_bind (fr_X9_has _ _ _) (fun k j hkj => by unfold w_X9_has at hkj; exact hkj.elim) ?_ (fun _ _ => ?_)
    | with_reducible refine fr_bind (fr_X9_roots _ _) (fun k j hkj => by unfold w_X9_roots at hkj; unfold w_X9_ask; exact Or.inr (Or.inr hkj)) ?_ (fun _ _ => ?_)
    | with_reducible refine fr_go ?_ (fr_X9_ask_229 (by first | exact hK142 | exact ih) (by first | exact hK164 | exact ih) _ _ _ _ _ _ _)
    | with_reducible refine fr_go ?_ (fr_X9_ask_208 (by first | exact hK142 | exact ih) (by first | exact hK164 | exact ih) _ _ _ _ _ _ _)
    | with_reducible refine fr_go ?_ (fr_X9_ask_164 (by first | exact hK142 | exact ih) 1000 _ _ _ _ _ _)
    | with_reducible refine fr_go ?_ (fr_X9_ask_142 1000 _ _ _ _ _)
    | with_reducible refine fr_go ?_ (fr_X9_ask_118 (by first | exact hK38 | exact ih) (by first | exact hK75 | exact ih) _ _ _ _ _ _ _ _)
    | with_reducible refine fr_go ?_ (fr_X9_ask_75 (by first | exact hK38 | exact ih) 1000 _ _ _ _ _)
    | with_reducible refine fr_go ?_ (hK38 _ _ _ _)
    | with_reducible refine fr_go ?_ (hK75 _ _ _ _ _)
    | with_reducible refine fr_go ?_ (hK164 _ _ _ _ _ _)
    | with_reducible refine fr_go ?_ (hK142 _ _ _ _ _)
    | with_reducible refine fr_go ?_ (ih _ _ _ _))
set_option maxHeartbeats 4000000 in
theorem fr_X9_ask_17 : ∀ (n : Nat) (v1 : Int32) (v2 : Int32) (v3 : Int32) (S : zS), zFR w_X9_ask (f_X9_ask_17 n v1 v2 v3 S) S := by
  intro n
  induction n with
  | zero =>
    intro v1 v2 v3 S r hr
    cases (show (none : Option (Int32 × zS)) = some r from hr)
  | succ n ih =>
    intro v1 v2 v3 S
    rw [f_X9_ask_17]
    repeat' (first
    | with_reducible exact fr_none
    | with_reducible refine fr_if (fun _ => ?_) (fun _ => ?_)
    | with_reducible refine fr_some ?_
    | with_reducible refine z_fr_w ?_ (by unfold w_X9_ask; first | (exact Or.inr (Or.inl ⟨rfl, rfl⟩)) | (exact Or.inl rfl))
    | with_reducible refine z_fr_u ?_ (by intro j9; unfold w_X9_ask; first | (exact Or.inr (Or.inl ⟨rfl, rfl⟩)) | (exact Or.inl rfl))
    | with_reducible exact z_fr_rf
    | with_reducible assumption
    | with_reducible refine fr_bind (fr_X9_unseenSet _) (fun k j hkj => by unfold w_X9_unseenSet at hkj; unfold w_X9_ask; exact Or.inr (Or.inr hkj)) ?_ (fun _ _ => ?_)
    | with_reducible refine fr_bind (fr_X9_ones _ _) (fun k j hkj => by unfold w_X9_ones at hkj; exact hkj.elim) ?_ (fun _ _ => ?_)
    | with_reducible refine fr_bind (fr_X9_has _ _ _) (fun k j hkj => by unfold w_X9_has at hkj; exact hkj.elim) ?_ (fun _ _ => ?_)
    | with_reducible refine fr_bind (fr_X9_roots _ _) (fun k j hkj => by unfold w_X9_roots at hkj; unfold w_X9_ask; exact Or.inr (Or.inr hkj)) ?_ (fun _ _ => ?_)
    | with_reducible refine fr_go ?_ (fr_X9_ask_229 (by first | exact hK142 | exact ih) (by first | exact hK164 | exact ih) _ _ _ _ _ _ _)
    | with_reducible refine fr_go ?_ (fr_X9_ask_208 (by first | exact hK142 | exact ih) (by first | exact hK164 | exact ih) _ _ _ _ _ _ _)
    | with_reducible refine fr_go ?_ (fr_X9_ask_164 (by first | exact hK142 | exact ih) 1000 _ _ _ _ _ _)
    | with_reducible refine fr_go ?_ (fr_X9_ask_142 1000 _ _ _ _ _)
    | with_reducible refine fr_go ?_ (fr_X9_ask_118 (by first | exact hK38 | exact ih) (by first | exact hK75 | exact ih) _ _ _ _ _ _ _ _)
    | with_reducible refine fr_go ?_ (fr_X9_ask_75 (by first | exact hK38 | exact ih) 1000 _ _ _ _ _)
    | with_reducible refine fr_go ?_ (fr_X9_ask_38 1000 _ _ _ _)
    | with_reducible refine fr_go ?_ (hK38 _ _ _ _)
    | with_reducible refine fr_go ?_ (hK75 _ _ _ _ _)
    | with_reducible refine fr_go ?_ (hK164 _ _ _ _ _ _)
    | with_reducible refine fr_go ?_ (hK142 _ _ _ _ _)
    | with_reducible refine fr_go ?_ (ih _ _ _ _))
set_option maxHeartbeats 4000000 in
theorem fr_X9_ask : ∀ (S : zS), zFR w_X9_ask (f_X9_ask  S) S := by
  intro  S
  unfold f_X9_ask
  repeat' (first
    | with_reducible exact fr_none
    | with_reducible refine fr_if (fun _ => ?_) (fun _ => ?_)
    | with_reducible refine fr_some ?_
    | with_reducible refine z_fr_w ?_ (by unfold w_X9_ask; first | (exact Or.inr (Or.inl ⟨rfl, rfl⟩)) | (exact Or.inl rfl))
    | with_reducible refine z_fr_u ?_ (by intro j9; unfold w_X9_ask; first | (exact Or.inr (Or.inl ⟨rfl, rfl⟩)) | (exact Or.inl rfl))
    | with_reducible exact z_fr_rf
    | with_reducible assumption
    | with_reducible refine fr_bind (fr_X9_unseenSet _) (fun k j hkj => by unfold w_X9_unseenSet at hkj; unfold w_X9_ask; exact Or.inr (Or.inr hkj)) ?_ (fun _ _ => ?_)
    | with_reducible refine fr_bind (fr_X9_ones _ _) (fun k j hkj => by unfold w_X9_ones at hkj; exact hkj.elim) ?_ (fun _ _ => ?_)
    | with_reducible refine fr_bind (fr_X9_has _ _ _) (fun k j hkj => by unfold w_X9_has at hkj; exact hkj.elim) ?_ (fun _ _ => ?_)
    | with_reducible refine fr_bind (fr_X9_roots _ _) (fun k j hkj => by unfold w_X9_roots at hkj; unfold w_X9_ask; exact Or.inr (Or.inr hkj)) ?_ (fun _ _ => ?_)
    | with_reducible refine fr_go ?_ (fr_X9_ask_229 (by first | exact hK142 | exact ih) (by first | exact hK164 | exact ih) _ _ _ _ _ _ _)
    | with_reducible refine fr_go ?_ (fr_X9_ask_208 (by first | exact hK142 | exact ih) (by first | exact hK164 | exact ih) _ _ _ _ _ _ _)
    | with_reducible refine fr_go ?_ (fr_X9_ask_164 (by first | exact hK142 | exact ih) 1000 _ _ _ _ _ _)
    | with_reducible refine fr_go ?_ (fr_X9_ask_142 1000 _ _ _ _ _)
    | with_reducible refine fr_go ?_ (fr_X9_ask_118 (by first | exact hK38 | exact ih) (by first | exact hK75 | exact ih) _ _ _ _ _ _ _ _)
    | with_reducible refine fr_go ?_ (fr_X9_ask_75 (by first | exact hK38 | exact ih) 1000 _ _ _ _ _)
    | with_reducible refine fr_go ?_ (fr_X9_ask_38 1000 _ _ _ _)
    | with_reducible refine fr_go ?_ (fr_X9_ask_17 1000 _ _ _ _)
    | with_reducible refine fr_go ?_ (hK38 _ _ _ _)
    | with_reducible refine fr_go ?_ (hK75 _ _ _ _ _)
    | with_reducible refine fr_go ?_ (hK164 _ _ _ _ _ _)
    | with_reducible refine fr_go ?_ (hK142 _ _ _ _ _))
def w_X8_keep (k j : Nat) : Prop := (k = 1 ∧ j = 8) ∨ (83 ≤ k ∧ k ≤ 86)
set_option maxHeartbeats 4000000 in
theorem fr_X8_keep : ∀ (a1 : Int32) (S : zS), zFR w_X8_keep (f_X8_keep a1 S) S := by
  intro a1 S
  unfold f_X8_keep
  repeat' (first
    | with_reducible exact fr_none
    | with_reducible refine fr_if (fun _ => ?_) (fun _ => ?_)
    | with_reducible refine fr_some ?_
    | with_reducible refine z_fr_w ?_ (by unfold w_X8_keep; first | (exact Or.inl ⟨rfl, rfl⟩))
    | with_reducible refine z_fr_u ?_ (by intro j9; unfold w_X8_keep; first | (exact Or.inl ⟨rfl, rfl⟩))
    | with_reducible exact z_fr_rf
    | with_reducible assumption
    | with_reducible refine fr_bind (fr_X2_become _ _ _) (fun k j hkj => by unfold w_X2_become at hkj; unfold w_X8_keep; rcases hkj with hkj | hkj | hkj | hkj | hkj; (exact Or.inr ((by have h8 := hkj; first | omega | (have hz9 := z_in_lt (n := 4) (by assumption); omega) | (have hz9 := z_in_lt (n := 10) (by assumption); omega) | (have hz9 := z_in_lt (n := 2) (by assumption); omega)))); (exact Or.inr ((by have h8 := hkj; first | omega | (have hz9 := z_in_lt (n := 4) (by assumption); omega) | (have hz9 := z_in_lt (n := 10) (by assumption); omega) | (have hz9 := z_in_lt (n := 2) (by assumption); omega)))); (exact Or.inr ((by have h8 := hkj; first | omega | (have hz9 := z_in_lt (n := 4) (by assumption); omega) | (have hz9 := z_in_lt (n := 10) (by assumption); omega) | (have hz9 := z_in_lt (n := 2) (by assumption); omega)))); (exact Or.inr ((by have h8 := hkj; first | omega | (have hz9 := z_in_lt (n := 4) (by assumption); omega) | (have hz9 := z_in_lt (n := 10) (by assumption); omega) | (have hz9 := z_in_lt (n := 2) (by assumption); omega)))); (exact Or.inr ((by have h8 := hkj; first | omega | (have hz9 := z_in_lt (n := 4) (by assumption); omega) | (have hz9 := z_in_lt (n := 10) (by assumption); omega) | (have hz9 := z_in_lt (n := 2) (by assumption); omega))))) ?_ (fun _ _ => ?_))
def w_X9_keep (k j : Nat) : Prop := (k = 87 ∧ j = 0) ∨ k = 93 ∨ k = 94
set_option maxHeartbeats 4000000 in
theorem fr_X9_keep_18 : ∀ (n : Nat) (v1 : Int32) (v2 : Int32) (S : zS), zFR w_X9_keep (f_X9_keep_18 n v1 v2 S) S := by
  intro n
  induction n with
  | zero =>
    intro v1 v2 S r hr
    cases (show (none : Option (Int32 × zS)) = some r from hr)
  | succ n ih =>
    intro v1 v2 S
    rw [f_X9_keep_18]
    repeat' (first
    | with_reducible exact fr_none
    | with_reducible refine fr_if (fun _ => ?_) (fun _ => ?_)
    | with_reducible refine fr_some ?_
    | with_reducible refine z_fr_w ?_ (by unfold w_X9_keep; first | (exact Or.inl ⟨rfl, rfl⟩) | (exact Or.inr (Or.inr rfl)) | (exact Or.inr (Or.inl rfl)))
    | with_reducible refine z_fr_u ?_ (by intro j9; unfold w_X9_keep; first | (exact Or.inl ⟨rfl, rfl⟩) | (exact Or.inr (Or.inr rfl)) | (exact Or.inr (Or.inl rfl)))
    | with_reducible exact z_fr_rf
    | with_reducible assumption
    | with_reducible refine fr_bind (fr_X9_in _ _ _ _) (fun k j hkj => by unfold w_X9_in at hkj; exact hkj.elim) ?_ (fun _ _ => ?_)
    | with_reducible refine fr_go ?_ (ih _ _ _))
set_option maxHeartbeats 4000000 in
theorem fr_X9_keep : ∀ (a1 : Int32) (S : zS), zFR w_X9_keep (f_X9_keep a1 S) S := by
  intro a1 S
  unfold f_X9_keep
  repeat' (first
    | with_reducible exact fr_none
    | with_reducible refine fr_if (fun _ => ?_) (fun _ => ?_)
    | with_reducible refine fr_some ?_
    | with_reducible refine z_fr_w ?_ (by unfold w_X9_keep; first | (exact Or.inl ⟨rfl, rfl⟩) | (exact Or.inr (Or.inr rfl)) | (exact Or.inr (Or.inl rfl)))
    | with_reducible refine z_fr_u ?_ (by intro j9; unfold w_X9_keep; first | (exact Or.inl ⟨rfl, rfl⟩) | (exact Or.inr (Or.inr rfl)) | (exact Or.inr (Or.inl rfl)))
    | with_reducible exact z_fr_rf
    | with_reducible assumption
    | with_reducible refine fr_bind (fr_X9_in _ _ _ _) (fun k j hkj => by unfold w_X9_in at hkj; exact hkj.elim) ?_ (fun _ _ => ?_)
    | with_reducible refine fr_go ?_ (fr_X9_keep_18 1000 _ _ _))
def w_X8_back (k j : Nat) : Prop := (k = 32 ∧ j = 0) ∨ (k = 32 ∧ j = 1) ∨ (k = 32 ∧ j = 2) ∨ (k = 32 ∧ j = 3) ∨ k = 33 ∨ (k = 34 ∧ j = 2) ∨ (k = 57 ∧ j = 0) ∨ (k = 69 ∧ j = 0)
set_option maxHeartbeats 4000000 in
theorem fr_X8_back : ∀ (a1 : Int32) (S : zS), zFR w_X8_back (f_X8_back a1 S) S := by
  intro a1 S
  unfold f_X8_back
  repeat' (first
    | with_reducible exact fr_none
    | with_reducible refine fr_if (fun _ => ?_) (fun _ => ?_)
    | with_reducible refine fr_some ?_
    | with_reducible exact z_fr_rf
    | with_reducible assumption
    | with_reducible refine fr_bind (fr_X8_has _ _ _) (fun k j hkj => by unfold w_X8_has at hkj; exact hkj.elim) ?_ (fun _ _ => ?_)
    | with_reducible refine fr_bind (fr_X2_become _ _ _) (fun k j hkj => by unfold w_X2_become at hkj; unfold w_X8_back; rcases hkj with hkj | hkj | hkj | hkj | hkj; (exact Or.inl hkj); (exact Or.inr (Or.inl hkj)); (exact Or.inr (Or.inr (Or.inl hkj))); (exact Or.inr (Or.inr (Or.inr (Or.inl hkj)))); (exact Or.inr (Or.inr (Or.inr (Or.inr (Or.inl hkj)))))) ?_ (fun _ _ => ?_)
    | with_reducible refine fr_bind (fr_X0_lose _) (fun k j hkj => by unfold w_X0_lose at hkj; unfold w_X8_back; exact Or.inr (Or.inr (Or.inr (Or.inr (Or.inr (Or.inl hkj)))))) ?_ (fun _ _ => ?_)
    | with_reducible refine fr_bind (fr_X8_outdate _) (fun k j hkj => by unfold w_X8_outdate at hkj; unfold w_X8_back; rcases hkj with hkj | hkj; (exact Or.inr (Or.inr (Or.inr (Or.inr (Or.inr (Or.inr (Or.inl hkj))))))); (exact Or.inr (Or.inr (Or.inr (Or.inr (Or.inr (Or.inr (Or.inr hkj)))))))) ?_ (fun _ _ => ?_))
def w_X9_back (k j : Nat) : Prop := (k = 87 ∧ j = 0) ∨ (k = 87 ∧ j = 13) ∨ k = 91
set_option maxHeartbeats 4000000 in
theorem fr_X9_back_30 : ∀ (n : Nat) (v1 : Int32) (v2 : Int32) (S : zS), zFR w_X9_back (f_X9_back_30 n v1 v2 S) S := by
  intro n
  induction n with
  | zero =>
    intro v1 v2 S r hr
    cases (show (none : Option (Int32 × zS)) = some r from hr)
  | succ n ih =>
    intro v1 v2 S
    rw [f_X9_back_30]
    repeat' (first
    | with_reducible exact fr_none
    | with_reducible refine fr_if (fun _ => ?_) (fun _ => ?_)
    | with_reducible refine fr_some ?_
    | with_reducible refine z_fr_w ?_ (by unfold w_X9_back; first | (exact Or.inl ⟨rfl, rfl⟩) | (exact Or.inr (Or.inl ⟨rfl, rfl⟩)) | (exact Or.inr (Or.inr rfl)))
    | with_reducible refine z_fr_u ?_ (by intro j9; unfold w_X9_back; first | (exact Or.inl ⟨rfl, rfl⟩) | (exact Or.inr (Or.inl ⟨rfl, rfl⟩)) | (exact Or.inr (Or.inr rfl)))
    | with_reducible exact z_fr_rf
    | with_reducible assumption
    | with_reducible refine fr_bind (fr_X9_in _ _ _ _) (fun k j hkj => by unfold w_X9_in at hkj; exact hkj.elim) ?_ (fun _ _ => ?_)
    | with_reducible refine fr_go ?_ (ih _ _ _))
set_option maxHeartbeats 4000000 in
theorem fr_X9_back : ∀ (a1 : Int32) (S : zS), zFR w_X9_back (f_X9_back a1 S) S := by
  intro a1 S
  unfold f_X9_back
  repeat' (first
    | with_reducible exact fr_none
    | with_reducible refine fr_if (fun _ => ?_) (fun _ => ?_)
    | with_reducible refine fr_some ?_
    | with_reducible refine z_fr_w ?_ (by unfold w_X9_back; first | (exact Or.inl ⟨rfl, rfl⟩) | (exact Or.inr (Or.inl ⟨rfl, rfl⟩)) | (exact Or.inr (Or.inr rfl)))
    | with_reducible refine z_fr_u ?_ (by intro j9; unfold w_X9_back; first | (exact Or.inl ⟨rfl, rfl⟩) | (exact Or.inr (Or.inl ⟨rfl, rfl⟩)) | (exact Or.inr (Or.inr rfl)))
    | with_reducible exact z_fr_rf
    | with_reducible assumption
    | with_reducible refine fr_bind (fr_X9_in _ _ _ _) (fun k j hkj => by unfold w_X9_in at hkj; exact hkj.elim) ?_ (fun _ _ => ?_)
    | with_reducible refine fr_go ?_ (fr_X9_back_30 1000 _ _ _))
def w_X8_count (k j : Nat) : Prop := (k = 57 ∧ j = 0) ∨ (k = 57 ∧ j = 1) ∨ (k = 57 ∧ j = 10) ∨ k = 58 ∨ k = 59 ∨ k = 60 ∨ k = 61 ∨ k = 62 ∨ k = 63 ∨ k = 64 ∨ k = 65 ∨ k = 67 ∨ k = 68
set_option maxHeartbeats 4000000 in
theorem fr_X8_count : ∀ (a1 : Int32) (S : zS), zFR w_X8_count (f_X8_count a1 S) S := by
  intro a1 S
  unfold f_X8_count
  repeat' (first
    | with_reducible exact fr_none
    | with_reducible refine fr_if (fun _ => ?_) (fun _ => ?_)
    | with_reducible refine fr_some ?_
    | with_reducible exact z_fr_rf
    | with_reducible assumption
    | with_reducible refine fr_bind (fr_J6_bitCount_0f7a4 _ _) (fun k j hkj => by unfold w_J6_bitCount_0f7a4 at hkj; exact hkj.elim) ?_ (fun _ _ => ?_)
    | with_reducible refine fr_bind (fr_X8_surveyed _) (fun k j hkj => by unfold w_X8_surveyed at hkj; unfold w_X8_count; rcases hkj with hkj | hkj | hkj | hkj | hkj | hkj | hkj | hkj | hkj | hkj | hkj | hkj | hkj; (exact Or.inl hkj); (exact Or.inr (Or.inl hkj)); (exact Or.inr (Or.inr (Or.inl hkj))); (exact Or.inr (Or.inr (Or.inr (Or.inl hkj)))); (exact Or.inr (Or.inr (Or.inr (Or.inr (Or.inl hkj))))); (exact Or.inr (Or.inr (Or.inr (Or.inr (Or.inr (Or.inl hkj)))))); (exact Or.inr (Or.inr (Or.inr (Or.inr (Or.inr (Or.inr (Or.inl hkj))))))); (exact Or.inr (Or.inr (Or.inr (Or.inr (Or.inr (Or.inr (Or.inr (Or.inl hkj)))))))); (exact Or.inr (Or.inr (Or.inr (Or.inr (Or.inr (Or.inr (Or.inr (Or.inr (Or.inl hkj))))))))); (exact Or.inr (Or.inr (Or.inr (Or.inr (Or.inr (Or.inr (Or.inr (Or.inr (Or.inr (Or.inl hkj)))))))))); (exact Or.inr (Or.inr (Or.inr (Or.inr (Or.inr (Or.inr (Or.inr (Or.inr (Or.inr (Or.inr (Or.inl hkj))))))))))); (exact Or.inr (Or.inr (Or.inr (Or.inr (Or.inr (Or.inr (Or.inr (Or.inr (Or.inr (Or.inr (Or.inr (Or.inl hkj)))))))))))); (exact Or.inr (Or.inr (Or.inr (Or.inr (Or.inr (Or.inr (Or.inr (Or.inr (Or.inr (Or.inr (Or.inr (Or.inr hkj))))))))))))) ?_ (fun _ _ => ?_))
def w_X9_count (k j : Nat) : Prop := k = 100 ∨ (k = 87 ∧ j = 0) ∨ (k = 87 ∧ j = 23) ∨ k = 99
set_option maxHeartbeats 4000000 in
theorem fr_X9_count : ∀ (a1 : Int32) (S : zS), zFR w_X9_count (f_X9_count a1 S) S := by
  intro a1 S
  unfold f_X9_count
  repeat' (first
    | with_reducible exact fr_none
    | with_reducible refine fr_if (fun _ => ?_) (fun _ => ?_)
    | with_reducible refine fr_some ?_
    | with_reducible refine z_fr_w ?_ (by unfold w_X9_count; first | (exact Or.inr (Or.inl ⟨rfl, rfl⟩)))
    | with_reducible refine z_fr_u ?_ (by intro j9; unfold w_X9_count; first | (exact Or.inr (Or.inl ⟨rfl, rfl⟩)))
    | with_reducible exact z_fr_rf
    | with_reducible assumption
    | with_reducible refine fr_bind (fr_X9_in _ _ _ _) (fun k j hkj => by unfold w_X9_in at hkj; exact hkj.elim) ?_ (fun _ _ => ?_)
    | with_reducible refine fr_bind (fr_X9_pieces _) (fun k j hkj => by unfold w_X9_pieces at hkj; unfold w_X9_count; rcases hkj with hkj | hkj | hkj; (exact Or.inl hkj); (exact Or.inr (Or.inr (Or.inl hkj))); (exact Or.inr (Or.inr (Or.inr hkj)))) ?_ (fun _ _ => ?_)
    | with_reducible refine fr_bind (fr_X9_ones _ _) (fun k j hkj => by unfold w_X9_ones at hkj; exact hkj.elim) ?_ (fun _ _ => ?_))
