def w_X9_tours (k j : Nat) : Prop := k = 100 ∨ k = 106 ∨ k = 107 ∨ (k = 87 ∧ j = 23) ∨ (k = 87 ∧ j = 32) ∨ k = 99
set_option maxHeartbeats 4000000 in
theorem fr_X9_tours_204 {K37 : Int32 → Int32 → zS → Option (Int32 × zS)} (hK37 : ∀ (v1 : Int32) (v2 : Int32) (S : zS), zFR w_X9_tours (K37 v1 v2 S) S) : ∀ (n : Nat) (v1 : Int32) (v2 : Int32) (v9 : Int32) (S : zS), zFR w_X9_tours (f_X9_tours_204 K37 n v1 v2 v9 S) S := by
  intro n
  induction n with
  | zero =>
    intro v1 v2 v9 S r hr
    cases (show (none : Option (Int32 × zS)) = some r from hr)
  | succ n ih =>
    intro v1 v2 v9 S
    rw [f_X9_tours_204]
    repeat' (first
    | with_reducible exact fr_none
    | with_reducible refine fr_if (fun _ => ?_) (fun _ => ?_)
    | with_reducible refine fr_some ?_
    | with_reducible refine z_fr_w ?_ (by unfold w_X9_tours; first | (exact Or.inr (Or.inr (Or.inr (Or.inr (Or.inl ⟨rfl, rfl⟩))))) | (exact Or.inr (Or.inr (Or.inl rfl))) | (exact Or.inr (Or.inl rfl)))
    | with_reducible refine z_fr_u ?_ (by intro j9; unfold w_X9_tours; first | (exact Or.inr (Or.inr (Or.inr (Or.inr (Or.inl ⟨rfl, rfl⟩))))) | (exact Or.inr (Or.inr (Or.inl rfl))) | (exact Or.inr (Or.inl rfl)))
    | with_reducible exact z_fr_rf
    | with_reducible assumption
    | with_reducible refine fr_bind (fr_X9_pieces _) (fun k j hkj => by unfold w_X9_pieces at hkj; unfold w_X9_tours; rcases hkj with hkj | hkj | hkj; (exact Or.inl hkj); (exact Or.inr (Or.inr (Or.inr (Or.inl hkj)))); (exact Or.inr (Or.inr (Or.inr (Or.inr (Or.inr hkj)))))) ?_ (fun _ _ => ?_)
    | with_reducible refine fr_bind (fr_X9_startOf _ _) (fun k j hkj => by unfold w_X9_startOf at hkj; exact hkj.elim) ?_ (fun _ _ => ?_)
    | with_reducible refine fr_bind (fr_X9_way _ _ _) (fun k j hkj => by unfold w_X9_way at hkj; exact hkj.elim) ?_ (fun _ _ => ?_)
    | with_reducible refine fr_bind (fr_X9_has _ _ _) (fun k j hkj => by unfold w_X9_has at hkj; exact hkj.elim) ?_ (fun _ _ => ?_)
    | with_reducible refine fr_bind (fr_X9_aheadOf _ _) (fun k j hkj => by unfold w_X9_aheadOf at hkj; exact hkj.elim) ?_ (fun _ _ => ?_)
    | with_reducible refine fr_go ?_ (hK67 _ _ _ _ _ _ _ _ _ _)
    | with_reducible refine fr_go ?_ (hK37 _ _ _)
    | with_reducible refine fr_go ?_ (ih _ _ _ _))
set_option maxHeartbeats 4000000 in
theorem fr_X9_tours_130 {K37 : Int32 → Int32 → zS → Option (Int32 × zS)} (hK37 : ∀ (v1 : Int32) (v2 : Int32) (S : zS), zFR w_X9_tours (K37 v1 v2 S) S) {K67 : Int32 → Int32 → Int32 → Int32 → Int32 → Int32 → Int32 → Int32 → Int32 → zS → Option (Int32 × zS)} (hK67 : ∀ (v1 : Int32) (v2 : Int32) (v3 : Int32) (v4 : Int32) (v5 : Int32) (v6 : Int32) (v7 : Int32) (v8 : Int32) (v9 : Int32) (S : zS), zFR w_X9_tours (K67 v1 v2 v3 v4 v5 v6 v7 v8 v9 S) S) : ∀ (v1 : Int32) (v2 : Int32) (v3 : Int32) (v4 : Int32) (v5 : Int32) (v6 : Int32) (v7 : Int32) (v9 : Int32) (v10 : Int32) (t0 : Int32) (S : zS), zFR w_X9_tours (f_X9_tours_130 K37 K67 v1 v2 v3 v4 v5 v6 v7 v9 v10 t0 S) S := by
  intro v1 v2 v3 v4 v5 v6 v7 v9 v10 t0 S
  unfold f_X9_tours_130
  repeat' (first
    | with_reducible exact fr_none
    | with_reducible refine fr_if (fun _ => ?_) (fun _ => ?_)
    | with_reducible refine fr_some ?_
    | with_reducible refine z_fr_w ?_ (by unfold w_X9_tours; first | (exact Or.inr (Or.inr (Or.inr (Or.inr (Or.inl ⟨rfl, rfl⟩))))) | (exact Or.inr (Or.inr (Or.inl rfl))) | (exact Or.inr (Or.inl rfl)))
    | with_reducible refine z_fr_u ?_ (by intro j9; unfold w_X9_tours; first | (exact Or.inr (Or.inr (Or.inr (Or.inr (Or.inl ⟨rfl, rfl⟩))))) | (exact Or.inr (Or.inr (Or.inl rfl))) | (exact Or.inr (Or.inl rfl)))
    | with_reducible exact z_fr_rf
    | with_reducible assumption
    | with_reducible refine fr_bind (fr_X9_pieces _) (fun k j hkj => by unfold w_X9_pieces at hkj; unfold w_X9_tours; rcases hkj with hkj | hkj | hkj; (exact Or.inl hkj); (exact Or.inr (Or.inr (Or.inr (Or.inl hkj)))); (exact Or.inr (Or.inr (Or.inr (Or.inr (Or.inr hkj)))))) ?_ (fun _ _ => ?_)
    | with_reducible refine fr_bind (fr_X9_startOf _ _) (fun k j hkj => by unfold w_X9_startOf at hkj; exact hkj.elim) ?_ (fun _ _ => ?_)
    | with_reducible refine fr_bind (fr_X9_way _ _ _) (fun k j hkj => by unfold w_X9_way at hkj; exact hkj.elim) ?_ (fun _ _ => ?_)
    | with_reducible refine fr_bind (fr_X9_has _ _ _) (fun k j hkj => by unfold w_X9_has at hkj; exact hkj.elim) ?_ (fun _ _ => ?_)
    | with_reducible refine fr_bind (fr_X9_aheadOf _ _) (fun k j hkj => by unfold w_X9_aheadOf at hkj; exact hkj.elim) ?_ (fun _ _ => ?_)
    | with_reducible refine fr_go ?_ (fr_X9_tours_204 (by first | exact hK37 | exact ih) 1000 _ _ _ _)
    | with_reducible refine fr_go ?_ (hK67 _ _ _ _ _ _ _ _ _ _)
    | with_reducible refine fr_go ?_ (hK37 _ _ _))
set_option maxHeartbeats 4000000 in
theorem fr_X9_tours_67 {K37 : Int32 → Int32 → zS → Option (Int32 × zS)} (hK37 : ∀ (v1 : Int32) (v2 : Int32) (S : zS), zFR w_X9_tours (K37 v1 v2 S) S) : ∀ (n : Nat) (v1 : Int32) (v2 : Int32) (v3 : Int32) (v4 : Int32) (v5 : Int32) (v6 : Int32) (v7 : Int32) (v8 : Int32) (v9 : Int32) (S : zS), zFR w_X9_tours (f_X9_tours_67 K37 n v1 v2 v3 v4 v5 v6 v7 v8 v9 S) S := by
  intro n
  induction n with
  | zero =>
    intro v1 v2 v3 v4 v5 v6 v7 v8 v9 S r hr
    cases (show (none : Option (Int32 × zS)) = some r from hr)
  | succ n ih =>
    intro v1 v2 v3 v4 v5 v6 v7 v8 v9 S
    rw [f_X9_tours_67]
    repeat' (first
    | with_reducible exact fr_none
    | with_reducible refine fr_if (fun _ => ?_) (fun _ => ?_)
    | with_reducible refine fr_some ?_
    | with_reducible refine z_fr_w ?_ (by unfold w_X9_tours; first | (exact Or.inr (Or.inr (Or.inr (Or.inr (Or.inl ⟨rfl, rfl⟩))))) | (exact Or.inr (Or.inr (Or.inl rfl))) | (exact Or.inr (Or.inl rfl)))
    | with_reducible refine z_fr_u ?_ (by intro j9; unfold w_X9_tours; first | (exact Or.inr (Or.inr (Or.inr (Or.inr (Or.inl ⟨rfl, rfl⟩))))) | (exact Or.inr (Or.inr (Or.inl rfl))) | (exact Or.inr (Or.inl rfl)))
    | with_reducible exact z_fr_rf
    | with_reducible assumption
    | with_reducible refine fr_bind (fr_X9_pieces _) (fun k j hkj => by unfold w_X9_pieces at hkj; unfold w_X9_tours; rcases hkj with hkj | hkj | hkj; (exact Or.inl hkj); (exact Or.inr (Or.inr (Or.inr (Or.inl hkj)))); (exact Or.inr (Or.inr (Or.inr (Or.inr (Or.inr hkj)))))) ?_ (fun _ _ => ?_)
    | with_reducible refine fr_bind (fr_X9_startOf _ _) (fun k j hkj => by unfold w_X9_startOf at hkj; exact hkj.elim) ?_ (fun _ _ => ?_)
    | with_reducible refine fr_bind (fr_X9_way _ _ _) (fun k j hkj => by unfold w_X9_way at hkj; exact hkj.elim) ?_ (fun _ _ => ?_)
    | with_reducible refine fr_bind (fr_X9_has _ _ _) (fun k j hkj => by unfold w_X9_has at hkj; exact hkj.elim) ?_ (fun _ _ => ?_)
    | with_reducible refine fr_bind (fr_X9_aheadOf _ _) (fun k j hkj => by unfold w_X9_aheadOf at hkj; exact hkj.elim) ?_ (fun _ _ => ?_)
    | with_reducible refine fr_go ?_ (fr_X9_tours_204 (by first | exact hK37 | exact ih) 1000 _ _ _ _)
    | with_reducible refine fr_go ?_ (fr_X9_tours_130 (by first | exact hK37 | exact ih) (by first | exact hK67 | exact ih) _ _ _ _ _ _ _ _ _ _ _)
    | with_reducible refine fr_go ?_ (hK67 _ _ _ _ _ _ _ _ _ _)
    | with_reducible refine fr_go ?_ (hK37 _ _ _)
    | with_reducible refine fr_go ?_ (ih _ _ _ _ _ _ _ _ _ _))
set_option maxHeartbeats 4000000 in
theorem fr_X9_tours_37 : ∀ (n : Nat) (v1 : Int32) (v2 : Int32) (S : zS), zFR w_X9_tours (f_X9_tours_37 n v1 v2 S) S := by
  intro n
  induction n with
  | zero =>
    intro v1 v2 S r hr
    cases (show (none : Option (Int32 × zS)) = some r from hr)
  | succ n ih =>
    intro v1 v2 S
    rw [f_X9_tours_37]
    repeat' (first
    | with_reducible exact fr_none
    | with_reducible refine fr_if (fun _ => ?_) (fun _ => ?_)
    | with_reducible refine fr_some ?_
    | with_reducible refine z_fr_w ?_ (by unfold w_X9_tours; first | (exact Or.inr (Or.inr (Or.inr (Or.inr (Or.inl ⟨rfl, rfl⟩))))) | (exact Or.inr (Or.inr (Or.inl rfl))) | (exact Or.inr (Or.inl rfl)))
    | with_reducible refine z_fr_u ?_ (by intro j9; unfold w_X9_tours; first | (exact Or.inr (Or.inr (Or.inr (Or.inr (Or.inl ⟨rfl, rfl⟩))))) | (exact Or.inr (Or.inr (Or.inl rfl))) | (exact Or.inr (Or.inl rfl)))
    | with_reducible exact z_fr_rf
    | with_reducible assumption
    | with_reducible refine fr_bind (fr_X9_pieces _) (fun k j hkj => by unfold w_X9_pieces at hkj; unfold w_X9_tours; rcases hkj with hkj | hkj | hkj; (exact Or.inl hkj); (exact Or.inr (Or.inr (Or.inr (Or.inl hkj)))); (exact Or.inr (Or.inr (Or.inr (Or.inr (Or.inr hkj)))))) ?_ (fun _ _ => ?_)
    | with_reducible refine fr_bind (fr_X9_startOf _ _) (fun k j hkj => by unfold w_X9_startOf at hkj; exact hkj.elim) ?_ (fun _ _ => ?_)
    | with_reducible refine fr_bind (fr_X9_way _ _ _) (fun k j hkj => by unfold w_X9_way at hkj; exact hkj.elim) ?_ (fun _ _ => ?_)
    | with_reducible refine fr_bind (fr_X9_has _ _ _) (fun k j hkj => by unfold w_X9_has at hkj; exact hkj.elim) ?_ (fun _ _ => ?_)
    | with_reducible refine fr_bind (fr_X9_aheadOf _ _) (fun k j hkj => by unfold w_X9_aheadOf at hkj; exact hkj.elim) ?_ (fun _ _ => ?_)
    | with_reducible refine fr_go ?_ (fr_X9_tours_204 (by first | exact hK37 | exact ih) 1000 _ _ _ _)
    | with_reducible refine fr_go ?_ (fr_X9_tours_130 (by first | exact hK37 | exact ih) (by first | exact hK67 | exact ih) _ _ _ _ _ _ _ _ _ _ _)
    | with_reducible refine fr_go ?_ (fr_X9_tours_67 (by first | exact hK37 | exact ih) 1000 _ _ _ _ _ _ _ _ _ _)
    | with_reducible refine fr_go ?_ (hK67 _ _ _ _ _ _ _ _ _ _)
    | with_reducible refine fr_go ?_ (hK37 _ _ _)
    | with_reducible refine fr_go ?_ (ih _ _ _))
set_option maxHeartbeats 4000000 in
theorem fr_X9_tours_8 : ∀ (n : Nat) (v1 : Int32) (v2 : Int32) (S : zS), zFR w_X9_tours (f_X9_tours_8 n v1 v2 S) S := by
  intro n
  induction n with
  | zero =>
    intro v1 v2 S r hr
    cases (show (none : Option (Int32 × zS)) = some r from hr)
  | succ n ih =>
    intro v1 v2 S
    rw [f_X9_tours_8]
    repeat' (first
    | with_reducible exact fr_none
    | with_reducible refine fr_if (fun _ => ?_) (fun _ => ?_)
    | with_reducible refine fr_some ?_
    | with_reducible refine z_fr_w ?_ (by unfold w_X9_tours; first | (exact Or.inr (Or.inr (Or.inr (Or.inr (Or.inl ⟨rfl, rfl⟩))))) | (exact Or.inr (Or.inr (Or.inl rfl))) | (exact Or.inr (Or.inl rfl)))
    | with_reducible refine z_fr_u ?_ (by intro j9; unfold w_X9_tours; first | (exact Or.inr (Or.inr (Or.inr (Or.inr (Or.inl ⟨rfl, rfl⟩))))) | (exact Or.inr (Or.inr (Or.inl rfl))) | (exact Or.inr (Or.inl rfl)))
    | with_reducible exact z_fr_rf
    | with_reducible assumption
    | with_reducible refine fr_bind (fr_X9_pieces _) (fun k j hkj => by unfold w_X9_pieces at hkj; unfold w_X9_tours; rcases hkj with hkj | hkj | hkj; (exact Or.inl hkj); (exact Or.inr (Or.inr (Or.inr (Or.inl hkj)))); (exact Or.inr (Or.inr (Or.inr (Or.inr (Or.inr hkj)))))) ?_ (fun _ _ => ?_)
    | with_reducible refine fr_bind (fr_X9_startOf _ _) (fun k j hkj => by unfold w_X9_startOf at hkj; exact hkj.elim) ?_ (fun _ _ => ?_)
    | with_reducible refine fr_bind (fr_X9_way _ _ _) (fun k j hkj => by unfold w_X9_way at hkj; exact hkj.elim) ?_ (fun _ _ => ?_)
    | with_reducible refine fr_bind (fr_X9_has _ _ _) (fun k j hkj => by unfold w_X9_has at hkj; exact hkj.elim) ?_ (fun _ _ => ?_)
    | with_reducible refine fr_bind (fr_X9_aheadOf _ _) (fun k j hkj => by unfold w_X9_aheadOf at hkj; exact hkj.elim) ?_ (fun _ _ => ?_)
    | with_reducible refine fr_go ?_ (fr_X9_tours_204 (by first | exact hK37 | exact ih) 1000 _ _ _ _)
    | with_reducible refine fr_go ?_ (fr_X9_tours_130 (by first | exact hK37 | exact ih) (by first | exact hK67 | exact ih) _ _ _ _ _ _ _ _ _ _ _)
    | with_reducible refine fr_go ?_ (fr_X9_tours_67 (by first | exact hK37 | exact ih) 1000 _ _ _ _ _ _ _ _ _ _)
    | with_reducible refine fr_go ?_ (fr_X9_tours_37 1000 _ _ _)
    | with_reducible refine fr_go ?_ (hK67 _ _ _ _ _ _ _ _ _ _)
    | with_reducible refine fr_go ?_ (hK37 _ _ _)
    | with_reducible refine fr_go ?_ (ih _ _ _))
set_option maxHeartbeats 4000000 in
theorem fr_X9_tours : ∀ (S : zS), zFR w_X9_tours (f_X9_tours  S) S := by
  intro  S
  unfold f_X9_tours
  repeat' (first
    | with_reducible exact fr_none
    | with_reducible refine fr_if (fun _ => ?_) (fun _ => ?_)
    | with_reducible refine fr_some ?_
    | with_reducible refine z_fr_w ?_ (by unfold w_X9_tours; first | (exact Or.inr (Or.inr (Or.inr (Or.inr (Or.inl ⟨rfl, rfl⟩))))) | (exact Or.inr (Or.inr (Or.inl rfl))) | (exact Or.inr (Or.inl rfl)))
    | with_reducible refine z_fr_u ?_ (by intro j9; unfold w_X9_tours; first | (exact Or.inr (Or.inr (Or.inr (Or.inr (Or.inl ⟨rfl, rfl⟩))))) | (exact Or.inr (Or.inr (Or.inl rfl))) | (exact Or.inr (Or.inl rfl)))
    | with_reducible exact z_fr_rf
    | with_reducible assumption
    | with_reducible refine fr_bind (fr_X9_pieces _) (fun k j hkj => by unfold w_X9_pieces at hkj; unfold w_X9_tours; rcases hkj with hkj | hkj | hkj; (exact Or.inl hkj); (exact Or.inr (Or.inr (Or.inr (Or.inl hkj)))); (exact Or.inr (Or.inr (Or.inr (Or.inr (Or.inr hkj)))))) ?_ (fun _ _ => ?_)
    | with_reducible refine fr_bind (fr_X9_startOf _ _) (fun k j hkj => by unfold w_X9_startOf at hkj; exact hkj.elim) ?_ (fun _ _ => ?_)
    | with_reducible refine fr_bind (fr_X9_way _ _ _) (fun k j hkj => by unfold w_X9_way at hkj; exact hkj.elim) ?_ (fun _ _ => ?_)
    | with_reducible refine fr_bind (fr_X9_has _ _ _) (fun k j hkj => by unfold w_X9_has at hkj; exact hkj.elim) ?_ (fun _ _ => ?_)
    | with_reducible refine fr_bind (fr_X9_aheadOf _ _) (fun k j hkj => by unfold w_X9_aheadOf at hkj; exact hkj.elim) ?_ (fun _ _ => ?_)
    | with_reducible refine fr_go ?_ (fr_X9_tours_204 (by first | exact hK37 | exact ih) 1000 _ _ _ _)
    | with_reducible refine fr_go ?_ (fr_X9_tours_130 (by first | exact hK37 | exact ih) (by first | exact hK67 | exact ih) _ _ _ _ _ _ _ _ _ _ _)
    | with_reducible refine fr_go ?_ (fr_X9_tours_67 (by first | exact hK37 | exact ih) 1000 _ _ _ _ _ _ _ _ _ _)
    | with_reducible refine fr_go ?_ (fr_X9_tours_37 1000 _ _ _)
    | with_reducible refine fr_go ?_ (fr_X9_tours_8 1000 _ _ _)
    | with_reducible refine fr_go ?_ (hK67 _ _ _ _ _ _ _ _ _ _)
    | with_reducible refine fr_go ?_ (hK37 _ _ _))
def w_X9_oddOf (k j : Nat) : Prop := False
set_option maxHeartbeats 4000000 in
theorem fr_X9_oddOf_4 : ∀ (n : Nat) (v1 : Int32) (v2 : Int32) (v3 : Int32) (S : zS), zFR w_X9_oddOf (f_X9_oddOf_4 n v1 v2 v3 S) S := by
  intro n
  induction n with
  | zero =>
    intro v1 v2 v3 S r hr
    cases (show (none : Option (Int32 × zS)) = some r from hr)
  | succ n ih =>
    intro v1 v2 v3 S
    rw [f_X9_oddOf_4]
    repeat' (first
    | with_reducible exact fr_none
    | with_reducible refine fr_if (fun _ => ?_) (fun _ => ?_)
    | with_reducible refine fr_some ?_
    | with_reducible exact z_fr_rf
    | with_reducible assumption
    | with_reducible refine fr_bind (fr_X9_endsAt _ _ _ _) (fun k j hkj => by unfold w_X9_endsAt at hkj; exact hkj.elim) ?_ (fun _ _ => ?_)
    | with_reducible refine fr_go ?_ (ih _ _ _ _))
set_option maxHeartbeats 4000000 in
theorem fr_X9_oddOf : ∀ (a1 : Int32) (S : zS), zFR w_X9_oddOf (f_X9_oddOf a1 S) S := by
  intro a1 S
  unfold f_X9_oddOf
  repeat' (first
    | with_reducible exact fr_none
    | with_reducible refine fr_if (fun _ => ?_) (fun _ => ?_)
    | with_reducible refine fr_some ?_
    | with_reducible exact z_fr_rf
    | with_reducible assumption
    | with_reducible refine fr_bind (fr_X9_endsAt _ _ _ _) (fun k j hkj => by unfold w_X9_endsAt at hkj; exact hkj.elim) ?_ (fun _ _ => ?_)
    | with_reducible refine fr_go ?_ (fr_X9_oddOf_4 1000 _ _ _ _))
def w_X9_lowest (k j : Nat) : Prop := False
set_option maxHeartbeats 4000000 in
theorem fr_X9_lowest_2 : ∀ (n : Nat) (v0 : Int32) (v1 : Int32) (S : zS), zFR w_X9_lowest (f_X9_lowest_2 n v0 v1 S) S := by
  intro n
  induction n with
  | zero =>
    intro v0 v1 S r hr
    cases (show (none : Option (Int32 × zS)) = some r from hr)
  | succ n ih =>
    intro v0 v1 S
    rw [f_X9_lowest_2]
    repeat' (first
    | with_reducible exact fr_none
    | with_reducible refine fr_if (fun _ => ?_) (fun _ => ?_)
    | with_reducible refine fr_some ?_
    | with_reducible exact z_fr_rf
    | with_reducible assumption
    | with_reducible refine fr_bind (fr_X9_has _ _ _) (fun k j hkj => by unfold w_X9_has at hkj; exact hkj.elim) ?_ (fun _ _ => ?_)
    | with_reducible refine fr_go ?_ (ih _ _ _))
set_option maxHeartbeats 4000000 in
theorem fr_X9_lowest : ∀ (a0 : Int32) (S : zS), zFR w_X9_lowest (f_X9_lowest a0 S) S := by
  intro a0 S
  unfold f_X9_lowest
  repeat' (first
    | with_reducible exact fr_none
    | with_reducible refine fr_if (fun _ => ?_) (fun _ => ?_)
    | with_reducible refine fr_some ?_
    | with_reducible exact z_fr_rf
    | with_reducible assumption
    | with_reducible refine fr_bind (fr_X9_has _ _ _) (fun k j hkj => by unfold w_X9_has at hkj; exact hkj.elim) ?_ (fun _ _ => ?_)
    | with_reducible refine fr_go ?_ (fr_X9_lowest_2 1000 _ _ _))
def w_X9_pairs (k j : Nat) : Prop := k = 102
set_option maxHeartbeats 4000000 in
theorem fr_X9_pairs_123 {K9 : Int32 → Int32 → zS → Option (Unit × zS)} (hK9 : ∀ (v1 : Int32) (v2 : Int32) (S : zS), zFR w_X9_pairs (K9 v1 v2 S) S) {K51 : Int32 → Int32 → Int32 → Int32 → zS → Option (Unit × zS)} (hK51 : ∀ (v1 : Int32) (v2 : Int32) (v3 : Int32) (v4 : Int32) (S : zS), zFR w_X9_pairs (K51 v1 v2 v3 v4 S) S) : ∀ (v1 : Int32) (v2 : Int32) (v3 : Int32) (v4 : Int32) (t0 : Int32) (t1 : Int32) (S : zS), zFR w_X9_pairs (f_X9_pairs_123 K9 K51 v1 v2 v3 v4 t0 t1 S) S := by
  intro v1 v2 v3 v4 t0 t1 S
  unfold f_X9_pairs_123
  repeat' (first
    | with_reducible exact fr_none
    | with_reducible refine fr_if (fun _ => ?_) (fun _ => ?_)
    | with_reducible refine fr_some ?_
    | with_reducible refine z_fr_w ?_ (by unfold w_X9_pairs; first | (exact rfl))
    | with_reducible refine z_fr_u ?_ (by intro j9; unfold w_X9_pairs; first | (exact rfl))
    | with_reducible exact z_fr_rf
    | with_reducible assumption
    | with_reducible refine fr_bind (fr_X9_ones _ _) (fun k j hkj => by unfold w_X9_ones at hkj; exact hkj.elim) ?_ (fun _ _ => ?_)
    | with_reducible refine fr_bind (fr_X9_lowest _ _) (fun k j hkj => by unfold w_X9_lowest at hkj; exact hkj.elim) ?_ (fun _ _ => ?_)
    | with_reducible refine fr_bind (fr_X9_has _ _ _) (fun k j hkj => by unfold w_X9_has at hkj; exact hkj.elim) ?_ (fun _ _ => ?_)
    | with_reducible refine fr_bind (fr_X9_way _ _ _) (fun k j hkj => by unfold w_X9_way at hkj; exact hkj.elim) ?_ (fun _ _ => ?_)
    | with_reducible refine fr_go ?_ (hK9 _ _ _)
    | with_reducible refine fr_go ?_ (hK51 _ _ _ _ _))
set_option maxHeartbeats 4000000 in
theorem fr_X9_pairs_51 {K9 : Int32 → Int32 → zS → Option (Unit × zS)} (hK9 : ∀ (v1 : Int32) (v2 : Int32) (S : zS), zFR w_X9_pairs (K9 v1 v2 S) S) : ∀ (n : Nat) (v1 : Int32) (v2 : Int32) (v3 : Int32) (v4 : Int32) (S : zS), zFR w_X9_pairs (f_X9_pairs_51 K9 n v1 v2 v3 v4 S) S := by
  intro n
  induction n with
  | zero =>
    intro v1 v2 v3 v4 S r hr
    cases (show (none : Option (Unit × zS)) = some r from hr)
  | succ n ih =>
    intro v1 v2 v3 v4 S
    rw [f_X9_pairs_51]
    repeat' (first
    | with_reducible exact fr_none
    | with_reducible refine fr_if (fun _ => ?_) (fun _ => ?_)
    | with_reducible refine fr_some ?_
    | with_reducible refine z_fr_w ?_ (by unfold w_X9_pairs; first | (exact rfl))
    | with_reducible refine z_fr_u ?_ (by intro j9; unfold w_X9_pairs; first | (exact rfl))
    | with_reducible exact z_fr_rf
    | with_reducible assumption
    | with_reducible refine fr_bind (fr_X9_ones _ _) (fun k j hkj => by unfold w_X9_ones at hkj; exact hkj.elim) ?_ (fun _ _ => ?_)
    | with_reducible refine fr_bind (fr_X9_lowest _ _) (fun k j hkj => by unfold w_X9_lowest at hkj; exact hkj.elim) ?_ (fun _ _ => ?_)
    | with_reducible refine fr_bind (fr_X9_has _ _ _) (fun k j hkj => by unfold w_X9_has at hkj; exact hkj.elim) ?_ (fun _ _ => ?_)
    | with_reducible refine fr_bind (fr_X9_way _ _ _) (fun k j hkj => by unfold w_X9_way at hkj; exact hkj.elim) ?_ (fun _ _ => ?_)
    | with_reducible refine fr_go ?_ (fr_X9_pairs_123 (by first | exact hK9 | exact ih) (by first | exact hK51 | exact ih) _ _ _ _ _ _ _)
    | with_reducible refine fr_go ?_ (hK9 _ _ _)
    | with_reducible refine fr_go ?_ (hK51 _ _ _ _ _)
    | with_reducible refine fr_go ?_ (ih _ _ _ _ _))
set_option maxHeartbeats 4000000 in
theorem fr_X9_pairs_9 : ∀ (n : Nat) (v1 : Int32) (v2 : Int32) (S : zS), zFR w_X9_pairs (f_X9_pairs_9 n v1 v2 S) S := by
  intro n
  induction n with
  | zero =>
    intro v1 v2 S r hr
    cases (show (none : Option (Unit × zS)) = some r from hr)
  | succ n ih =>
    intro v1 v2 S
    rw [f_X9_pairs_9]
    repeat' (first
    | with_reducible exact fr_none
    | with_reducible refine fr_if (fun _ => ?_) (fun _ => ?_)
    | with_reducible refine fr_some ?_
    | with_reducible refine z_fr_w ?_ (by unfold w_X9_pairs; first | (exact rfl))
    | with_reducible refine z_fr_u ?_ (by intro j9; unfold w_X9_pairs; first | (exact rfl))
    | with_reducible exact z_fr_rf
    | with_reducible assumption
    | with_reducible refine fr_bind (fr_X9_ones _ _) (fun k j hkj => by unfold w_X9_ones at hkj; exact hkj.elim) ?_ (fun _ _ => ?_)
    | with_reducible refine fr_bind (fr_X9_lowest _ _) (fun k j hkj => by unfold w_X9_lowest at hkj; exact hkj.elim) ?_ (fun _ _ => ?_)
    | with_reducible refine fr_bind (fr_X9_has _ _ _) (fun k j hkj => by unfold w_X9_has at hkj; exact hkj.elim) ?_ (fun _ _ => ?_)
    | with_reducible refine fr_bind (fr_X9_way _ _ _) (fun k j hkj => by unfold w_X9_way at hkj; exact hkj.elim) ?_ (fun _ _ => ?_)
    | with_reducible refine fr_go ?_ (fr_X9_pairs_123 (by first | exact hK9 | exact ih) (by first | exact hK51 | exact ih) _ _ _ _ _ _ _)
    | with_reducible refine fr_go ?_ (fr_X9_pairs_51 (by first | exact hK9 | exact ih) 1000 _ _ _ _ _)
    | with_reducible refine fr_go ?_ (hK9 _ _ _)
    | with_reducible refine fr_go ?_ (hK51 _ _ _ _ _)
    | with_reducible refine fr_go ?_ (ih _ _ _))
set_option maxHeartbeats 4000000 in
theorem fr_X9_pairs : ∀ (a1 : Int32) (S : zS), zFR w_X9_pairs (f_X9_pairs a1 S) S := by
  intro a1 S
  unfold f_X9_pairs
  repeat' (first
    | with_reducible exact fr_none
    | with_reducible refine fr_if (fun _ => ?_) (fun _ => ?_)
    | with_reducible refine fr_some ?_
    | with_reducible refine z_fr_w ?_ (by unfold w_X9_pairs; first | (exact rfl))
    | with_reducible refine z_fr_u ?_ (by intro j9; unfold w_X9_pairs; first | (exact rfl))
    | with_reducible exact z_fr_rf
    | with_reducible assumption
    | with_reducible refine fr_bind (fr_X9_ones _ _) (fun k j hkj => by unfold w_X9_ones at hkj; exact hkj.elim) ?_ (fun _ _ => ?_)
    | with_reducible refine fr_bind (fr_X9_lowest _ _) (fun k j hkj => by unfold w_X9_lowest at hkj; exact hkj.elim) ?_ (fun _ _ => ?_)
    | with_reducible refine fr_bind (fr_X9_has _ _ _) (fun k j hkj => by unfold w_X9_has at hkj; exact hkj.elim) ?_ (fun _ _ => ?_)
    | with_reducible refine fr_bind (fr_X9_way _ _ _) (fun k j hkj => by unfold w_X9_way at hkj; exact hkj.elim) ?_ (fun _ _ => ?_)
    | with_reducible refine fr_go ?_ (fr_X9_pairs_123 (by first | exact hK9 | exact ih) (by first | exact hK51 | exact ih) _ _ _ _ _ _ _)
    | with_reducible refine fr_go ?_ (fr_X9_pairs_51 (by first | exact hK9 | exact ih) 1000 _ _ _ _ _)
    | with_reducible refine fr_go ?_ (fr_X9_pairs_9 1000 _ _ _)
    | with_reducible refine fr_go ?_ (hK9 _ _ _)
    | with_reducible refine fr_go ?_ (hK51 _ _ _ _ _))
def w_X9_links (k j : Nat) : Prop := k = 101 ∨ k = 102
set_option maxHeartbeats 4000000 in
theorem fr_X9_links_56 {K40 : Int32 → Int32 → zS → Option (Int32 × zS)} (hK40 : ∀ (v2 : Int32) (v3 : Int32) (S : zS), zFR w_X9_links (K40 v2 v3 S) S) : ∀ (n : Nat) (v2 : Int32) (v3 : Int32) (v4 : Int32) (v5 : Int32) (S : zS), zFR w_X9_links (f_X9_links_56 K40 n v2 v3 v4 v5 S) S := by
  intro n
  induction n with
  | zero =>
    intro v2 v3 v4 v5 S r hr
    cases (show (none : Option (Int32 × zS)) = some r from hr)
  | succ n ih =>
    intro v2 v3 v4 v5 S
    rw [f_X9_links_56]
    repeat' (first
    | with_reducible exact fr_none
    | with_reducible refine fr_if (fun _ => ?_) (fun _ => ?_)
    | with_reducible refine fr_some ?_
    | with_reducible refine z_fr_w ?_ (by unfold w_X9_links; first | (exact Or.inl rfl))
    | with_reducible refine z_fr_u ?_ (by intro j9; unfold w_X9_links; first | (exact Or.inl rfl))
    | with_reducible exact z_fr_rf
    | with_reducible assumption
    | with_reducible refine fr_bind (fr_X9_oddOf _ _) (fun k j hkj => by unfold w_X9_oddOf at hkj; exact hkj.elim) ?_ (fun _ _ => ?_)
    | with_reducible refine fr_bind (fr_X9_pairs _ _) (fun k j hkj => by unfold w_X9_pairs at hkj; unfold w_X9_links; exact Or.inr hkj) ?_ (fun _ _ => ?_)
    | with_reducible refine fr_bind (fr_X9_lowest _ _) (fun k j hkj => by unfold w_X9_lowest at hkj; exact hkj.elim) ?_ (fun _ _ => ?_)
    | with_reducible refine fr_bind (fr_X9_has _ _ _) (fun k j hkj => by unfold w_X9_has at hkj; exact hkj.elim) ?_ (fun _ _ => ?_)
    | with_reducible refine fr_bind (fr_X9_way _ _ _) (fun k j hkj => by unfold w_X9_way at hkj; exact hkj.elim) ?_ (fun _ _ => ?_)
    | with_reducible refine fr_go ?_ (hK40 _ _ _)
    | with_reducible refine fr_go ?_ (ih _ _ _ _ _))
set_option maxHeartbeats 4000000 in
theorem fr_X9_links_40 : ∀ (n : Nat) (v2 : Int32) (v3 : Int32) (S : zS), zFR w_X9_links (f_X9_links_40 n v2 v3 S) S := by
  intro n
  induction n with
  | zero =>
    intro v2 v3 S r hr
    cases (show (none : Option (Int32 × zS)) = some r from hr)
  | succ n ih =>
    intro v2 v3 S
    rw [f_X9_links_40]
    repeat' (first
    | with_reducible exact fr_none
    | with_reducible refine fr_if (fun _ => ?_) (fun _ => ?_)
    | with_reducible refine fr_some ?_
    | with_reducible refine z_fr_w ?_ (by unfold w_X9_links; first | (exact Or.inl rfl))
    | with_reducible refine z_fr_u ?_ (by intro j9; unfold w_X9_links; first | (exact Or.inl rfl))
    | with_reducible exact z_fr_rf
    | with_reducible assumption
    | with_reducible refine fr_bind (fr_X9_oddOf _ _) (fun k j hkj => by unfold w_X9_oddOf at hkj; exact hkj.elim) ?_ (fun _ _ => ?_)
    | with_reducible refine fr_bind (fr_X9_pairs _ _) (fun k j hkj => by unfold w_X9_pairs at hkj; unfold w_X9_links; exact Or.inr hkj) ?_ (fun _ _ => ?_)
    | with_reducible refine fr_bind (fr_X9_lowest _ _) (fun k j hkj => by unfold w_X9_lowest at hkj; exact hkj.elim) ?_ (fun _ _ => ?_)
    | with_reducible refine fr_bind (fr_X9_has _ _ _) (fun k j hkj => by unfold w_X9_has at hkj; exact hkj.elim) ?_ (fun _ _ => ?_)
    | with_reducible refine fr_bind (fr_X9_way _ _ _) (fun k j hkj => by unfold w_X9_way at hkj; exact hkj.elim) ?_ (fun _ _ => ?_)
    | with_reducible refine fr_go ?_ (fr_X9_links_56 (by first | exact hK40 | exact ih) 1000 _ _ _ _ _)
    | with_reducible refine fr_go ?_ (hK40 _ _ _)
    | with_reducible refine fr_go ?_ (ih _ _ _))
set_option maxHeartbeats 4000000 in
theorem fr_X9_links_8 : ∀ (n : Nat) (v2 : Int32) (v3 : Int32) (S : zS), zFR w_X9_links (f_X9_links_8 n v2 v3 S) S := by
  intro n
  induction n with
  | zero =>
    intro v2 v3 S r hr
    cases (show (none : Option (Int32 × zS)) = some r from hr)
  | succ n ih =>
    intro v2 v3 S
    rw [f_X9_links_8]
    repeat' (first
    | with_reducible exact fr_none
    | with_reducible refine fr_if (fun _ => ?_) (fun _ => ?_)
    | with_reducible refine fr_some ?_
    | with_reducible refine z_fr_w ?_ (by unfold w_X9_links; first | (exact Or.inl rfl))
    | with_reducible refine z_fr_u ?_ (by intro j9; unfold w_X9_links; first | (exact Or.inl rfl))
    | with_reducible exact z_fr_rf
    | with_reducible assumption
    | with_reducible refine fr_bind (fr_X9_oddOf _ _) (fun k j hkj => by unfold w_X9_oddOf at hkj; exact hkj.elim) ?_ (fun _ _ => ?_)
    | with_reducible refine fr_bind (fr_X9_pairs _ _) (fun k j hkj => by unfold w_X9_pairs at hkj; unfold w_X9_links; exact Or.inr hkj) ?_ (fun _ _ => ?_)
    | with_reducible refine fr_bind (fr_X9_lowest _ _) (fun k j hkj => by unfold w_X9_lowest at hkj; exact hkj.elim) ?_ (fun _ _ => ?_)
    | with_reducible refine fr_bind (fr_X9_has _ _ _) (fun k j hkj => by unfold w_X9_has at hkj; exact hkj.elim) ?_ (fun _ _ => ?_)
    | with_reducible refine fr_bind (fr_X9_way _ _ _) (fun k j hkj => by unfold w_X9_way at hkj; exact hkj.elim) ?_ (fun _ _ => ?_)
    | with_reducible refine fr_go ?_ (fr_X9_links_56 (by first | exact hK40 | exact ih) 1000 _ _ _ _ _)
    | with_reducible refine fr_go ?_ (fr_X9_links_40 1000 _ _ _)
    | with_reducible refine fr_go ?_ (hK40 _ _ _)
    | with_reducible refine fr_go ?_ (ih _ _ _))
set_option maxHeartbeats 4000000 in
theorem fr_X9_links : ∀ (a1 : Int32) (S : zS), zFR w_X9_links (f_X9_links a1 S) S := by
  intro a1 S
  unfold f_X9_links
  repeat' (first
    | with_reducible exact fr_none
    | with_reducible refine fr_if (fun _ => ?_) (fun _ => ?_)
    | with_reducible refine fr_some ?_
    | with_reducible refine z_fr_w ?_ (by unfold w_X9_links; first | (exact Or.inl rfl))
    | with_reducible refine z_fr_u ?_ (by intro j9; unfold w_X9_links; first | (exact Or.inl rfl))
    | with_reducible exact z_fr_rf
    | with_reducible assumption
    | with_reducible refine fr_bind (fr_X9_oddOf _ _) (fun k j hkj => by unfold w_X9_oddOf at hkj; exact hkj.elim) ?_ (fun _ _ => ?_)
    | with_reducible refine fr_bind (fr_X9_pairs _ _) (fun k j hkj => by unfold w_X9_pairs at hkj; unfold w_X9_links; exact Or.inr hkj) ?_ (fun _ _ => ?_)
    | with_reducible refine fr_bind (fr_X9_lowest _ _) (fun k j hkj => by unfold w_X9_lowest at hkj; exact hkj.elim) ?_ (fun _ _ => ?_)
    | with_reducible refine fr_bind (fr_X9_has _ _ _) (fun k j hkj => by unfold w_X9_has at hkj; exact hkj.elim) ?_ (fun _ _ => ?_)
    | with_reducible refine fr_bind (fr_X9_way _ _ _) (fun k j hkj => by unfold w_X9_way at hkj; exact hkj.elim) ?_ (fun _ _ => ?_)
    | with_reducible refine fr_go ?_ (fr_X9_links_56 (by first | exact hK40 | exact ih) 1000 _ _ _ _ _)
    | with_reducible refine fr_go ?_ (fr_X9_links_40 1000 _ _ _)
    | with_reducible refine fr_go ?_ (fr_X9_links_8 1000 _ _ _)
    | with_reducible refine fr_go ?_ (hK40 _ _ _))
def w_X9_opens (k j : Nat) : Prop := k = 105
set_option maxHeartbeats 4000000 in
theorem fr_X9_opens : ∀ (a1 : Int32) (a2 : Int32) (a3 : Int32) (S : zS), zFR w_X9_opens (f_X9_opens a1 a2 a3 S) S := by
  intro a1 a2 a3 S
  unfold f_X9_opens
  repeat' (first
    | with_reducible exact fr_none
    | with_reducible refine fr_if (fun _ => ?_) (fun _ => ?_)
    | with_reducible refine fr_some ?_
    | with_reducible refine z_fr_w ?_ (by unfold w_X9_opens; first | (exact rfl))
    | with_reducible refine z_fr_u ?_ (by intro j9; unfold w_X9_opens; first | (exact rfl))
    | with_reducible exact z_fr_rf
    | with_reducible assumption)
def w_X9_isOpen (k j : Nat) : Prop := False
set_option maxHeartbeats 4000000 in
theorem fr_X9_isOpen : ∀ (a1 : Int32) (a2 : Int32) (a3 : Int32) (S : zS), zFR w_X9_isOpen (f_X9_isOpen a1 a2 a3 S) S := by
  intro a1 a2 a3 S
  unfold f_X9_isOpen
  repeat' (first
    | with_reducible exact fr_none
    | with_reducible refine fr_if (fun _ => ?_) (fun _ => ?_)
    | with_reducible refine fr_some ?_
    | with_reducible exact z_fr_rf
    | with_reducible assumption)
def w_X9_shuts (k j : Nat) : Prop := k = 105
set_option maxHeartbeats 4000000 in
theorem fr_X9_shuts : ∀ (a1 : Int32) (a2 : Int32) (a3 : Int32) (S : zS), zFR w_X9_shuts (f_X9_shuts a1 a2 a3 S) S := by
  intro a1 a2 a3 S
  unfold f_X9_shuts
  repeat' (first
    | with_reducible exact fr_none
    | with_reducible refine fr_if (fun _ => ?_) (fun _ => ?_)
    | with_reducible refine fr_some ?_
    | with_reducible refine z_fr_w ?_ (by unfold w_X9_shuts; first | (exact rfl))
    | with_reducible refine z_fr_u ?_ (by intro j9; unfold w_X9_shuts; first | (exact rfl))
    | with_reducible exact z_fr_rf
    | with_reducible assumption)
def w_X9_isAllFrom (k j : Nat) : Prop := False
set_option maxHeartbeats 4000000 in
theorem fr_X9_isAllFrom_109 {K99 : Int32 → Int32 → Int32 → zS → Option (Int32 × zS)} (hK99 : ∀ (v2 : Int32) (v3 : Int32) (v4 : Int32) (S : zS), zFR w_X9_isAllFrom (K99 v2 v3 v4 S) S) : ∀ (n : Nat) (v2 : Int32) (v3 : Int32) (v4 : Int32) (v5 : Int32) (S : zS), zFR w_X9_isAllFrom (f_X9_isAllFrom_109 K99 n v2 v3 v4 v5 S) S := by
  intro n
  induction n with
  | zero =>
    intro v2 v3 v4 v5 S r hr
    cases (show (none : Option (Int32 × zS)) = some r from hr)
  | succ n ih =>
    intro v2 v3 v4 v5 S
    rw [f_X9_isAllFrom_109]
    repeat' (first
    | with_reducible exact fr_none
    | with_reducible refine fr_if (fun _ => ?_) (fun _ => ?_)
    | with_reducible refine fr_some ?_
    | with_reducible exact z_fr_rf
    | with_reducible assumption
    | with_reducible refine fr_bind (fr_X9_has _ _ _) (fun k j hkj => by unfold w_X9_has at hkj; exact hkj.elim) ?_ (fun _ _ => ?_)
    | with_reducible refine fr_bind (fr_X9_isOpen _ _ _ _) (fun k j hkj => by unfold w_X9_isOpen at hkj; exact hkj.elim) ?_ (fun _ _ => ?_)
    | with_reducible refine fr_go ?_ (hK99 _ _ _ _)
    | with_reducible refine fr_go ?_ (hK6 _ _ _)
    | with_reducible refine fr_go ?_ (hK15 _ _ _ _)
    | with_reducible refine fr_go ?_ (ih _ _ _ _ _))
set_option maxHeartbeats 4000000 in
theorem fr_X9_isAllFrom_99 : ∀ (n : Nat) (v2 : Int32) (v3 : Int32) (v4 : Int32) (S : zS), zFR w_X9_isAllFrom (f_X9_isAllFrom_99 n v2 v3 v4 S) S := by
  intro n
  induction n with
  | zero =>
    intro v2 v3 v4 S r hr
    cases (show (none : Option (Int32 × zS)) = some r from hr)
  | succ n ih =>
    intro v2 v3 v4 S
    rw [f_X9_isAllFrom_99]
    repeat' (first
    | with_reducible exact fr_none
    | with_reducible refine fr_if (fun _ => ?_) (fun _ => ?_)
    | with_reducible refine fr_some ?_
    | with_reducible exact z_fr_rf
    | with_reducible assumption
    | with_reducible refine fr_bind (fr_X9_has _ _ _) (fun k j hkj => by unfold w_X9_has at hkj; exact hkj.elim) ?_ (fun _ _ => ?_)
    | with_reducible refine fr_bind (fr_X9_isOpen _ _ _ _) (fun k j hkj => by unfold w_X9_isOpen at hkj; exact hkj.elim) ?_ (fun _ _ => ?_)
    | with_reducible refine fr_go ?_ (fr_X9_isAllFrom_109 (by first | exact hK99 | exact ih) 1000 _ _ _ _ _)
    | with_reducible refine fr_go ?_ (hK99 _ _ _ _)
    | with_reducible refine fr_go ?_ (hK6 _ _ _)
    | with_reducible refine fr_go ?_ (hK15 _ _ _ _)
    | with_reducible refine fr_go ?_ (ih _ _ _ _))
set_option maxHeartbeats 4000000 in
theorem fr_X9_isAllFrom_25 {K6 : Int32 → Int32 → zS → Option (Int32 × zS)} (hK6 : ∀ (v2 : Int32) (v3 : Int32) (S : zS), zFR w_X9_isAllFrom (K6 v2 v3 S) S) {K15 : Int32 → Int32 → Int32 → zS → Option (Int32 × zS)} (hK15 : ∀ (v2 : Int32) (v3 : Int32) (v4 : Int32) (S : zS), zFR w_X9_isAllFrom (K15 v2 v3 v4 S) S) : ∀ (n : Nat) (v2 : Int32) (v3 : Int32) (v4 : Int32) (v5 : Int32) (S : zS), zFR w_X9_isAllFrom (f_X9_isAllFrom_25 K6 K15 n v2 v3 v4 v5 S) S := by
  intro n
  induction n with
  | zero =>
    intro v2 v3 v4 v5 S r hr
    cases (show (none : Option (Int32 × zS)) = some r from hr)
  | succ n ih =>
    intro v2 v3 v4 v5 S
    rw [f_X9_isAllFrom_25]
    repeat' (first
    | with_reducible exact fr_none
    | with_reducible refine fr_if (fun _ => ?_) (fun _ => ?_)
    | with_reducible refine fr_some ?_
    | with_reducible exact z_fr_rf
    | with_reducible assumption
    | with_reducible refine fr_bind (fr_X9_has _ _ _) (fun k j hkj => by unfold w_X9_has at hkj; exact hkj.elim) ?_ (fun _ _ => ?_)
    | with_reducible refine fr_bind (fr_X9_isOpen _ _ _ _) (fun k j hkj => by unfold w_X9_isOpen at hkj; exact hkj.elim) ?_ (fun _ _ => ?_)
    | with_reducible refine fr_go ?_ (fr_X9_isAllFrom_109 (by first | exact hK99 | exact ih) 1000 _ _ _ _ _)
    | with_reducible refine fr_go ?_ (fr_X9_isAllFrom_99 1000 _ _ _ _)
    | with_reducible refine fr_go ?_ (hK99 _ _ _ _)
    | with_reducible refine fr_go ?_ (hK6 _ _ _)
    | with_reducible refine fr_go ?_ (hK15 _ _ _ _)
    | with_reducible refine fr_go ?_ (ih _ _ _ _ _))
set_option maxHeartbeats 4000000 in
theorem fr_X9_isAllFrom_15 {K6 : Int32 → Int32 → zS → Option (Int32 × zS)} (hK6 : ∀ (v2 : Int32) (v3 : Int32) (S : zS), zFR w_X9_isAllFrom (K6 v2 v3 S) S) : ∀ (n : Nat) (v2 : Int32) (v3 : Int32) (v4 : Int32) (S : zS), zFR w_X9_isAllFrom (f_X9_isAllFrom_15 K6 n v2 v3 v4 S) S := by
  intro n
  induction n with
  | zero =>
    intro v2 v3 v4 S r hr
    cases (show (none : Option (Int32 × zS)) = some r from hr)
  | succ n ih =>
    intro v2 v3 v4 S
    rw [f_X9_isAllFrom_15]
    repeat' (first
    | with_reducible exact fr_none
    | with_reducible refine fr_if (fun _ => ?_) (fun _ => ?_)
    | with_reducible refine fr_some ?_
    | with_reducible exact z_fr_rf
    | with_reducible assumption
    | with_reducible refine fr_bind (fr_X9_has _ _ _) (fun k j hkj => by unfold w_X9_has at hkj; exact hkj.elim) ?_ (fun _ _ => ?_)
    | with_reducible refine fr_bind (fr_X9_isOpen _ _ _ _) (fun k j hkj => by unfold w_X9_isOpen at hkj; exact hkj.elim) ?_ (fun _ _ => ?_)
    | with_reducible refine fr_go ?_ (fr_X9_isAllFrom_109 (by first | exact hK99 | exact ih) 1000 _ _ _ _ _)
    | with_reducible refine fr_go ?_ (fr_X9_isAllFrom_99 1000 _ _ _ _)
    | with_reducible refine fr_go ?_ (fr_X9_isAllFrom_25 (by first | exact hK6 | exact ih) (by first | exact hK15 | exact ih) 1000 _ _ _ _ _)
    | with_reducible refine fr_go ?_ (hK99 _ _ _ _)
    | with_reducible refine fr_go ?_ (hK6 _ _ _)
    | with_reducible refine fr_go ?_ (hK15 _ _ _ _)
    | with_reducible refine fr_go ?_ (ih _ _ _ _))
set_option maxHeartbeats 4000000 in
theorem fr_X9_isAllFrom_6 : ∀ (n : Nat) (v2 : Int32) (v3 : Int32) (S : zS), zFR w_X9_isAllFrom (f_X9_isAllFrom_6 n v2 v3 S) S := by
  intro n
  induction n with
  | zero =>
    intro v2 v3 S r hr
    cases (show (none : Option (Int32 × zS)) = some r from hr)
  | succ n ih =>
    intro v2 v3 S
    rw [f_X9_isAllFrom_6]
    repeat' (first
    | with_reducible exact fr_none
    | with_reducible refine fr_if (fun _ => ?_) (fun _ => ?_)
    | with_reducible refine fr_some ?_
    | with_reducible exact z_fr_rf
    | with_reducible assumption
    | with_reducible refine fr_bind (fr_X9_has _ _ _) (fun k j hkj => by unfold w_X9_has at hkj; exact hkj.elim) ?_ (fun _ _ => ?_)
    | with_reducible refine fr_bind (fr_X9_isOpen _ _ _ _) (fun k j hkj => by unfold w_X9_isOpen at hkj; exact hkj.elim) ?_ (fun _ _ => ?_)
    | with_reducible refine fr_go ?_ (fr_X9_isAllFrom_109 (by first | exact hK99 | exact ih) 1000 _ _ _ _ _)
    | with_reducible refine fr_go ?_ (fr_X9_isAllFrom_99 1000 _ _ _ _)
    | with_reducible refine fr_go ?_ (fr_X9_isAllFrom_25 (by first | exact hK6 | exact ih) (by first | exact hK15 | exact ih) 1000 _ _ _ _ _)
    | with_reducible refine fr_go ?_ (fr_X9_isAllFrom_15 (by first | exact hK6 | exact ih) 1000 _ _ _ _)
    | with_reducible refine fr_go ?_ (hK99 _ _ _ _)
    | with_reducible refine fr_go ?_ (hK6 _ _ _)
    | with_reducible refine fr_go ?_ (hK15 _ _ _ _)
    | with_reducible refine fr_go ?_ (ih _ _ _))
set_option maxHeartbeats 4000000 in
theorem fr_X9_isAllFrom : ∀ (a1 : Int32) (S : zS), zFR w_X9_isAllFrom (f_X9_isAllFrom a1 S) S := by
  intro a1 S
  unfold f_X9_isAllFrom
  repeat' (first
    | with_reducible exact fr_none
    | with_reducible refine fr_if (fun _ => ?_) (fun _ => ?_)
    | with_reducible refine fr_some ?_
    | with_reducible exact z_fr_rf
    | with_reducible assumption
    | with_reducible refine fr_bind (fr_X9_has _ _ _) (fun k j hkj => by unfold w_X9_has at hkj; exact hkj.elim) ?_ (fun _ _ => ?_)
    | with_reducible refine fr_bind (fr_X9_isOpen _ _ _ _) (fun k j hkj => by unfold w_X9_isOpen at hkj; exact hkj.elim) ?_ (fun _ _ => ?_)
    | with_reducible refine fr_go ?_ (fr_X9_isAllFrom_109 (by first | exact hK99 | exact ih) 1000 _ _ _ _ _)
    | with_reducible refine fr_go ?_ (fr_X9_isAllFrom_99 1000 _ _ _ _)
    | with_reducible refine fr_go ?_ (fr_X9_isAllFrom_25 (by first | exact hK6 | exact ih) (by first | exact hK15 | exact ih) 1000 _ _ _ _ _)
    | with_reducible refine fr_go ?_ (fr_X9_isAllFrom_15 (by first | exact hK6 | exact ih) 1000 _ _ _ _)
    | with_reducible refine fr_go ?_ (fr_X9_isAllFrom_6 1000 _ _ _)
    | with_reducible refine fr_go ?_ (hK99 _ _ _ _)
    | with_reducible refine fr_go ?_ (hK6 _ _ _)
    | with_reducible refine fr_go ?_ (hK15 _ _ _ _))
def w_X9_goesOn (k j : Nat) : Prop := k = 105
set_option maxHeartbeats 4000000 in
theorem fr_X9_goesOn : ∀ (a1 : Int32) (a2 : Int32) (a3 : Int32) (S : zS), zFR w_X9_goesOn (f_X9_goesOn a1 a2 a3 S) S := by
  intro a1 a2 a3 S
  unfold f_X9_goesOn
  repeat' (first
    | with_reducible exact fr_none
    | with_reducible refine fr_if (fun _ => ?_) (fun _ => ?_)
    | with_reducible refine fr_some ?_
    | with_reducible exact z_fr_rf
    | with_reducible assumption
    | with_reducible refine fr_bind (fr_X9_isOpen _ _ _ _) (fun k j hkj => by unfold w_X9_isOpen at hkj; exact hkj.elim) ?_ (fun _ _ => ?_)
    | with_reducible refine fr_bind (fr_X9_shuts _ _ _ _) (fun k j hkj => by unfold w_X9_shuts at hkj; unfold w_X9_goesOn; exact hkj) ?_ (fun _ _ => ?_)
    | with_reducible refine fr_bind (fr_X9_isAllFrom _ _) (fun k j hkj => by unfold w_X9_isAllFrom at hkj; exact hkj.elim) ?_ (fun _ _ => ?_)
    | with_reducible refine fr_bind (fr_X9_opens _ _ _ _) (fun k j hkj => by unfold w_X9_opens at hkj; unfold w_X9_goesOn; exact hkj) ?_ (fun _ _ => ?_))
def w_X9_rounds (k j : Nat) : Prop := k = 101 ∨ k = 102 ∨ k = 103 ∨ k = 104 ∨ k = 105 ∨ (k = 87 ∧ j = 28)
set_option maxHeartbeats 4000000 in
theorem fr_X9_rounds_194 {K148 : Int32 → Int32 → Int32 → zS → Option (Int32 × zS)} (hK148 : ∀ (v2 : Int32) (v3 : Int32) (v4 : Int32) (S : zS), zFR w_X9_rounds (K148 v2 v3 v4 S) S) {K170 : Int32 → Int32 → Int32 → Int32 → Int32 → zS → Option (Int32 × zS)} (hK170 : ∀ (v2 : Int32) (v3 : Int32) (v4 : Int32) (v5 : Int32) (v6 : Int32) (S : zS), zFR w_X9_rounds (K170 v2 v3 v4 v5 v6 S) S) : ∀ (v2 : Int32) (v3 : Int32) (v4 : Int32) (v5 : Int32) (S : zS), zFR w_X9_rounds (f_X9_rounds_194 K148 K170 v2 v3 v4 v5 S) S := by
  intro v2 v3 v4 v5 S
  unfold f_X9_rounds_194
  repeat' (first
    | with_reducible exact fr_none
    | with_reducible refine fr_if (fun _ => ?_) (fun _ => ?_)
    | with_reducible refine fr_some ?_
    | with_reducible refine z_fr_w ?_ (by unfold w_X9_rounds; first | (exact Or.inr (Or.inr (Or.inr (Or.inr (Or.inr ⟨rfl, rfl⟩))))) | (exact Or.inr (Or.inr (Or.inl rfl))) | (exact Or.inr (Or.inr (Or.inr (Or.inl rfl)))) | (exact Or.inr (Or.inr (Or.inr (Or.inr (Or.inl rfl))))))
    | with_reducible refine z_fr_u ?_ (by intro j9; unfold w_X9_rounds; first | (exact Or.inr (Or.inr (Or.inr (Or.inr (Or.inr ⟨rfl, rfl⟩))))) | (exact Or.inr (Or.inr (Or.inl rfl))) | (exact Or.inr (Or.inr (Or.inr (Or.inl rfl)))) | (exact Or.inr (Or.inr (Or.inr (Or.inr (Or.inl rfl))))))
    | with_reducible exact z_fr_rf
    | with_reducible assumption
    | with_reducible refine fr_bind (fr_X9_links _ _) (fun k j hkj => by unfold w_X9_links at hkj; unfold w_X9_rounds; rcases hkj with hkj | hkj; (exact Or.inl hkj); (exact Or.inr (Or.inl hkj))) ?_ (fun _ _ => ?_)
    | with_reducible refine fr_bind (fr_X9_startOf _ _) (fun k j hkj => by unfold w_X9_startOf at hkj; exact hkj.elim) ?_ (fun _ _ => ?_)
    | with_reducible refine fr_bind (fr_X9_goesOn _ _ _ _) (fun k j hkj => by unfold w_X9_goesOn at hkj; unfold w_X9_rounds; exact Or.inr (Or.inr (Or.inr (Or.inr (Or.inl hkj))))) ?_ (fun _ _ => ?_)
    | with_reducible refine fr_bind (fr_X9_opens _ _ _ _) (fun k j hkj => by unfold w_X9_opens at hkj; unfold w_X9_rounds; exact Or.inr (Or.inr (Or.inr (Or.inr (Or.inl hkj))))) ?_ (fun _ _ => ?_)
    | with_reducible refine fr_bind (fr_X9_cutsOf _ _) (fun k j hkj => by unfold w_X9_cutsOf at hkj; exact hkj.elim) ?_ (fun _ _ => ?_)
    | with_reducible refine fr_bind (fr_X9_has _ _ _) (fun k j hkj => by unfold w_X9_has at hkj; exact hkj.elim) ?_ (fun _ _ => ?_)
    | with_reducible refine fr_go ?_ (hK170 _ _ _ _ _ _)
    | with_reducible refine fr_go ?_ (hK148 _ _ _ _))
set_option maxHeartbeats 4000000 in
theorem fr_X9_rounds_211 {K148 : Int32 → Int32 → Int32 → zS → Option (Int32 × zS)} (hK148 : ∀ (v2 : Int32) (v3 : Int32) (v4 : Int32) (S : zS), zFR w_X9_rounds (K148 v2 v3 v4 S) S) : ∀ (v2 : Int32) (v3 : Int32) (v5 : Int32) (v6 : Int32) (S : zS), zFR w_X9_rounds (f_X9_rounds_211 K148 v2 v3 v5 v6 S) S := by
  intro v2 v3 v5 v6 S
  unfold f_X9_rounds_211
  repeat' (first
    | with_reducible exact fr_none
    | with_reducible refine fr_if (fun _ => ?_) (fun _ => ?_)
    | with_reducible refine fr_some ?_
    | with_reducible refine z_fr_w ?_ (by unfold w_X9_rounds; first | (exact Or.inr (Or.inr (Or.inr (Or.inr (Or.inr ⟨rfl, rfl⟩))))) | (exact Or.inr (Or.inr (Or.inl rfl))) | (exact Or.inr (Or.inr (Or.inr (Or.inl rfl)))) | (exact Or.inr (Or.inr (Or.inr (Or.inr (Or.inl rfl))))))
    | with_reducible refine z_fr_u ?_ (by intro j9; unfold w_X9_rounds; first | (exact Or.inr (Or.inr (Or.inr (Or.inr (Or.inr ⟨rfl, rfl⟩))))) | (exact Or.inr (Or.inr (Or.inl rfl))) | (exact Or.inr (Or.inr (Or.inr (Or.inl rfl)))) | (exact Or.inr (Or.inr (Or.inr (Or.inr (Or.inl rfl))))))
    | with_reducible exact z_fr_rf
    | with_reducible assumption
    | with_reducible refine fr_bind (fr_X9_links _ _) (fun k j hkj => by unfold w_X9_links at hkj; unfold w_X9_rounds; rcases hkj with hkj | hkj; (exact Or.inl hkj); (exact Or.inr (Or.inl hkj))) ?_ (fun _ _ => ?_)
    | with_reducible refine fr_bind (fr_X9_startOf _ _) (fun k j hkj => by unfold w_X9_startOf at hkj; exact hkj.elim) ?_ (fun _ _ => ?_)
    | with_reducible refine fr_bind (fr_X9_goesOn _ _ _ _) (fun k j hkj => by unfold w_X9_goesOn at hkj; unfold w_X9_rounds; exact Or.inr (Or.inr (Or.inr (Or.inr (Or.inl hkj))))) ?_ (fun _ _ => ?_)
    | with_reducible refine fr_bind (fr_X9_opens _ _ _ _) (fun k j hkj => by unfold w_X9_opens at hkj; unfold w_X9_rounds; exact Or.inr (Or.inr (Or.inr (Or.inr (Or.inl hkj))))) ?_ (fun _ _ => ?_)
    | with_reducible refine fr_bind (fr_X9_cutsOf _ _) (fun k j hkj => by unfold w_X9_cutsOf at hkj; exact hkj.elim) ?_ (fun _ _ => ?_)
    | with_reducible refine fr_bind (fr_X9_has _ _ _) (fun k j hkj => by unfold w_X9_has at hkj; exact hkj.elim) ?_ (fun _ _ => ?_)
    | with_reducible refine fr_go ?_ (fr_X9_rounds_194 (by first | exact hK148 | exact ih) (by first | exact hK170 | exact ih) _ _ _ _ _)
    | with_reducible refine fr_go ?_ (hK170 _ _ _ _ _ _)
    | with_reducible refine fr_go ?_ (hK148 _ _ _ _))
set_option maxHeartbeats 4000000 in
theorem fr_X9_rounds_170 {K148 : Int32 → Int32 → Int32 → zS → Option (Int32 × zS)} (hK148 : ∀ (v2 : Int32) (v3 : Int32) (v4 : Int32) (S : zS), zFR w_X9_rounds (K148 v2 v3 v4 S) S) : ∀ (n : Nat) (v2 : Int32) (v3 : Int32) (v4 : Int32) (v5 : Int32) (v6 : Int32) (S : zS), zFR w_X9_rounds (f_X9_rounds_170 K148 n v2 v3 v4 v5 v6 S) S := by
  intro n
  induction n with
  | zero =>
    intro v2 v3 v4 v5 v6 S r hr
    cases (show (none : Option (Int32 × zS)) = some r from hr)
  | succ n ih =>
    intro v2 v3 v4 v5 v6 S
    rw [f_X9_rounds_170]
    repeat' (first
    | with_reducible exact fr_none
    | with_reducible refine fr_if (fun _ => ?_) (fun _ => ?_)
    | with_reducible refine fr_some ?_
    | with_reducible refine z_fr_w ?_ (by unfold w_X9_rounds; first | (exact Or.inr (Or.inr (Or.inr (Or.inr (Or.inr ⟨rfl, rfl⟩))))) | (exact Or.inr (Or.inr (Or.inl rfl))) | (exact Or.inr (Or.inr (Or.inr (Or.inl rfl)))) | (exact Or.inr (Or.inr (Or.inr (Or.inr (Or.inl rfl))))))
    | with_reducible refine z_fr_u ?_ (by intro j9; unfold w_X9_rounds; first | (exact Or.inr (Or.inr (Or.inr (Or.inr (Or.inr ⟨rfl, rfl⟩))))) | (exact Or.inr (Or.inr (Or.inl rfl))) | (exact Or.inr (Or.inr (Or.inr (Or.inl rfl)))) | (exact Or.inr (Or.inr (Or.inr (Or.inr (Or.inl rfl))))))
    | with_reducible exact z_fr_rf
    | with_reducible assumption
    | with_reducible refine fr_bind (fr_X9_links _ _) (fun k j hkj => by unfold w_X9_links at hkj; unfold w_X9_rounds; rcases hkj with hkj | hkj; (exact Or.inl hkj); (exact Or.inr (Or.inl hkj))) ?_ (fun _ _ => ?_)
    | with_reducible refine fr_bind (fr_X9_startOf _ _) (fun k j hkj => by unfold w_X9_startOf at hkj; exact hkj.elim) ?_ (fun _ _ => ?_)
    | with_reducible refine fr_bind (fr_X9_goesOn _ _ _ _) (fun k j hkj => by unfold w_X9_goesOn at hkj; unfold w_X9_rounds; exact Or.inr (Or.inr (Or.inr (Or.inr (Or.inl hkj))))) ?_ (fun _ _ => ?_)
    | with_reducible refine fr_bind (fr_X9_opens _ _ _ _) (fun k j hkj => by unfold w_X9_opens at hkj; unfold w_X9_rounds; exact Or.inr (Or.inr (Or.inr (Or.inr (Or.inl hkj))))) ?_ (fun _ _ => ?_)
    | with_reducible refine fr_bind (fr_X9_cutsOf _ _) (fun k j hkj => by unfold w_X9_cutsOf at hkj; exact hkj.elim) ?_ (fun _ _ => ?_)
    | with_reducible refine fr_bind (fr_X9_has _ _ _) (fun k j hkj => by unfold w_X9_has at hkj; exact hkj.elim) ?_ (fun _ _ => ?_)
    | with_reducible refine fr_go ?_ (fr_X9_rounds_194 (by first | exact hK148 | exact ih) (by first | exact hK170 | exact ih) _ _ _ _ _)
    | with_reducible refine fr_go ?_ (fr_X9_rounds_211 (by first | exact hK148 | exact ih) _ _ _ _ _)
    | with_reducible refine fr_go ?_ (hK170 _ _ _ _ _ _)
    | with_reducible refine fr_go ?_ (hK148 _ _ _ _)
    | with_reducible refine fr_go ?_ (ih _ _ _ _ _ _))
set_option maxHeartbeats 4000000 in
theorem fr_X9_rounds_148 : ∀ (n : Nat) (v2 : Int32) (v3 : Int32) (v4 : Int32) (S : zS), zFR w_X9_rounds (f_X9_rounds_148 n v2 v3 v4 S) S := by
  intro n
  induction n with
  | zero =>
    intro v2 v3 v4 S r hr
    cases (show (none : Option (Int32 × zS)) = some r from hr)
  | succ n ih =>
    intro v2 v3 v4 S
    rw [f_X9_rounds_148]
    repeat' (first
    | with_reducible exact fr_none
    | with_reducible refine fr_if (fun _ => ?_) (fun _ => ?_)
    | with_reducible refine fr_some ?_
    | with_reducible refine z_fr_w ?_ (by unfold w_X9_rounds; first | (exact Or.inr (Or.inr (Or.inr (Or.inr (Or.inr ⟨rfl, rfl⟩))))) | (exact Or.inr (Or.inr (Or.inl rfl))) | (exact Or.inr (Or.inr (Or.inr (Or.inl rfl)))) | (exact Or.inr (Or.inr (Or.inr (Or.inr (Or.inl rfl))))))
    | with_reducible refine z_fr_u ?_ (by intro j9; unfold w_X9_rounds; first | (exact Or.inr (Or.inr (Or.inr (Or.inr (Or.inr ⟨rfl, rfl⟩))))) | (exact Or.inr (Or.inr (Or.inl rfl))) | (exact Or.inr (Or.inr (Or.inr (Or.inl rfl)))) | (exact Or.inr (Or.inr (Or.inr (Or.inr (Or.inl rfl))))))
    | with_reducible exact z_fr_rf
    | with_reducible assumption
    | with_reducible refine fr_bind (fr_X9_links _ _) (fun k j hkj => by unfold w_X9_links at hkj; unfold w_X9_rounds; rcases hkj with hkj | hkj; (exact Or.inl hkj); (exact Or.inr (Or.inl hkj))) ?_ (fun _ _ => ?_)
    | with_reducible refine fr_bind (fr_X9_startOf _ _) (fun k j hkj => by unfold w_X9_startOf at hkj; exact hkj.elim) ?_ (fun _ _ => ?_)
    | with_reducible refine fr_bind (fr_X9_goesOn _ _ _ _) (fun k j hkj => by unfold w_X9_goesOn at hkj; unfold w_X9_rounds; exact Or.inr (Or.inr (Or.inr (Or.inr (Or.inl hkj))))) ?_ (fun _ _ => ?_)
    | with_reducible refine fr_bind (fr_X9_opens _ _ _ _) (fun k j hkj => by unfold w_X9_opens at hkj; unfold w_X9_rounds; exact Or.inr (Or.inr (Or.inr (Or.inr (Or.inl hkj))))) ?_ (fun _ _ => ?_)
    | with_reducible refine fr_bind (fr_X9_cutsOf _ _) (fun k j hkj => by unfold w_X9_cutsOf at hkj; exact hkj.elim) ?_ (fun _ _ => ?_)
    | with_reducible refine fr_bind (fr_X9_has _ _ _) (fun k j hkj => by unfold w_X9_has at hkj; exact hkj.elim) ?_ (fun _ _ => ?_)
    | with_reducible refine fr_go ?_ (fr_X9_rounds_194 (by first | exact hK148 | exact ih) (by first | exact hK170 | exact ih) _ _ _ _ _)
    | with_reducible refine fr_go ?_ (fr_X9_rounds_211 (by first | exact hK148 | exact ih) _ _ _ _ _)
    | with_reducible refine fr_go ?_ (fr_X9_rounds_170 (by first | exact hK148 | exact ih) 1000 _ _ _ _ _ _)
    | with_reducible refine fr_go ?_ (hK170 _ _ _ _ _ _)
    | with_reducible refine fr_go ?_ (hK148 _ _ _ _)
    | with_reducible refine fr_go ?_ (ih _ _ _ _))
set_option maxHeartbeats 4000000 in
theorem fr_X9_rounds_99 : ∀ (n : Nat) (v1 : Int32) (v2 : Int32) (v3 : Int32) (v4 : Int32) (S : zS), zFR w_X9_rounds (f_X9_rounds_99 n v1 v2 v3 v4 S) S := by
  intro n
  induction n with
  | zero =>
    intro v1 v2 v3 v4 S r hr
    cases (show (none : Option (Int32 × zS)) = some r from hr)
  | succ n ih =>
    intro v1 v2 v3 v4 S
    rw [f_X9_rounds_99]
    repeat' (first
    | with_reducible exact fr_none
    | with_reducible refine fr_if (fun _ => ?_) (fun _ => ?_)
    | with_reducible refine fr_some ?_
    | with_reducible refine z_fr_w ?_ (by unfold w_X9_rounds; first | (exact Or.inr (Or.inr (Or.inr (Or.inr (Or.inr ⟨rfl, rfl⟩))))) | (exact Or.inr (Or.inr (Or.inl rfl))) | (exact Or.inr (Or.inr (Or.inr (Or.inl rfl)))) | (exact Or.inr (Or.inr (Or.inr (Or.inr (Or.inl rfl))))))
    | with_reducible refine z_fr_u ?_ (by intro j9; unfold w_X9_rounds; first | (exact Or.inr (Or.inr (Or.inr (Or.inr (Or.inr ⟨rfl, rfl⟩))))) | (exact Or.inr (Or.inr (Or.inl rfl))) | (exact Or.inr (Or.inr (Or.inr (Or.inl rfl)))) | (exact Or.inr (Or.inr (Or.inr (Or.inr (Or.inl rfl))))))
    | with_reducible exact z_fr_rf
    | with_reducible assumption
    | with_reducible refine fr_bind (fr_X9_links _ _) (fun k j hkj => by unfold w_X9_links at hkj; unfold w_X9_rounds; rcases hkj with hkj | hkj; (exact Or.inl hkj); (exact Or.inr (Or.inl hkj))) ?_ (fun _ _ => ?_)
    | with_reducible refine fr_bind (fr_X9_startOf _ _) (fun k j hkj => by unfold w_X9_startOf at hkj; exact hkj.elim) ?_ (fun _ _ => ?_)
    | with_reducible refine fr_bind (fr_X9_goesOn _ _ _ _) (fun k j hkj => by unfold w_X9_goesOn at hkj; unfold w_X9_rounds; exact Or.inr (Or.inr (Or.inr (Or.inr (Or.inl hkj))))) ?_ (fun _ _ => ?_)
    | with_reducible refine fr_bind (fr_X9_opens _ _ _ _) (fun k j hkj => by unfold w_X9_opens at hkj; unfold w_X9_rounds; exact Or.inr (Or.inr (Or.inr (Or.inr (Or.inl hkj))))) ?_ (fun _ _ => ?_)
    | with_reducible refine fr_bind (fr_X9_cutsOf _ _) (fun k j hkj => by unfold w_X9_cutsOf at hkj; exact hkj.elim) ?_ (fun _ _ => ?_)
    | with_reducible refine fr_bind (fr_X9_has _ _ _) (fun k j hkj => by unfold w_X9_has at hkj; exact hkj.elim) ?_ (fun _ _ => ?_)
    | with_reducible refine fr_go ?_ (fr_X9_rounds_194 (by first | exact hK148 | exact ih) (by first | exact hK170 | exact ih) _ _ _ _ _)
    | with_reducible refine fr_go ?_ (fr_X9_rounds_211 (by first | exact hK148 | exact ih) _ _ _ _ _)
    | with_reducible refine fr_go ?_ (fr_X9_rounds_170 (by first | exact hK148 | exact ih) 1000 _ _ _ _ _ _)
    | with_reducible refine fr_go ?_ (fr_X9_rounds_148 1000 _ _ _ _)
    | with_reducible refine fr_go ?_ (hK170 _ _ _ _ _ _)
    | with_reducible refine fr_go ?_ (hK148 _ _ _ _)
    | with_reducible refine fr_go ?_ (ih _ _ _ _ _))
set_option maxHeartbeats 4000000 in
theorem fr_X9_rounds_38 : ∀ (n : Nat) (v1 : Int32) (v2 : Int32) (v3 : Int32) (v4 : Int32) (S : zS), zFR w_X9_rounds (f_X9_rounds_38 n v1 v2 v3 v4 S) S := by
  intro n
  induction n with
  | zero =>
    intro v1 v2 v3 v4 S r hr
    cases (show (none : Option (Int32 × zS)) = some r from hr)
  | succ n ih =>
    intro v1 v2 v3 v4 S
    rw [f_X9_rounds_38]
    repeat' (first
    | with_reducible exact fr_none
    | with_reducible refine fr_if (fun _ => ?_) (fun _ => ?_)
    | with_reducible refine fr_some ?_
    | with_reducible refine z_fr_w ?_ (by unfold w_X9_rounds; first | (exact Or.inr (Or.inr (Or.inr (Or.inr (Or.inr ⟨rfl, rfl⟩))))) | (exact Or.inr (Or.inr (Or.inl rfl))) | (exact Or.inr (Or.inr (Or.inr (Or.inl rfl)))) | (exact Or.inr (Or.inr (Or.inr (Or.inr (Or.inl rfl))))))
    | with_reducible refine z_fr_u ?_ (by intro j9; unfold w_X9_rounds; first | (exact Or.inr (Or.inr (Or.inr (Or.inr (Or.inr ⟨rfl, rfl⟩))))) | (exact Or.inr (Or.inr (Or.inl rfl))) | (exact Or.inr (Or.inr (Or.inr (Or.inl rfl)))) | (exact Or.inr (Or.inr (Or.inr (Or.inr (Or.inl rfl))))))
    | with_reducible exact z_fr_rf
    | with_reducible assumption
    | with_reducible refine fr_bind (fr_X9_links _ _) (fun k j hkj => by unfold w_X9_links at hkj; unfold w_X9_rounds; rcases hkj with hkj | hkj; (exact Or.inl hkj); (exact Or.inr (Or.inl hkj))) ?_ (fun _ _ => ?_)
    | with_reducible refine fr_bind (fr_X9_startOf _ _) (fun k j hkj => by unfold w_X9_startOf at hkj; exact hkj.elim) ?_ (fun _ _ => ?_)
    | with_reducible refine fr_bind (fr_X9_goesOn _ _ _ _) (fun k j hkj => by unfold w_X9_goesOn at hkj; unfold w_X9_rounds; exact Or.inr (Or.inr (Or.inr (Or.inr (Or.inl hkj))))) ?_ (fun _ _ => ?_)
    | with_reducible refine fr_bind (fr_X9_opens _ _ _ _) (fun k j hkj => by unfold w_X9_opens at hkj; unfold w_X9_rounds; exact Or.inr (Or.inr (Or.inr (Or.inr (Or.inl hkj))))) ?_ (fun _ _ => ?_)
    | with_reducible refine fr_bind (fr_X9_cutsOf _ _) (fun k j hkj => by unfold w_X9_cutsOf at hkj; exact hkj.elim) ?_ (fun _ _ => ?_)
    | with_reducible refine fr_bind (fr_X9_has _ _ _) (fun k j hkj => by unfold w_X9_has at hkj; exact hkj.elim) ?_ (fun _ _ => ?_)
    | with_reducible refine fr_go ?_ (fr_X9_rounds_194 (by first | exact hK148 | exact ih) (by first | exact hK170 | exact ih) _ _ _ _ _)
    | with_reducible refine fr_go ?_ (fr_X9_rounds_211 (by first | exact hK148 | exact ih) _ _ _ _ _)
    | with_reducible refine fr_go ?_ (fr_X9_rounds_170 (by first | exact hK148 | exact ih) 1000 _ _ _ _ _ _)
    | with_reducible refine fr_go ?_ (fr_X9_rounds_148 1000 _ _ _ _)
    | with_reducible refine fr_go ?_ (fr_X9_rounds_99 1000 _ _ _ _ _)
    | with_reducible refine fr_go ?_ (hK170 _ _ _ _ _ _)
    | with_reducible refine fr_go ?_ (hK148 _ _ _ _)
    | with_reducible refine fr_go ?_ (ih _ _ _ _ _))
set_option maxHeartbeats 4000000 in
theorem fr_X9_rounds_8 : ∀ (n : Nat) (v1 : Int32) (v2 : Int32) (v3 : Int32) (S : zS), zFR w_X9_rounds (f_X9_rounds_8 n v1 v2 v3 S) S := by
  intro n
  induction n with
  | zero =>
    intro v1 v2 v3 S r hr
    cases (show (none : Option (Int32 × zS)) = some r from hr)
  | succ n ih =>
    intro v1 v2 v3 S
    rw [f_X9_rounds_8]
    repeat' (first
    | with_reducible exact fr_none
    | with_reducible refine fr_if (fun _ => ?_) (fun _ => ?_)
    | with_reducible refine fr_some ?_
    | with_reducible refine z_fr_w ?_ (by unfold w_X9_rounds; first | (exact Or.inr (Or.inr (Or.inr (Or.inr (Or.inr ⟨rfl, rfl⟩))))) | (exact Or.inr (Or.inr (Or.inl rfl))) | (exact Or.inr (Or.inr (Or.inr (Or.inl rfl)))) | (exact Or.inr (Or.inr (Or.inr (Or.inr (Or.inl rfl))))))
    | with_reducible refine z_fr_u ?_ (by intro j9; unfold w_X9_rounds; first | (exact Or.inr (Or.inr (Or.inr (Or.inr (Or.inr ⟨rfl, rfl⟩))))) | (exact Or.inr (Or.inr (Or.inl rfl))) | (exact Or.inr (Or.inr (Or.inr (Or.inl rfl)))) | (exact Or.inr (Or.inr (Or.inr (Or.inr (Or.inl rfl))))))
    | with_reducible exact z_fr_rf
    | with_reducible assumption
    | with_reducible refine fr_bind (fr_X9_links _ _) (fun k j hkj => by unfold w_X9_links at hkj; unfold w_X9_rounds; rcases hkj with hkj | hkj; (exact Or.inl hkj); (exact Or.inr (Or.inl hkj))) ?_ (fun _ _ => ?_)
    | with_reducible refine fr_bind (fr_X9_startOf _ _) (fun k j hkj => by unfold w_X9_startOf at hkj; exact hkj.elim) ?_ (fun _ _ => ?_)
    | with_reducible refine fr_bind (fr_X9_goesOn _ _ _ _) (fun k j hkj => by unfold w_X9_goesOn at hkj; unfold w_X9_rounds; exact Or.inr (Or.inr (Or.inr (Or.inr (Or.inl hkj))))) ?_ (fun _ _ => ?_)
    | with_reducible refine fr_bind (fr_X9_opens _ _ _ _) (fun k j hkj => by unfold w_X9_opens at hkj; unfold w_X9_rounds; exact Or.inr (Or.inr (Or.inr (Or.inr (Or.inl hkj))))) ?_ (fun _ _ => ?_)
    | with_reducible refine fr_bind (fr_X9_cutsOf _ _) (fun k j hkj => by unfold w_X9_cutsOf at hkj; exact hkj.elim) ?_ (fun _ _ => ?_)
    | with_reducible refine fr_bind (fr_X9_has _ _ _) (fun k j hkj => by unfold w_X9_has at hkj; exact hkj.elim) ?_ (fun _ _ => ?_)
    | with_reducible refine fr_go ?_ (fr_X9_rounds_194 (by first | exact hK148 | exact ih) (by first | exact hK170 | exact ih) _ _ _ _ _)
    | with_reducible refine fr_go ?_ (fr_X9_rounds_211 (by first | exact hK148 | exact ih) _ _ _ _ _)
    | with_reducible refine fr_go ?_ (fr_X9_rounds_170 (by first | exact hK148 | exact ih) 1000 _ _ _ _ _ _)
    | with_reducible refine fr_go ?_ (fr_X9_rounds_148 1000 _ _ _ _)
    | with_reducible refine fr_go ?_ (fr_X9_rounds_99 1000 _ _ _ _ _)
    | with_reducible refine fr_go ?_ (fr_X9_rounds_38 1000 _ _ _ _ _)
    | with_reducible refine fr_go ?_ (hK170 _ _ _ _ _ _)
    | with_reducible refine fr_go ?_ (hK148 _ _ _ _)
    | with_reducible refine fr_go ?_ (ih _ _ _ _))
set_option maxHeartbeats 4000000 in
theorem fr_X9_rounds : ∀ (a1 : Int32) (S : zS), zFR w_X9_rounds (f_X9_rounds a1 S) S := by
  intro a1 S
  unfold f_X9_rounds
  repeat' (first
    | with_reducible exact fr_none
    | with_reducible refine fr_if (fun _ => ?_) (fun _ => ?_)
    | with_reducible refine fr_some ?_
    | with_reducible refine z_fr_w ?_ (by unfold w_X9_rounds; first | (exact Or.inr (Or.inr (Or.inr (Or.inr (Or.inr ⟨rfl, rfl⟩))))) | (exact Or.inr (Or.inr (Or.inl rfl))) | (exact Or.inr (Or.inr (Or.inr (Or.inl rfl)))) | (exact Or.inr (Or.inr (Or.inr (Or.inr (Or.inl rfl))))))
    | with_reducible refine z_fr_u ?_ (by intro j9; unfold w_X9_rounds; first | (exact Or.inr (Or.inr (Or.inr (Or.inr (Or.inr ⟨rfl, rfl⟩))))) | (exact Or.inr (Or.inr (Or.inl rfl))) | (exact Or.inr (Or.inr (Or.inr (Or.inl rfl)))) | (exact Or.inr (Or.inr (Or.inr (Or.inr (Or.inl rfl))))))
    | with_reducible exact z_fr_rf
    | with_reducible assumption
    | with_reducible refine fr_bind (fr_X9_links _ _) (fun k j hkj => by unfold w_X9_links at hkj; unfold w_X9_rounds; rcases hkj with hkj | hkj; (exact Or.inl hkj); (exact Or.inr (Or.inl hkj))) ?_ (fun _ _ => ?_)
    | with_reducible refine fr_bind (fr_X9_startOf _ _) (fun k j hkj => by unfold w_X9_startOf at hkj; exact hkj.elim) ?_ (fun _ _ => ?_)
    | with_reducible refine fr_bind (fr_X9_goesOn _ _ _ _) (fun k j hkj => by unfold w_X9_goesOn at hkj; unfold w_X9_rounds; exact Or.inr (Or.inr (Or.inr (Or.inr (Or.inl hkj))))) ?_ (fun _ _ => ?_)
    | with_reducible refine fr_bind (fr_X9_opens _ _ _ _) (fun k j hkj => by unfold w_X9_opens at hkj; unfold w_X9_rounds; exact Or.inr (Or.inr (Or.inr (Or.inr (Or.inl hkj))))) ?_ (fun _ _ => ?_)
    | with_reducible refine fr_bind (fr_X9_cutsOf _ _) (fun k j hkj => by unfold w_X9_cutsOf at hkj; exact hkj.elim) ?_ (fun _ _ => ?_)
    | with_reducible refine fr_bind (fr_X9_has _ _ _) (fun k j hkj => by unfold w_X9_has at hkj; exact hkj.elim) ?_ (fun _ _ => ?_)
    | with_reducible refine fr_go ?_ (fr_X9_rounds_194 (by first | exact hK148 | exact ih) (by first | exact hK170 | exact ih) _ _ _ _ _)
    | with_reducible refine fr_go ?_ (fr_X9_rounds_211 (by first | exact hK148 | exact ih) _ _ _ _ _)
    | with_reducible refine fr_go ?_ (fr_X9_rounds_170 (by first | exact hK148 | exact ih) 1000 _ _ _ _ _ _)
    | with_reducible refine fr_go ?_ (fr_X9_rounds_148 1000 _ _ _ _)
    | with_reducible refine fr_go ?_ (fr_X9_rounds_99 1000 _ _ _ _ _)
    | with_reducible refine fr_go ?_ (fr_X9_rounds_38 1000 _ _ _ _ _)
    | with_reducible refine fr_go ?_ (fr_X9_rounds_8 1000 _ _ _ _)
    | with_reducible refine fr_go ?_ (hK170 _ _ _ _ _ _)
    | with_reducible refine fr_go ?_ (hK148 _ _ _ _))
def w_X9_follows (k j : Nat) : Prop := k = 100 ∨ k = 101 ∨ k = 102 ∨ k = 103 ∨ k = 104 ∨ k = 105 ∨ k = 106 ∨ k = 107 ∨ (k = 87 ∧ j = 0) ∨ (k = 87 ∧ j = 13) ∨ (k = 87 ∧ j = 23) ∨ (k = 87 ∧ j = 28) ∨ (k = 87 ∧ j = 32) ∨ k = 91 ∨ k = 92 ∨ k = 99
set_option maxHeartbeats 4000000 in
theorem fr_X9_follows : ∀ (S : zS), zFR w_X9_follows (f_X9_follows  S) S := by
  intro  S
  unfold f_X9_follows
  repeat' (first
    | with_reducible exact fr_none
    | with_reducible refine fr_if (fun _ => ?_) (fun _ => ?_)
    | with_reducible refine fr_some ?_
    | with_reducible refine z_fr_w ?_ (by unfold w_X9_follows; first | (exact Or.inr (Or.inr (Or.inr (Or.inr (Or.inr (Or.inr (Or.inr (Or.inr (Or.inl ⟨rfl, rfl⟩))))))))))
    | with_reducible refine z_fr_u ?_ (by intro j9; unfold w_X9_follows; first | (exact Or.inr (Or.inr (Or.inr (Or.inr (Or.inr (Or.inr (Or.inr (Or.inr (Or.inl ⟨rfl, rfl⟩))))))))))
    | with_reducible exact z_fr_rf
    | with_reducible assumption
    | with_reducible refine fr_bind (fr_X9_tours _) (fun k j hkj => by unfold w_X9_tours at hkj; unfold w_X9_follows; rcases hkj with hkj | hkj | hkj | hkj | hkj | hkj; (exact Or.inl hkj); (exact Or.inr (Or.inr (Or.inr (Or.inr (Or.inr (Or.inr (Or.inl hkj))))))); (exact Or.inr (Or.inr (Or.inr (Or.inr (Or.inr (Or.inr (Or.inr (Or.inl hkj)))))))); (exact Or.inr (Or.inr (Or.inr (Or.inr (Or.inr (Or.inr (Or.inr (Or.inr (Or.inr (Or.inr (Or.inl hkj))))))))))); (exact Or.inr (Or.inr (Or.inr (Or.inr (Or.inr (Or.inr (Or.inr (Or.inr (Or.inr (Or.inr (Or.inr (Or.inr (Or.inl hkj))))))))))))); (exact Or.inr (Or.inr (Or.inr (Or.inr (Or.inr (Or.inr (Or.inr (Or.inr (Or.inr (Or.inr (Or.inr (Or.inr (Or.inr (Or.inr (Or.inr hkj)))))))))))))))) ?_ (fun _ _ => ?_)
    | with_reducible refine fr_bind (fr_X9_startOf _ _) (fun k j hkj => by unfold w_X9_startOf at hkj; exact hkj.elim) ?_ (fun _ _ => ?_)
    | with_reducible refine fr_bind (fr_X9_rounds _ _) (fun k j hkj => by unfold w_X9_rounds at hkj; unfold w_X9_follows; rcases hkj with hkj | hkj | hkj | hkj | hkj | hkj; (exact Or.inr (Or.inl hkj)); (exact Or.inr (Or.inr (Or.inl hkj))); (exact Or.inr (Or.inr (Or.inr (Or.inl hkj)))); (exact Or.inr (Or.inr (Or.inr (Or.inr (Or.inl hkj))))); (exact Or.inr (Or.inr (Or.inr (Or.inr (Or.inr (Or.inl hkj)))))); (exact Or.inr (Or.inr (Or.inr (Or.inr (Or.inr (Or.inr (Or.inr (Or.inr (Or.inr (Or.inr (Or.inr (Or.inl hkj))))))))))))) ?_ (fun _ _ => ?_)
    | with_reducible refine fr_bind (fr_X9_mayBurn _ _) (fun k j hkj => by unfold w_X9_mayBurn at hkj; exact hkj.elim) ?_ (fun _ _ => ?_)
    | with_reducible refine fr_bind (fr_X9_burn _ _) (fun k j hkj => by unfold w_X9_burn at hkj; unfold w_X9_follows; rcases hkj with hkj | hkj | hkj; (exact Or.inr (Or.inr (Or.inr (Or.inr (Or.inr (Or.inr (Or.inr (Or.inr (Or.inr (Or.inl hkj)))))))))); (exact Or.inr (Or.inr (Or.inr (Or.inr (Or.inr (Or.inr (Or.inr (Or.inr (Or.inr (Or.inr (Or.inr (Or.inr (Or.inr (Or.inl hkj)))))))))))))); (exact Or.inr (Or.inr (Or.inr (Or.inr (Or.inr (Or.inr (Or.inr (Or.inr (Or.inr (Or.inr (Or.inr (Or.inr (Or.inr (Or.inr (Or.inl hkj)))))))))))))))) ?_ (fun _ _ => ?_)
    | with_reducible refine fr_bind (fr_X9_move _ _) (fun k j hkj => by unfold w_X9_move at hkj; unfold w_X9_follows; rcases hkj with hkj | hkj | hkj; (exact Or.inr (Or.inr (Or.inr (Or.inr (Or.inr (Or.inr (Or.inr (Or.inr (Or.inr (Or.inl hkj)))))))))); (exact Or.inr (Or.inr (Or.inr (Or.inr (Or.inr (Or.inr (Or.inr (Or.inr (Or.inr (Or.inr (Or.inr (Or.inr (Or.inr (Or.inl hkj)))))))))))))); (exact Or.inr (Or.inr (Or.inr (Or.inr (Or.inr (Or.inr (Or.inr (Or.inr (Or.inr (Or.inr (Or.inr (Or.inr (Or.inr (Or.inr (Or.inl hkj)))))))))))))))) ?_ (fun _ _ => ?_))
def w_X0_restore (p1 : Nat) (k j : Nat) : Prop := (k = 34 ∧ j = 1) ∨ (k = 34 ∧ j = 2) ∨ (k = p1 ∧ j = 0) ∨ (k = p1 ∧ j = 1) ∨ (k = p1 ∧ j = 2) ∨ (k = p1 ∧ j = 3) ∨ k = p1 + 1
set_option maxHeartbeats 4000000 in
theorem fr_X0_restore_28 {p1 : Nat} : ∀ (t0 : Int32) (S : zS), zFR (w_X0_restore p1) (f_X0_restore_28 p1 t0 S) S := by
  intro t0 S
  unfold f_X0_restore_28
  repeat' (first
    | with_reducible exact fr_none
    | with_reducible refine fr_if (fun _ => ?_) (fun _ => ?_)
    | with_reducible refine fr_some ?_
    | with_reducible refine z_fr_w ?_ (by unfold w_X0_restore; first | (exact Or.inl ⟨rfl, rfl⟩) | (exact Or.inr (Or.inl ⟨rfl, rfl⟩)))
    | with_reducible refine z_fr_u ?_ (by intro j9; unfold w_X0_restore; first | (exact Or.inl ⟨rfl, rfl⟩) | (exact Or.inr (Or.inl ⟨rfl, rfl⟩)))
    | with_reducible exact z_fr_rf
    | with_reducible assumption
    | with_reducible refine fr_bind (fr_X2_become _ _ _) (fun k j hkj => by unfold w_X2_become at hkj; unfold w_X0_restore; rcases hkj with hkj | hkj | hkj | hkj | hkj; (exact Or.inr (Or.inr (Or.inl hkj))); (exact Or.inr (Or.inr (Or.inr (Or.inl hkj)))); (exact Or.inr (Or.inr (Or.inr (Or.inr (Or.inl hkj))))); (exact Or.inr (Or.inr (Or.inr (Or.inr (Or.inr (Or.inl hkj)))))); (exact Or.inr (Or.inr (Or.inr (Or.inr (Or.inr (Or.inr hkj))))))) ?_ (fun _ _ => ?_))
set_option maxHeartbeats 4000000 in
theorem fr_X0_restore : ∀ (p1 : Nat) (S : zS), zFR (w_X0_restore p1) (f_X0_restore p1 S) S := by
  intro p1 S
  unfold f_X0_restore
  repeat' (first
    | with_reducible exact fr_none
    | with_reducible refine fr_if (fun _ => ?_) (fun _ => ?_)
    | with_reducible refine fr_some ?_
    | with_reducible refine z_fr_w ?_ (by unfold w_X0_restore; first | (exact Or.inl ⟨rfl, rfl⟩) | (exact Or.inr (Or.inl ⟨rfl, rfl⟩)))
    | with_reducible refine z_fr_u ?_ (by intro j9; unfold w_X0_restore; first | (exact Or.inl ⟨rfl, rfl⟩) | (exact Or.inr (Or.inl ⟨rfl, rfl⟩)))
    | with_reducible exact z_fr_rf
    | with_reducible assumption
    | with_reducible refine fr_bind (fr_X2_become _ _ _) (fun k j hkj => by unfold w_X2_become at hkj; unfold w_X0_restore; rcases hkj with hkj | hkj | hkj | hkj | hkj; (exact Or.inr (Or.inr (Or.inl hkj))); (exact Or.inr (Or.inr (Or.inr (Or.inl hkj)))); (exact Or.inr (Or.inr (Or.inr (Or.inr (Or.inl hkj))))); (exact Or.inr (Or.inr (Or.inr (Or.inr (Or.inr (Or.inl hkj)))))); (exact Or.inr (Or.inr (Or.inr (Or.inr (Or.inr (Or.inr hkj))))))) ?_ (fun _ _ => ?_)
    | with_reducible refine fr_go ?_ (fr_X0_restore_28 _ _))
def w_X8_undo (k j : Nat) : Prop := (k = 32 ∧ j = 0) ∨ (k = 32 ∧ j = 1) ∨ (k = 32 ∧ j = 2) ∨ (k = 32 ∧ j = 3) ∨ k = 33 ∨ (k = 34 ∧ j = 1) ∨ (k = 34 ∧ j = 2) ∨ (k = 57 ∧ j = 0) ∨ (k = 69 ∧ j = 0)
set_option maxHeartbeats 4000000 in
theorem fr_X8_undo : ∀ (S : zS), zFR w_X8_undo (f_X8_undo  S) S := by
  intro  S
  unfold f_X8_undo
  repeat' (first
    | with_reducible exact fr_none
    | with_reducible refine fr_if (fun _ => ?_) (fun _ => ?_)
    | with_reducible refine fr_some ?_
    | with_reducible exact z_fr_rf
    | with_reducible assumption
    | with_reducible refine fr_bind (fr_X0_restore _ _) (fun k j hkj => by unfold w_X0_restore at hkj; unfold w_X8_undo; rcases hkj with hkj | hkj | hkj | hkj | hkj | hkj | hkj; (exact Or.inr (Or.inr (Or.inr (Or.inr (Or.inr (Or.inl hkj)))))); (exact Or.inr (Or.inr (Or.inr (Or.inr (Or.inr (Or.inr (Or.inl hkj))))))); (exact Or.inl hkj); (exact Or.inr (Or.inl hkj)); (exact Or.inr (Or.inr (Or.inl hkj))); (exact Or.inr (Or.inr (Or.inr (Or.inl hkj)))); (exact Or.inr (Or.inr (Or.inr (Or.inr (Or.inl hkj)))))) ?_ (fun _ _ => ?_)
    | with_reducible refine fr_bind (fr_X8_outdate _) (fun k j hkj => by unfold w_X8_outdate at hkj; unfold w_X8_undo; rcases hkj with hkj | hkj; (exact Or.inr (Or.inr (Or.inr (Or.inr (Or.inr (Or.inr (Or.inr (Or.inl hkj)))))))); (exact Or.inr (Or.inr (Or.inr (Or.inr (Or.inr (Or.inr (Or.inr (Or.inr hkj))))))))) ?_ (fun _ _ => ?_))
def w_X9_undo (k j : Nat) : Prop := (k = 87 ∧ j = 0) ∨ (k = 87 ∧ j = 13) ∨ k = 91
set_option maxHeartbeats 4000000 in
theorem fr_X9_undo_27 : ∀ (n : Nat) (v1 : Int32) (S : zS), zFR w_X9_undo (f_X9_undo_27 n v1 S) S := by
  intro n
  induction n with
  | zero =>
    intro v1 S r hr
    cases (show (none : Option (Int32 × zS)) = some r from hr)
  | succ n ih =>
    intro v1 S
    rw [f_X9_undo_27]
    repeat' (first
    | with_reducible exact fr_none
    | with_reducible refine fr_if (fun _ => ?_) (fun _ => ?_)
    | with_reducible refine fr_some ?_
    | with_reducible refine z_fr_w ?_ (by unfold w_X9_undo; first | (exact Or.inl ⟨rfl, rfl⟩) | (exact Or.inr (Or.inl ⟨rfl, rfl⟩)) | (exact Or.inr (Or.inr rfl)))
    | with_reducible refine z_fr_u ?_ (by intro j9; unfold w_X9_undo; first | (exact Or.inl ⟨rfl, rfl⟩) | (exact Or.inr (Or.inl ⟨rfl, rfl⟩)) | (exact Or.inr (Or.inr rfl)))
    | with_reducible exact z_fr_rf
    | with_reducible assumption
    | with_reducible refine fr_go ?_ (ih _ _))
set_option maxHeartbeats 4000000 in
theorem fr_X9_undo : ∀ (S : zS), zFR w_X9_undo (f_X9_undo  S) S := by
  intro  S
  unfold f_X9_undo
  repeat' (first
    | with_reducible exact fr_none
    | with_reducible refine fr_if (fun _ => ?_) (fun _ => ?_)
    | with_reducible refine fr_some ?_
    | with_reducible refine z_fr_w ?_ (by unfold w_X9_undo; first | (exact Or.inl ⟨rfl, rfl⟩) | (exact Or.inr (Or.inl ⟨rfl, rfl⟩)) | (exact Or.inr (Or.inr rfl)))
    | with_reducible refine z_fr_u ?_ (by intro j9; unfold w_X9_undo; first | (exact Or.inl ⟨rfl, rfl⟩) | (exact Or.inr (Or.inl ⟨rfl, rfl⟩)) | (exact Or.inr (Or.inr rfl)))
    | with_reducible exact z_fr_rf
    | with_reducible assumption
    | with_reducible refine fr_go ?_ (fr_X9_undo_27 1000 _ _))
def w_X8_piece (k j : Nat) : Prop := (k = 57 ∧ j = 0) ∨ (k = 57 ∧ j = 1) ∨ (k = 57 ∧ j = 10) ∨ k = 58 ∨ k = 59 ∨ k = 60 ∨ k = 61 ∨ k = 62 ∨ k = 63 ∨ k = 64 ∨ k = 65 ∨ k = 67 ∨ k = 68
set_option maxHeartbeats 4000000 in
theorem fr_X8_piece : ∀ (a1 : Int32) (a2 : Int32) (S : zS), zFR w_X8_piece (f_X8_piece a1 a2 S) S := by
  intro a1 a2 S
  unfold f_X8_piece
  repeat' (first
    | with_reducible exact fr_none
    | with_reducible refine fr_if (fun _ => ?_) (fun _ => ?_)
    | with_reducible refine fr_some ?_
    | with_reducible exact z_fr_rf
    | with_reducible assumption
    | with_reducible refine fr_bind (fr_X8_surveyed _) (fun k j hkj => by unfold w_X8_surveyed at hkj; unfold w_X8_piece; rcases hkj with hkj | hkj | hkj | hkj | hkj | hkj | hkj | hkj | hkj | hkj | hkj | hkj | hkj; (exact Or.inl hkj); (exact Or.inr (Or.inl hkj)); (exact Or.inr (Or.inr (Or.inl hkj))); (exact Or.inr (Or.inr (Or.inr (Or.inl hkj)))); (exact Or.inr (Or.inr (Or.inr (Or.inr (Or.inl hkj))))); (exact Or.inr (Or.inr (Or.inr (Or.inr (Or.inr (Or.inl hkj)))))); (exact Or.inr (Or.inr (Or.inr (Or.inr (Or.inr (Or.inr (Or.inl hkj))))))); (exact Or.inr (Or.inr (Or.inr (Or.inr (Or.inr (Or.inr (Or.inr (Or.inl hkj)))))))); (exact Or.inr (Or.inr (Or.inr (Or.inr (Or.inr (Or.inr (Or.inr (Or.inr (Or.inl hkj))))))))); (exact Or.inr (Or.inr (Or.inr (Or.inr (Or.inr (Or.inr (Or.inr (Or.inr (Or.inr (Or.inl hkj)))))))))); (exact Or.inr (Or.inr (Or.inr (Or.inr (Or.inr (Or.inr (Or.inr (Or.inr (Or.inr (Or.inr (Or.inl hkj))))))))))); (exact Or.inr (Or.inr (Or.inr (Or.inr (Or.inr (Or.inr (Or.inr (Or.inr (Or.inr (Or.inr (Or.inr (Or.inl hkj)))))))))))); (exact Or.inr (Or.inr (Or.inr (Or.inr (Or.inr (Or.inr (Or.inr (Or.inr (Or.inr (Or.inr (Or.inr (Or.inr hkj))))))))))))) ?_ (fun _ _ => ?_)
    | with_reducible refine fr_bind (fr_X4_hasPiece _ _) (fun k j hkj => by unfold w_X4_hasPiece at hkj; exact hkj.elim) ?_ (fun _ _ => ?_)
    | with_reducible refine fr_bind (fr_X4_stepsOf _ _) (fun k j hkj => by unfold w_X4_stepsOf at hkj; exact hkj.elim) ?_ (fun _ _ => ?_))
def w_X9_piece (k j : Nat) : Prop := k = 100 ∨ k = 101 ∨ k = 102 ∨ (k = 87 ∧ j = 0) ∨ (k = 87 ∧ j = 23) ∨ k = 99
set_option maxHeartbeats 4000000 in
theorem fr_X9_piece : ∀ (a1 : Int32) (a2 : Int32) (S : zS), zFR w_X9_piece (f_X9_piece a1 a2 S) S := by
  intro a1 a2 S
  unfold f_X9_piece
  repeat' (first
    | with_reducible exact fr_none
    | with_reducible refine fr_if (fun _ => ?_) (fun _ => ?_)
    | with_reducible refine fr_some ?_
    | with_reducible refine z_fr_w ?_ (by unfold w_X9_piece; first | (exact Or.inr (Or.inr (Or.inr (Or.inl ⟨rfl, rfl⟩)))))
    | with_reducible refine z_fr_u ?_ (by intro j9; unfold w_X9_piece; first | (exact Or.inr (Or.inr (Or.inr (Or.inl ⟨rfl, rfl⟩)))))
    | with_reducible exact z_fr_rf
    | with_reducible assumption
    | with_reducible refine fr_bind (fr_X9_pieces _) (fun k j hkj => by unfold w_X9_pieces at hkj; unfold w_X9_piece; rcases hkj with hkj | hkj | hkj; (exact Or.inl hkj); (exact Or.inr (Or.inr (Or.inr (Or.inr (Or.inl hkj))))); (exact Or.inr (Or.inr (Or.inr (Or.inr (Or.inr hkj)))))) ?_ (fun _ _ => ?_)
    | with_reducible refine fr_bind (fr_X9_in _ _ _ _) (fun k j hkj => by unfold w_X9_in at hkj; exact hkj.elim) ?_ (fun _ _ => ?_)
    | with_reducible refine fr_bind (fr_X9_links _ _) (fun k j hkj => by unfold w_X9_links at hkj; unfold w_X9_piece; rcases hkj with hkj | hkj; (exact Or.inr (Or.inl hkj)); (exact Or.inr (Or.inr (Or.inl hkj)))) ?_ (fun _ _ => ?_)
    | with_reducible refine fr_bind (fr_X9_cutsOf _ _) (fun k j hkj => by unfold w_X9_cutsOf at hkj; exact hkj.elim) ?_ (fun _ _ => ?_)
    | with_reducible refine fr_bind (fr_X9_ones _ _) (fun k j hkj => by unfold w_X9_ones at hkj; exact hkj.elim) ?_ (fun _ _ => ?_)
    | with_reducible refine fr_bind (fr_X9_oddOf _ _) (fun k j hkj => by unfold w_X9_oddOf at hkj; exact hkj.elim) ?_ (fun _ _ => ?_)
    | with_reducible refine fr_bind (fr_X9_aheadOf _ _) (fun k j hkj => by unfold w_X9_aheadOf at hkj; exact hkj.elim) ?_ (fun _ _ => ?_))
def w_X8_link (k j : Nat) : Prop := (k = 57 ∧ j = 0) ∨ (k = 57 ∧ j = 1) ∨ (k = 57 ∧ j = 10) ∨ k = 58 ∨ k = 59 ∨ k = 60 ∨ k = 61 ∨ k = 62 ∨ k = 63 ∨ k = 64 ∨ k = 65 ∨ k = 67 ∨ k = 68
set_option maxHeartbeats 4000000 in
theorem fr_X8_link : ∀ (a1 : Int32) (S : zS), zFR w_X8_link (f_X8_link a1 S) S := by
  intro a1 S
  unfold f_X8_link
  repeat' (first
    | with_reducible exact fr_none
    | with_reducible refine fr_if (fun _ => ?_) (fun _ => ?_)
    | with_reducible refine fr_some ?_
    | with_reducible exact z_fr_rf
    | with_reducible assumption
    | with_reducible refine fr_bind (fr_X1_hasCorner _ _ _) (fun k j hkj => by unfold w_X1_hasCorner at hkj; exact hkj.elim) ?_ (fun _ _ => ?_)
    | with_reducible refine fr_bind (fr_X8_surveyed _) (fun k j hkj => by unfold w_X8_surveyed at hkj; unfold w_X8_link; rcases hkj with hkj | hkj | hkj | hkj | hkj | hkj | hkj | hkj | hkj | hkj | hkj | hkj | hkj; (exact Or.inl hkj); (exact Or.inr (Or.inl hkj)); (exact Or.inr (Or.inr (Or.inl hkj))); (exact Or.inr (Or.inr (Or.inr (Or.inl hkj)))); (exact Or.inr (Or.inr (Or.inr (Or.inr (Or.inl hkj))))); (exact Or.inr (Or.inr (Or.inr (Or.inr (Or.inr (Or.inl hkj)))))); (exact Or.inr (Or.inr (Or.inr (Or.inr (Or.inr (Or.inr (Or.inl hkj))))))); (exact Or.inr (Or.inr (Or.inr (Or.inr (Or.inr (Or.inr (Or.inr (Or.inl hkj)))))))); (exact Or.inr (Or.inr (Or.inr (Or.inr (Or.inr (Or.inr (Or.inr (Or.inr (Or.inl hkj))))))))); (exact Or.inr (Or.inr (Or.inr (Or.inr (Or.inr (Or.inr (Or.inr (Or.inr (Or.inr (Or.inl hkj)))))))))); (exact Or.inr (Or.inr (Or.inr (Or.inr (Or.inr (Or.inr (Or.inr (Or.inr (Or.inr (Or.inr (Or.inl hkj))))))))))); (exact Or.inr (Or.inr (Or.inr (Or.inr (Or.inr (Or.inr (Or.inr (Or.inr (Or.inr (Or.inr (Or.inr (Or.inl hkj)))))))))))); (exact Or.inr (Or.inr (Or.inr (Or.inr (Or.inr (Or.inr (Or.inr (Or.inr (Or.inr (Or.inr (Or.inr (Or.inr hkj))))))))))))) ?_ (fun _ _ => ?_))
def w_X9_link (k j : Nat) : Prop := k = 100 ∨ k = 101 ∨ k = 102 ∨ (k = 87 ∧ j = 0) ∨ (k = 87 ∧ j = 23) ∨ k = 99
set_option maxHeartbeats 4000000 in
theorem fr_X9_link_24 : ∀ (n : Nat) (v1 : Int32) (v2 : Int32) (v3 : Int32) (S : zS), zFR w_X9_link (f_X9_link_24 n v1 v2 v3 S) S := by
  intro n
  induction n with
  | zero =>
    intro v1 v2 v3 S r hr
    cases (show (none : Option (Int32 × zS)) = some r from hr)
  | succ n ih =>
    intro v1 v2 v3 S
    rw [f_X9_link_24]
    repeat' (first
    | with_reducible exact fr_none
    | with_reducible refine fr_if (fun _ => ?_) (fun _ => ?_)
    | with_reducible refine fr_some ?_
    | with_reducible refine z_fr_w ?_ (by unfold w_X9_link; first | (exact Or.inr (Or.inr (Or.inr (Or.inl ⟨rfl, rfl⟩)))))
    | with_reducible refine z_fr_u ?_ (by intro j9; unfold w_X9_link; first | (exact Or.inr (Or.inr (Or.inr (Or.inl ⟨rfl, rfl⟩)))))
    | with_reducible exact z_fr_rf
    | with_reducible assumption
    | with_reducible refine fr_bind (fr_X9_isCornerNow _ _) (fun k j hkj => by unfold w_X9_isCornerNow at hkj; exact hkj.elim) ?_ (fun _ _ => ?_)
    | with_reducible refine fr_bind (fr_X9_pieces _) (fun k j hkj => by unfold w_X9_pieces at hkj; unfold w_X9_link; rcases hkj with hkj | hkj | hkj; (exact Or.inl hkj); (exact Or.inr (Or.inr (Or.inr (Or.inr (Or.inl hkj))))); (exact Or.inr (Or.inr (Or.inr (Or.inr (Or.inr hkj)))))) ?_ (fun _ _ => ?_)
    | with_reducible refine fr_bind (fr_X9_links _ _) (fun k j hkj => by unfold w_X9_links at hkj; unfold w_X9_link; rcases hkj with hkj | hkj; (exact Or.inr (Or.inl hkj)); (exact Or.inr (Or.inr (Or.inl hkj)))) ?_ (fun _ _ => ?_)
    | with_reducible refine fr_go ?_ (ih _ _ _ _))
set_option maxHeartbeats 4000000 in
theorem fr_X9_link : ∀ (a1 : Int32) (S : zS), zFR w_X9_link (f_X9_link a1 S) S := by
  intro a1 S
  unfold f_X9_link
  repeat' (first
    | with_reducible exact fr_none
    | with_reducible refine fr_if (fun _ => ?_) (fun _ => ?_)
    | with_reducible refine fr_some ?_
    | with_reducible refine z_fr_w ?_ (by unfold w_X9_link; first | (exact Or.inr (Or.inr (Or.inr (Or.inl ⟨rfl, rfl⟩)))))
    | with_reducible refine z_fr_u ?_ (by intro j9; unfold w_X9_link; first | (exact Or.inr (Or.inr (Or.inr (Or.inl ⟨rfl, rfl⟩)))))
    | with_reducible exact z_fr_rf
    | with_reducible assumption
    | with_reducible refine fr_bind (fr_X9_isCornerNow _ _) (fun k j hkj => by unfold w_X9_isCornerNow at hkj; exact hkj.elim) ?_ (fun _ _ => ?_)
    | with_reducible refine fr_bind (fr_X9_pieces _) (fun k j hkj => by unfold w_X9_pieces at hkj; unfold w_X9_link; rcases hkj with hkj | hkj | hkj; (exact Or.inl hkj); (exact Or.inr (Or.inr (Or.inr (Or.inr (Or.inl hkj))))); (exact Or.inr (Or.inr (Or.inr (Or.inr (Or.inr hkj)))))) ?_ (fun _ _ => ?_)
    | with_reducible refine fr_bind (fr_X9_links _ _) (fun k j hkj => by unfold w_X9_links at hkj; unfold w_X9_link; rcases hkj with hkj | hkj; (exact Or.inr (Or.inl hkj)); (exact Or.inr (Or.inr (Or.inl hkj)))) ?_ (fun _ _ => ?_)
    | with_reducible refine fr_go ?_ (fr_X9_link_24 1000 _ _ _ _))
def w_X8_round (k j : Nat) : Prop := (k = 57 ∧ j = 0) ∨ (k = 57 ∧ j = 1) ∨ (k = 57 ∧ j = 10) ∨ k = 58 ∨ k = 59 ∨ k = 60 ∨ k = 61 ∨ k = 62 ∨ k = 63 ∨ k = 64 ∨ k = 65 ∨ k = 67 ∨ k = 68 ∨ (k = 69 ∧ j = 0) ∨ (k = 69 ∧ j = 1) ∨ k = 70 ∨ k = 71 ∨ k = 73 ∨ k = 74
set_option maxHeartbeats 4000000 in
theorem fr_X8_round : ∀ (a1 : Int32) (a2 : Int32) (a3 : Int32) (S : zS), zFR w_X8_round (f_X8_round a1 a2 a3 S) S := by
  intro a1 a2 a3 S
  unfold f_X8_round
  repeat' (first
    | with_reducible exact fr_none
    | with_reducible refine fr_if (fun _ => ?_) (fun _ => ?_)
    | with_reducible refine fr_some ?_
    | with_reducible exact z_fr_rf
    | with_reducible assumption
    | with_reducible refine fr_bind (fr_X8_surveyed _) (fun k j hkj => by unfold w_X8_surveyed at hkj; unfold w_X8_round; rcases hkj with hkj | hkj | hkj | hkj | hkj | hkj | hkj | hkj | hkj | hkj | hkj | hkj | hkj; (exact Or.inl hkj); (exact Or.inr (Or.inl hkj)); (exact Or.inr (Or.inr (Or.inl hkj))); (exact Or.inr (Or.inr (Or.inr (Or.inl hkj)))); (exact Or.inr (Or.inr (Or.inr (Or.inr (Or.inl hkj))))); (exact Or.inr (Or.inr (Or.inr (Or.inr (Or.inr (Or.inl hkj)))))); (exact Or.inr (Or.inr (Or.inr (Or.inr (Or.inr (Or.inr (Or.inl hkj))))))); (exact Or.inr (Or.inr (Or.inr (Or.inr (Or.inr (Or.inr (Or.inr (Or.inl hkj)))))))); (exact Or.inr (Or.inr (Or.inr (Or.inr (Or.inr (Or.inr (Or.inr (Or.inr (Or.inl hkj))))))))); (exact Or.inr (Or.inr (Or.inr (Or.inr (Or.inr (Or.inr (Or.inr (Or.inr (Or.inr (Or.inl hkj)))))))))); (exact Or.inr (Or.inr (Or.inr (Or.inr (Or.inr (Or.inr (Or.inr (Or.inr (Or.inr (Or.inr (Or.inl hkj))))))))))); (exact Or.inr (Or.inr (Or.inr (Or.inr (Or.inr (Or.inr (Or.inr (Or.inr (Or.inr (Or.inr (Or.inr (Or.inl hkj)))))))))))); (exact Or.inr (Or.inr (Or.inr (Or.inr (Or.inr (Or.inr (Or.inr (Or.inr (Or.inr (Or.inr (Or.inr (Or.inr (Or.inl hkj)))))))))))))) ?_ (fun _ _ => ?_)
    | with_reducible refine fr_bind (fr_X4_hasPiece _ _) (fun k j hkj => by unfold w_X4_hasPiece at hkj; exact hkj.elim) ?_ (fun _ _ => ?_)
    | with_reducible refine fr_bind (fr_X5_go _ _ _) (fun k j hkj => by unfold w_X5_go at hkj; unfold w_X8_round; rcases hkj with hkj | hkj | hkj | hkj | hkj | hkj; (exact Or.inr (Or.inr (Or.inr (Or.inr (Or.inr (Or.inr (Or.inr (Or.inr (Or.inr (Or.inr (Or.inr (Or.inr (Or.inr (Or.inl hkj)))))))))))))); (exact Or.inr (Or.inr (Or.inr (Or.inr (Or.inr (Or.inr (Or.inr (Or.inr (Or.inr (Or.inr (Or.inr (Or.inr (Or.inr (Or.inr (Or.inl hkj))))))))))))))); (exact Or.inr (Or.inr (Or.inr (Or.inr (Or.inr (Or.inr (Or.inr (Or.inr (Or.inr (Or.inr (Or.inr (Or.inr (Or.inr (Or.inr (Or.inr (Or.inl hkj)))))))))))))))); (exact Or.inr (Or.inr (Or.inr (Or.inr (Or.inr (Or.inr (Or.inr (Or.inr (Or.inr (Or.inr (Or.inr (Or.inr (Or.inr (Or.inr (Or.inr (Or.inr (Or.inl hkj))))))))))))))))); (exact Or.inr (Or.inr (Or.inr (Or.inr (Or.inr (Or.inr (Or.inr (Or.inr (Or.inr (Or.inr (Or.inr (Or.inr (Or.inr (Or.inr (Or.inr (Or.inr (Or.inr (Or.inl hkj)))))))))))))))))); (exact Or.inr (Or.inr (Or.inr (Or.inr (Or.inr (Or.inr (Or.inr (Or.inr (Or.inr (Or.inr (Or.inr (Or.inr (Or.inr (Or.inr (Or.inr (Or.inr (Or.inr (Or.inr hkj))))))))))))))))))) ?_ (fun _ _ => ?_))
def w_X9_round (k j : Nat) : Prop := k = 100 ∨ k = 101 ∨ k = 102 ∨ k = 103 ∨ k = 104 ∨ k = 105 ∨ (k = 87 ∧ j = 0) ∨ (k = 87 ∧ j = 23) ∨ (k = 87 ∧ j = 28) ∨ k = 99
set_option maxHeartbeats 4000000 in
theorem fr_X9_round : ∀ (a1 : Int32) (a2 : Int32) (a3 : Int32) (S : zS), zFR w_X9_round (f_X9_round a1 a2 a3 S) S := by
  intro a1 a2 a3 S
  unfold f_X9_round
  repeat' (first
    | with_reducible exact fr_none
    | with_reducible refine fr_if (fun _ => ?_) (fun _ => ?_)
    | with_reducible refine fr_some ?_
    | with_reducible refine z_fr_w ?_ (by unfold w_X9_round; first | (exact Or.inr (Or.inr (Or.inr (Or.inr (Or.inr (Or.inr (Or.inl ⟨rfl, rfl⟩))))))))
    | with_reducible refine z_fr_u ?_ (by intro j9; unfold w_X9_round; first | (exact Or.inr (Or.inr (Or.inr (Or.inr (Or.inr (Or.inr (Or.inl ⟨rfl, rfl⟩))))))))
    | with_reducible exact z_fr_rf
    | with_reducible assumption
    | with_reducible refine fr_bind (fr_X9_pieces _) (fun k j hkj => by unfold w_X9_pieces at hkj; unfold w_X9_round; rcases hkj with hkj | hkj | hkj; (exact Or.inl hkj); (exact Or.inr (Or.inr (Or.inr (Or.inr (Or.inr (Or.inr (Or.inr (Or.inl hkj)))))))); (exact Or.inr (Or.inr (Or.inr (Or.inr (Or.inr (Or.inr (Or.inr (Or.inr (Or.inr hkj)))))))))) ?_ (fun _ _ => ?_)
    | with_reducible refine fr_bind (fr_X9_in _ _ _ _) (fun k j hkj => by unfold w_X9_in at hkj; exact hkj.elim) ?_ (fun _ _ => ?_)
    | with_reducible refine fr_bind (fr_X9_rounds _ _) (fun k j hkj => by unfold w_X9_rounds at hkj; unfold w_X9_round; rcases hkj with hkj | hkj | hkj | hkj | hkj | hkj; (exact Or.inr (Or.inl hkj)); (exact Or.inr (Or.inr (Or.inl hkj))); (exact Or.inr (Or.inr (Or.inr (Or.inl hkj)))); (exact Or.inr (Or.inr (Or.inr (Or.inr (Or.inl hkj))))); (exact Or.inr (Or.inr (Or.inr (Or.inr (Or.inr (Or.inl hkj)))))); (exact Or.inr (Or.inr (Or.inr (Or.inr (Or.inr (Or.inr (Or.inr (Or.inr (Or.inl hkj)))))))))) ?_ (fun _ _ => ?_))
def w_X4_idle (k j : Nat) : Prop := False
set_option maxHeartbeats 4000000 in
theorem fr_X4_idle_7 : ∀ (n : Nat) (v1 : Int32) (v2 : Int32) (S : zS), zFR w_X4_idle (f_X4_idle_7 n v1 v2 S) S := by
  intro n
  induction n with
  | zero =>
    intro v1 v2 S r hr
    cases (show (none : Option (Int32 × zS)) = some r from hr)
  | succ n ih =>
    intro v1 v2 S
    rw [f_X4_idle_7]
    repeat' (first
    | with_reducible exact fr_none
    | with_reducible refine fr_if (fun _ => ?_) (fun _ => ?_)
    | with_reducible refine fr_some ?_
    | with_reducible exact z_fr_rf
    | with_reducible assumption
    | with_reducible refine fr_go ?_ (ih _ _ _))
set_option maxHeartbeats 4000000 in
theorem fr_X4_idle : ∀ (S : zS), zFR w_X4_idle (f_X4_idle  S) S := by
  intro  S
  unfold f_X4_idle
  repeat' (first
    | with_reducible exact fr_none
    | with_reducible refine fr_if (fun _ => ?_) (fun _ => ?_)
    | with_reducible refine fr_some ?_
    | with_reducible exact z_fr_rf
    | with_reducible assumption
    | with_reducible refine fr_go ?_ (fr_X4_idle_7 1000 _ _ _))
def w_X8_tour (k j : Nat) : Prop := (k = 57 ∧ j = 0) ∨ (k = 57 ∧ j = 1) ∨ (k = 57 ∧ j = 10) ∨ k = 58 ∨ k = 59 ∨ k = 60 ∨ k = 61 ∨ k = 62 ∨ k = 63 ∨ k = 64 ∨ k = 65 ∨ k = 67 ∨ k = 68
set_option maxHeartbeats 4000000 in
theorem fr_X8_tour : ∀ (a1 : Int32) (S : zS), zFR w_X8_tour (f_X8_tour a1 S) S := by
  intro a1 S
  unfold f_X8_tour
  repeat' (first
    | with_reducible exact fr_none
    | with_reducible refine fr_if (fun _ => ?_) (fun _ => ?_)
    | with_reducible refine fr_some ?_
    | with_reducible exact z_fr_rf
    | with_reducible assumption
    | with_reducible refine fr_bind (fr_X8_surveyed _) (fun k j hkj => by unfold w_X8_surveyed at hkj; unfold w_X8_tour; rcases hkj with hkj | hkj | hkj | hkj | hkj | hkj | hkj | hkj | hkj | hkj | hkj | hkj | hkj; (exact Or.inl hkj); (exact Or.inr (Or.inl hkj)); (exact Or.inr (Or.inr (Or.inl hkj))); (exact Or.inr (Or.inr (Or.inr (Or.inl hkj)))); (exact Or.inr (Or.inr (Or.inr (Or.inr (Or.inl hkj))))); (exact Or.inr (Or.inr (Or.inr (Or.inr (Or.inr (Or.inl hkj)))))); (exact Or.inr (Or.inr (Or.inr (Or.inr (Or.inr (Or.inr (Or.inl hkj))))))); (exact Or.inr (Or.inr (Or.inr (Or.inr (Or.inr (Or.inr (Or.inr (Or.inl hkj)))))))); (exact Or.inr (Or.inr (Or.inr (Or.inr (Or.inr (Or.inr (Or.inr (Or.inr (Or.inl hkj))))))))); (exact Or.inr (Or.inr (Or.inr (Or.inr (Or.inr (Or.inr (Or.inr (Or.inr (Or.inr (Or.inl hkj)))))))))); (exact Or.inr (Or.inr (Or.inr (Or.inr (Or.inr (Or.inr (Or.inr (Or.inr (Or.inr (Or.inr (Or.inl hkj))))))))))); (exact Or.inr (Or.inr (Or.inr (Or.inr (Or.inr (Or.inr (Or.inr (Or.inr (Or.inr (Or.inr (Or.inr (Or.inl hkj)))))))))))); (exact Or.inr (Or.inr (Or.inr (Or.inr (Or.inr (Or.inr (Or.inr (Or.inr (Or.inr (Or.inr (Or.inr (Or.inr hkj))))))))))))) ?_ (fun _ _ => ?_)
    | with_reducible refine fr_bind (fr_X4_idle _) (fun k j hkj => by unfold w_X4_idle at hkj; exact hkj.elim) ?_ (fun _ _ => ?_)
    | with_reducible refine fr_bind (fr_X4_hasPiece _ _) (fun k j hkj => by unfold w_X4_hasPiece at hkj; exact hkj.elim) ?_ (fun _ _ => ?_))
def w_X9_tour (k j : Nat) : Prop := k = 100 ∨ k = 101 ∨ k = 102 ∨ k = 106 ∨ k = 107 ∨ (k = 87 ∧ j = 0) ∨ (k = 87 ∧ j = 23) ∨ (k = 87 ∧ j = 32) ∨ k = 99
set_option maxHeartbeats 4000000 in
theorem fr_X9_tour_49 : ∀ (n : Nat) (v1 : Int32) (v2 : Int32) (v3 : Int32) (S : zS), zFR w_X9_tour (f_X9_tour_49 n v1 v2 v3 S) S := by
  intro n
  induction n with
  | zero =>
    intro v1 v2 v3 S r hr
    cases (show (none : Option (Int32 × zS)) = some r from hr)
  | succ n ih =>
    intro v1 v2 v3 S
    rw [f_X9_tour_49]
    repeat' (first
    | with_reducible exact fr_none
    | with_reducible refine fr_if (fun _ => ?_) (fun _ => ?_)
    | with_reducible refine fr_some ?_
    | with_reducible refine z_fr_w ?_ (by unfold w_X9_tour; first | (exact Or.inr (Or.inr (Or.inr (Or.inr (Or.inr (Or.inl ⟨rfl, rfl⟩)))))))
    | with_reducible refine z_fr_u ?_ (by intro j9; unfold w_X9_tour; first | (exact Or.inr (Or.inr (Or.inr (Or.inr (Or.inr (Or.inl ⟨rfl, rfl⟩)))))))
    | with_reducible exact z_fr_rf
    | with_reducible assumption
    | with_reducible refine fr_bind (fr_X9_tours _) (fun k j hkj => by unfold w_X9_tours at hkj; unfold w_X9_tour; rcases hkj with hkj | hkj | hkj | hkj | hkj | hkj; (exact Or.inl hkj); (exact Or.inr (Or.inr (Or.inr (Or.inl hkj)))); (exact Or.inr (Or.inr (Or.inr (Or.inr (Or.inl hkj))))); (exact Or.inr (Or.inr (Or.inr (Or.inr (Or.inr (Or.inr (Or.inl hkj))))))); (exact Or.inr (Or.inr (Or.inr (Or.inr (Or.inr (Or.inr (Or.inr (Or.inl hkj)))))))); (exact Or.inr (Or.inr (Or.inr (Or.inr (Or.inr (Or.inr (Or.inr (Or.inr hkj))))))))) ?_ (fun _ _ => ?_)
    | with_reducible refine fr_bind (fr_X9_links _ _) (fun k j hkj => by unfold w_X9_links at hkj; unfold w_X9_tour; rcases hkj with hkj | hkj; (exact Or.inr (Or.inl hkj)); (exact Or.inr (Or.inr (Or.inl hkj)))) ?_ (fun _ _ => ?_)
    | with_reducible refine fr_go ?_ (ih _ _ _ _))
set_option maxHeartbeats 4000000 in
theorem fr_X9_tour : ∀ (a1 : Int32) (S : zS), zFR w_X9_tour (f_X9_tour a1 S) S := by
  intro a1 S
  unfold f_X9_tour
  repeat' (first
    | with_reducible exact fr_none
    | with_reducible refine fr_if (fun _ => ?_) (fun _ => ?_)
    | with_reducible refine fr_some ?_
    | with_reducible refine z_fr_w ?_ (by unfold w_X9_tour; first | (exact Or.inr (Or.inr (Or.inr (Or.inr (Or.inr (Or.inl ⟨rfl, rfl⟩)))))))
    | with_reducible refine z_fr_u ?_ (by intro j9; unfold w_X9_tour; first | (exact Or.inr (Or.inr (Or.inr (Or.inr (Or.inr (Or.inl ⟨rfl, rfl⟩)))))))
    | with_reducible exact z_fr_rf
    | with_reducible assumption
    | with_reducible refine fr_bind (fr_X9_tours _) (fun k j hkj => by unfold w_X9_tours at hkj; unfold w_X9_tour; rcases hkj with hkj | hkj | hkj | hkj | hkj | hkj; (exact Or.inl hkj); (exact Or.inr (Or.inr (Or.inr (Or.inl hkj)))); (exact Or.inr (Or.inr (Or.inr (Or.inr (Or.inl hkj))))); (exact Or.inr (Or.inr (Or.inr (Or.inr (Or.inr (Or.inr (Or.inl hkj))))))); (exact Or.inr (Or.inr (Or.inr (Or.inr (Or.inr (Or.inr (Or.inr (Or.inl hkj)))))))); (exact Or.inr (Or.inr (Or.inr (Or.inr (Or.inr (Or.inr (Or.inr (Or.inr hkj))))))))) ?_ (fun _ _ => ?_)
    | with_reducible refine fr_bind (fr_X9_links _ _) (fun k j hkj => by unfold w_X9_links at hkj; unfold w_X9_tour; rcases hkj with hkj | hkj; (exact Or.inr (Or.inl hkj)); (exact Or.inr (Or.inr (Or.inl hkj)))) ?_ (fun _ _ => ?_)
    | with_reducible refine fr_go ?_ (fr_X9_tour_49 1000 _ _ _ _))
def w_X7_add (k j : Nat) : Prop := (k = 75 ∧ j = 0) ∨ k = 76 ∨ k = 77 ∨ k = 78
set_option maxHeartbeats 4000000 in
theorem fr_X7_add : ∀ (a1 : Int32) (a2 : Int32) (a3 : Int32) (S : zS), zFR w_X7_add (f_X7_add a1 a2 a3 S) S := by
  intro a1 a2 a3 S
  unfold f_X7_add
  repeat' (first
    | with_reducible exact fr_none
    | with_reducible refine fr_if (fun _ => ?_) (fun _ => ?_)
    | with_reducible refine fr_some ?_
    | with_reducible refine z_fr_w ?_ (by unfold w_X7_add; first | (exact Or.inr (Or.inl rfl)) | (exact Or.inr (Or.inr (Or.inl rfl))) | (exact Or.inr (Or.inr (Or.inr rfl))) | (exact Or.inl ⟨rfl, rfl⟩))
    | with_reducible refine z_fr_u ?_ (by intro j9; unfold w_X7_add; first | (exact Or.inr (Or.inl rfl)) | (exact Or.inr (Or.inr (Or.inl rfl))) | (exact Or.inr (Or.inr (Or.inr rfl))) | (exact Or.inl ⟨rfl, rfl⟩))
    | with_reducible exact z_fr_rf
    | with_reducible assumption)
def w_X8_sees (k j : Nat) : Prop := (k = 75 ∧ j = 0) ∨ k = 76 ∨ k = 77 ∨ k = 78
set_option maxHeartbeats 4000000 in
theorem fr_X8_sees : ∀ (a1 : Int32) (a2 : Int32) (a3 : Int32) (S : zS), zFR w_X8_sees (f_X8_sees a1 a2 a3 S) S := by
  intro a1 a2 a3 S
  unfold f_X8_sees
  repeat' (first
    | with_reducible exact fr_none
    | with_reducible refine fr_if (fun _ => ?_) (fun _ => ?_)
    | with_reducible refine fr_some ?_
    | with_reducible exact z_fr_rf
    | with_reducible assumption
    | with_reducible refine fr_bind (fr_X1_hasCorner _ _ _) (fun k j hkj => by unfold w_X1_hasCorner at hkj; exact hkj.elim) ?_ (fun _ _ => ?_)
    | with_reducible refine fr_bind (fr_X7_add _ _ _ _) (fun k j hkj => by unfold w_X7_add at hkj; unfold w_X8_sees; rcases hkj with hkj | hkj | hkj | hkj; (exact Or.inl hkj); (exact Or.inr (Or.inl hkj)); (exact Or.inr (Or.inr (Or.inl hkj))); (exact Or.inr (Or.inr (Or.inr hkj)))) ?_ (fun _ _ => ?_))
def w_X9_sees (k j : Nat) : Prop := (k = 87 ∧ j = 0) ∨ (k = 87 ∧ j = 19) ∨ k = 95 ∨ k = 96 ∨ k = 97
set_option maxHeartbeats 4000000 in
theorem fr_X9_sees : ∀ (a1 : Int32) (a2 : Int32) (a3 : Int32) (S : zS), zFR w_X9_sees (f_X9_sees a1 a2 a3 S) S := by
  intro a1 a2 a3 S
  unfold f_X9_sees
  repeat' (first
    | with_reducible exact fr_none
    | with_reducible refine fr_if (fun _ => ?_) (fun _ => ?_)
    | with_reducible refine fr_some ?_
    | with_reducible refine z_fr_w ?_ (by unfold w_X9_sees; first | (exact Or.inl ⟨rfl, rfl⟩) | (exact Or.inr (Or.inr (Or.inl rfl))) | (exact Or.inr (Or.inr (Or.inr (Or.inl rfl)))) | (exact Or.inr (Or.inr (Or.inr (Or.inr rfl)))) | (exact Or.inr (Or.inl ⟨rfl, rfl⟩)))
    | with_reducible refine z_fr_u ?_ (by intro j9; unfold w_X9_sees; first | (exact Or.inl ⟨rfl, rfl⟩) | (exact Or.inr (Or.inr (Or.inl rfl))) | (exact Or.inr (Or.inr (Or.inr (Or.inl rfl)))) | (exact Or.inr (Or.inr (Or.inr (Or.inr rfl)))) | (exact Or.inr (Or.inl ⟨rfl, rfl⟩)))
    | with_reducible exact z_fr_rf
    | with_reducible assumption
    | with_reducible refine fr_bind (fr_X9_isCornerNow _ _) (fun k j hkj => by unfold w_X9_isCornerNow at hkj; exact hkj.elim) ?_ (fun _ _ => ?_)
    | with_reducible refine fr_bind (fr_X9_in _ _ _ _) (fun k j hkj => by unfold w_X9_in at hkj; exact hkj.elim) ?_ (fun _ _ => ?_))
def w_X8_forget (k j : Nat) : Prop := (k = 75 ∧ j = 0)
set_option maxHeartbeats 4000000 in
theorem fr_X8_forget : ∀ (S : zS), zFR w_X8_forget (f_X8_forget  S) S := by
  intro  S
  unfold f_X8_forget
  repeat' (first
    | with_reducible exact fr_none
    | with_reducible refine fr_if (fun _ => ?_) (fun _ => ?_)
    | with_reducible refine fr_some ?_
    | with_reducible exact z_fr_rf
    | with_reducible assumption
    | with_reducible refine fr_bind (fr_X7_lose _) (fun k j hkj => by unfold w_X7_lose at hkj; unfold w_X8_forget; exact hkj) ?_ (fun _ _ => ?_))
def w_X9_forget (k j : Nat) : Prop := (k = 87 ∧ j = 0) ∨ (k = 87 ∧ j = 19)
set_option maxHeartbeats 4000000 in
theorem fr_X9_forget : ∀ (S : zS), zFR w_X9_forget (f_X9_forget  S) S := by
  intro  S
  unfold f_X9_forget
  repeat' (first
    | with_reducible exact fr_none
    | with_reducible refine fr_if (fun _ => ?_) (fun _ => ?_)
    | with_reducible refine fr_some ?_
    | with_reducible refine z_fr_w ?_ (by unfold w_X9_forget; first | (exact Or.inl ⟨rfl, rfl⟩) | (exact Or.inr ⟨rfl, rfl⟩))
    | with_reducible refine z_fr_u ?_ (by intro j9; unfold w_X9_forget; first | (exact Or.inl ⟨rfl, rfl⟩) | (exact Or.inr ⟨rfl, rfl⟩))
    | with_reducible exact z_fr_rf
    | with_reducible assumption)
def w_X7_allIsAsSeen (k j : Nat) : Prop := False
set_option maxHeartbeats 4000000 in
theorem fr_X7_allIsAsSeen_40 {K2 : Int32 → zS → Option (Int32 × zS)} (hK2 : ∀ (v1 : Int32) (S : zS), zFR w_X7_allIsAsSeen (K2 v1 S) S) : ∀ (v1 : Int32) (t0 : Int32) (S : zS), zFR w_X7_allIsAsSeen (f_X7_allIsAsSeen_40 K2 v1 t0 S) S := by
  intro v1 t0 S
  unfold f_X7_allIsAsSeen_40
  repeat' (first
    | with_reducible exact fr_none
    | with_reducible refine fr_if (fun _ => ?_) (fun _ => ?_)
    | with_reducible refine fr_some ?_
    | with_reducible exact z_fr_rf
    | with_reducible assumption
    | with_reducible refine fr_bind (fr_X6_reach _ _ _) (fun k j hkj => by unfold w_X6_reach at hkj; exact hkj.elim) ?_ (fun _ _ => ?_)
    | with_reducible refine fr_bind (fr_X8_has _ _ _) (fun k j hkj => by unfold w_X8_has at hkj; exact hkj.elim) ?_ (fun _ _ => ?_)
    | with_reducible refine fr_go ?_ (hK2 _ _))
set_option maxHeartbeats 4000000 in
theorem fr_X7_allIsAsSeen_2 : ∀ (n : Nat) (v1 : Int32) (S : zS), zFR w_X7_allIsAsSeen (f_X7_allIsAsSeen_2 n v1 S) S := by
  intro n
  induction n with
  | zero =>
    intro v1 S r hr
    cases (show (none : Option (Int32 × zS)) = some r from hr)
  | succ n ih =>
    intro v1 S
    rw [f_X7_allIsAsSeen_2]
    repeat' (first
    | with_reducible exact fr_none
    | with_reducible refine fr_if (fun _ => ?_) (fun _ => ?_)
    | with_reducible refine fr_some ?_
    | with_reducible exact z_fr_rf
    | with_reducible assumption
    | with_reducible refine fr_bind (fr_X6_reach _ _ _) (fun k j hkj => by unfold w_X6_reach at hkj; exact hkj.elim) ?_ (fun _ _ => ?_)
    | with_reducible refine fr_bind (fr_X8_has _ _ _) (fun k j hkj => by unfold w_X8_has at hkj; exact hkj.elim) ?_ (fun _ _ => ?_)
    | with_reducible refine fr_go ?_ (fr_X7_allIsAsSeen_40 (by first | exact hK2 | exact ih) _ _ _)
    | with_reducible refine fr_go ?_ (hK2 _ _)
    | with_reducible refine fr_go ?_ (ih _ _))
set_option maxHeartbeats 4000000 in
theorem fr_X7_allIsAsSeen : ∀ (S : zS), zFR w_X7_allIsAsSeen (f_X7_allIsAsSeen  S) S := by
  intro  S
  unfold f_X7_allIsAsSeen
  repeat' (first
    | with_reducible exact fr_none
    | with_reducible refine fr_if (fun _ => ?_) (fun _ => ?_)
    | with_reducible refine fr_some ?_
    | with_reducible exact z_fr_rf
    | with_reducible assumption
    | with_reducible refine fr_bind (fr_X6_reach _ _ _) (fun k j hkj => by unfold w_X6_reach at hkj; exact hkj.elim) ?_ (fun _ _ => ?_)
    | with_reducible refine fr_bind (fr_X8_has _ _ _) (fun k j hkj => by unfold w_X8_has at hkj; exact hkj.elim) ?_ (fun _ _ => ?_)
    | with_reducible refine fr_go ?_ (fr_X7_allIsAsSeen_40 (by first | exact hK2 | exact ih) _ _ _)
    | with_reducible refine fr_go ?_ (fr_X7_allIsAsSeen_2 1000 _ _)
    | with_reducible refine fr_go ?_ (hK2 _ _))
def w_X7_suspects (p1 : Nat) (k j : Nat) : Prop := k = 81 ∨ k = 82
set_option maxHeartbeats 4000000 in
theorem fr_X7_suspects_5 {p1 : Nat} : ∀ (n : Nat) (v2 : Int32) (v3 : Int32) (v4 : Int32) (S : zS), zFR (w_X7_suspects p1) (f_X7_suspects_5 p1 n v2 v3 v4 S) S := by
  intro n
  induction n with
  | zero =>
    intro v2 v3 v4 S r hr
    cases (show (none : Option (Int32 × zS)) = some r from hr)
  | succ n ih =>
    intro v2 v3 v4 S
    rw [f_X7_suspects_5]
    repeat' (first
    | with_reducible exact fr_none
    | with_reducible refine fr_if (fun _ => ?_) (fun _ => ?_)
    | with_reducible refine fr_some ?_
    | with_reducible exact z_fr_rf
    | with_reducible assumption
    | with_reducible refine fr_bind (fr_X8_has _ _ _) (fun k j hkj => by unfold w_X8_has at hkj; exact hkj.elim) ?_ (fun _ _ => ?_)
    | with_reducible refine fr_bind (fr_X6_lay _ _ _ _) (fun k j hkj => by unfold w_X6_lay at hkj; unfold w_X7_suspects; rcases hkj with hkj | hkj; (exact Or.inl hkj); (exact Or.inr hkj)) ?_ (fun _ _ => ?_)
    | with_reducible refine fr_bind (fr_X7_allIsAsSeen _) (fun k j hkj => by unfold w_X7_allIsAsSeen at hkj; exact hkj.elim) ?_ (fun _ _ => ?_)
    | with_reducible refine fr_go ?_ (ih _ _ _ _))
set_option maxHeartbeats 4000000 in
theorem fr_X7_suspects : ∀ (p1 : Nat) (a2 : Int32) (S : zS), zFR (w_X7_suspects p1) (f_X7_suspects p1 a2 S) S := by
  intro p1 a2 S
  unfold f_X7_suspects
  repeat' (first
    | with_reducible exact fr_none
    | with_reducible refine fr_if (fun _ => ?_) (fun _ => ?_)
    | with_reducible refine fr_some ?_
    | with_reducible exact z_fr_rf
    | with_reducible assumption
    | with_reducible refine fr_bind (fr_X8_has _ _ _) (fun k j hkj => by unfold w_X8_has at hkj; exact hkj.elim) ?_ (fun _ _ => ?_)
    | with_reducible refine fr_bind (fr_X6_lay _ _ _ _) (fun k j hkj => by unfold w_X6_lay at hkj; unfold w_X7_suspects; rcases hkj with hkj | hkj; (exact Or.inl hkj); (exact Or.inr hkj)) ?_ (fun _ _ => ?_)
    | with_reducible refine fr_bind (fr_X7_allIsAsSeen _) (fun k j hkj => by unfold w_X7_allIsAsSeen at hkj; exact hkj.elim) ?_ (fun _ _ => ?_)
    | with_reducible refine fr_go ?_ (fr_X7_suspects_5 1000 _ _ _ _))
