def w_X9_readsSeam (k j : Nat) : Prop := (k = 87 ∧ j = 3) ∨ (k = 87 ∧ j = 4) ∨ (k = 87 ∧ j = 5) ∨ (k = 87 ∧ j = 6) ∨ (k = 87 ∧ j = 7) ∨ k = 90
set_option maxHeartbeats 4000000 in
theorem fr_X9_readsSeam_49 : ∀ (v1 : Int32) (t0 : Int32) (S : zS), zFR w_X9_readsSeam (f_X9_readsSeam_49 v1 t0 S) S := by
  intro v1 t0 S
  unfold f_X9_readsSeam_49
  repeat' (first
    | with_reducible exact fr_none
    | with_reducible refine fr_if (fun _ => ?_) (fun _ => ?_)
    | with_reducible refine fr_some ?_
    | with_reducible exact z_fr_rf
    | with_reducible assumption
    | with_reducible refine fr_bind (fr_X9_isCorner _) (fun k j hkj => by unfold w_X9_isCorner at hkj; exact hkj.elim) ?_ (fun _ _ => ?_)
    | with_reducible refine fr_bind (fr_X9_takes _ _) (fun k j hkj => by unfold w_X9_takes at hkj; unfold w_X9_readsSeam; rcases hkj with hkj | hkj | hkj | hkj | hkj; (exact Or.inl hkj); (exact Or.inr (Or.inl hkj)); (exact Or.inr (Or.inr (Or.inl hkj))); (exact Or.inr (Or.inr (Or.inr (Or.inl hkj)))); (exact Or.inr (Or.inr (Or.inr (Or.inr (Or.inl hkj)))))) ?_ (fun _ _ => ?_)
    | with_reducible refine fr_bind (fr_X9_isWell _) (fun k j hkj => by unfold w_X9_isWell at hkj; exact hkj.elim) ?_ (fun _ _ => ?_)
    | with_reducible refine fr_bind (fr_X9_cuts _ _ _) (fun k j hkj => by unfold w_X9_cuts at hkj; unfold w_X9_readsSeam; exact Or.inr (Or.inr (Or.inr (Or.inr (Or.inr hkj))))) ?_ (fun _ _ => ?_)
    | with_reducible refine fr_bind (fr_X9_hasRoom _ _ _) (fun k j hkj => by unfold w_X9_hasRoom at hkj; exact hkj.elim) ?_ (fun _ _ => ?_))
set_option maxHeartbeats 4000000 in
theorem fr_X9_readsSeam : ∀ (S : zS), zFR w_X9_readsSeam (f_X9_readsSeam  S) S := by
  intro  S
  unfold f_X9_readsSeam
  repeat' (first
    | with_reducible exact fr_none
    | with_reducible refine fr_if (fun _ => ?_) (fun _ => ?_)
    | with_reducible refine fr_some ?_
    | with_reducible exact z_fr_rf
    | with_reducible assumption
    | with_reducible refine fr_bind (fr_X9_isCorner _) (fun k j hkj => by unfold w_X9_isCorner at hkj; exact hkj.elim) ?_ (fun _ _ => ?_)
    | with_reducible refine fr_bind (fr_X9_takes _ _) (fun k j hkj => by unfold w_X9_takes at hkj; unfold w_X9_readsSeam; rcases hkj with hkj | hkj | hkj | hkj | hkj; (exact Or.inl hkj); (exact Or.inr (Or.inl hkj)); (exact Or.inr (Or.inr (Or.inl hkj))); (exact Or.inr (Or.inr (Or.inr (Or.inl hkj)))); (exact Or.inr (Or.inr (Or.inr (Or.inr (Or.inl hkj)))))) ?_ (fun _ _ => ?_)
    | with_reducible refine fr_bind (fr_X9_isWell _) (fun k j hkj => by unfold w_X9_isWell at hkj; exact hkj.elim) ?_ (fun _ _ => ?_)
    | with_reducible refine fr_bind (fr_X9_cuts _ _ _) (fun k j hkj => by unfold w_X9_cuts at hkj; unfold w_X9_readsSeam; exact Or.inr (Or.inr (Or.inr (Or.inr (Or.inr hkj))))) ?_ (fun _ _ => ?_)
    | with_reducible refine fr_bind (fr_X9_hasRoom _ _ _) (fun k j hkj => by unfold w_X9_hasRoom at hkj; exact hkj.elim) ?_ (fun _ _ => ?_)
    | with_reducible refine fr_go ?_ (fr_X9_readsSeam_49 _ _ _))
def w_X9_readsItem (k j : Nat) : Prop := (k = 87 ∧ j = 3) ∨ (k = 87 ∧ j = 4) ∨ (k = 87 ∧ j = 5) ∨ (k = 87 ∧ j = 6) ∨ (k = 87 ∧ j = 7) ∨ (k = 87 ∧ j = 8) ∨ k = 90
set_option maxHeartbeats 4000000 in
theorem fr_X9_readsItem : ∀ (a1 : Int32) (S : zS), zFR w_X9_readsItem (f_X9_readsItem a1 S) S := by
  intro a1 S
  unfold f_X9_readsItem
  repeat' (first
    | with_reducible exact fr_none
    | with_reducible refine fr_if (fun _ => ?_) (fun _ => ?_)
    | with_reducible refine fr_some ?_
    | with_reducible refine z_fr_w ?_ (by unfold w_X9_readsItem; first | (exact Or.inr (Or.inr (Or.inr (Or.inr (Or.inr (Or.inl ⟨rfl, rfl⟩)))))) | (exact Or.inr (Or.inr (Or.inr (Or.inr (Or.inr (Or.inr rfl)))))))
    | with_reducible refine z_fr_u ?_ (by intro j9; unfold w_X9_readsItem; first | (exact Or.inr (Or.inr (Or.inr (Or.inr (Or.inr (Or.inl ⟨rfl, rfl⟩)))))) | (exact Or.inr (Or.inr (Or.inr (Or.inr (Or.inr (Or.inr rfl)))))))
    | with_reducible exact z_fr_rf
    | with_reducible assumption
    | with_reducible refine fr_bind (fr_X9_isNumber _ _ _) (fun k j hkj => by unfold w_X9_isNumber at hkj; exact hkj.elim) ?_ (fun _ _ => ?_)
    | with_reducible refine fr_bind (fr_X9_takes _ _) (fun k j hkj => by unfold w_X9_takes at hkj; unfold w_X9_readsItem; rcases hkj with hkj | hkj | hkj | hkj | hkj; (exact Or.inl hkj); (exact Or.inr (Or.inl hkj)); (exact Or.inr (Or.inr (Or.inl hkj))); (exact Or.inr (Or.inr (Or.inr (Or.inl hkj)))); (exact Or.inr (Or.inr (Or.inr (Or.inr (Or.inl hkj)))))) ?_ (fun _ _ => ?_)
    | with_reducible refine fr_bind (fr_X9_readsCorner _) (fun k j hkj => by unfold w_X9_readsCorner at hkj; unfold w_X9_readsItem; rcases hkj with hkj | hkj | hkj | hkj | hkj | hkj; (exact Or.inl hkj); (exact Or.inr (Or.inl hkj)); (exact Or.inr (Or.inr (Or.inl hkj))); (exact Or.inr (Or.inr (Or.inr (Or.inl hkj)))); (exact Or.inr (Or.inr (Or.inr (Or.inr (Or.inl hkj))))); (exact Or.inr (Or.inr (Or.inr (Or.inr (Or.inr (Or.inr hkj))))))) ?_ (fun _ _ => ?_)
    | with_reducible refine fr_bind (fr_X9_readsPart _) (fun k j hkj => by unfold w_X9_readsPart at hkj; unfold w_X9_readsItem; rcases hkj with hkj | hkj | hkj | hkj | hkj | hkj; (exact Or.inl hkj); (exact Or.inr (Or.inl hkj)); (exact Or.inr (Or.inr (Or.inl hkj))); (exact Or.inr (Or.inr (Or.inr (Or.inl hkj)))); (exact Or.inr (Or.inr (Or.inr (Or.inr (Or.inl hkj))))); (exact Or.inr (Or.inr (Or.inr (Or.inr (Or.inr (Or.inr hkj))))))) ?_ (fun _ _ => ?_)
    | with_reducible refine fr_bind (fr_X9_readsSeam _) (fun k j hkj => by unfold w_X9_readsSeam at hkj; unfold w_X9_readsItem; rcases hkj with hkj | hkj | hkj | hkj | hkj | hkj; (exact Or.inl hkj); (exact Or.inr (Or.inl hkj)); (exact Or.inr (Or.inr (Or.inl hkj))); (exact Or.inr (Or.inr (Or.inr (Or.inl hkj)))); (exact Or.inr (Or.inr (Or.inr (Or.inr (Or.inl hkj))))); (exact Or.inr (Or.inr (Or.inr (Or.inr (Or.inr (Or.inr hkj))))))) ?_ (fun _ _ => ?_))
def w_X9_sorts (k j : Nat) : Prop := k = 90
set_option maxHeartbeats 4000000 in
theorem fr_X9_sorts_14 {K2 : Int32 → zS → Option (Unit × zS)} (hK2 : ∀ (v1 : Int32) (S : zS), zFR w_X9_sorts (K2 v1 S) S) : ∀ (n : Nat) (v1 : Int32) (v2 : Int32) (S : zS), zFR w_X9_sorts (f_X9_sorts_14 K2 n v1 v2 S) S := by
  intro n
  induction n with
  | zero =>
    intro v1 v2 S r hr
    cases (show (none : Option (Unit × zS)) = some r from hr)
  | succ n ih =>
    intro v1 v2 S
    rw [f_X9_sorts_14]
    repeat' (first
    | with_reducible exact fr_none
    | with_reducible refine fr_if (fun _ => ?_) (fun _ => ?_)
    | with_reducible refine fr_some ?_
    | with_reducible refine z_fr_w ?_ (by unfold w_X9_sorts; first | (exact rfl))
    | with_reducible refine z_fr_u ?_ (by intro j9; unfold w_X9_sorts; first | (exact rfl))
    | with_reducible exact z_fr_rf
    | with_reducible assumption
    | with_reducible refine fr_go ?_ (hK2 _ _)
    | with_reducible refine fr_go ?_ (ih _ _ _))
set_option maxHeartbeats 4000000 in
theorem fr_X9_sorts_2 : ∀ (n : Nat) (v1 : Int32) (S : zS), zFR w_X9_sorts (f_X9_sorts_2 n v1 S) S := by
  intro n
  induction n with
  | zero =>
    intro v1 S r hr
    cases (show (none : Option (Unit × zS)) = some r from hr)
  | succ n ih =>
    intro v1 S
    rw [f_X9_sorts_2]
    repeat' (first
    | with_reducible exact fr_none
    | with_reducible refine fr_if (fun _ => ?_) (fun _ => ?_)
    | with_reducible refine fr_some ?_
    | with_reducible refine z_fr_w ?_ (by unfold w_X9_sorts; first | (exact rfl))
    | with_reducible refine z_fr_u ?_ (by intro j9; unfold w_X9_sorts; first | (exact rfl))
    | with_reducible exact z_fr_rf
    | with_reducible assumption
    | with_reducible refine fr_go ?_ (fr_X9_sorts_14 (by first | exact hK2 | exact ih) 1000 _ _ _)
    | with_reducible refine fr_go ?_ (hK2 _ _)
    | with_reducible refine fr_go ?_ (ih _ _))
set_option maxHeartbeats 4000000 in
theorem fr_X9_sorts : ∀ (S : zS), zFR w_X9_sorts (f_X9_sorts  S) S := by
  intro  S
  unfold f_X9_sorts
  repeat' (first
    | with_reducible exact fr_none
    | with_reducible refine fr_if (fun _ => ?_) (fun _ => ?_)
    | with_reducible refine fr_some ?_
    | with_reducible refine z_fr_w ?_ (by unfold w_X9_sorts; first | (exact rfl))
    | with_reducible refine z_fr_u ?_ (by intro j9; unfold w_X9_sorts; first | (exact rfl))
    | with_reducible exact z_fr_rf
    | with_reducible assumption
    | with_reducible refine fr_go ?_ (fr_X9_sorts_14 (by first | exact hK2 | exact ih) 1000 _ _ _)
    | with_reducible refine fr_go ?_ (fr_X9_sorts_2 1000 _ _)
    | with_reducible refine fr_go ?_ (hK2 _ _))
def w_X9_ringAt (k j : Nat) : Prop := False
set_option maxHeartbeats 4000000 in
theorem fr_X9_ringAt : ∀ (a1 : Int32) (a2 : Int32) (S : zS), zFR w_X9_ringAt (f_X9_ringAt a1 a2 S) S := by
  intro a1 a2 S
  unfold f_X9_ringAt
  repeat' (first
    | with_reducible exact fr_none
    | with_reducible refine fr_if (fun _ => ?_) (fun _ => ?_)
    | with_reducible refine fr_some ?_
    | with_reducible exact z_fr_rf
    | with_reducible assumption)
def w_X9_side (k j : Nat) : Prop := False
set_option maxHeartbeats 4000000 in
theorem fr_X9_side : ∀ (a1 : Int32) (a2 : Int32) (a3 : Int32) (S : zS), zFR w_X9_side (f_X9_side a1 a2 a3 S) S := by
  intro a1 a2 a3 S
  unfold f_X9_side
  repeat' (first
    | with_reducible exact fr_none
    | with_reducible refine fr_if (fun _ => ?_) (fun _ => ?_)
    | with_reducible refine fr_some ?_
    | with_reducible exact z_fr_rf
    | with_reducible assumption)
def w_X9_isOn (k j : Nat) : Prop := False
set_option maxHeartbeats 4000000 in
theorem fr_X9_isOn_138 : ∀ (v1 : Int32) (v2 : Int32) (v3 : Int32) (v4 : Int32) (t0 : Int32) (S : zS), zFR w_X9_isOn (f_X9_isOn_138 v1 v2 v3 v4 t0 S) S := by
  intro v1 v2 v3 v4 t0 S
  unfold f_X9_isOn_138
  repeat' (first
    | with_reducible exact fr_none
    | with_reducible refine fr_if (fun _ => ?_) (fun _ => ?_)
    | with_reducible refine fr_some ?_
    | with_reducible exact z_fr_rf
    | with_reducible assumption
    | with_reducible refine fr_bind (fr_X9_in _ _ _ _) (fun k j hkj => by unfold w_X9_in at hkj; exact hkj.elim) ?_ (fun _ _ => ?_)
    | with_reducible refine fr_bind (fr_X9_side _ _ _ _) (fun k j hkj => by unfold w_X9_side at hkj; exact hkj.elim) ?_ (fun _ _ => ?_))
set_option maxHeartbeats 4000000 in
theorem fr_X9_isOn_65 : ∀ (v1 : Int32) (v2 : Int32) (v3 : Int32) (t0 : Int32) (S : zS), zFR w_X9_isOn (f_X9_isOn_65 v1 v2 v3 t0 S) S := by
  intro v1 v2 v3 t0 S
  unfold f_X9_isOn_65
  repeat' (first
    | with_reducible exact fr_none
    | with_reducible refine fr_if (fun _ => ?_) (fun _ => ?_)
    | with_reducible refine fr_some ?_
    | with_reducible exact z_fr_rf
    | with_reducible assumption
    | with_reducible refine fr_bind (fr_X9_in _ _ _ _) (fun k j hkj => by unfold w_X9_in at hkj; exact hkj.elim) ?_ (fun _ _ => ?_)
    | with_reducible refine fr_bind (fr_X9_side _ _ _ _) (fun k j hkj => by unfold w_X9_side at hkj; exact hkj.elim) ?_ (fun _ _ => ?_)
    | with_reducible refine fr_go ?_ (fr_X9_isOn_138 _ _ _ _ _ _))
set_option maxHeartbeats 4000000 in
theorem fr_X9_isOn : ∀ (a1 : Int32) (a2 : Int32) (a3 : Int32) (S : zS), zFR w_X9_isOn (f_X9_isOn a1 a2 a3 S) S := by
  intro a1 a2 a3 S
  unfold f_X9_isOn
  repeat' (first
    | with_reducible exact fr_none
    | with_reducible refine fr_if (fun _ => ?_) (fun _ => ?_)
    | with_reducible refine fr_some ?_
    | with_reducible exact z_fr_rf
    | with_reducible assumption
    | with_reducible refine fr_bind (fr_X9_in _ _ _ _) (fun k j hkj => by unfold w_X9_in at hkj; exact hkj.elim) ?_ (fun _ _ => ?_)
    | with_reducible refine fr_bind (fr_X9_side _ _ _ _) (fun k j hkj => by unfold w_X9_side at hkj; exact hkj.elim) ?_ (fun _ _ => ?_)
    | with_reducible refine fr_go ?_ (fr_X9_isOn_138 _ _ _ _ _ _)
    | with_reducible refine fr_go ?_ (fr_X9_isOn_65 _ _ _ _ _))
def w_X9_isWithin (k j : Nat) : Prop := False
set_option maxHeartbeats 4000000 in
theorem fr_X9_isWithin_153 {K13 : Int32 → Int32 → Int32 → Int32 → zS → Option (Int32 × zS)} (hK13 : ∀ (v2 : Int32) (v3 : Int32) (v4 : Int32) (v5 : Int32) (S : zS), zFR w_X9_isWithin (K13 v2 v3 v4 v5 S) S) : ∀ (v2 : Int32) (v3 : Int32) (v5 : Int32) (v6 : Int32) (v7 : Int32) (v8 : Int32) (v9 : Int32) (t0 : Int32) (S : zS), zFR w_X9_isWithin (f_X9_isWithin_153 K13 v2 v3 v5 v6 v7 v8 v9 t0 S) S := by
  intro v2 v3 v5 v6 v7 v8 v9 t0 S
  unfold f_X9_isWithin_153
  repeat' (first
    | with_reducible exact fr_none
    | with_reducible refine fr_if (fun _ => ?_) (fun _ => ?_)
    | with_reducible refine fr_some ?_
    | with_reducible exact z_fr_rf
    | with_reducible assumption
    | with_reducible refine fr_bind (fr_X9_ringAt _ _ _) (fun k j hkj => by unfold w_X9_ringAt at hkj; exact hkj.elim) ?_ (fun _ _ => ?_)
    | with_reducible refine fr_bind (fr_X9_isOn _ _ _ _) (fun k j hkj => by unfold w_X9_isOn at hkj; exact hkj.elim) ?_ (fun _ _ => ?_)
    | with_reducible refine fr_bind (fr_X9_side _ _ _ _) (fun k j hkj => by unfold w_X9_side at hkj; exact hkj.elim) ?_ (fun _ _ => ?_)
    | with_reducible refine fr_go ?_ (hK13 _ _ _ _ _))
set_option maxHeartbeats 4000000 in
theorem fr_X9_isWithin_123 {K13 : Int32 → Int32 → Int32 → Int32 → zS → Option (Int32 × zS)} (hK13 : ∀ (v2 : Int32) (v3 : Int32) (v4 : Int32) (v5 : Int32) (S : zS), zFR w_X9_isWithin (K13 v2 v3 v4 v5 S) S) : ∀ (v2 : Int32) (v3 : Int32) (v4 : Int32) (v5 : Int32) (v6 : Int32) (v7 : Int32) (v8 : Int32) (t0 : Int32) (S : zS), zFR w_X9_isWithin (f_X9_isWithin_123 K13 v2 v3 v4 v5 v6 v7 v8 t0 S) S := by
  intro v2 v3 v4 v5 v6 v7 v8 t0 S
  unfold f_X9_isWithin_123
  repeat' (first
    | with_reducible exact fr_none
    | with_reducible refine fr_if (fun _ => ?_) (fun _ => ?_)
    | with_reducible refine fr_some ?_
    | with_reducible exact z_fr_rf
    | with_reducible assumption
    | with_reducible refine fr_bind (fr_X9_ringAt _ _ _) (fun k j hkj => by unfold w_X9_ringAt at hkj; exact hkj.elim) ?_ (fun _ _ => ?_)
    | with_reducible refine fr_bind (fr_X9_isOn _ _ _ _) (fun k j hkj => by unfold w_X9_isOn at hkj; exact hkj.elim) ?_ (fun _ _ => ?_)
    | with_reducible refine fr_bind (fr_X9_side _ _ _ _) (fun k j hkj => by unfold w_X9_side at hkj; exact hkj.elim) ?_ (fun _ _ => ?_)
    | with_reducible refine fr_go ?_ (fr_X9_isWithin_153 (by first | exact hK13 | exact ih) _ _ _ _ _ _ _ _ _)
    | with_reducible refine fr_go ?_ (hK13 _ _ _ _ _))
set_option maxHeartbeats 4000000 in
theorem fr_X9_isWithin_94 {K13 : Int32 → Int32 → Int32 → Int32 → zS → Option (Int32 × zS)} (hK13 : ∀ (v2 : Int32) (v3 : Int32) (v4 : Int32) (v5 : Int32) (S : zS), zFR w_X9_isWithin (K13 v2 v3 v4 v5 S) S) : ∀ (v2 : Int32) (v3 : Int32) (v4 : Int32) (v5 : Int32) (v6 : Int32) (v7 : Int32) (t0 : Int32) (S : zS), zFR w_X9_isWithin (f_X9_isWithin_94 K13 v2 v3 v4 v5 v6 v7 t0 S) S := by
  intro v2 v3 v4 v5 v6 v7 t0 S
  unfold f_X9_isWithin_94
  repeat' (first
    | with_reducible exact fr_none
    | with_reducible refine fr_if (fun _ => ?_) (fun _ => ?_)
    | with_reducible refine fr_some ?_
    | with_reducible exact z_fr_rf
    | with_reducible assumption
    | with_reducible refine fr_bind (fr_X9_ringAt _ _ _) (fun k j hkj => by unfold w_X9_ringAt at hkj; exact hkj.elim) ?_ (fun _ _ => ?_)
    | with_reducible refine fr_bind (fr_X9_isOn _ _ _ _) (fun k j hkj => by unfold w_X9_isOn at hkj; exact hkj.elim) ?_ (fun _ _ => ?_)
    | with_reducible refine fr_bind (fr_X9_side _ _ _ _) (fun k j hkj => by unfold w_X9_side at hkj; exact hkj.elim) ?_ (fun _ _ => ?_)
    | with_reducible refine fr_go ?_ (fr_X9_isWithin_153 (by first | exact hK13 | exact ih) _ _ _ _ _ _ _ _ _)
    | with_reducible refine fr_go ?_ (fr_X9_isWithin_123 (by first | exact hK13 | exact ih) _ _ _ _ _ _ _ _ _)
    | with_reducible refine fr_go ?_ (hK13 _ _ _ _ _))
set_option maxHeartbeats 4000000 in
theorem fr_X9_isWithin_13 : ∀ (n : Nat) (v2 : Int32) (v3 : Int32) (v4 : Int32) (v5 : Int32) (S : zS), zFR w_X9_isWithin (f_X9_isWithin_13 n v2 v3 v4 v5 S) S := by
  intro n
  induction n with
  | zero =>
    intro v2 v3 v4 v5 S r hr
    cases (show (none : Option (Int32 × zS)) = some r from hr)
  | succ n ih =>
    intro v2 v3 v4 v5 S
    rw [f_X9_isWithin_13]
    repeat' (first
    | with_reducible exact fr_none
    | with_reducible refine fr_if (fun _ => ?_) (fun _ => ?_)
    | with_reducible refine fr_some ?_
    | with_reducible exact z_fr_rf
    | with_reducible assumption
    | with_reducible refine fr_bind (fr_X9_ringAt _ _ _) (fun k j hkj => by unfold w_X9_ringAt at hkj; exact hkj.elim) ?_ (fun _ _ => ?_)
    | with_reducible refine fr_bind (fr_X9_isOn _ _ _ _) (fun k j hkj => by unfold w_X9_isOn at hkj; exact hkj.elim) ?_ (fun _ _ => ?_)
    | with_reducible refine fr_bind (fr_X9_side _ _ _ _) (fun k j hkj => by unfold w_X9_side at hkj; exact hkj.elim) ?_ (fun _ _ => ?_)
    | with_reducible refine fr_go ?_ (fr_X9_isWithin_153 (by first | exact hK13 | exact ih) _ _ _ _ _ _ _ _ _)
    | with_reducible refine fr_go ?_ (fr_X9_isWithin_123 (by first | exact hK13 | exact ih) _ _ _ _ _ _ _ _ _)
    | with_reducible refine fr_go ?_ (fr_X9_isWithin_94 (by first | exact hK13 | exact ih) _ _ _ _ _ _ _ _)
    | with_reducible refine fr_go ?_ (hK13 _ _ _ _ _)
    | with_reducible refine fr_go ?_ (ih _ _ _ _ _))
set_option maxHeartbeats 4000000 in
theorem fr_X9_isWithin : ∀ (a1 : Int32) (a2 : Int32) (S : zS), zFR w_X9_isWithin (f_X9_isWithin a1 a2 S) S := by
  intro a1 a2 S
  unfold f_X9_isWithin
  repeat' (first
    | with_reducible exact fr_none
    | with_reducible refine fr_if (fun _ => ?_) (fun _ => ?_)
    | with_reducible refine fr_some ?_
    | with_reducible exact z_fr_rf
    | with_reducible assumption
    | with_reducible refine fr_bind (fr_X9_ringAt _ _ _) (fun k j hkj => by unfold w_X9_ringAt at hkj; exact hkj.elim) ?_ (fun _ _ => ?_)
    | with_reducible refine fr_bind (fr_X9_isOn _ _ _ _) (fun k j hkj => by unfold w_X9_isOn at hkj; exact hkj.elim) ?_ (fun _ _ => ?_)
    | with_reducible refine fr_bind (fr_X9_side _ _ _ _) (fun k j hkj => by unfold w_X9_side at hkj; exact hkj.elim) ?_ (fun _ _ => ?_)
    | with_reducible refine fr_go ?_ (fr_X9_isWithin_153 (by first | exact hK13 | exact ih) _ _ _ _ _ _ _ _ _)
    | with_reducible refine fr_go ?_ (fr_X9_isWithin_123 (by first | exact hK13 | exact ih) _ _ _ _ _ _ _ _ _)
    | with_reducible refine fr_go ?_ (fr_X9_isWithin_94 (by first | exact hK13 | exact ih) _ _ _ _ _ _ _ _)
    | with_reducible refine fr_go ?_ (fr_X9_isWithin_13 1000 _ _ _ _ _)
    | with_reducible refine fr_go ?_ (hK13 _ _ _ _ _))
def w_X9_settles (k j : Nat) : Prop := (k = 87 ∧ j = 13) ∨ (k = 87 ∧ j = 19) ∨ (k = 87 ∧ j = 2) ∨ k = 89 ∨ k = 91 ∨ k = 94 ∨ k = 98
set_option maxHeartbeats 4000000 in
theorem fr_X9_settles_160 {K103 : Int32 → zS → Option (Unit × zS)} (hK103 : ∀ (v1 : Int32) (S : zS), zFR w_X9_settles (K103 v1 S) S) {K122 : Int32 → Int32 → zS → Option (Unit × zS)} (hK122 : ∀ (v1 : Int32) (v2 : Int32) (S : zS), zFR w_X9_settles (K122 v1 v2 S) S) : ∀ (v1 : Int32) (v2 : Int32) (t0 : Int32) (t1 : Int32) (t2 : Int32) (S : zS), zFR w_X9_settles (f_X9_settles_160 K103 K122 v1 v2 t0 t1 t2 S) S := by
  intro v1 v2 t0 t1 t2 S
  unfold f_X9_settles_160
  repeat' (first
    | with_reducible exact fr_none
    | with_reducible refine fr_if (fun _ => ?_) (fun _ => ?_)
    | with_reducible refine fr_some ?_
    | with_reducible refine z_fr_w ?_ (by unfold w_X9_settles; first | (exact Or.inr (Or.inr (Or.inr (Or.inr (Or.inl rfl))))) | (exact Or.inr (Or.inr (Or.inl ⟨rfl, rfl⟩))) | (exact Or.inr (Or.inl ⟨rfl, rfl⟩)) | (exact Or.inl ⟨rfl, rfl⟩) | (exact Or.inr (Or.inr (Or.inr (Or.inr (Or.inr (Or.inl rfl)))))) | (exact Or.inr (Or.inr (Or.inr (Or.inr (Or.inr (Or.inr rfl)))))) | (exact Or.inr (Or.inr (Or.inr (Or.inl rfl)))))
    | with_reducible refine z_fr_u ?_ (by intro j9; unfold w_X9_settles; first | (exact Or.inr (Or.inr (Or.inr (Or.inr (Or.inl rfl))))) | (exact Or.inr (Or.inr (Or.inl ⟨rfl, rfl⟩))) | (exact Or.inr (Or.inl ⟨rfl, rfl⟩)) | (exact Or.inl ⟨rfl, rfl⟩) | (exact Or.inr (Or.inr (Or.inr (Or.inr (Or.inr (Or.inl rfl)))))) | (exact Or.inr (Or.inr (Or.inr (Or.inr (Or.inr (Or.inr rfl)))))) | (exact Or.inr (Or.inr (Or.inr (Or.inl rfl)))))
    | with_reducible exact z_fr_rf
    | with_reducible assumption
    | with_reducible refine fr_bind (fr_X9_isWithin _ _ _) (fun k j hkj => by unfold w_X9_isWithin at hkj; exact hkj.elim) ?_ (fun _ _ => ?_)
    | with_reducible refine fr_go ?_ (hK122 _ _ _)
    | with_reducible refine fr_go ?_ (hK103 _ _))
set_option maxHeartbeats 4000000 in
theorem fr_X9_settles_122 {K103 : Int32 → zS → Option (Unit × zS)} (hK103 : ∀ (v1 : Int32) (S : zS), zFR w_X9_settles (K103 v1 S) S) : ∀ (n : Nat) (v1 : Int32) (v2 : Int32) (S : zS), zFR w_X9_settles (f_X9_settles_122 K103 n v1 v2 S) S := by
  intro n
  induction n with
  | zero =>
    intro v1 v2 S r hr
    cases (show (none : Option (Unit × zS)) = some r from hr)
  | succ n ih =>
    intro v1 v2 S
    rw [f_X9_settles_122]
    repeat' (first
    | with_reducible exact fr_none
    | with_reducible refine fr_if (fun _ => ?_) (fun _ => ?_)
    | with_reducible refine fr_some ?_
    | with_reducible refine z_fr_w ?_ (by unfold w_X9_settles; first | (exact Or.inr (Or.inr (Or.inr (Or.inr (Or.inl rfl))))) | (exact Or.inr (Or.inr (Or.inl ⟨rfl, rfl⟩))) | (exact Or.inr (Or.inl ⟨rfl, rfl⟩)) | (exact Or.inl ⟨rfl, rfl⟩) | (exact Or.inr (Or.inr (Or.inr (Or.inr (Or.inr (Or.inl rfl)))))) | (exact Or.inr (Or.inr (Or.inr (Or.inr (Or.inr (Or.inr rfl)))))) | (exact Or.inr (Or.inr (Or.inr (Or.inl rfl)))))
    | with_reducible refine z_fr_u ?_ (by intro j9; unfold w_X9_settles; first | (exact Or.inr (Or.inr (Or.inr (Or.inr (Or.inl rfl))))) | (exact Or.inr (Or.inr (Or.inl ⟨rfl, rfl⟩))) | (exact Or.inr (Or.inl ⟨rfl, rfl⟩)) | (exact Or.inl ⟨rfl, rfl⟩) | (exact Or.inr (Or.inr (Or.inr (Or.inr (Or.inr (Or.inl rfl)))))) | (exact Or.inr (Or.inr (Or.inr (Or.inr (Or.inr (Or.inr rfl)))))) | (exact Or.inr (Or.inr (Or.inr (Or.inl rfl)))))
    | with_reducible exact z_fr_rf
    | with_reducible assumption
    | with_reducible refine fr_bind (fr_X9_isWithin _ _ _) (fun k j hkj => by unfold w_X9_isWithin at hkj; exact hkj.elim) ?_ (fun _ _ => ?_)
    | with_reducible refine fr_go ?_ (fr_X9_settles_160 (by first | exact hK103 | exact ih) (by first | exact hK122 | exact ih) _ _ _ _ _ _)
    | with_reducible refine fr_go ?_ (hK122 _ _ _)
    | with_reducible refine fr_go ?_ (hK103 _ _)
    | with_reducible refine fr_go ?_ (ih _ _ _))
set_option maxHeartbeats 4000000 in
theorem fr_X9_settles_103 : ∀ (n : Nat) (v1 : Int32) (S : zS), zFR w_X9_settles (f_X9_settles_103 n v1 S) S := by
  intro n
  induction n with
  | zero =>
    intro v1 S r hr
    cases (show (none : Option (Unit × zS)) = some r from hr)
  | succ n ih =>
    intro v1 S
    rw [f_X9_settles_103]
    repeat' (first
    | with_reducible exact fr_none
    | with_reducible refine fr_if (fun _ => ?_) (fun _ => ?_)
    | with_reducible refine fr_some ?_
    | with_reducible refine z_fr_w ?_ (by unfold w_X9_settles; first | (exact Or.inr (Or.inr (Or.inr (Or.inr (Or.inl rfl))))) | (exact Or.inr (Or.inr (Or.inl ⟨rfl, rfl⟩))) | (exact Or.inr (Or.inl ⟨rfl, rfl⟩)) | (exact Or.inl ⟨rfl, rfl⟩) | (exact Or.inr (Or.inr (Or.inr (Or.inr (Or.inr (Or.inl rfl)))))) | (exact Or.inr (Or.inr (Or.inr (Or.inr (Or.inr (Or.inr rfl)))))) | (exact Or.inr (Or.inr (Or.inr (Or.inl rfl)))))
    | with_reducible refine z_fr_u ?_ (by intro j9; unfold w_X9_settles; first | (exact Or.inr (Or.inr (Or.inr (Or.inr (Or.inl rfl))))) | (exact Or.inr (Or.inr (Or.inl ⟨rfl, rfl⟩))) | (exact Or.inr (Or.inl ⟨rfl, rfl⟩)) | (exact Or.inl ⟨rfl, rfl⟩) | (exact Or.inr (Or.inr (Or.inr (Or.inr (Or.inr (Or.inl rfl)))))) | (exact Or.inr (Or.inr (Or.inr (Or.inr (Or.inr (Or.inr rfl)))))) | (exact Or.inr (Or.inr (Or.inr (Or.inl rfl)))))
    | with_reducible exact z_fr_rf
    | with_reducible assumption
    | with_reducible refine fr_bind (fr_X9_isWithin _ _ _) (fun k j hkj => by unfold w_X9_isWithin at hkj; exact hkj.elim) ?_ (fun _ _ => ?_)
    | with_reducible refine fr_go ?_ (fr_X9_settles_160 (by first | exact hK103 | exact ih) (by first | exact hK122 | exact ih) _ _ _ _ _ _)
    | with_reducible refine fr_go ?_ (fr_X9_settles_122 (by first | exact hK103 | exact ih) 1000 _ _ _)
    | with_reducible refine fr_go ?_ (hK122 _ _ _)
    | with_reducible refine fr_go ?_ (hK103 _ _)
    | with_reducible refine fr_go ?_ (ih _ _))
set_option maxHeartbeats 4000000 in
theorem fr_X9_settles_79 : ∀ (n : Nat) (v1 : Int32) (S : zS), zFR w_X9_settles (f_X9_settles_79 n v1 S) S := by
  intro n
  induction n with
  | zero =>
    intro v1 S r hr
    cases (show (none : Option (Unit × zS)) = some r from hr)
  | succ n ih =>
    intro v1 S
    rw [f_X9_settles_79]
    repeat' (first
    | with_reducible exact fr_none
    | with_reducible refine fr_if (fun _ => ?_) (fun _ => ?_)
    | with_reducible refine fr_some ?_
    | with_reducible refine z_fr_w ?_ (by unfold w_X9_settles; first | (exact Or.inr (Or.inr (Or.inr (Or.inr (Or.inl rfl))))) | (exact Or.inr (Or.inr (Or.inl ⟨rfl, rfl⟩))) | (exact Or.inr (Or.inl ⟨rfl, rfl⟩)) | (exact Or.inl ⟨rfl, rfl⟩) | (exact Or.inr (Or.inr (Or.inr (Or.inr (Or.inr (Or.inl rfl)))))) | (exact Or.inr (Or.inr (Or.inr (Or.inr (Or.inr (Or.inr rfl)))))) | (exact Or.inr (Or.inr (Or.inr (Or.inl rfl)))))
    | with_reducible refine z_fr_u ?_ (by intro j9; unfold w_X9_settles; first | (exact Or.inr (Or.inr (Or.inr (Or.inr (Or.inl rfl))))) | (exact Or.inr (Or.inr (Or.inl ⟨rfl, rfl⟩))) | (exact Or.inr (Or.inl ⟨rfl, rfl⟩)) | (exact Or.inl ⟨rfl, rfl⟩) | (exact Or.inr (Or.inr (Or.inr (Or.inr (Or.inr (Or.inl rfl)))))) | (exact Or.inr (Or.inr (Or.inr (Or.inr (Or.inr (Or.inr rfl)))))) | (exact Or.inr (Or.inr (Or.inr (Or.inl rfl)))))
    | with_reducible exact z_fr_rf
    | with_reducible assumption
    | with_reducible refine fr_bind (fr_X9_isWithin _ _ _) (fun k j hkj => by unfold w_X9_isWithin at hkj; exact hkj.elim) ?_ (fun _ _ => ?_)
    | with_reducible refine fr_go ?_ (fr_X9_settles_160 (by first | exact hK103 | exact ih) (by first | exact hK122 | exact ih) _ _ _ _ _ _)
    | with_reducible refine fr_go ?_ (fr_X9_settles_122 (by first | exact hK103 | exact ih) 1000 _ _ _)
    | with_reducible refine fr_go ?_ (fr_X9_settles_103 1000 _ _)
    | with_reducible refine fr_go ?_ (hK122 _ _ _)
    | with_reducible refine fr_go ?_ (hK103 _ _)
    | with_reducible refine fr_go ?_ (ih _ _))
set_option maxHeartbeats 4000000 in
theorem fr_X9_settles_62 : ∀ (t0 : Int32) (t1 : Int32) (S : zS), zFR w_X9_settles (f_X9_settles_62 t0 t1 S) S := by
  intro t0 t1 S
  unfold f_X9_settles_62
  repeat' (first
    | with_reducible exact fr_none
    | with_reducible refine fr_if (fun _ => ?_) (fun _ => ?_)
    | with_reducible refine fr_some ?_
    | with_reducible refine z_fr_w ?_ (by unfold w_X9_settles; first | (exact Or.inr (Or.inr (Or.inr (Or.inr (Or.inl rfl))))) | (exact Or.inr (Or.inr (Or.inl ⟨rfl, rfl⟩))) | (exact Or.inr (Or.inl ⟨rfl, rfl⟩)) | (exact Or.inl ⟨rfl, rfl⟩) | (exact Or.inr (Or.inr (Or.inr (Or.inr (Or.inr (Or.inl rfl)))))) | (exact Or.inr (Or.inr (Or.inr (Or.inr (Or.inr (Or.inr rfl)))))) | (exact Or.inr (Or.inr (Or.inr (Or.inl rfl)))))
    | with_reducible refine z_fr_u ?_ (by intro j9; unfold w_X9_settles; first | (exact Or.inr (Or.inr (Or.inr (Or.inr (Or.inl rfl))))) | (exact Or.inr (Or.inr (Or.inl ⟨rfl, rfl⟩))) | (exact Or.inr (Or.inl ⟨rfl, rfl⟩)) | (exact Or.inl ⟨rfl, rfl⟩) | (exact Or.inr (Or.inr (Or.inr (Or.inr (Or.inr (Or.inl rfl)))))) | (exact Or.inr (Or.inr (Or.inr (Or.inr (Or.inr (Or.inr rfl)))))) | (exact Or.inr (Or.inr (Or.inr (Or.inl rfl)))))
    | with_reducible exact z_fr_rf
    | with_reducible assumption
    | with_reducible refine fr_bind (fr_X9_isWithin _ _ _) (fun k j hkj => by unfold w_X9_isWithin at hkj; exact hkj.elim) ?_ (fun _ _ => ?_)
    | with_reducible refine fr_go ?_ (fr_X9_settles_160 (by first | exact hK103 | exact ih) (by first | exact hK122 | exact ih) _ _ _ _ _ _)
    | with_reducible refine fr_go ?_ (fr_X9_settles_122 (by first | exact hK103 | exact ih) 1000 _ _ _)
    | with_reducible refine fr_go ?_ (fr_X9_settles_103 1000 _ _)
    | with_reducible refine fr_go ?_ (fr_X9_settles_79 1000 _ _)
    | with_reducible refine fr_go ?_ (hK122 _ _ _)
    | with_reducible refine fr_go ?_ (hK103 _ _))
set_option maxHeartbeats 4000000 in
theorem fr_X9_settles_2 : ∀ (n : Nat) (v1 : Int32) (S : zS), zFR w_X9_settles (f_X9_settles_2 n v1 S) S := by
  intro n
  induction n with
  | zero =>
    intro v1 S r hr
    cases (show (none : Option (Unit × zS)) = some r from hr)
  | succ n ih =>
    intro v1 S
    rw [f_X9_settles_2]
    repeat' (first
    | with_reducible exact fr_none
    | with_reducible refine fr_if (fun _ => ?_) (fun _ => ?_)
    | with_reducible refine fr_some ?_
    | with_reducible refine z_fr_w ?_ (by unfold w_X9_settles; first | (exact Or.inr (Or.inr (Or.inr (Or.inr (Or.inl rfl))))) | (exact Or.inr (Or.inr (Or.inl ⟨rfl, rfl⟩))) | (exact Or.inr (Or.inl ⟨rfl, rfl⟩)) | (exact Or.inl ⟨rfl, rfl⟩) | (exact Or.inr (Or.inr (Or.inr (Or.inr (Or.inr (Or.inl rfl)))))) | (exact Or.inr (Or.inr (Or.inr (Or.inr (Or.inr (Or.inr rfl)))))) | (exact Or.inr (Or.inr (Or.inr (Or.inl rfl)))))
    | with_reducible refine z_fr_u ?_ (by intro j9; unfold w_X9_settles; first | (exact Or.inr (Or.inr (Or.inr (Or.inr (Or.inl rfl))))) | (exact Or.inr (Or.inr (Or.inl ⟨rfl, rfl⟩))) | (exact Or.inr (Or.inl ⟨rfl, rfl⟩)) | (exact Or.inl ⟨rfl, rfl⟩) | (exact Or.inr (Or.inr (Or.inr (Or.inr (Or.inr (Or.inl rfl)))))) | (exact Or.inr (Or.inr (Or.inr (Or.inr (Or.inr (Or.inr rfl)))))) | (exact Or.inr (Or.inr (Or.inr (Or.inl rfl)))))
    | with_reducible exact z_fr_rf
    | with_reducible assumption
    | with_reducible refine fr_bind (fr_X9_isWithin _ _ _) (fun k j hkj => by unfold w_X9_isWithin at hkj; exact hkj.elim) ?_ (fun _ _ => ?_)
    | with_reducible refine fr_go ?_ (fr_X9_settles_160 (by first | exact hK103 | exact ih) (by first | exact hK122 | exact ih) _ _ _ _ _ _)
    | with_reducible refine fr_go ?_ (fr_X9_settles_122 (by first | exact hK103 | exact ih) 1000 _ _ _)
    | with_reducible refine fr_go ?_ (fr_X9_settles_103 1000 _ _)
    | with_reducible refine fr_go ?_ (fr_X9_settles_79 1000 _ _)
    | with_reducible refine fr_go ?_ (fr_X9_settles_62 _ _ _)
    | with_reducible refine fr_go ?_ (hK122 _ _ _)
    | with_reducible refine fr_go ?_ (hK103 _ _)
    | with_reducible refine fr_go ?_ (ih _ _))
set_option maxHeartbeats 4000000 in
theorem fr_X9_settles : ∀ (S : zS), zFR w_X9_settles (f_X9_settles  S) S := by
  intro  S
  unfold f_X9_settles
  repeat' (first
    | with_reducible exact fr_none
    | with_reducible refine fr_if (fun _ => ?_) (fun _ => ?_)
    | with_reducible refine fr_some ?_
    | with_reducible refine z_fr_w ?_ (by unfold w_X9_settles; first | (exact Or.inr (Or.inr (Or.inr (Or.inr (Or.inl rfl))))) | (exact Or.inr (Or.inr (Or.inl ⟨rfl, rfl⟩))) | (exact Or.inr (Or.inl ⟨rfl, rfl⟩)) | (exact Or.inl ⟨rfl, rfl⟩) | (exact Or.inr (Or.inr (Or.inr (Or.inr (Or.inr (Or.inl rfl)))))) | (exact Or.inr (Or.inr (Or.inr (Or.inr (Or.inr (Or.inr rfl)))))) | (exact Or.inr (Or.inr (Or.inr (Or.inl rfl)))))
    | with_reducible refine z_fr_u ?_ (by intro j9; unfold w_X9_settles; first | (exact Or.inr (Or.inr (Or.inr (Or.inr (Or.inl rfl))))) | (exact Or.inr (Or.inr (Or.inl ⟨rfl, rfl⟩))) | (exact Or.inr (Or.inl ⟨rfl, rfl⟩)) | (exact Or.inl ⟨rfl, rfl⟩) | (exact Or.inr (Or.inr (Or.inr (Or.inr (Or.inr (Or.inl rfl)))))) | (exact Or.inr (Or.inr (Or.inr (Or.inr (Or.inr (Or.inr rfl)))))) | (exact Or.inr (Or.inr (Or.inr (Or.inl rfl)))))
    | with_reducible exact z_fr_rf
    | with_reducible assumption
    | with_reducible refine fr_bind (fr_X9_isWithin _ _ _) (fun k j hkj => by unfold w_X9_isWithin at hkj; exact hkj.elim) ?_ (fun _ _ => ?_)
    | with_reducible refine fr_go ?_ (fr_X9_settles_160 (by first | exact hK103 | exact ih) (by first | exact hK122 | exact ih) _ _ _ _ _ _)
    | with_reducible refine fr_go ?_ (fr_X9_settles_122 (by first | exact hK103 | exact ih) 1000 _ _ _)
    | with_reducible refine fr_go ?_ (fr_X9_settles_103 1000 _ _)
    | with_reducible refine fr_go ?_ (fr_X9_settles_79 1000 _ _)
    | with_reducible refine fr_go ?_ (fr_X9_settles_62 _ _ _)
    | with_reducible refine fr_go ?_ (fr_X9_settles_2 1000 _ _)
    | with_reducible refine fr_go ?_ (hK122 _ _ _)
    | with_reducible refine fr_go ?_ (hK103 _ _))
def w_X9_plate (k j : Nat) : Prop := (k = 87 ∧ j = 0) ∨ (k = 87 ∧ j = 13) ∨ (k = 87 ∧ j = 19) ∨ (k = 87 ∧ j = 2) ∨ (k = 87 ∧ j = 3) ∨ (k = 87 ∧ j = 4) ∨ (k = 87 ∧ j = 5) ∨ (k = 87 ∧ j = 6) ∨ (k = 87 ∧ j = 7) ∨ (k = 87 ∧ j = 8) ∨ k = 89 ∨ k = 90 ∨ k = 91 ∨ k = 94 ∨ k = 98
set_option maxHeartbeats 4000000 in
theorem fr_X9_plate_100 : ∀ (v1 : Int32) (S : zS), zFR w_X9_plate (f_X9_plate_100 v1 S) S := by
  intro v1 S
  unfold f_X9_plate_100
  repeat' (first
    | with_reducible exact fr_none
    | with_reducible refine fr_if (fun _ => ?_) (fun _ => ?_)
    | with_reducible refine fr_some ?_
    | with_reducible refine z_fr_w ?_ (by unfold w_X9_plate; first | (exact Or.inl ⟨rfl, rfl⟩) | (exact Or.inr (Or.inr (Or.inr (Or.inr (Or.inr (Or.inr (Or.inr (Or.inr (Or.inl ⟨rfl, rfl⟩))))))))) | (exact Or.inr (Or.inr (Or.inr (Or.inr (Or.inl ⟨rfl, rfl⟩))))))
    | with_reducible refine z_fr_u ?_ (by intro j9; unfold w_X9_plate; first | (exact Or.inl ⟨rfl, rfl⟩) | (exact Or.inr (Or.inr (Or.inr (Or.inr (Or.inr (Or.inr (Or.inr (Or.inr (Or.inl ⟨rfl, rfl⟩))))))))) | (exact Or.inr (Or.inr (Or.inr (Or.inr (Or.inl ⟨rfl, rfl⟩))))))
    | with_reducible exact z_fr_rf
    | with_reducible assumption
    | with_reducible refine fr_bind (fr_X9_begins _) (fun k j hkj => by unfold w_X9_begins at hkj; unfold w_X9_plate; rcases hkj with hkj | hkj; (exact Or.inr (Or.inr (Or.inr (Or.inr (Or.inr (Or.inr (Or.inr (Or.inr (Or.inr (Or.inl hkj)))))))))); (exact Or.inr (Or.inr (Or.inr (Or.inr (Or.inr (Or.inr (Or.inr (Or.inr (Or.inr (Or.inr (Or.inr (Or.inl hkj))))))))))))) ?_ (fun _ _ => ?_)
    | with_reducible refine fr_bind (fr_X9_advances _) (fun k j hkj => by unfold w_X9_advances at hkj; unfold w_X9_plate; rcases hkj with hkj | hkj | hkj | hkj; (exact Or.inr (Or.inr (Or.inr (Or.inr (Or.inl hkj))))); (exact Or.inr (Or.inr (Or.inr (Or.inr (Or.inr (Or.inl hkj)))))); (exact Or.inr (Or.inr (Or.inr (Or.inr (Or.inr (Or.inr (Or.inl hkj))))))); (exact Or.inr (Or.inr (Or.inr (Or.inr (Or.inr (Or.inr (Or.inr (Or.inl hkj))))))))) ?_ (fun _ _ => ?_)
    | with_reducible refine fr_bind (fr_X9_isWell _) (fun k j hkj => by unfold w_X9_isWell at hkj; exact hkj.elim) ?_ (fun _ _ => ?_)
    | with_reducible refine fr_bind (fr_X9_sorts _) (fun k j hkj => by unfold w_X9_sorts at hkj; unfold w_X9_plate; exact Or.inr (Or.inr (Or.inr (Or.inr (Or.inr (Or.inr (Or.inr (Or.inr (Or.inr (Or.inr (Or.inr (Or.inl hkj)))))))))))) ?_ (fun _ _ => ?_)
    | with_reducible refine fr_bind (fr_X9_settles _) (fun k j hkj => by unfold w_X9_settles at hkj; unfold w_X9_plate; rcases hkj with hkj | hkj | hkj | hkj | hkj | hkj | hkj; (exact Or.inr (Or.inl hkj)); (exact Or.inr (Or.inr (Or.inl hkj))); (exact Or.inr (Or.inr (Or.inr (Or.inl hkj)))); (exact Or.inr (Or.inr (Or.inr (Or.inr (Or.inr (Or.inr (Or.inr (Or.inr (Or.inr (Or.inr (Or.inl hkj))))))))))); (exact Or.inr (Or.inr (Or.inr (Or.inr (Or.inr (Or.inr (Or.inr (Or.inr (Or.inr (Or.inr (Or.inr (Or.inr (Or.inl hkj))))))))))))); (exact Or.inr (Or.inr (Or.inr (Or.inr (Or.inr (Or.inr (Or.inr (Or.inr (Or.inr (Or.inr (Or.inr (Or.inr (Or.inr (Or.inl hkj)))))))))))))); (exact Or.inr (Or.inr (Or.inr (Or.inr (Or.inr (Or.inr (Or.inr (Or.inr (Or.inr (Or.inr (Or.inr (Or.inr (Or.inr (Or.inr hkj))))))))))))))) ?_ (fun _ _ => ?_)
    | with_reducible refine fr_bind (fr_X9_mayBegin _) (fun k j hkj => by unfold w_X9_mayBegin at hkj; exact hkj.elim) ?_ (fun _ _ => ?_)
    | with_reducible refine fr_bind (fr_X9_takes _ _) (fun k j hkj => by unfold w_X9_takes at hkj; unfold w_X9_plate; rcases hkj with hkj | hkj | hkj | hkj | hkj; (exact Or.inr (Or.inr (Or.inr (Or.inr (Or.inl hkj))))); (exact Or.inr (Or.inr (Or.inr (Or.inr (Or.inr (Or.inl hkj)))))); (exact Or.inr (Or.inr (Or.inr (Or.inr (Or.inr (Or.inr (Or.inl hkj))))))); (exact Or.inr (Or.inr (Or.inr (Or.inr (Or.inr (Or.inr (Or.inr (Or.inl hkj)))))))); (exact Or.inr (Or.inr (Or.inr (Or.inr (Or.inr (Or.inr (Or.inr (Or.inr (Or.inl hkj)))))))))) ?_ (fun _ _ => ?_)
    | with_reducible refine fr_bind (fr_X9_readsItem _ _) (fun k j hkj => by unfold w_X9_readsItem at hkj; unfold w_X9_plate; rcases hkj with hkj | hkj | hkj | hkj | hkj | hkj | hkj; (exact Or.inr (Or.inr (Or.inr (Or.inr (Or.inl hkj))))); (exact Or.inr (Or.inr (Or.inr (Or.inr (Or.inr (Or.inl hkj)))))); (exact Or.inr (Or.inr (Or.inr (Or.inr (Or.inr (Or.inr (Or.inl hkj))))))); (exact Or.inr (Or.inr (Or.inr (Or.inr (Or.inr (Or.inr (Or.inr (Or.inl hkj)))))))); (exact Or.inr (Or.inr (Or.inr (Or.inr (Or.inr (Or.inr (Or.inr (Or.inr (Or.inl hkj))))))))); (exact Or.inr (Or.inr (Or.inr (Or.inr (Or.inr (Or.inr (Or.inr (Or.inr (Or.inr (Or.inl hkj)))))))))); (exact Or.inr (Or.inr (Or.inr (Or.inr (Or.inr (Or.inr (Or.inr (Or.inr (Or.inr (Or.inr (Or.inr (Or.inl hkj))))))))))))) ?_ (fun _ _ => ?_)
    | with_reducible refine fr_go ?_ (hK25 _ _))
set_option maxHeartbeats 4000000 in
theorem fr_X9_plate_90 {K25 : Int32 → zS → Option (Int32 × zS)} (hK25 : ∀ (v1 : Int32) (S : zS), zFR w_X9_plate (K25 v1 S) S) : ∀ (v1 : Int32) (t0 : Int32) (S : zS), zFR w_X9_plate (f_X9_plate_90 K25 v1 t0 S) S := by
  intro v1 t0 S
  unfold f_X9_plate_90
  repeat' (first
    | with_reducible exact fr_none
    | with_reducible refine fr_if (fun _ => ?_) (fun _ => ?_)
    | with_reducible refine fr_some ?_
    | with_reducible refine z_fr_w ?_ (by unfold w_X9_plate; first | (exact Or.inl ⟨rfl, rfl⟩) | (exact Or.inr (Or.inr (Or.inr (Or.inr (Or.inr (Or.inr (Or.inr (Or.inr (Or.inl ⟨rfl, rfl⟩))))))))) | (exact Or.inr (Or.inr (Or.inr (Or.inr (Or.inl ⟨rfl, rfl⟩))))))
    | with_reducible refine z_fr_u ?_ (by intro j9; unfold w_X9_plate; first | (exact Or.inl ⟨rfl, rfl⟩) | (exact Or.inr (Or.inr (Or.inr (Or.inr (Or.inr (Or.inr (Or.inr (Or.inr (Or.inl ⟨rfl, rfl⟩))))))))) | (exact Or.inr (Or.inr (Or.inr (Or.inr (Or.inl ⟨rfl, rfl⟩))))))
    | with_reducible exact z_fr_rf
    | with_reducible assumption
    | with_reducible refine fr_bind (fr_X9_begins _) (fun k j hkj => by unfold w_X9_begins at hkj; unfold w_X9_plate; rcases hkj with hkj | hkj; (exact Or.inr (Or.inr (Or.inr (Or.inr (Or.inr (Or.inr (Or.inr (Or.inr (Or.inr (Or.inl hkj)))))))))); (exact Or.inr (Or.inr (Or.inr (Or.inr (Or.inr (Or.inr (Or.inr (Or.inr (Or.inr (Or.inr (Or.inr (Or.inl hkj))))))))))))) ?_ (fun _ _ => ?_)
    | with_reducible refine fr_bind (fr_X9_advances _) (fun k j hkj => by unfold w_X9_advances at hkj; unfold w_X9_plate; rcases hkj with hkj | hkj | hkj | hkj; (exact Or.inr (Or.inr (Or.inr (Or.inr (Or.inl hkj))))); (exact Or.inr (Or.inr (Or.inr (Or.inr (Or.inr (Or.inl hkj)))))); (exact Or.inr (Or.inr (Or.inr (Or.inr (Or.inr (Or.inr (Or.inl hkj))))))); (exact Or.inr (Or.inr (Or.inr (Or.inr (Or.inr (Or.inr (Or.inr (Or.inl hkj))))))))) ?_ (fun _ _ => ?_)
    | with_reducible refine fr_bind (fr_X9_isWell _) (fun k j hkj => by unfold w_X9_isWell at hkj; exact hkj.elim) ?_ (fun _ _ => ?_)
    | with_reducible refine fr_bind (fr_X9_sorts _) (fun k j hkj => by unfold w_X9_sorts at hkj; unfold w_X9_plate; exact Or.inr (Or.inr (Or.inr (Or.inr (Or.inr (Or.inr (Or.inr (Or.inr (Or.inr (Or.inr (Or.inr (Or.inl hkj)))))))))))) ?_ (fun _ _ => ?_)
    | with_reducible refine fr_bind (fr_X9_settles _) (fun k j hkj => by unfold w_X9_settles at hkj; unfold w_X9_plate; rcases hkj with hkj | hkj | hkj | hkj | hkj | hkj | hkj; (exact Or.inr (Or.inl hkj)); (exact Or.inr (Or.inr (Or.inl hkj))); (exact Or.inr (Or.inr (Or.inr (Or.inl hkj)))); (exact Or.inr (Or.inr (Or.inr (Or.inr (Or.inr (Or.inr (Or.inr (Or.inr (Or.inr (Or.inr (Or.inl hkj))))))))))); (exact Or.inr (Or.inr (Or.inr (Or.inr (Or.inr (Or.inr (Or.inr (Or.inr (Or.inr (Or.inr (Or.inr (Or.inr (Or.inl hkj))))))))))))); (exact Or.inr (Or.inr (Or.inr (Or.inr (Or.inr (Or.inr (Or.inr (Or.inr (Or.inr (Or.inr (Or.inr (Or.inr (Or.inr (Or.inl hkj)))))))))))))); (exact Or.inr (Or.inr (Or.inr (Or.inr (Or.inr (Or.inr (Or.inr (Or.inr (Or.inr (Or.inr (Or.inr (Or.inr (Or.inr (Or.inr hkj))))))))))))))) ?_ (fun _ _ => ?_)
    | with_reducible refine fr_bind (fr_X9_mayBegin _) (fun k j hkj => by unfold w_X9_mayBegin at hkj; exact hkj.elim) ?_ (fun _ _ => ?_)
    | with_reducible refine fr_bind (fr_X9_takes _ _) (fun k j hkj => by unfold w_X9_takes at hkj; unfold w_X9_plate; rcases hkj with hkj | hkj | hkj | hkj | hkj; (exact Or.inr (Or.inr (Or.inr (Or.inr (Or.inl hkj))))); (exact Or.inr (Or.inr (Or.inr (Or.inr (Or.inr (Or.inl hkj)))))); (exact Or.inr (Or.inr (Or.inr (Or.inr (Or.inr (Or.inr (Or.inl hkj))))))); (exact Or.inr (Or.inr (Or.inr (Or.inr (Or.inr (Or.inr (Or.inr (Or.inl hkj)))))))); (exact Or.inr (Or.inr (Or.inr (Or.inr (Or.inr (Or.inr (Or.inr (Or.inr (Or.inl hkj)))))))))) ?_ (fun _ _ => ?_)
    | with_reducible refine fr_bind (fr_X9_readsItem _ _) (fun k j hkj => by unfold w_X9_readsItem at hkj; unfold w_X9_plate; rcases hkj with hkj | hkj | hkj | hkj | hkj | hkj | hkj; (exact Or.inr (Or.inr (Or.inr (Or.inr (Or.inl hkj))))); (exact Or.inr (Or.inr (Or.inr (Or.inr (Or.inr (Or.inl hkj)))))); (exact Or.inr (Or.inr (Or.inr (Or.inr (Or.inr (Or.inr (Or.inl hkj))))))); (exact Or.inr (Or.inr (Or.inr (Or.inr (Or.inr (Or.inr (Or.inr (Or.inl hkj)))))))); (exact Or.inr (Or.inr (Or.inr (Or.inr (Or.inr (Or.inr (Or.inr (Or.inr (Or.inl hkj))))))))); (exact Or.inr (Or.inr (Or.inr (Or.inr (Or.inr (Or.inr (Or.inr (Or.inr (Or.inr (Or.inl hkj)))))))))); (exact Or.inr (Or.inr (Or.inr (Or.inr (Or.inr (Or.inr (Or.inr (Or.inr (Or.inr (Or.inr (Or.inr (Or.inl hkj))))))))))))) ?_ (fun _ _ => ?_)
    | with_reducible refine fr_go ?_ (fr_X9_plate_100 _ _)
    | with_reducible refine fr_go ?_ (hK25 _ _))
set_option maxHeartbeats 4000000 in
theorem fr_X9_plate_76 {K25 : Int32 → zS → Option (Int32 × zS)} (hK25 : ∀ (v1 : Int32) (S : zS), zFR w_X9_plate (K25 v1 S) S) : ∀ (v1 : Int32) (S : zS), zFR w_X9_plate (f_X9_plate_76 K25 v1 S) S := by
  intro v1 S
  unfold f_X9_plate_76
  repeat' (first
    | with_reducible exact fr_none
    | with_reducible refine fr_if (fun _ => ?_) (fun _ => ?_)
    | with_reducible refine fr_some ?_
    | with_reducible refine z_fr_w ?_ (by unfold w_X9_plate; first | (exact Or.inl ⟨rfl, rfl⟩) | (exact Or.inr (Or.inr (Or.inr (Or.inr (Or.inr (Or.inr (Or.inr (Or.inr (Or.inl ⟨rfl, rfl⟩))))))))) | (exact Or.inr (Or.inr (Or.inr (Or.inr (Or.inl ⟨rfl, rfl⟩))))))
    | with_reducible refine z_fr_u ?_ (by intro j9; unfold w_X9_plate; first | (exact Or.inl ⟨rfl, rfl⟩) | (exact Or.inr (Or.inr (Or.inr (Or.inr (Or.inr (Or.inr (Or.inr (Or.inr (Or.inl ⟨rfl, rfl⟩))))))))) | (exact Or.inr (Or.inr (Or.inr (Or.inr (Or.inl ⟨rfl, rfl⟩))))))
    | with_reducible exact z_fr_rf
    | with_reducible assumption
    | with_reducible refine fr_bind (fr_X9_begins _) (fun k j hkj => by unfold w_X9_begins at hkj; unfold w_X9_plate; rcases hkj with hkj | hkj; (exact Or.inr (Or.inr (Or.inr (Or.inr (Or.inr (Or.inr (Or.inr (Or.inr (Or.inr (Or.inl hkj)))))))))); (exact Or.inr (Or.inr (Or.inr (Or.inr (Or.inr (Or.inr (Or.inr (Or.inr (Or.inr (Or.inr (Or.inr (Or.inl hkj))))))))))))) ?_ (fun _ _ => ?_)
    | with_reducible refine fr_bind (fr_X9_advances _) (fun k j hkj => by unfold w_X9_advances at hkj; unfold w_X9_plate; rcases hkj with hkj | hkj | hkj | hkj; (exact Or.inr (Or.inr (Or.inr (Or.inr (Or.inl hkj))))); (exact Or.inr (Or.inr (Or.inr (Or.inr (Or.inr (Or.inl hkj)))))); (exact Or.inr (Or.inr (Or.inr (Or.inr (Or.inr (Or.inr (Or.inl hkj))))))); (exact Or.inr (Or.inr (Or.inr (Or.inr (Or.inr (Or.inr (Or.inr (Or.inl hkj))))))))) ?_ (fun _ _ => ?_)
    | with_reducible refine fr_bind (fr_X9_isWell _) (fun k j hkj => by unfold w_X9_isWell at hkj; exact hkj.elim) ?_ (fun _ _ => ?_)
    | with_reducible refine fr_bind (fr_X9_sorts _) (fun k j hkj => by unfold w_X9_sorts at hkj; unfold w_X9_plate; exact Or.inr (Or.inr (Or.inr (Or.inr (Or.inr (Or.inr (Or.inr (Or.inr (Or.inr (Or.inr (Or.inr (Or.inl hkj)))))))))))) ?_ (fun _ _ => ?_)
    | with_reducible refine fr_bind (fr_X9_settles _) (fun k j hkj => by unfold w_X9_settles at hkj; unfold w_X9_plate; rcases hkj with hkj | hkj | hkj | hkj | hkj | hkj | hkj; (exact Or.inr (Or.inl hkj)); (exact Or.inr (Or.inr (Or.inl hkj))); (exact Or.inr (Or.inr (Or.inr (Or.inl hkj)))); (exact Or.inr (Or.inr (Or.inr (Or.inr (Or.inr (Or.inr (Or.inr (Or.inr (Or.inr (Or.inr (Or.inl hkj))))))))))); (exact Or.inr (Or.inr (Or.inr (Or.inr (Or.inr (Or.inr (Or.inr (Or.inr (Or.inr (Or.inr (Or.inr (Or.inr (Or.inl hkj))))))))))))); (exact Or.inr (Or.inr (Or.inr (Or.inr (Or.inr (Or.inr (Or.inr (Or.inr (Or.inr (Or.inr (Or.inr (Or.inr (Or.inr (Or.inl hkj)))))))))))))); (exact Or.inr (Or.inr (Or.inr (Or.inr (Or.inr (Or.inr (Or.inr (Or.inr (Or.inr (Or.inr (Or.inr (Or.inr (Or.inr (Or.inr hkj))))))))))))))) ?_ (fun _ _ => ?_)
    | with_reducible refine fr_bind (fr_X9_mayBegin _) (fun k j hkj => by unfold w_X9_mayBegin at hkj; exact hkj.elim) ?_ (fun _ _ => ?_)
    | with_reducible refine fr_bind (fr_X9_takes _ _) (fun k j hkj => by unfold w_X9_takes at hkj; unfold w_X9_plate; rcases hkj with hkj | hkj | hkj | hkj | hkj; (exact Or.inr (Or.inr (Or.inr (Or.inr (Or.inl hkj))))); (exact Or.inr (Or.inr (Or.inr (Or.inr (Or.inr (Or.inl hkj)))))); (exact Or.inr (Or.inr (Or.inr (Or.inr (Or.inr (Or.inr (Or.inl hkj))))))); (exact Or.inr (Or.inr (Or.inr (Or.inr (Or.inr (Or.inr (Or.inr (Or.inl hkj)))))))); (exact Or.inr (Or.inr (Or.inr (Or.inr (Or.inr (Or.inr (Or.inr (Or.inr (Or.inl hkj)))))))))) ?_ (fun _ _ => ?_)
    | with_reducible refine fr_bind (fr_X9_readsItem _ _) (fun k j hkj => by unfold w_X9_readsItem at hkj; unfold w_X9_plate; rcases hkj with hkj | hkj | hkj | hkj | hkj | hkj | hkj; (exact Or.inr (Or.inr (Or.inr (Or.inr (Or.inl hkj))))); (exact Or.inr (Or.inr (Or.inr (Or.inr (Or.inr (Or.inl hkj)))))); (exact Or.inr (Or.inr (Or.inr (Or.inr (Or.inr (Or.inr (Or.inl hkj))))))); (exact Or.inr (Or.inr (Or.inr (Or.inr (Or.inr (Or.inr (Or.inr (Or.inl hkj)))))))); (exact Or.inr (Or.inr (Or.inr (Or.inr (Or.inr (Or.inr (Or.inr (Or.inr (Or.inl hkj))))))))); (exact Or.inr (Or.inr (Or.inr (Or.inr (Or.inr (Or.inr (Or.inr (Or.inr (Or.inr (Or.inl hkj)))))))))); (exact Or.inr (Or.inr (Or.inr (Or.inr (Or.inr (Or.inr (Or.inr (Or.inr (Or.inr (Or.inr (Or.inr (Or.inl hkj))))))))))))) ?_ (fun _ _ => ?_)
    | with_reducible refine fr_go ?_ (fr_X9_plate_100 _ _)
    | with_reducible refine fr_go ?_ (fr_X9_plate_90 (by first | exact hK25 | exact ih) _ _ _)
    | with_reducible refine fr_go ?_ (hK25 _ _))
set_option maxHeartbeats 4000000 in
theorem fr_X9_plate_60 {K25 : Int32 → zS → Option (Int32 × zS)} (hK25 : ∀ (v1 : Int32) (S : zS), zFR w_X9_plate (K25 v1 S) S) : ∀ (v1 : Int32) (t0 : Int32) (S : zS), zFR w_X9_plate (f_X9_plate_60 K25 v1 t0 S) S := by
  intro v1 t0 S
  unfold f_X9_plate_60
  repeat' (first
    | with_reducible exact fr_none
    | with_reducible refine fr_if (fun _ => ?_) (fun _ => ?_)
    | with_reducible refine fr_some ?_
    | with_reducible refine z_fr_w ?_ (by unfold w_X9_plate; first | (exact Or.inl ⟨rfl, rfl⟩) | (exact Or.inr (Or.inr (Or.inr (Or.inr (Or.inr (Or.inr (Or.inr (Or.inr (Or.inl ⟨rfl, rfl⟩))))))))) | (exact Or.inr (Or.inr (Or.inr (Or.inr (Or.inl ⟨rfl, rfl⟩))))))
    | with_reducible refine z_fr_u ?_ (by intro j9; unfold w_X9_plate; first | (exact Or.inl ⟨rfl, rfl⟩) | (exact Or.inr (Or.inr (Or.inr (Or.inr (Or.inr (Or.inr (Or.inr (Or.inr (Or.inl ⟨rfl, rfl⟩))))))))) | (exact Or.inr (Or.inr (Or.inr (Or.inr (Or.inl ⟨rfl, rfl⟩))))))
    | with_reducible exact z_fr_rf
    | with_reducible assumption
    | with_reducible refine fr_bind (fr_X9_begins _) (fun k j hkj => by unfold w_X9_begins at hkj; unfold w_X9_plate; rcases hkj with hkj | hkj; (exact Or.inr (Or.inr (Or.inr (Or.inr (Or.inr (Or.inr (Or.inr (Or.inr (Or.inr (Or.inl hkj)))))))))); (exact Or.inr (Or.inr (Or.inr (Or.inr (Or.inr (Or.inr (Or.inr (Or.inr (Or.inr (Or.inr (Or.inr (Or.inl hkj))))))))))))) ?_ (fun _ _ => ?_)
    | with_reducible refine fr_bind (fr_X9_advances _) (fun k j hkj => by unfold w_X9_advances at hkj; unfold w_X9_plate; rcases hkj with hkj | hkj | hkj | hkj; (exact Or.inr (Or.inr (Or.inr (Or.inr (Or.inl hkj))))); (exact Or.inr (Or.inr (Or.inr (Or.inr (Or.inr (Or.inl hkj)))))); (exact Or.inr (Or.inr (Or.inr (Or.inr (Or.inr (Or.inr (Or.inl hkj))))))); (exact Or.inr (Or.inr (Or.inr (Or.inr (Or.inr (Or.inr (Or.inr (Or.inl hkj))))))))) ?_ (fun _ _ => ?_)
    | with_reducible refine fr_bind (fr_X9_isWell _) (fun k j hkj => by unfold w_X9_isWell at hkj; exact hkj.elim) ?_ (fun _ _ => ?_)
    | with_reducible refine fr_bind (fr_X9_sorts _) (fun k j hkj => by unfold w_X9_sorts at hkj; unfold w_X9_plate; exact Or.inr (Or.inr (Or.inr (Or.inr (Or.inr (Or.inr (Or.inr (Or.inr (Or.inr (Or.inr (Or.inr (Or.inl hkj)))))))))))) ?_ (fun _ _ => ?_)
    | with_reducible refine fr_bind (fr_X9_settles _) (fun k j hkj => by unfold w_X9_settles at hkj; unfold w_X9_plate; rcases hkj with hkj | hkj | hkj | hkj | hkj | hkj | hkj; (exact Or.inr (Or.inl hkj)); (exact Or.inr (Or.inr (Or.inl hkj))); (exact Or.inr (Or.inr (Or.inr (Or.inl hkj)))); (exact Or.inr (Or.inr (Or.inr (Or.inr (Or.inr (Or.inr (Or.inr (Or.inr (Or.inr (Or.inr (Or.inl hkj))))))))))); (exact Or.inr (Or.inr (Or.inr (Or.inr (Or.inr (Or.inr (Or.inr (Or.inr (Or.inr (Or.inr (Or.inr (Or.inr (Or.inl hkj))))))))))))); (exact Or.inr (Or.inr (Or.inr (Or.inr (Or.inr (Or.inr (Or.inr (Or.inr (Or.inr (Or.inr (Or.inr (Or.inr (Or.inr (Or.inl hkj)))))))))))))); (exact Or.inr (Or.inr (Or.inr (Or.inr (Or.inr (Or.inr (Or.inr (Or.inr (Or.inr (Or.inr (Or.inr (Or.inr (Or.inr (Or.inr hkj))))))))))))))) ?_ (fun _ _ => ?_)
    | with_reducible refine fr_bind (fr_X9_mayBegin _) (fun k j hkj => by unfold w_X9_mayBegin at hkj; exact hkj.elim) ?_ (fun _ _ => ?_)
    | with_reducible refine fr_bind (fr_X9_takes _ _) (fun k j hkj => by unfold w_X9_takes at hkj; unfold w_X9_plate; rcases hkj with hkj | hkj | hkj | hkj | hkj; (exact Or.inr (Or.inr (Or.inr (Or.inr (Or.inl hkj))))); (exact Or.inr (Or.inr (Or.inr (Or.inr (Or.inr (Or.inl hkj)))))); (exact Or.inr (Or.inr (Or.inr (Or.inr (Or.inr (Or.inr (Or.inl hkj))))))); (exact Or.inr (Or.inr (Or.inr (Or.inr (Or.inr (Or.inr (Or.inr (Or.inl hkj)))))))); (exact Or.inr (Or.inr (Or.inr (Or.inr (Or.inr (Or.inr (Or.inr (Or.inr (Or.inl hkj)))))))))) ?_ (fun _ _ => ?_)
    | with_reducible refine fr_bind (fr_X9_readsItem _ _) (fun k j hkj => by unfold w_X9_readsItem at hkj; unfold w_X9_plate; rcases hkj with hkj | hkj | hkj | hkj | hkj | hkj | hkj; (exact Or.inr (Or.inr (Or.inr (Or.inr (Or.inl hkj))))); (exact Or.inr (Or.inr (Or.inr (Or.inr (Or.inr (Or.inl hkj)))))); (exact Or.inr (Or.inr (Or.inr (Or.inr (Or.inr (Or.inr (Or.inl hkj))))))); (exact Or.inr (Or.inr (Or.inr (Or.inr (Or.inr (Or.inr (Or.inr (Or.inl hkj)))))))); (exact Or.inr (Or.inr (Or.inr (Or.inr (Or.inr (Or.inr (Or.inr (Or.inr (Or.inl hkj))))))))); (exact Or.inr (Or.inr (Or.inr (Or.inr (Or.inr (Or.inr (Or.inr (Or.inr (Or.inr (Or.inl hkj)))))))))); (exact Or.inr (Or.inr (Or.inr (Or.inr (Or.inr (Or.inr (Or.inr (Or.inr (Or.inr (Or.inr (Or.inr (Or.inl hkj))))))))))))) ?_ (fun _ _ => ?_)
    | with_reducible refine fr_go ?_ (fr_X9_plate_100 _ _)
    | with_reducible refine fr_go ?_ (fr_X9_plate_90 (by first | exact hK25 | exact ih) _ _ _)
    | with_reducible refine fr_go ?_ (fr_X9_plate_76 (by first | exact hK25 | exact ih) _ _)
    | with_reducible refine fr_go ?_ (hK25 _ _))
set_option maxHeartbeats 4000000 in
theorem fr_X9_plate_25 : ∀ (n : Nat) (v1 : Int32) (S : zS), zFR w_X9_plate (f_X9_plate_25 n v1 S) S := by
  intro n
  induction n with
  | zero =>
    intro v1 S r hr
    cases (show (none : Option (Int32 × zS)) = some r from hr)
  | succ n ih =>
    intro v1 S
    rw [f_X9_plate_25]
    repeat' (first
    | with_reducible exact fr_none
    | with_reducible refine fr_if (fun _ => ?_) (fun _ => ?_)
    | with_reducible refine fr_some ?_
    | with_reducible refine z_fr_w ?_ (by unfold w_X9_plate; first | (exact Or.inl ⟨rfl, rfl⟩) | (exact Or.inr (Or.inr (Or.inr (Or.inr (Or.inr (Or.inr (Or.inr (Or.inr (Or.inl ⟨rfl, rfl⟩))))))))) | (exact Or.inr (Or.inr (Or.inr (Or.inr (Or.inl ⟨rfl, rfl⟩))))))
    | with_reducible refine z_fr_u ?_ (by intro j9; unfold w_X9_plate; first | (exact Or.inl ⟨rfl, rfl⟩) | (exact Or.inr (Or.inr (Or.inr (Or.inr (Or.inr (Or.inr (Or.inr (Or.inr (Or.inl ⟨rfl, rfl⟩))))))))) | (exact Or.inr (Or.inr (Or.inr (Or.inr (Or.inl ⟨rfl, rfl⟩))))))
    | with_reducible exact z_fr_rf
    | with_reducible assumption
    | with_reducible refine fr_bind (fr_X9_begins _) (fun k j hkj => by unfold w_X9_begins at hkj; unfold w_X9_plate; rcases hkj with hkj | hkj; (exact Or.inr (Or.inr (Or.inr (Or.inr (Or.inr (Or.inr (Or.inr (Or.inr (Or.inr (Or.inl hkj)))))))))); (exact Or.inr (Or.inr (Or.inr (Or.inr (Or.inr (Or.inr (Or.inr (Or.inr (Or.inr (Or.inr (Or.inr (Or.inl hkj))))))))))))) ?_ (fun _ _ => ?_)
    | with_reducible refine fr_bind (fr_X9_advances _) (fun k j hkj => by unfold w_X9_advances at hkj; unfold w_X9_plate; rcases hkj with hkj | hkj | hkj | hkj; (exact Or.inr (Or.inr (Or.inr (Or.inr (Or.inl hkj))))); (exact Or.inr (Or.inr (Or.inr (Or.inr (Or.inr (Or.inl hkj)))))); (exact Or.inr (Or.inr (Or.inr (Or.inr (Or.inr (Or.inr (Or.inl hkj))))))); (exact Or.inr (Or.inr (Or.inr (Or.inr (Or.inr (Or.inr (Or.inr (Or.inl hkj))))))))) ?_ (fun _ _ => ?_)
    | with_reducible refine fr_bind (fr_X9_isWell _) (fun k j hkj => by unfold w_X9_isWell at hkj; exact hkj.elim) ?_ (fun _ _ => ?_)
    | with_reducible refine fr_bind (fr_X9_sorts _) (fun k j hkj => by unfold w_X9_sorts at hkj; unfold w_X9_plate; exact Or.inr (Or.inr (Or.inr (Or.inr (Or.inr (Or.inr (Or.inr (Or.inr (Or.inr (Or.inr (Or.inr (Or.inl hkj)))))))))))) ?_ (fun _ _ => ?_)
    | with_reducible refine fr_bind (fr_X9_settles _) (fun k j hkj => by unfold w_X9_settles at hkj; unfold w_X9_plate; rcases hkj with hkj | hkj | hkj | hkj | hkj | hkj | hkj; (exact Or.inr (Or.inl hkj)); (exact Or.inr (Or.inr (Or.inl hkj))); (exact Or.inr (Or.inr (Or.inr (Or.inl hkj)))); (exact Or.inr (Or.inr (Or.inr (Or.inr (Or.inr (Or.inr (Or.inr (Or.inr (Or.inr (Or.inr (Or.inl hkj))))))))))); (exact Or.inr (Or.inr (Or.inr (Or.inr (Or.inr (Or.inr (Or.inr (Or.inr (Or.inr (Or.inr (Or.inr (Or.inr (Or.inl hkj))))))))))))); (exact Or.inr (Or.inr (Or.inr (Or.inr (Or.inr (Or.inr (Or.inr (Or.inr (Or.inr (Or.inr (Or.inr (Or.inr (Or.inr (Or.inl hkj)))))))))))))); (exact Or.inr (Or.inr (Or.inr (Or.inr (Or.inr (Or.inr (Or.inr (Or.inr (Or.inr (Or.inr (Or.inr (Or.inr (Or.inr (Or.inr hkj))))))))))))))) ?_ (fun _ _ => ?_)
    | with_reducible refine fr_bind (fr_X9_mayBegin _) (fun k j hkj => by unfold w_X9_mayBegin at hkj; exact hkj.elim) ?_ (fun _ _ => ?_)
    | with_reducible refine fr_bind (fr_X9_takes _ _) (fun k j hkj => by unfold w_X9_takes at hkj; unfold w_X9_plate; rcases hkj with hkj | hkj | hkj | hkj | hkj; (exact Or.inr (Or.inr (Or.inr (Or.inr (Or.inl hkj))))); (exact Or.inr (Or.inr (Or.inr (Or.inr (Or.inr (Or.inl hkj)))))); (exact Or.inr (Or.inr (Or.inr (Or.inr (Or.inr (Or.inr (Or.inl hkj))))))); (exact Or.inr (Or.inr (Or.inr (Or.inr (Or.inr (Or.inr (Or.inr (Or.inl hkj)))))))); (exact Or.inr (Or.inr (Or.inr (Or.inr (Or.inr (Or.inr (Or.inr (Or.inr (Or.inl hkj)))))))))) ?_ (fun _ _ => ?_)
    | with_reducible refine fr_bind (fr_X9_readsItem _ _) (fun k j hkj => by unfold w_X9_readsItem at hkj; unfold w_X9_plate; rcases hkj with hkj | hkj | hkj | hkj | hkj | hkj | hkj; (exact Or.inr (Or.inr (Or.inr (Or.inr (Or.inl hkj))))); (exact Or.inr (Or.inr (Or.inr (Or.inr (Or.inr (Or.inl hkj)))))); (exact Or.inr (Or.inr (Or.inr (Or.inr (Or.inr (Or.inr (Or.inl hkj))))))); (exact Or.inr (Or.inr (Or.inr (Or.inr (Or.inr (Or.inr (Or.inr (Or.inl hkj)))))))); (exact Or.inr (Or.inr (Or.inr (Or.inr (Or.inr (Or.inr (Or.inr (Or.inr (Or.inl hkj))))))))); (exact Or.inr (Or.inr (Or.inr (Or.inr (Or.inr (Or.inr (Or.inr (Or.inr (Or.inr (Or.inl hkj)))))))))); (exact Or.inr (Or.inr (Or.inr (Or.inr (Or.inr (Or.inr (Or.inr (Or.inr (Or.inr (Or.inr (Or.inr (Or.inl hkj))))))))))))) ?_ (fun _ _ => ?_)
    | with_reducible refine fr_go ?_ (fr_X9_plate_100 _ _)
    | with_reducible refine fr_go ?_ (fr_X9_plate_90 (by first | exact hK25 | exact ih) _ _ _)
    | with_reducible refine fr_go ?_ (fr_X9_plate_76 (by first | exact hK25 | exact ih) _ _)
    | with_reducible refine fr_go ?_ (fr_X9_plate_60 (by first | exact hK25 | exact ih) _ _ _)
    | with_reducible refine fr_go ?_ (hK25 _ _)
    | with_reducible refine fr_go ?_ (ih _ _))
set_option maxHeartbeats 4000000 in
theorem fr_X9_plate : ∀ (S : zS), zFR w_X9_plate (f_X9_plate  S) S := by
  intro  S
  unfold f_X9_plate
  repeat' (first
    | with_reducible exact fr_none
    | with_reducible refine fr_if (fun _ => ?_) (fun _ => ?_)
    | with_reducible refine fr_some ?_
    | with_reducible refine z_fr_w ?_ (by unfold w_X9_plate; first | (exact Or.inl ⟨rfl, rfl⟩) | (exact Or.inr (Or.inr (Or.inr (Or.inr (Or.inr (Or.inr (Or.inr (Or.inr (Or.inl ⟨rfl, rfl⟩))))))))) | (exact Or.inr (Or.inr (Or.inr (Or.inr (Or.inl ⟨rfl, rfl⟩))))))
    | with_reducible refine z_fr_u ?_ (by intro j9; unfold w_X9_plate; first | (exact Or.inl ⟨rfl, rfl⟩) | (exact Or.inr (Or.inr (Or.inr (Or.inr (Or.inr (Or.inr (Or.inr (Or.inr (Or.inl ⟨rfl, rfl⟩))))))))) | (exact Or.inr (Or.inr (Or.inr (Or.inr (Or.inl ⟨rfl, rfl⟩))))))
    | with_reducible exact z_fr_rf
    | with_reducible assumption
    | with_reducible refine fr_bind (fr_X9_begins _) (fun k j hkj => by unfold w_X9_begins at hkj; unfold w_X9_plate; rcases hkj with hkj | hkj; (exact Or.inr (Or.inr (Or.inr (Or.inr (Or.inr (Or.inr (Or.inr (Or.inr (Or.inr (Or.inl hkj)))))))))); (exact Or.inr (Or.inr (Or.inr (Or.inr (Or.inr (Or.inr (Or.inr (Or.inr (Or.inr (Or.inr (Or.inr (Or.inl hkj))))))))))))) ?_ (fun _ _ => ?_)
    | with_reducible refine fr_bind (fr_X9_advances _) (fun k j hkj => by unfold w_X9_advances at hkj; unfold w_X9_plate; rcases hkj with hkj | hkj | hkj | hkj; (exact Or.inr (Or.inr (Or.inr (Or.inr (Or.inl hkj))))); (exact Or.inr (Or.inr (Or.inr (Or.inr (Or.inr (Or.inl hkj)))))); (exact Or.inr (Or.inr (Or.inr (Or.inr (Or.inr (Or.inr (Or.inl hkj))))))); (exact Or.inr (Or.inr (Or.inr (Or.inr (Or.inr (Or.inr (Or.inr (Or.inl hkj))))))))) ?_ (fun _ _ => ?_)
    | with_reducible refine fr_bind (fr_X9_isWell _) (fun k j hkj => by unfold w_X9_isWell at hkj; exact hkj.elim) ?_ (fun _ _ => ?_)
    | with_reducible refine fr_bind (fr_X9_sorts _) (fun k j hkj => by unfold w_X9_sorts at hkj; unfold w_X9_plate; exact Or.inr (Or.inr (Or.inr (Or.inr (Or.inr (Or.inr (Or.inr (Or.inr (Or.inr (Or.inr (Or.inr (Or.inl hkj)))))))))))) ?_ (fun _ _ => ?_)
    | with_reducible refine fr_bind (fr_X9_settles _) (fun k j hkj => by unfold w_X9_settles at hkj; unfold w_X9_plate; rcases hkj with hkj | hkj | hkj | hkj | hkj | hkj | hkj; (exact Or.inr (Or.inl hkj)); (exact Or.inr (Or.inr (Or.inl hkj))); (exact Or.inr (Or.inr (Or.inr (Or.inl hkj)))); (exact Or.inr (Or.inr (Or.inr (Or.inr (Or.inr (Or.inr (Or.inr (Or.inr (Or.inr (Or.inr (Or.inl hkj))))))))))); (exact Or.inr (Or.inr (Or.inr (Or.inr (Or.inr (Or.inr (Or.inr (Or.inr (Or.inr (Or.inr (Or.inr (Or.inr (Or.inl hkj))))))))))))); (exact Or.inr (Or.inr (Or.inr (Or.inr (Or.inr (Or.inr (Or.inr (Or.inr (Or.inr (Or.inr (Or.inr (Or.inr (Or.inr (Or.inl hkj)))))))))))))); (exact Or.inr (Or.inr (Or.inr (Or.inr (Or.inr (Or.inr (Or.inr (Or.inr (Or.inr (Or.inr (Or.inr (Or.inr (Or.inr (Or.inr hkj))))))))))))))) ?_ (fun _ _ => ?_)
    | with_reducible refine fr_bind (fr_X9_mayBegin _) (fun k j hkj => by unfold w_X9_mayBegin at hkj; exact hkj.elim) ?_ (fun _ _ => ?_)
    | with_reducible refine fr_bind (fr_X9_takes _ _) (fun k j hkj => by unfold w_X9_takes at hkj; unfold w_X9_plate; rcases hkj with hkj | hkj | hkj | hkj | hkj; (exact Or.inr (Or.inr (Or.inr (Or.inr (Or.inl hkj))))); (exact Or.inr (Or.inr (Or.inr (Or.inr (Or.inr (Or.inl hkj)))))); (exact Or.inr (Or.inr (Or.inr (Or.inr (Or.inr (Or.inr (Or.inl hkj))))))); (exact Or.inr (Or.inr (Or.inr (Or.inr (Or.inr (Or.inr (Or.inr (Or.inl hkj)))))))); (exact Or.inr (Or.inr (Or.inr (Or.inr (Or.inr (Or.inr (Or.inr (Or.inr (Or.inl hkj)))))))))) ?_ (fun _ _ => ?_)
    | with_reducible refine fr_bind (fr_X9_readsItem _ _) (fun k j hkj => by unfold w_X9_readsItem at hkj; unfold w_X9_plate; rcases hkj with hkj | hkj | hkj | hkj | hkj | hkj | hkj; (exact Or.inr (Or.inr (Or.inr (Or.inr (Or.inl hkj))))); (exact Or.inr (Or.inr (Or.inr (Or.inr (Or.inr (Or.inl hkj)))))); (exact Or.inr (Or.inr (Or.inr (Or.inr (Or.inr (Or.inr (Or.inl hkj))))))); (exact Or.inr (Or.inr (Or.inr (Or.inr (Or.inr (Or.inr (Or.inr (Or.inl hkj)))))))); (exact Or.inr (Or.inr (Or.inr (Or.inr (Or.inr (Or.inr (Or.inr (Or.inr (Or.inl hkj))))))))); (exact Or.inr (Or.inr (Or.inr (Or.inr (Or.inr (Or.inr (Or.inr (Or.inr (Or.inr (Or.inl hkj)))))))))); (exact Or.inr (Or.inr (Or.inr (Or.inr (Or.inr (Or.inr (Or.inr (Or.inr (Or.inr (Or.inr (Or.inr (Or.inl hkj))))))))))))) ?_ (fun _ _ => ?_)
    | with_reducible refine fr_go ?_ (fr_X9_plate_100 _ _)
    | with_reducible refine fr_go ?_ (fr_X9_plate_90 (by first | exact hK25 | exact ih) _ _ _)
    | with_reducible refine fr_go ?_ (fr_X9_plate_76 (by first | exact hK25 | exact ih) _ _)
    | with_reducible refine fr_go ?_ (fr_X9_plate_60 (by first | exact hK25 | exact ih) _ _ _)
    | with_reducible refine fr_go ?_ (fr_X9_plate_25 1000 _ _)
    | with_reducible refine fr_go ?_ (hK25 _ _))
def w_X1_cutsAt (p0 : Nat) (k j : Nat) : Prop := False
set_option maxHeartbeats 4000000 in
theorem fr_X1_cutsAt_5 {p0 : Nat} : ∀ (n : Nat) (v1 : Int32) (v2 : Int32) (v3 : Int32) (v4 : Int32) (S : zS), zFR (w_X1_cutsAt p0) (f_X1_cutsAt_5 p0 n v1 v2 v3 v4 S) S := by
  intro n
  induction n with
  | zero =>
    intro v1 v2 v3 v4 S r hr
    cases (show (none : Option (Int32 × zS)) = some r from hr)
  | succ n ih =>
    intro v1 v2 v3 v4 S
    rw [f_X1_cutsAt_5]
    repeat' (first
    | with_reducible exact fr_none
    | with_reducible refine fr_if (fun _ => ?_) (fun _ => ?_)
    | with_reducible refine fr_some ?_
    | with_reducible exact z_fr_rf
    | with_reducible assumption
    | with_reducible refine fr_bind (fr_X8_has _ _ _) (fun k j hkj => by unfold w_X8_has at hkj; exact hkj.elim) ?_ (fun _ _ => ?_)
    | with_reducible refine fr_go ?_ (ih _ _ _ _ _))
set_option maxHeartbeats 4000000 in
theorem fr_X1_cutsAt : ∀ (p0 : Nat) (a1 : Int32) (a2 : Int32) (S : zS), zFR (w_X1_cutsAt p0) (f_X1_cutsAt p0 a1 a2 S) S := by
  intro p0 a1 a2 S
  unfold f_X1_cutsAt
  repeat' (first
    | with_reducible exact fr_none
    | with_reducible refine fr_if (fun _ => ?_) (fun _ => ?_)
    | with_reducible refine fr_some ?_
    | with_reducible exact z_fr_rf
    | with_reducible assumption
    | with_reducible refine fr_bind (fr_X8_has _ _ _) (fun k j hkj => by unfold w_X8_has at hkj; exact hkj.elim) ?_ (fun _ _ => ?_)
    | with_reducible refine fr_go ?_ (fr_X1_cutsAt_5 1000 _ _ _ _ _))
def w_X8_corner (k j : Nat) : Prop := False
set_option maxHeartbeats 4000000 in
theorem fr_X8_corner : ∀ (a1 : Int32) (a2 : Int32) (S : zS), zFR w_X8_corner (f_X8_corner a1 a2 S) S := by
  intro a1 a2 S
  unfold f_X8_corner
  repeat' (first
    | with_reducible exact fr_none
    | with_reducible refine fr_if (fun _ => ?_) (fun _ => ?_)
    | with_reducible refine fr_some ?_
    | with_reducible exact z_fr_rf
    | with_reducible assumption
    | with_reducible refine fr_bind (fr_X1_hasCorner _ _ _) (fun k j hkj => by unfold w_X1_hasCorner at hkj; exact hkj.elim) ?_ (fun _ _ => ?_)
    | with_reducible refine fr_bind (fr_X1_cutsAt _ _ _ _) (fun k j hkj => by unfold w_X1_cutsAt at hkj; exact hkj.elim) ?_ (fun _ _ => ?_))
def w_X9_isCornerNow (k j : Nat) : Prop := False
set_option maxHeartbeats 4000000 in
theorem fr_X9_isCornerNow : ∀ (a1 : Int32) (S : zS), zFR w_X9_isCornerNow (f_X9_isCornerNow a1 S) S := by
  intro a1 S
  unfold f_X9_isCornerNow
  repeat' (first
    | with_reducible exact fr_none
    | with_reducible refine fr_if (fun _ => ?_) (fun _ => ?_)
    | with_reducible refine fr_some ?_
    | with_reducible exact z_fr_rf
    | with_reducible assumption
    | with_reducible refine fr_bind (fr_X9_in _ _ _ _) (fun k j hkj => by unfold w_X9_in at hkj; exact hkj.elim) ?_ (fun _ _ => ?_))
def w_X9_endsAt (p0 : Nat) (k j : Nat) : Prop := False
set_option maxHeartbeats 4000000 in
theorem fr_X9_endsAt_5 {p0 : Nat} : ∀ (n : Nat) (v1 : Int32) (v2 : Int32) (v3 : Int32) (v4 : Int32) (S : zS), zFR (w_X9_endsAt p0) (f_X9_endsAt_5 p0 n v1 v2 v3 v4 S) S := by
  intro n
  induction n with
  | zero =>
    intro v1 v2 v3 v4 S r hr
    cases (show (none : Option (Int32 × zS)) = some r from hr)
  | succ n ih =>
    intro v1 v2 v3 v4 S
    rw [f_X9_endsAt_5]
    repeat' (first
    | with_reducible exact fr_none
    | with_reducible refine fr_if (fun _ => ?_) (fun _ => ?_)
    | with_reducible refine fr_some ?_
    | with_reducible exact z_fr_rf
    | with_reducible assumption
    | with_reducible refine fr_bind (fr_X9_has _ _ _) (fun k j hkj => by unfold w_X9_has at hkj; exact hkj.elim) ?_ (fun _ _ => ?_)
    | with_reducible refine fr_go ?_ (ih _ _ _ _ _))
set_option maxHeartbeats 4000000 in
theorem fr_X9_endsAt : ∀ (p0 : Nat) (a1 : Int32) (a2 : Int32) (S : zS), zFR (w_X9_endsAt p0) (f_X9_endsAt p0 a1 a2 S) S := by
  intro p0 a1 a2 S
  unfold f_X9_endsAt
  repeat' (first
    | with_reducible exact fr_none
    | with_reducible refine fr_if (fun _ => ?_) (fun _ => ?_)
    | with_reducible refine fr_some ?_
    | with_reducible exact z_fr_rf
    | with_reducible assumption
    | with_reducible refine fr_bind (fr_X9_has _ _ _) (fun k j hkj => by unfold w_X9_has at hkj; exact hkj.elim) ?_ (fun _ _ => ?_)
    | with_reducible refine fr_go ?_ (fr_X9_endsAt_5 1000 _ _ _ _ _))
def w_X9_corner (k j : Nat) : Prop := (k = 87 ∧ j = 0)
set_option maxHeartbeats 4000000 in
theorem fr_X9_corner : ∀ (a1 : Int32) (a2 : Int32) (S : zS), zFR w_X9_corner (f_X9_corner a1 a2 S) S := by
  intro a1 a2 S
  unfold f_X9_corner
  repeat' (first
    | with_reducible exact fr_none
    | with_reducible refine fr_if (fun _ => ?_) (fun _ => ?_)
    | with_reducible refine fr_some ?_
    | with_reducible refine z_fr_w ?_ (by unfold w_X9_corner; first | (exact ⟨rfl, rfl⟩))
    | with_reducible refine z_fr_u ?_ (by intro j9; unfold w_X9_corner; first | (exact ⟨rfl, rfl⟩))
    | with_reducible exact z_fr_rf
    | with_reducible assumption
    | with_reducible refine fr_bind (fr_X9_isCornerNow _ _) (fun k j hkj => by unfold w_X9_isCornerNow at hkj; exact hkj.elim) ?_ (fun _ _ => ?_)
    | with_reducible refine fr_bind (fr_X9_in _ _ _ _) (fun k j hkj => by unfold w_X9_in at hkj; exact hkj.elim) ?_ (fun _ _ => ?_)
    | with_reducible refine fr_bind (fr_X9_endsAt _ _ _ _) (fun k j hkj => by unfold w_X9_endsAt at hkj; exact hkj.elim) ?_ (fun _ _ => ?_))
def w_X6_turn (p0 : Nat) (k j : Nat) : Prop := k = p0
set_option maxHeartbeats 4000000 in
theorem fr_X6_turn : ∀ (p0 : Nat) (a1 : Int32) (a2 : Int32) (S : zS), zFR (w_X6_turn p0) (f_X6_turn p0 a1 a2 S) S := by
  intro p0 a1 a2 S
  unfold f_X6_turn
  repeat' (first
    | with_reducible exact fr_none
    | with_reducible refine fr_if (fun _ => ?_) (fun _ => ?_)
    | with_reducible refine fr_some ?_
    | with_reducible refine z_fr_w ?_ (by unfold w_X6_turn; first | (exact rfl))
    | with_reducible refine z_fr_u ?_ (by intro j9; unfold w_X6_turn; first | (exact rfl))
    | with_reducible exact z_fr_rf
    | with_reducible assumption)
def w_X6_lay (p0 : Nat) (p1 : Nat) (k j : Nat) : Prop := k = p0 + 1 ∨ k = p0 + 2
set_option maxHeartbeats 4000000 in
theorem fr_X6_lay_18 {p0 : Nat} {p1 : Nat} : ∀ (n : Nat) (v2 : Int32) (v3 : Int32) (S : zS), zFR (w_X6_lay p0 p1) (f_X6_lay_18 p0 p1 n v2 v3 S) S := by
  intro n
  induction n with
  | zero =>
    intro v2 v3 S r hr
    cases (show (none : Option (Unit × zS)) = some r from hr)
  | succ n ih =>
    intro v2 v3 S
    rw [f_X6_lay_18]
    repeat' (first
    | with_reducible exact fr_none
    | with_reducible refine fr_if (fun _ => ?_) (fun _ => ?_)
    | with_reducible refine fr_some ?_
    | with_reducible exact z_fr_rf
    | with_reducible assumption
    | with_reducible refine fr_bind (fr_J7_fill_53178 _ _ _ _) (fun k j hkj => by unfold w_J7_fill_53178 at hkj; unfold w_X6_lay; exact Or.inl hkj) ?_ (fun _ _ => ?_)
    | with_reducible refine fr_bind (fr_J7_fill_53178 _ _ _ _) (fun k j hkj => by unfold w_J7_fill_53178 at hkj; unfold w_X6_lay; exact Or.inr hkj) ?_ (fun _ _ => ?_)
    | with_reducible refine fr_bind (fr_X8_has _ _ _) (fun k j hkj => by unfold w_X8_has at hkj; exact hkj.elim) ?_ (fun _ _ => ?_)
    | with_reducible refine fr_bind (fr_X6_turn _ _ _ _) (fun k j hkj => by unfold w_X6_turn at hkj; unfold w_X6_lay; exact Or.inl hkj) ?_ (fun _ _ => ?_)
    | with_reducible refine fr_go ?_ (ih _ _ _))
set_option maxHeartbeats 4000000 in
theorem fr_X6_lay : ∀ (p0 : Nat) (p1 : Nat) (a2 : Int32) (S : zS), zFR (w_X6_lay p0 p1) (f_X6_lay p0 p1 a2 S) S := by
  intro p0 p1 a2 S
  unfold f_X6_lay
  repeat' (first
    | with_reducible exact fr_none
    | with_reducible refine fr_if (fun _ => ?_) (fun _ => ?_)
    | with_reducible refine fr_some ?_
    | with_reducible exact z_fr_rf
    | with_reducible assumption
    | with_reducible refine fr_bind (fr_J7_fill_53178 _ _ _ _) (fun k j hkj => by unfold w_J7_fill_53178 at hkj; unfold w_X6_lay; exact Or.inl hkj) ?_ (fun _ _ => ?_)
    | with_reducible refine fr_bind (fr_J7_fill_53178 _ _ _ _) (fun k j hkj => by unfold w_J7_fill_53178 at hkj; unfold w_X6_lay; exact Or.inr hkj) ?_ (fun _ _ => ?_)
    | with_reducible refine fr_bind (fr_X8_has _ _ _) (fun k j hkj => by unfold w_X8_has at hkj; exact hkj.elim) ?_ (fun _ _ => ?_)
    | with_reducible refine fr_bind (fr_X6_turn _ _ _ _) (fun k j hkj => by unfold w_X6_turn at hkj; unfold w_X6_lay; exact Or.inl hkj) ?_ (fun _ _ => ?_)
    | with_reducible refine fr_go ?_ (fr_X6_lay_18 1000 _ _ _))
def w_X6_reach (p0 : Nat) (k j : Nat) : Prop := False
set_option maxHeartbeats 4000000 in
theorem fr_X6_reach_26 {p0 : Nat} {K9 : Int32 → Int32 → Int32 → zS → Option (Int32 × zS)} (hK9 : ∀ (v2 : Int32) (v3 : Int32) (v4 : Int32) (S : zS), zFR (w_X6_reach p0) (K9 v2 v3 v4 S) S) : ∀ (n : Nat) (v2 : Int32) (v3 : Int32) (v4 : Int32) (v5 : Int32) (v6 : Int32) (S : zS), zFR (w_X6_reach p0) (f_X6_reach_26 p0 K9 n v2 v3 v4 v5 v6 S) S := by
  intro n
  induction n with
  | zero =>
    intro v2 v3 v4 v5 v6 S r hr
    cases (show (none : Option (Int32 × zS)) = some r from hr)
  | succ n ih =>
    intro v2 v3 v4 v5 v6 S
    rw [f_X6_reach_26]
    repeat' (first
    | with_reducible exact fr_none
    | with_reducible refine fr_if (fun _ => ?_) (fun _ => ?_)
    | with_reducible refine fr_some ?_
    | with_reducible exact z_fr_rf
    | with_reducible assumption
    | with_reducible refine fr_bind (fr_X8_has _ _ _) (fun k j hkj => by unfold w_X8_has at hkj; exact hkj.elim) ?_ (fun _ _ => ?_)
    | with_reducible refine fr_go ?_ (hK9 _ _ _ _)
    | with_reducible refine fr_go ?_ (ih _ _ _ _ _ _))
set_option maxHeartbeats 4000000 in
theorem fr_X6_reach_9 {p0 : Nat} : ∀ (n : Nat) (v2 : Int32) (v3 : Int32) (v4 : Int32) (S : zS), zFR (w_X6_reach p0) (f_X6_reach_9 p0 n v2 v3 v4 S) S := by
  intro n
  induction n with
  | zero =>
    intro v2 v3 v4 S r hr
    cases (show (none : Option (Int32 × zS)) = some r from hr)
  | succ n ih =>
    intro v2 v3 v4 S
    rw [f_X6_reach_9]
    repeat' (first
    | with_reducible exact fr_none
    | with_reducible refine fr_if (fun _ => ?_) (fun _ => ?_)
    | with_reducible refine fr_some ?_
    | with_reducible exact z_fr_rf
    | with_reducible assumption
    | with_reducible refine fr_bind (fr_X8_has _ _ _) (fun k j hkj => by unfold w_X8_has at hkj; exact hkj.elim) ?_ (fun _ _ => ?_)
    | with_reducible refine fr_go ?_ (fr_X6_reach_26 (by first | exact hK9 | exact ih) 1000 _ _ _ _ _ _)
    | with_reducible refine fr_go ?_ (hK9 _ _ _ _)
    | with_reducible refine fr_go ?_ (ih _ _ _ _))
set_option maxHeartbeats 4000000 in
theorem fr_X6_reach : ∀ (p0 : Nat) (a1 : Int32) (S : zS), zFR (w_X6_reach p0) (f_X6_reach p0 a1 S) S := by
  intro p0 a1 S
  unfold f_X6_reach
  repeat' (first
    | with_reducible exact fr_none
    | with_reducible refine fr_if (fun _ => ?_) (fun _ => ?_)
    | with_reducible refine fr_some ?_
    | with_reducible exact z_fr_rf
    | with_reducible assumption
    | with_reducible refine fr_bind (fr_X8_has _ _ _) (fun k j hkj => by unfold w_X8_has at hkj; exact hkj.elim) ?_ (fun _ _ => ?_)
    | with_reducible refine fr_go ?_ (fr_X6_reach_26 (by first | exact hK9 | exact ih) 1000 _ _ _ _ _ _)
    | with_reducible refine fr_go ?_ (fr_X6_reach_9 1000 _ _ _ _)
    | with_reducible refine fr_go ?_ (hK9 _ _ _ _))
def w_X4_cutsAmong (p0 : Nat) (k j : Nat) : Prop := False
set_option maxHeartbeats 4000000 in
theorem fr_X4_cutsAmong_5 {p0 : Nat} : ∀ (n : Nat) (v1 : Int32) (v2 : Int32) (v3 : Int32) (v4 : Int32) (S : zS), zFR (w_X4_cutsAmong p0) (f_X4_cutsAmong_5 p0 n v1 v2 v3 v4 S) S := by
  intro n
  induction n with
  | zero =>
    intro v1 v2 v3 v4 S r hr
    cases (show (none : Option (Int32 × zS)) = some r from hr)
  | succ n ih =>
    intro v1 v2 v3 v4 S
    rw [f_X4_cutsAmong_5]
    repeat' (first
    | with_reducible exact fr_none
    | with_reducible refine fr_if (fun _ => ?_) (fun _ => ?_)
    | with_reducible refine fr_some ?_
    | with_reducible exact z_fr_rf
    | with_reducible assumption
    | with_reducible refine fr_bind (fr_X8_has _ _ _) (fun k j hkj => by unfold w_X8_has at hkj; exact hkj.elim) ?_ (fun _ _ => ?_)
    | with_reducible refine fr_go ?_ (ih _ _ _ _ _))
set_option maxHeartbeats 4000000 in
theorem fr_X4_cutsAmong : ∀ (p0 : Nat) (a1 : Int32) (a2 : Int32) (S : zS), zFR (w_X4_cutsAmong p0) (f_X4_cutsAmong p0 a1 a2 S) S := by
  intro p0 a1 a2 S
  unfold f_X4_cutsAmong
  repeat' (first
    | with_reducible exact fr_none
    | with_reducible refine fr_if (fun _ => ?_) (fun _ => ?_)
    | with_reducible refine fr_some ?_
    | with_reducible exact z_fr_rf
    | with_reducible assumption
    | with_reducible refine fr_bind (fr_X8_has _ _ _) (fun k j hkj => by unfold w_X8_has at hkj; exact hkj.elim) ?_ (fun _ _ => ?_)
    | with_reducible refine fr_go ?_ (fr_X4_cutsAmong_5 1000 _ _ _ _ _))
def w_J6_bitCount_0f7a4 (k j : Nat) : Prop := False
set_option maxHeartbeats 4000000 in
theorem fr_J6_bitCount_0f7a4 : ∀ (a0 : Int32) (S : zS), zFR w_J6_bitCount_0f7a4 (f_J6_bitCount_0f7a4 a0 S) S := by
  intro a0 S
  unfold f_J6_bitCount_0f7a4
  repeat' (first
    | with_reducible exact fr_none
    | with_reducible refine fr_if (fun _ => ?_) (fun _ => ?_)
    | with_reducible refine fr_some ?_
    | with_reducible exact z_fr_rf
    | with_reducible assumption)
def w_X4_oddAmong (k j : Nat) : Prop := False
set_option maxHeartbeats 4000000 in
theorem fr_X4_oddAmong_4 : ∀ (n : Nat) (v1 : Int32) (v2 : Int32) (v3 : Int32) (S : zS), zFR w_X4_oddAmong (f_X4_oddAmong_4 n v1 v2 v3 S) S := by
  intro n
  induction n with
  | zero =>
    intro v1 v2 v3 S r hr
    cases (show (none : Option (Int32 × zS)) = some r from hr)
  | succ n ih =>
    intro v1 v2 v3 S
    rw [f_X4_oddAmong_4]
    repeat' (first
    | with_reducible exact fr_none
    | with_reducible refine fr_if (fun _ => ?_) (fun _ => ?_)
    | with_reducible refine fr_some ?_
    | with_reducible exact z_fr_rf
    | with_reducible assumption
    | with_reducible refine fr_bind (fr_X8_has _ _ _) (fun k j hkj => by unfold w_X8_has at hkj; exact hkj.elim) ?_ (fun _ _ => ?_)
    | with_reducible refine fr_bind (fr_J6_bitCount_0f7a4 _ _) (fun k j hkj => by unfold w_J6_bitCount_0f7a4 at hkj; exact hkj.elim) ?_ (fun _ _ => ?_)
    | with_reducible refine fr_go ?_ (ih _ _ _ _))
set_option maxHeartbeats 4000000 in
theorem fr_X4_oddAmong : ∀ (a1 : Int32) (S : zS), zFR w_X4_oddAmong (f_X4_oddAmong a1 S) S := by
  intro a1 S
  unfold f_X4_oddAmong
  repeat' (first
    | with_reducible exact fr_none
    | with_reducible refine fr_if (fun _ => ?_) (fun _ => ?_)
    | with_reducible refine fr_some ?_
    | with_reducible exact z_fr_rf
    | with_reducible assumption
    | with_reducible refine fr_bind (fr_X8_has _ _ _) (fun k j hkj => by unfold w_X8_has at hkj; exact hkj.elim) ?_ (fun _ _ => ?_)
    | with_reducible refine fr_bind (fr_J6_bitCount_0f7a4 _ _) (fun k j hkj => by unfold w_J6_bitCount_0f7a4 at hkj; exact hkj.elim) ?_ (fun _ _ => ?_)
    | with_reducible refine fr_go ?_ (fr_X4_oddAmong_4 1000 _ _ _ _))
def w_X4_findPieces (p1 : Nat) (p2 : Nat) (k j : Nat) : Prop := (k = 57 ∧ j = 1) ∨ k = 58 ∨ k = 59 ∨ k = 60 ∨ k = 61 ∨ k = 67 ∨ k = 68
set_option maxHeartbeats 4000000 in
theorem fr_X4_findPieces_194 {p1 : Nat} {p2 : Nat} {K22 : Int32 → Int32 → zS → Option (Unit × zS)} (hK22 : ∀ (v3 : Int32) (v4 : Int32) (S : zS), zFR (w_X4_findPieces p1 p2) (K22 v3 v4 S) S) : ∀ (v3 : Int32) (v4 : Int32) (t0 : Int32) (t1 : Int32) (S : zS), zFR (w_X4_findPieces p1 p2) (f_X4_findPieces_194 p1 p2 K22 v3 v4 t0 t1 S) S := by
  intro v3 v4 t0 t1 S
  unfold f_X4_findPieces_194
  repeat' (first
    | with_reducible exact fr_none
    | with_reducible refine fr_if (fun _ => ?_) (fun _ => ?_)
    | with_reducible refine fr_some ?_
    | with_reducible refine z_fr_w ?_ (by unfold w_X4_findPieces; first | (exact Or.inl ⟨rfl, rfl⟩) | (exact Or.inr (Or.inr (Or.inl rfl))) | (exact Or.inr (Or.inl rfl)) | (exact Or.inr (Or.inr (Or.inr (Or.inl rfl)))) | (exact Or.inr (Or.inr (Or.inr (Or.inr (Or.inl rfl))))))
    | with_reducible refine z_fr_u ?_ (by intro j9; unfold w_X4_findPieces; first | (exact Or.inl ⟨rfl, rfl⟩) | (exact Or.inr (Or.inr (Or.inl rfl))) | (exact Or.inr (Or.inl rfl)) | (exact Or.inr (Or.inr (Or.inr (Or.inl rfl)))) | (exact Or.inr (Or.inr (Or.inr (Or.inr (Or.inl rfl))))))
    | with_reducible exact z_fr_rf
    | with_reducible assumption
    | with_reducible refine fr_bind (fr_X6_lay _ _ _ _) (fun k j hkj => by unfold w_X6_lay at hkj; unfold w_X4_findPieces; rcases hkj with hkj | hkj; (exact Or.inr (Or.inr (Or.inr (Or.inr (Or.inr (Or.inl hkj)))))); (exact Or.inr (Or.inr (Or.inr (Or.inr (Or.inr (Or.inr hkj))))))) ?_ (fun _ _ => ?_)
    | with_reducible refine fr_bind (fr_X8_has _ _ _) (fun k j hkj => by unfold w_X8_has at hkj; exact hkj.elim) ?_ (fun _ _ => ?_)
    | with_reducible refine fr_bind (fr_X6_reach _ _ _) (fun k j hkj => by unfold w_X6_reach at hkj; exact hkj.elim) ?_ (fun _ _ => ?_)
    | with_reducible refine fr_bind (fr_X4_cutsAmong _ _ _ _) (fun k j hkj => by unfold w_X4_cutsAmong at hkj; exact hkj.elim) ?_ (fun _ _ => ?_)
    | with_reducible refine fr_bind (fr_X4_oddAmong _ _) (fun k j hkj => by unfold w_X4_oddAmong at hkj; exact hkj.elim) ?_ (fun _ _ => ?_)
    | with_reducible refine fr_go ?_ (hK22 _ _ _))
set_option maxHeartbeats 4000000 in
theorem fr_X4_findPieces_170 {p1 : Nat} {p2 : Nat} {K22 : Int32 → Int32 → zS → Option (Unit × zS)} (hK22 : ∀ (v3 : Int32) (v4 : Int32) (S : zS), zFR (w_X4_findPieces p1 p2) (K22 v3 v4 S) S) : ∀ (v3 : Int32) (v4 : Int32) (t0 : Int32) (S : zS), zFR (w_X4_findPieces p1 p2) (f_X4_findPieces_170 p1 p2 K22 v3 v4 t0 S) S := by
  intro v3 v4 t0 S
  unfold f_X4_findPieces_170
  repeat' (first
    | with_reducible exact fr_none
    | with_reducible refine fr_if (fun _ => ?_) (fun _ => ?_)
    | with_reducible refine fr_some ?_
    | with_reducible refine z_fr_w ?_ (by unfold w_X4_findPieces; first | (exact Or.inl ⟨rfl, rfl⟩) | (exact Or.inr (Or.inr (Or.inl rfl))) | (exact Or.inr (Or.inl rfl)) | (exact Or.inr (Or.inr (Or.inr (Or.inl rfl)))) | (exact Or.inr (Or.inr (Or.inr (Or.inr (Or.inl rfl))))))
    | with_reducible refine z_fr_u ?_ (by intro j9; unfold w_X4_findPieces; first | (exact Or.inl ⟨rfl, rfl⟩) | (exact Or.inr (Or.inr (Or.inl rfl))) | (exact Or.inr (Or.inl rfl)) | (exact Or.inr (Or.inr (Or.inr (Or.inl rfl)))) | (exact Or.inr (Or.inr (Or.inr (Or.inr (Or.inl rfl))))))
    | with_reducible exact z_fr_rf
    | with_reducible assumption
    | with_reducible refine fr_bind (fr_X6_lay _ _ _ _) (fun k j hkj => by unfold w_X6_lay at hkj; unfold w_X4_findPieces; rcases hkj with hkj | hkj; (exact Or.inr (Or.inr (Or.inr (Or.inr (Or.inr (Or.inl hkj)))))); (exact Or.inr (Or.inr (Or.inr (Or.inr (Or.inr (Or.inr hkj))))))) ?_ (fun _ _ => ?_)
    | with_reducible refine fr_bind (fr_X8_has _ _ _) (fun k j hkj => by unfold w_X8_has at hkj; exact hkj.elim) ?_ (fun _ _ => ?_)
    | with_reducible refine fr_bind (fr_X6_reach _ _ _) (fun k j hkj => by unfold w_X6_reach at hkj; exact hkj.elim) ?_ (fun _ _ => ?_)
    | with_reducible refine fr_bind (fr_X4_cutsAmong _ _ _ _) (fun k j hkj => by unfold w_X4_cutsAmong at hkj; exact hkj.elim) ?_ (fun _ _ => ?_)
    | with_reducible refine fr_bind (fr_X4_oddAmong _ _) (fun k j hkj => by unfold w_X4_oddAmong at hkj; exact hkj.elim) ?_ (fun _ _ => ?_)
    | with_reducible refine fr_go ?_ (fr_X4_findPieces_194 (by first | exact hK22 | exact ih) _ _ _ _ _)
    | with_reducible refine fr_go ?_ (hK22 _ _ _))
set_option maxHeartbeats 4000000 in
theorem fr_X4_findPieces_22 {p1 : Nat} {p2 : Nat} : ∀ (n : Nat) (v3 : Int32) (v4 : Int32) (S : zS), zFR (w_X4_findPieces p1 p2) (f_X4_findPieces_22 p1 p2 n v3 v4 S) S := by
  intro n
  induction n with
  | zero =>
    intro v3 v4 S r hr
    cases (show (none : Option (Unit × zS)) = some r from hr)
  | succ n ih =>
    intro v3 v4 S
    rw [f_X4_findPieces_22]
    repeat' (first
    | with_reducible exact fr_none
    | with_reducible refine fr_if (fun _ => ?_) (fun _ => ?_)
    | with_reducible refine fr_some ?_
    | with_reducible refine z_fr_w ?_ (by unfold w_X4_findPieces; first | (exact Or.inl ⟨rfl, rfl⟩) | (exact Or.inr (Or.inr (Or.inl rfl))) | (exact Or.inr (Or.inl rfl)) | (exact Or.inr (Or.inr (Or.inr (Or.inl rfl)))) | (exact Or.inr (Or.inr (Or.inr (Or.inr (Or.inl rfl))))))
    | with_reducible refine z_fr_u ?_ (by intro j9; unfold w_X4_findPieces; first | (exact Or.inl ⟨rfl, rfl⟩) | (exact Or.inr (Or.inr (Or.inl rfl))) | (exact Or.inr (Or.inl rfl)) | (exact Or.inr (Or.inr (Or.inr (Or.inl rfl)))) | (exact Or.inr (Or.inr (Or.inr (Or.inr (Or.inl rfl))))))
    | with_reducible exact z_fr_rf
    | with_reducible assumption
    | with_reducible refine fr_bind (fr_X6_lay _ _ _ _) (fun k j hkj => by unfold w_X6_lay at hkj; unfold w_X4_findPieces; rcases hkj with hkj | hkj; (exact Or.inr (Or.inr (Or.inr (Or.inr (Or.inr (Or.inl hkj)))))); (exact Or.inr (Or.inr (Or.inr (Or.inr (Or.inr (Or.inr hkj))))))) ?_ (fun _ _ => ?_)
    | with_reducible refine fr_bind (fr_X8_has _ _ _) (fun k j hkj => by unfold w_X8_has at hkj; exact hkj.elim) ?_ (fun _ _ => ?_)
    | with_reducible refine fr_bind (fr_X6_reach _ _ _) (fun k j hkj => by unfold w_X6_reach at hkj; exact hkj.elim) ?_ (fun _ _ => ?_)
    | with_reducible refine fr_bind (fr_X4_cutsAmong _ _ _ _) (fun k j hkj => by unfold w_X4_cutsAmong at hkj; exact hkj.elim) ?_ (fun _ _ => ?_)
    | with_reducible refine fr_bind (fr_X4_oddAmong _ _) (fun k j hkj => by unfold w_X4_oddAmong at hkj; exact hkj.elim) ?_ (fun _ _ => ?_)
    | with_reducible refine fr_go ?_ (fr_X4_findPieces_194 (by first | exact hK22 | exact ih) _ _ _ _ _)
    | with_reducible refine fr_go ?_ (fr_X4_findPieces_170 (by first | exact hK22 | exact ih) _ _ _ _)
    | with_reducible refine fr_go ?_ (hK22 _ _ _)
    | with_reducible refine fr_go ?_ (ih _ _ _))
set_option maxHeartbeats 4000000 in
theorem fr_X4_findPieces : ∀ (p1 : Nat) (p2 : Nat) (S : zS), zFR (w_X4_findPieces p1 p2) (f_X4_findPieces p1 p2 S) S := by
  intro p1 p2 S
  unfold f_X4_findPieces
  repeat' (first
    | with_reducible exact fr_none
    | with_reducible refine fr_if (fun _ => ?_) (fun _ => ?_)
    | with_reducible refine fr_some ?_
    | with_reducible refine z_fr_w ?_ (by unfold w_X4_findPieces; first | (exact Or.inl ⟨rfl, rfl⟩) | (exact Or.inr (Or.inr (Or.inl rfl))) | (exact Or.inr (Or.inl rfl)) | (exact Or.inr (Or.inr (Or.inr (Or.inl rfl)))) | (exact Or.inr (Or.inr (Or.inr (Or.inr (Or.inl rfl))))))
    | with_reducible refine z_fr_u ?_ (by intro j9; unfold w_X4_findPieces; first | (exact Or.inl ⟨rfl, rfl⟩) | (exact Or.inr (Or.inr (Or.inl rfl))) | (exact Or.inr (Or.inl rfl)) | (exact Or.inr (Or.inr (Or.inr (Or.inl rfl)))) | (exact Or.inr (Or.inr (Or.inr (Or.inr (Or.inl rfl))))))
    | with_reducible exact z_fr_rf
    | with_reducible assumption
    | with_reducible refine fr_bind (fr_X6_lay _ _ _ _) (fun k j hkj => by unfold w_X6_lay at hkj; unfold w_X4_findPieces; rcases hkj with hkj | hkj; (exact Or.inr (Or.inr (Or.inr (Or.inr (Or.inr (Or.inl hkj)))))); (exact Or.inr (Or.inr (Or.inr (Or.inr (Or.inr (Or.inr hkj))))))) ?_ (fun _ _ => ?_)
    | with_reducible refine fr_bind (fr_X8_has _ _ _) (fun k j hkj => by unfold w_X8_has at hkj; exact hkj.elim) ?_ (fun _ _ => ?_)
    | with_reducible refine fr_bind (fr_X6_reach _ _ _) (fun k j hkj => by unfold w_X6_reach at hkj; exact hkj.elim) ?_ (fun _ _ => ?_)
    | with_reducible refine fr_bind (fr_X4_cutsAmong _ _ _ _) (fun k j hkj => by unfold w_X4_cutsAmong at hkj; exact hkj.elim) ?_ (fun _ _ => ?_)
    | with_reducible refine fr_bind (fr_X4_oddAmong _ _) (fun k j hkj => by unfold w_X4_oddAmong at hkj; exact hkj.elim) ?_ (fun _ _ => ?_)
    | with_reducible refine fr_go ?_ (fr_X4_findPieces_194 (by first | exact hK22 | exact ih) _ _ _ _ _)
    | with_reducible refine fr_go ?_ (fr_X4_findPieces_170 (by first | exact hK22 | exact ih) _ _ _ _)
    | with_reducible refine fr_go ?_ (fr_X4_findPieces_22 1000 _ _ _)
    | with_reducible refine fr_go ?_ (hK22 _ _ _))
def w_J6_numberOfTrailingZeros_0f7a4 (k j : Nat) : Prop := False
set_option maxHeartbeats 4000000 in
theorem fr_J6_numberOfTrailingZeros_0f7a4_62 : ∀ (v0 : Int32) (v1 : Int32) (S : zS), zFR w_J6_numberOfTrailingZeros_0f7a4 (f_J6_numberOfTrailingZeros_0f7a4_62 v0 v1 S) S := by
  intro v0 v1 S
  unfold f_J6_numberOfTrailingZeros_0f7a4_62
  repeat' (first
    | with_reducible exact fr_none
    | with_reducible refine fr_if (fun _ => ?_) (fun _ => ?_)
    | with_reducible refine fr_some ?_
    | with_reducible exact z_fr_rf
    | with_reducible assumption)
set_option maxHeartbeats 4000000 in
theorem fr_J6_numberOfTrailingZeros_0f7a4_49 : ∀ (v0 : Int32) (v1 : Int32) (S : zS), zFR w_J6_numberOfTrailingZeros_0f7a4 (f_J6_numberOfTrailingZeros_0f7a4_49 v0 v1 S) S := by
  intro v0 v1 S
  unfold f_J6_numberOfTrailingZeros_0f7a4_49
  repeat' (first
    | with_reducible exact fr_none
    | with_reducible refine fr_if (fun _ => ?_) (fun _ => ?_)
    | with_reducible refine fr_some ?_
    | with_reducible exact z_fr_rf
    | with_reducible assumption
    | with_reducible refine fr_go ?_ (fr_J6_numberOfTrailingZeros_0f7a4_62 _ _ _))
set_option maxHeartbeats 4000000 in
theorem fr_J6_numberOfTrailingZeros_0f7a4_34 : ∀ (v0 : Int32) (v1 : Int32) (S : zS), zFR w_J6_numberOfTrailingZeros_0f7a4 (f_J6_numberOfTrailingZeros_0f7a4_34 v0 v1 S) S := by
  intro v0 v1 S
  unfold f_J6_numberOfTrailingZeros_0f7a4_34
  repeat' (first
    | with_reducible exact fr_none
    | with_reducible refine fr_if (fun _ => ?_) (fun _ => ?_)
    | with_reducible refine fr_some ?_
    | with_reducible exact z_fr_rf
    | with_reducible assumption
    | with_reducible refine fr_go ?_ (fr_J6_numberOfTrailingZeros_0f7a4_62 _ _ _)
    | with_reducible refine fr_go ?_ (fr_J6_numberOfTrailingZeros_0f7a4_49 _ _ _))
set_option maxHeartbeats 4000000 in
theorem fr_J6_numberOfTrailingZeros_0f7a4 : ∀ (a0 : Int32) (S : zS), zFR w_J6_numberOfTrailingZeros_0f7a4 (f_J6_numberOfTrailingZeros_0f7a4 a0 S) S := by
  intro a0 S
  unfold f_J6_numberOfTrailingZeros_0f7a4
  repeat' (first
    | with_reducible exact fr_none
    | with_reducible refine fr_if (fun _ => ?_) (fun _ => ?_)
    | with_reducible refine fr_some ?_
    | with_reducible exact z_fr_rf
    | with_reducible assumption
    | with_reducible refine fr_go ?_ (fr_J6_numberOfTrailingZeros_0f7a4_62 _ _ _)
    | with_reducible refine fr_go ?_ (fr_J6_numberOfTrailingZeros_0f7a4_49 _ _ _)
    | with_reducible refine fr_go ?_ (fr_J6_numberOfTrailingZeros_0f7a4_34 _ _ _))
def w_X1_way (p0 : Nat) (k j : Nat) : Prop := False
set_option maxHeartbeats 4000000 in
theorem fr_X1_way : ∀ (p0 : Nat) (a1 : Int32) (a2 : Int32) (S : zS), zFR (w_X1_way p0) (f_X1_way p0 a1 a2 S) S := by
  intro p0 a1 a2 S
  unfold f_X1_way
  repeat' (first
    | with_reducible exact fr_none
    | with_reducible refine fr_if (fun _ => ?_) (fun _ => ?_)
    | with_reducible refine fr_some ?_
    | with_reducible exact z_fr_rf
    | with_reducible assumption
    | with_reducible refine fr_bind (fr_X1_hasCorner _ _ _) (fun k j hkj => by unfold w_X1_hasCorner at hkj; exact hkj.elim) ?_ (fun _ _ => ?_))
def w_X4_leastPairs (p0 : Nat) (k j : Nat) : Prop := False
set_option maxHeartbeats 4000000 in
theorem fr_X4_leastPairs_32 {p0 : Nat} {RR : Nat → Int32 → Int32 → zS → Option (Int32 × zS)} (hR : ∀ (p0 : Nat) (a1 : Int32) (a2 : Int32) (S : zS), zFR (w_X4_leastPairs p0) (RR p0 a1 a2 S) S) : ∀ (n : Nat) (v2 : Int32) (v3 : Int32) (v4 : Int32) (v5 : Int32) (v6 : Int32) (S : zS), zFR (w_X4_leastPairs p0) (f_X4_leastPairs_32 p0 RR n v2 v3 v4 v5 v6 S) S := by
  intro n
  induction n with
  | zero =>
    intro v2 v3 v4 v5 v6 S r hr
    cases (show (none : Option (Int32 × zS)) = some r from hr)
  | succ n ih =>
    intro v2 v3 v4 v5 v6 S
    rw [f_X4_leastPairs_32]
    repeat' (first
    | with_reducible exact fr_none
    | with_reducible refine fr_if (fun _ => ?_) (fun _ => ?_)
    | with_reducible refine fr_some ?_
    | with_reducible exact z_fr_rf
    | with_reducible assumption
    | with_reducible refine fr_bind (fr_J6_numberOfTrailingZeros_0f7a4 _ _) (fun k j hkj => by unfold w_J6_numberOfTrailingZeros_0f7a4 at hkj; exact hkj.elim) ?_ (fun _ _ => ?_)
    | with_reducible refine fr_bind (fr_X8_has _ _ _) (fun k j hkj => by unfold w_X8_has at hkj; exact hkj.elim) ?_ (fun _ _ => ?_)
    | with_reducible refine fr_bind (fr_X1_way _ _ _ _) (fun k j hkj => by unfold w_X1_way at hkj; exact hkj.elim) ?_ (fun _ _ => ?_)
    | with_reducible refine fr_bind (hR _ _ _ _) (fun k j hkj => hkj) ?_ (fun _ _ => ?_)
    | with_reducible refine fr_go ?_ (ih _ _ _ _ _ _))
set_option maxHeartbeats 4000000 in
theorem fr_X4_leastPairs_b {RR : Nat → Int32 → Int32 → zS → Option (Int32 × zS)} (hR : ∀ (p0 : Nat) (a1 : Int32) (a2 : Int32) (S : zS), zFR (w_X4_leastPairs p0) (RR p0 a1 a2 S) S) : ∀ (p0 : Nat) (a1 : Int32) (a2 : Int32) (S : zS), zFR (w_X4_leastPairs p0) (f_X4_leastPairs_b RR p0 a1 a2 S) S := by
  intro p0 a1 a2 S
  unfold f_X4_leastPairs_b
  repeat' (first
    | with_reducible exact fr_none
    | with_reducible refine fr_if (fun _ => ?_) (fun _ => ?_)
    | with_reducible refine fr_some ?_
    | with_reducible exact z_fr_rf
    | with_reducible assumption
    | with_reducible refine fr_bind (fr_J6_numberOfTrailingZeros_0f7a4 _ _) (fun k j hkj => by unfold w_J6_numberOfTrailingZeros_0f7a4 at hkj; exact hkj.elim) ?_ (fun _ _ => ?_)
    | with_reducible refine fr_bind (fr_X8_has _ _ _) (fun k j hkj => by unfold w_X8_has at hkj; exact hkj.elim) ?_ (fun _ _ => ?_)
    | with_reducible refine fr_bind (fr_X1_way _ _ _ _) (fun k j hkj => by unfold w_X1_way at hkj; exact hkj.elim) ?_ (fun _ _ => ?_)
    | with_reducible refine fr_bind (hR _ _ _ _) (fun k j hkj => hkj) ?_ (fun _ _ => ?_)
    | with_reducible refine fr_go ?_ (fr_X4_leastPairs_32 hR 1000 _ _ _ _ _ _))
theorem fr_X4_leastPairs : ∀ (n : Nat) (p0 : Nat) (a1 : Int32) (a2 : Int32) (S : zS), zFR (w_X4_leastPairs p0) (f_X4_leastPairs n p0 a1 a2 S) S
  | 0, p0, a1, a2, S => fun r hr => by cases (show (none : Option (Int32 × zS)) = some r from hr)
  | n + 1, p0, a1, a2, S => fr_X4_leastPairs_b (fun p0 a1 a2 S => fr_X4_leastPairs n p0 a1 a2 S) p0 a1 a2 S
def w_X4_pairUp (p1 : Nat) (k j : Nat) : Prop := k = 64
set_option maxHeartbeats 4000000 in
theorem fr_X4_pairUp_41 {p1 : Nat} {K9 : Int32 → Int32 → Int32 → zS → Option (Unit × zS)} (hK9 : ∀ (v4 : Int32) (v5 : Int32) (v6 : Int32) (S : zS), zFR (w_X4_pairUp p1) (K9 v4 v5 v6 S) S) : ∀ (n : Nat) (v4 : Int32) (v5 : Int32) (v6 : Int32) (v7 : Int32) (v8 : Int32) (v9 : Int32) (S : zS), zFR (w_X4_pairUp p1) (f_X4_pairUp_41 p1 K9 n v4 v5 v6 v7 v8 v9 S) S := by
  intro n
  induction n with
  | zero =>
    intro v4 v5 v6 v7 v8 v9 S r hr
    cases (show (none : Option (Unit × zS)) = some r from hr)
  | succ n ih =>
    intro v4 v5 v6 v7 v8 v9 S
    rw [f_X4_pairUp_41]
    repeat' (first
    | with_reducible exact fr_none
    | with_reducible refine fr_if (fun _ => ?_) (fun _ => ?_)
    | with_reducible refine fr_some ?_
    | with_reducible refine z_fr_w ?_ (by unfold w_X4_pairUp; first | (exact rfl))
    | with_reducible refine z_fr_u ?_ (by intro j9; unfold w_X4_pairUp; first | (exact rfl))
    | with_reducible exact z_fr_rf
    | with_reducible assumption
    | with_reducible refine fr_bind (fr_J6_numberOfTrailingZeros_0f7a4 _ _) (fun k j hkj => by unfold w_J6_numberOfTrailingZeros_0f7a4 at hkj; exact hkj.elim) ?_ (fun _ _ => ?_)
    | with_reducible refine fr_bind (fr_X8_has _ _ _) (fun k j hkj => by unfold w_X8_has at hkj; exact hkj.elim) ?_ (fun _ _ => ?_)
    | with_reducible refine fr_bind (fr_X1_way _ _ _ _) (fun k j hkj => by unfold w_X1_way at hkj; exact hkj.elim) ?_ (fun _ _ => ?_)
    | with_reducible refine fr_bind (fr_X4_leastPairs 6 _ _ _ _) (fun k j hkj => by unfold w_X4_leastPairs at hkj; exact hkj.elim) ?_ (fun _ _ => ?_)
    | with_reducible refine fr_go ?_ (hK9 _ _ _ _)
    | with_reducible refine fr_go ?_ (ih _ _ _ _ _ _ _))
set_option maxHeartbeats 4000000 in
theorem fr_X4_pairUp_9 {p1 : Nat} : ∀ (n : Nat) (v4 : Int32) (v5 : Int32) (v6 : Int32) (S : zS), zFR (w_X4_pairUp p1) (f_X4_pairUp_9 p1 n v4 v5 v6 S) S := by
  intro n
  induction n with
  | zero =>
    intro v4 v5 v6 S r hr
    cases (show (none : Option (Unit × zS)) = some r from hr)
  | succ n ih =>
    intro v4 v5 v6 S
    rw [f_X4_pairUp_9]
    repeat' (first
    | with_reducible exact fr_none
    | with_reducible refine fr_if (fun _ => ?_) (fun _ => ?_)
    | with_reducible refine fr_some ?_
    | with_reducible refine z_fr_w ?_ (by unfold w_X4_pairUp; first | (exact rfl))
    | with_reducible refine z_fr_u ?_ (by intro j9; unfold w_X4_pairUp; first | (exact rfl))
    | with_reducible exact z_fr_rf
    | with_reducible assumption
    | with_reducible refine fr_bind (fr_J6_numberOfTrailingZeros_0f7a4 _ _) (fun k j hkj => by unfold w_J6_numberOfTrailingZeros_0f7a4 at hkj; exact hkj.elim) ?_ (fun _ _ => ?_)
    | with_reducible refine fr_bind (fr_X8_has _ _ _) (fun k j hkj => by unfold w_X8_has at hkj; exact hkj.elim) ?_ (fun _ _ => ?_)
    | with_reducible refine fr_bind (fr_X1_way _ _ _ _) (fun k j hkj => by unfold w_X1_way at hkj; exact hkj.elim) ?_ (fun _ _ => ?_)
    | with_reducible refine fr_bind (fr_X4_leastPairs 6 _ _ _ _) (fun k j hkj => by unfold w_X4_leastPairs at hkj; exact hkj.elim) ?_ (fun _ _ => ?_)
    | with_reducible refine fr_go ?_ (fr_X4_pairUp_41 (by first | exact hK9 | exact ih) 1000 _ _ _ _ _ _ _)
    | with_reducible refine fr_go ?_ (hK9 _ _ _ _)
    | with_reducible refine fr_go ?_ (ih _ _ _ _))
set_option maxHeartbeats 4000000 in
theorem fr_X4_pairUp : ∀ (p1 : Nat) (a2 : Int32) (a3 : Int32) (S : zS), zFR (w_X4_pairUp p1) (f_X4_pairUp p1 a2 a3 S) S := by
  intro p1 a2 a3 S
  unfold f_X4_pairUp
  repeat' (first
    | with_reducible exact fr_none
    | with_reducible refine fr_if (fun _ => ?_) (fun _ => ?_)
    | with_reducible refine fr_some ?_
    | with_reducible refine z_fr_w ?_ (by unfold w_X4_pairUp; first | (exact rfl))
    | with_reducible refine z_fr_u ?_ (by intro j9; unfold w_X4_pairUp; first | (exact rfl))
    | with_reducible exact z_fr_rf
    | with_reducible assumption
    | with_reducible refine fr_bind (fr_J6_numberOfTrailingZeros_0f7a4 _ _) (fun k j hkj => by unfold w_J6_numberOfTrailingZeros_0f7a4 at hkj; exact hkj.elim) ?_ (fun _ _ => ?_)
    | with_reducible refine fr_bind (fr_X8_has _ _ _) (fun k j hkj => by unfold w_X8_has at hkj; exact hkj.elim) ?_ (fun _ _ => ?_)
    | with_reducible refine fr_bind (fr_X1_way _ _ _ _) (fun k j hkj => by unfold w_X1_way at hkj; exact hkj.elim) ?_ (fun _ _ => ?_)
    | with_reducible refine fr_bind (fr_X4_leastPairs 6 _ _ _ _) (fun k j hkj => by unfold w_X4_leastPairs at hkj; exact hkj.elim) ?_ (fun _ _ => ?_)
    | with_reducible refine fr_go ?_ (fr_X4_pairUp_41 (by first | exact hK9 | exact ih) 1000 _ _ _ _ _ _ _)
    | with_reducible refine fr_go ?_ (fr_X4_pairUp_9 1000 _ _ _ _)
    | with_reducible refine fr_go ?_ (hK9 _ _ _ _))
def w_X4_partsIn (p1 : Nat) (k j : Nat) : Prop := False
set_option maxHeartbeats 4000000 in
theorem fr_X4_partsIn_5 {p1 : Nat} : ∀ (n : Nat) (v2 : Int32) (v3 : Int32) (v4 : Int32) (S : zS), zFR (w_X4_partsIn p1) (f_X4_partsIn_5 p1 n v2 v3 v4 S) S := by
  intro n
  induction n with
  | zero =>
    intro v2 v3 v4 S r hr
    cases (show (none : Option (Int32 × zS)) = some r from hr)
  | succ n ih =>
    intro v2 v3 v4 S
    rw [f_X4_partsIn_5]
    repeat' (first
    | with_reducible exact fr_none
    | with_reducible refine fr_if (fun _ => ?_) (fun _ => ?_)
    | with_reducible refine fr_some ?_
    | with_reducible exact z_fr_rf
    | with_reducible assumption
    | with_reducible refine fr_go ?_ (ih _ _ _ _))
set_option maxHeartbeats 4000000 in
theorem fr_X4_partsIn : ∀ (p1 : Nat) (a2 : Int32) (S : zS), zFR (w_X4_partsIn p1) (f_X4_partsIn p1 a2 S) S := by
  intro p1 a2 S
  unfold f_X4_partsIn
  repeat' (first
    | with_reducible exact fr_none
    | with_reducible refine fr_if (fun _ => ?_) (fun _ => ?_)
    | with_reducible refine fr_some ?_
    | with_reducible exact z_fr_rf
    | with_reducible assumption
    | with_reducible refine fr_go ?_ (fr_X4_partsIn_5 1000 _ _ _ _))
def w_X4_isAnyWithin (p0 : Nat) (k j : Nat) : Prop := False
set_option maxHeartbeats 4000000 in
theorem fr_X4_isAnyWithin_2 {p0 : Nat} : ∀ (n : Nat) (v1 : Int32) (v2 : Int32) (v3 : Int32) (S : zS), zFR (w_X4_isAnyWithin p0) (f_X4_isAnyWithin_2 p0 n v1 v2 v3 S) S := by
  intro n
  induction n with
  | zero =>
    intro v1 v2 v3 S r hr
    cases (show (none : Option (Int32 × zS)) = some r from hr)
  | succ n ih =>
    intro v1 v2 v3 S
    rw [f_X4_isAnyWithin_2]
    repeat' (first
    | with_reducible exact fr_none
    | with_reducible refine fr_if (fun _ => ?_) (fun _ => ?_)
    | with_reducible refine fr_some ?_
    | with_reducible exact z_fr_rf
    | with_reducible assumption
    | with_reducible refine fr_bind (fr_X8_has _ _ _) (fun k j hkj => by unfold w_X8_has at hkj; exact hkj.elim) ?_ (fun _ _ => ?_)
    | with_reducible refine fr_go ?_ (ih _ _ _ _))
set_option maxHeartbeats 4000000 in
theorem fr_X4_isAnyWithin : ∀ (p0 : Nat) (a1 : Int32) (a2 : Int32) (S : zS), zFR (w_X4_isAnyWithin p0) (f_X4_isAnyWithin p0 a1 a2 S) S := by
  intro p0 a1 a2 S
  unfold f_X4_isAnyWithin
  repeat' (first
    | with_reducible exact fr_none
    | with_reducible refine fr_if (fun _ => ?_) (fun _ => ?_)
    | with_reducible refine fr_some ?_
    | with_reducible exact z_fr_rf
    | with_reducible assumption
    | with_reducible refine fr_bind (fr_X8_has _ _ _) (fun k j hkj => by unfold w_X8_has at hkj; exact hkj.elim) ?_ (fun _ _ => ?_)
    | with_reducible refine fr_go ?_ (fr_X4_isAnyWithin_2 1000 _ _ _ _))
def w_X4_piecesAhead (p1 : Nat) (k j : Nat) : Prop := False
set_option maxHeartbeats 4000000 in
theorem fr_X4_piecesAhead_13 {p1 : Nat} : ∀ (n : Nat) (v2 : Int32) (v3 : Int32) (v4 : Int32) (v5 : Int32) (S : zS), zFR (w_X4_piecesAhead p1) (f_X4_piecesAhead_13 p1 n v2 v3 v4 v5 S) S := by
  intro n
  induction n with
  | zero =>
    intro v2 v3 v4 v5 S r hr
    cases (show (none : Option (Int32 × zS)) = some r from hr)
  | succ n ih =>
    intro v2 v3 v4 v5 S
    rw [f_X4_piecesAhead_13]
    repeat' (first
    | with_reducible exact fr_none
    | with_reducible refine fr_if (fun _ => ?_) (fun _ => ?_)
    | with_reducible refine fr_some ?_
    | with_reducible exact z_fr_rf
    | with_reducible assumption
    | with_reducible refine fr_bind (fr_X4_partsIn _ _ _) (fun k j hkj => by unfold w_X4_partsIn at hkj; exact hkj.elim) ?_ (fun _ _ => ?_)
    | with_reducible refine fr_bind (fr_X4_isAnyWithin _ _ _ _) (fun k j hkj => by unfold w_X4_isAnyWithin at hkj; exact hkj.elim) ?_ (fun _ _ => ?_)
    | with_reducible refine fr_go ?_ (ih _ _ _ _ _))
set_option maxHeartbeats 4000000 in
theorem fr_X4_piecesAhead : ∀ (p1 : Nat) (a2 : Int32) (S : zS), zFR (w_X4_piecesAhead p1) (f_X4_piecesAhead p1 a2 S) S := by
  intro p1 a2 S
  unfold f_X4_piecesAhead
  repeat' (first
    | with_reducible exact fr_none
    | with_reducible refine fr_if (fun _ => ?_) (fun _ => ?_)
    | with_reducible refine fr_some ?_
    | with_reducible exact z_fr_rf
    | with_reducible assumption
    | with_reducible refine fr_bind (fr_X4_partsIn _ _ _) (fun k j hkj => by unfold w_X4_partsIn at hkj; exact hkj.elim) ?_ (fun _ _ => ?_)
    | with_reducible refine fr_bind (fr_X4_isAnyWithin _ _ _ _) (fun k j hkj => by unfold w_X4_isAnyWithin at hkj; exact hkj.elim) ?_ (fun _ _ => ?_)
    | with_reducible refine fr_go ?_ (fr_X4_piecesAhead_13 1000 _ _ _ _ _))
