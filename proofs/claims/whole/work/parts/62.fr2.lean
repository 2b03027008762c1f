def w_X4_mayBeNext (k j : Nat) : Prop := False
set_option maxHeartbeats 4000000 in
theorem fr_X4_mayBeNext : ∀ (a1 : Int32) (a2 : Int32) (S : zS), zFR w_X4_mayBeNext (f_X4_mayBeNext a1 a2 S) S := by
  intro a1 a2 S
  unfold f_X4_mayBeNext
  repeat' (first
    | with_reducible exact fr_none
    | with_reducible refine fr_if (fun _ => ?_) (fun _ => ?_)
    | with_reducible refine fr_some ?_
    | with_reducible exact z_fr_rf
    | with_reducible assumption
    | with_reducible refine fr_bind (fr_X8_has _ _ _) (fun k j hkj => by unfold w_X8_has at hkj; exact hkj.elim) ?_ (fun _ _ => ?_))
def w_X4_leastTour (p0 : Nat) (k j : Nat) : Prop := False
set_option maxHeartbeats 4000000 in
theorem fr_X4_leastTour_19 {p0 : Nat} {RR : Nat → Int32 → Int32 → Int32 → zS → Option (Int32 × zS)} (hR : ∀ (p0 : Nat) (a2 : Int32) (a3 : Int32) (a4 : Int32) (S : zS), zFR (w_X4_leastTour p0) (RR p0 a2 a3 a4 S) S) : ∀ (n : Nat) (v2 : Int32) (v3 : Int32) (v4 : Int32) (v5 : Int32) (v6 : Int32) (S : zS), zFR (w_X4_leastTour p0) (f_X4_leastTour_19 p0 RR n v2 v3 v4 v5 v6 S) S := by
  intro n
  induction n with
  | zero =>
    intro v2 v3 v4 v5 v6 S r hr
    cases (show (none : Option (Int32 × zS)) = some r from hr)
  | succ n ih =>
    intro v2 v3 v4 v5 v6 S
    rw [f_X4_leastTour_19]
    repeat' (first
    | with_reducible exact fr_none
    | with_reducible refine fr_if (fun _ => ?_) (fun _ => ?_)
    | with_reducible refine fr_some ?_
    | with_reducible exact z_fr_rf
    | with_reducible assumption
    | with_reducible refine fr_bind (fr_X4_mayBeNext _ _ _) (fun k j hkj => by unfold w_X4_mayBeNext at hkj; exact hkj.elim) ?_ (fun _ _ => ?_)
    | with_reducible refine fr_bind (fr_X1_way _ _ _ _) (fun k j hkj => by unfold w_X1_way at hkj; exact hkj.elim) ?_ (fun _ _ => ?_)
    | with_reducible refine fr_bind (hR _ _ _ _ _) (fun k j hkj => hkj) ?_ (fun _ _ => ?_)
    | with_reducible refine fr_go ?_ (ih _ _ _ _ _ _))
set_option maxHeartbeats 4000000 in
theorem fr_X4_leastTour_b {RR : Nat → Int32 → Int32 → Int32 → zS → Option (Int32 × zS)} (hR : ∀ (p0 : Nat) (a2 : Int32) (a3 : Int32) (a4 : Int32) (S : zS), zFR (w_X4_leastTour p0) (RR p0 a2 a3 a4 S) S) : ∀ (p0 : Nat) (a2 : Int32) (a3 : Int32) (a4 : Int32) (S : zS), zFR (w_X4_leastTour p0) (f_X4_leastTour_b RR p0 a2 a3 a4 S) S := by
  intro p0 a2 a3 a4 S
  unfold f_X4_leastTour_b
  repeat' (first
    | with_reducible exact fr_none
    | with_reducible refine fr_if (fun _ => ?_) (fun _ => ?_)
    | with_reducible refine fr_some ?_
    | with_reducible exact z_fr_rf
    | with_reducible assumption
    | with_reducible refine fr_bind (fr_X4_mayBeNext _ _ _) (fun k j hkj => by unfold w_X4_mayBeNext at hkj; exact hkj.elim) ?_ (fun _ _ => ?_)
    | with_reducible refine fr_bind (fr_X1_way _ _ _ _) (fun k j hkj => by unfold w_X1_way at hkj; exact hkj.elim) ?_ (fun _ _ => ?_)
    | with_reducible refine fr_bind (hR _ _ _ _ _) (fun k j hkj => hkj) ?_ (fun _ _ => ?_)
    | with_reducible refine fr_go ?_ (fr_X4_leastTour_19 hR 1000 _ _ _ _ _ _))
theorem fr_X4_leastTour : ∀ (n : Nat) (p0 : Nat) (a2 : Int32) (a3 : Int32) (a4 : Int32) (S : zS), zFR (w_X4_leastTour p0) (f_X4_leastTour n p0 a2 a3 a4 S) S
  | 0, p0, a2, a3, a4, S => fun r hr => by cases (show (none : Option (Int32 × zS)) = some r from hr)
  | n + 1, p0, a2, a3, a4, S => fr_X4_leastTour_b (fun p0 a2 a3 a4 S => fr_X4_leastTour n p0 a2 a3 a4 S) p0 a2 a3 a4 S
def w_X4_findTour (p1 : Nat) (k j : Nat) : Prop := (k = 57 ∧ j = 10) ∨ k = 65
set_option maxHeartbeats 4000000 in
theorem fr_X4_findTour_52 {p1 : Nat} {K33 : Int32 → Int32 → Int32 → Int32 → zS → Option (Unit × zS)} (hK33 : ∀ (v3 : Int32) (v4 : Int32) (v5 : Int32) (v6 : Int32) (S : zS), zFR (w_X4_findTour p1) (K33 v3 v4 v5 v6 S) S) : ∀ (n : Nat) (v3 : Int32) (v4 : Int32) (v5 : Int32) (v6 : Int32) (v7 : Int32) (S : zS), zFR (w_X4_findTour p1) (f_X4_findTour_52 p1 K33 n v3 v4 v5 v6 v7 S) S := by
  intro n
  induction n with
  | zero =>
    intro v3 v4 v5 v6 v7 S r hr
    cases (show (none : Option (Unit × zS)) = some r from hr)
  | succ n ih =>
    intro v3 v4 v5 v6 v7 S
    rw [f_X4_findTour_52]
    repeat' (first
    | with_reducible exact fr_none
    | with_reducible refine fr_if (fun _ => ?_) (fun _ => ?_)
    | with_reducible refine fr_some ?_
    | with_reducible refine z_fr_w ?_ (by unfold w_X4_findTour; first | (exact Or.inl ⟨rfl, rfl⟩) | (exact Or.inr rfl))
    | with_reducible refine z_fr_u ?_ (by intro j9; unfold w_X4_findTour; first | (exact Or.inl ⟨rfl, rfl⟩) | (exact Or.inr rfl))
    | with_reducible exact z_fr_rf
    | with_reducible assumption
    | with_reducible refine fr_bind (fr_X4_leastTour 6 _ _ _ _ _) (fun k j hkj => by unfold w_X4_leastTour at hkj; exact hkj.elim) ?_ (fun _ _ => ?_)
    | with_reducible refine fr_bind (fr_X4_mayBeNext _ _ _) (fun k j hkj => by unfold w_X4_mayBeNext at hkj; exact hkj.elim) ?_ (fun _ _ => ?_)
    | with_reducible refine fr_bind (fr_X1_way _ _ _ _) (fun k j hkj => by unfold w_X1_way at hkj; exact hkj.elim) ?_ (fun _ _ => ?_)
    | with_reducible refine fr_go ?_ (hK33 _ _ _ _ _)
    | with_reducible refine fr_go ?_ (ih _ _ _ _ _ _))
set_option maxHeartbeats 4000000 in
theorem fr_X4_findTour_33 {p1 : Nat} : ∀ (n : Nat) (v3 : Int32) (v4 : Int32) (v5 : Int32) (v6 : Int32) (S : zS), zFR (w_X4_findTour p1) (f_X4_findTour_33 p1 n v3 v4 v5 v6 S) S := by
  intro n
  induction n with
  | zero =>
    intro v3 v4 v5 v6 S r hr
    cases (show (none : Option (Unit × zS)) = some r from hr)
  | succ n ih =>
    intro v3 v4 v5 v6 S
    rw [f_X4_findTour_33]
    repeat' (first
    | with_reducible exact fr_none
    | with_reducible refine fr_if (fun _ => ?_) (fun _ => ?_)
    | with_reducible refine fr_some ?_
    | with_reducible refine z_fr_w ?_ (by unfold w_X4_findTour; first | (exact Or.inl ⟨rfl, rfl⟩) | (exact Or.inr rfl))
    | with_reducible refine z_fr_u ?_ (by intro j9; unfold w_X4_findTour; first | (exact Or.inl ⟨rfl, rfl⟩) | (exact Or.inr rfl))
    | with_reducible exact z_fr_rf
    | with_reducible assumption
    | with_reducible refine fr_bind (fr_X4_leastTour 6 _ _ _ _ _) (fun k j hkj => by unfold w_X4_leastTour at hkj; exact hkj.elim) ?_ (fun _ _ => ?_)
    | with_reducible refine fr_bind (fr_X4_mayBeNext _ _ _) (fun k j hkj => by unfold w_X4_mayBeNext at hkj; exact hkj.elim) ?_ (fun _ _ => ?_)
    | with_reducible refine fr_bind (fr_X1_way _ _ _ _) (fun k j hkj => by unfold w_X1_way at hkj; exact hkj.elim) ?_ (fun _ _ => ?_)
    | with_reducible refine fr_go ?_ (fr_X4_findTour_52 (by first | exact hK33 | exact ih) 1000 _ _ _ _ _ _)
    | with_reducible refine fr_go ?_ (hK33 _ _ _ _ _)
    | with_reducible refine fr_go ?_ (ih _ _ _ _ _))
set_option maxHeartbeats 4000000 in
theorem fr_X4_findTour : ∀ (p1 : Nat) (a2 : Int32) (S : zS), zFR (w_X4_findTour p1) (f_X4_findTour p1 a2 S) S := by
  intro p1 a2 S
  unfold f_X4_findTour
  repeat' (first
    | with_reducible exact fr_none
    | with_reducible refine fr_if (fun _ => ?_) (fun _ => ?_)
    | with_reducible refine fr_some ?_
    | with_reducible refine z_fr_w ?_ (by unfold w_X4_findTour; first | (exact Or.inl ⟨rfl, rfl⟩) | (exact Or.inr rfl))
    | with_reducible refine z_fr_u ?_ (by intro j9; unfold w_X4_findTour; first | (exact Or.inl ⟨rfl, rfl⟩) | (exact Or.inr rfl))
    | with_reducible exact z_fr_rf
    | with_reducible assumption
    | with_reducible refine fr_bind (fr_X4_leastTour 6 _ _ _ _ _) (fun k j hkj => by unfold w_X4_leastTour at hkj; exact hkj.elim) ?_ (fun _ _ => ?_)
    | with_reducible refine fr_bind (fr_X4_mayBeNext _ _ _) (fun k j hkj => by unfold w_X4_mayBeNext at hkj; exact hkj.elim) ?_ (fun _ _ => ?_)
    | with_reducible refine fr_bind (fr_X1_way _ _ _ _) (fun k j hkj => by unfold w_X1_way at hkj; exact hkj.elim) ?_ (fun _ _ => ?_)
    | with_reducible refine fr_go ?_ (fr_X4_findTour_52 (by first | exact hK33 | exact ih) 1000 _ _ _ _ _ _)
    | with_reducible refine fr_go ?_ (fr_X4_findTour_33 1000 _ _ _ _ _)
    | with_reducible refine fr_go ?_ (hK33 _ _ _ _ _))
def w_X4_look (p1 : Nat) (p2 : Nat) (k j : Nat) : Prop := (k = 57 ∧ j = 0) ∨ (k = 57 ∧ j = 1) ∨ (k = 57 ∧ j = 10) ∨ k = 58 ∨ k = 59 ∨ k = 60 ∨ k = 61 ∨ k = 62 ∨ k = 63 ∨ k = 64 ∨ k = 65 ∨ k = 67 ∨ k = 68
set_option maxHeartbeats 4000000 in
theorem fr_X4_look_25 {p1 : Nat} {p2 : Nat} : ∀ (n : Nat) (v3 : Int32) (S : zS), zFR (w_X4_look p1 p2) (f_X4_look_25 p1 p2 n v3 S) S := by
  intro n
  induction n with
  | zero =>
    intro v3 S r hr
    cases (show (none : Option (Unit × zS)) = some r from hr)
  | succ n ih =>
    intro v3 S
    rw [f_X4_look_25]
    repeat' (first
    | with_reducible exact fr_none
    | with_reducible refine fr_if (fun _ => ?_) (fun _ => ?_)
    | with_reducible refine fr_some ?_
    | with_reducible refine z_fr_w ?_ (by unfold w_X4_look; first | (exact Or.inl ⟨rfl, rfl⟩) | (exact Or.inr (Or.inr (Or.inr (Or.inr (Or.inr (Or.inr (Or.inr (Or.inl rfl)))))))) | (exact Or.inr (Or.inr (Or.inr (Or.inr (Or.inr (Or.inr (Or.inr (Or.inr (Or.inl rfl))))))))))
    | with_reducible refine z_fr_u ?_ (by intro j9; unfold w_X4_look; first | (exact Or.inl ⟨rfl, rfl⟩) | (exact Or.inr (Or.inr (Or.inr (Or.inr (Or.inr (Or.inr (Or.inr (Or.inl rfl)))))))) | (exact Or.inr (Or.inr (Or.inr (Or.inr (Or.inr (Or.inr (Or.inr (Or.inr (Or.inl rfl))))))))))
    | with_reducible exact z_fr_rf
    | with_reducible assumption
    | with_reducible refine fr_bind (fr_X4_findPieces _ _ _) (fun k j hkj => by unfold w_X4_findPieces at hkj; unfold w_X4_look; rcases hkj with hkj | hkj | hkj | hkj | hkj | hkj | hkj; (exact Or.inr (Or.inl hkj)); (exact Or.inr (Or.inr (Or.inr (Or.inl hkj)))); (exact Or.inr (Or.inr (Or.inr (Or.inr (Or.inl hkj))))); (exact Or.inr (Or.inr (Or.inr (Or.inr (Or.inr (Or.inl hkj)))))); (exact Or.inr (Or.inr (Or.inr (Or.inr (Or.inr (Or.inr (Or.inl hkj))))))); (exact Or.inr (Or.inr (Or.inr (Or.inr (Or.inr (Or.inr (Or.inr (Or.inr (Or.inr (Or.inr (Or.inr (Or.inl hkj)))))))))))); (exact Or.inr (Or.inr (Or.inr (Or.inr (Or.inr (Or.inr (Or.inr (Or.inr (Or.inr (Or.inr (Or.inr (Or.inr hkj))))))))))))) ?_ (fun _ _ => ?_)
    | with_reducible refine fr_bind (fr_J7_fill_53178 _ _ _ _) (fun k j hkj => by unfold w_J7_fill_53178 at hkj; unfold w_X4_look; exact Or.inr (Or.inr (Or.inr (Or.inr (Or.inr (Or.inr (Or.inr (Or.inr (Or.inr (Or.inl hkj)))))))))) ?_ (fun _ _ => ?_)
    | with_reducible refine fr_bind (fr_X4_findTour _ _ _) (fun k j hkj => by unfold w_X4_findTour at hkj; unfold w_X4_look; rcases hkj with hkj | hkj; (exact Or.inr (Or.inr (Or.inl hkj))); (exact Or.inr (Or.inr (Or.inr (Or.inr (Or.inr (Or.inr (Or.inr (Or.inr (Or.inr (Or.inr (Or.inl hkj)))))))))))) ?_ (fun _ _ => ?_)
    | with_reducible refine fr_bind (fr_X4_leastPairs 6 _ _ _ _) (fun k j hkj => by unfold w_X4_leastPairs at hkj; exact hkj.elim) ?_ (fun _ _ => ?_)
    | with_reducible refine fr_bind (fr_X4_pairUp _ _ _ _) (fun k j hkj => by unfold w_X4_pairUp at hkj; unfold w_X4_look; exact Or.inr (Or.inr (Or.inr (Or.inr (Or.inr (Or.inr (Or.inr (Or.inr (Or.inr (Or.inl hkj)))))))))) ?_ (fun _ _ => ?_)
    | with_reducible refine fr_bind (fr_X4_piecesAhead _ _ _) (fun k j hkj => by unfold w_X4_piecesAhead at hkj; exact hkj.elim) ?_ (fun _ _ => ?_)
    | with_reducible refine fr_go ?_ (ih _ _))
set_option maxHeartbeats 4000000 in
theorem fr_X4_look : ∀ (p1 : Nat) (p2 : Nat) (S : zS), zFR (w_X4_look p1 p2) (f_X4_look p1 p2 S) S := by
  intro p1 p2 S
  unfold f_X4_look
  repeat' (first
    | with_reducible exact fr_none
    | with_reducible refine fr_if (fun _ => ?_) (fun _ => ?_)
    | with_reducible refine fr_some ?_
    | with_reducible refine z_fr_w ?_ (by unfold w_X4_look; first | (exact Or.inl ⟨rfl, rfl⟩) | (exact Or.inr (Or.inr (Or.inr (Or.inr (Or.inr (Or.inr (Or.inr (Or.inl rfl)))))))) | (exact Or.inr (Or.inr (Or.inr (Or.inr (Or.inr (Or.inr (Or.inr (Or.inr (Or.inl rfl))))))))))
    | with_reducible refine z_fr_u ?_ (by intro j9; unfold w_X4_look; first | (exact Or.inl ⟨rfl, rfl⟩) | (exact Or.inr (Or.inr (Or.inr (Or.inr (Or.inr (Or.inr (Or.inr (Or.inl rfl)))))))) | (exact Or.inr (Or.inr (Or.inr (Or.inr (Or.inr (Or.inr (Or.inr (Or.inr (Or.inl rfl))))))))))
    | with_reducible exact z_fr_rf
    | with_reducible assumption
    | with_reducible refine fr_bind (fr_X4_findPieces _ _ _) (fun k j hkj => by unfold w_X4_findPieces at hkj; unfold w_X4_look; rcases hkj with hkj | hkj | hkj | hkj | hkj | hkj | hkj; (exact Or.inr (Or.inl hkj)); (exact Or.inr (Or.inr (Or.inr (Or.inl hkj)))); (exact Or.inr (Or.inr (Or.inr (Or.inr (Or.inl hkj))))); (exact Or.inr (Or.inr (Or.inr (Or.inr (Or.inr (Or.inl hkj)))))); (exact Or.inr (Or.inr (Or.inr (Or.inr (Or.inr (Or.inr (Or.inl hkj))))))); (exact Or.inr (Or.inr (Or.inr (Or.inr (Or.inr (Or.inr (Or.inr (Or.inr (Or.inr (Or.inr (Or.inr (Or.inl hkj)))))))))))); (exact Or.inr (Or.inr (Or.inr (Or.inr (Or.inr (Or.inr (Or.inr (Or.inr (Or.inr (Or.inr (Or.inr (Or.inr hkj))))))))))))) ?_ (fun _ _ => ?_)
    | with_reducible refine fr_bind (fr_J7_fill_53178 _ _ _ _) (fun k j hkj => by unfold w_J7_fill_53178 at hkj; unfold w_X4_look; exact Or.inr (Or.inr (Or.inr (Or.inr (Or.inr (Or.inr (Or.inr (Or.inr (Or.inr (Or.inl hkj)))))))))) ?_ (fun _ _ => ?_)
    | with_reducible refine fr_bind (fr_X4_findTour _ _ _) (fun k j hkj => by unfold w_X4_findTour at hkj; unfold w_X4_look; rcases hkj with hkj | hkj; (exact Or.inr (Or.inr (Or.inl hkj))); (exact Or.inr (Or.inr (Or.inr (Or.inr (Or.inr (Or.inr (Or.inr (Or.inr (Or.inr (Or.inr (Or.inl hkj)))))))))))) ?_ (fun _ _ => ?_)
    | with_reducible refine fr_bind (fr_X4_leastPairs 6 _ _ _ _) (fun k j hkj => by unfold w_X4_leastPairs at hkj; exact hkj.elim) ?_ (fun _ _ => ?_)
    | with_reducible refine fr_bind (fr_X4_pairUp _ _ _ _) (fun k j hkj => by unfold w_X4_pairUp at hkj; unfold w_X4_look; exact Or.inr (Or.inr (Or.inr (Or.inr (Or.inr (Or.inr (Or.inr (Or.inr (Or.inr (Or.inl hkj)))))))))) ?_ (fun _ _ => ?_)
    | with_reducible refine fr_bind (fr_X4_piecesAhead _ _ _) (fun k j hkj => by unfold w_X4_piecesAhead at hkj; exact hkj.elim) ?_ (fun _ _ => ?_)
    | with_reducible refine fr_go ?_ (fr_X4_look_25 1000 _ _))
def w_X8_surveyed (k j : Nat) : Prop := (k = 57 ∧ j = 0) ∨ (k = 57 ∧ j = 1) ∨ (k = 57 ∧ j = 10) ∨ k = 58 ∨ k = 59 ∨ k = 60 ∨ k = 61 ∨ k = 62 ∨ k = 63 ∨ k = 64 ∨ k = 65 ∨ k = 67 ∨ k = 68
set_option maxHeartbeats 4000000 in
theorem fr_X8_surveyed : ∀ (S : zS), zFR w_X8_surveyed (f_X8_surveyed  S) S := by
  intro  S
  unfold f_X8_surveyed
  repeat' (first
    | with_reducible exact fr_none
    | with_reducible refine fr_if (fun _ => ?_) (fun _ => ?_)
    | with_reducible refine fr_some ?_
    | with_reducible exact z_fr_rf
    | with_reducible assumption
    | with_reducible refine fr_bind (fr_X4_look _ _ _) (fun k j hkj => by unfold w_X4_look at hkj; unfold w_X8_surveyed; rcases hkj with hkj | hkj | hkj | hkj | hkj | hkj | hkj | hkj | hkj | hkj | hkj | hkj | hkj; (exact Or.inl hkj); (exact Or.inr (Or.inl hkj)); (exact Or.inr (Or.inr (Or.inl hkj))); (exact Or.inr (Or.inr (Or.inr (Or.inl hkj)))); (exact Or.inr (Or.inr (Or.inr (Or.inr (Or.inl hkj))))); (exact Or.inr (Or.inr (Or.inr (Or.inr (Or.inr (Or.inl hkj)))))); (exact Or.inr (Or.inr (Or.inr (Or.inr (Or.inr (Or.inr (Or.inl hkj))))))); (exact Or.inr (Or.inr (Or.inr (Or.inr (Or.inr (Or.inr (Or.inr (Or.inl hkj)))))))); (exact Or.inr (Or.inr (Or.inr (Or.inr (Or.inr (Or.inr (Or.inr (Or.inr (Or.inl hkj))))))))); (exact Or.inr (Or.inr (Or.inr (Or.inr (Or.inr (Or.inr (Or.inr (Or.inr (Or.inr (Or.inl hkj)))))))))); (exact Or.inr (Or.inr (Or.inr (Or.inr (Or.inr (Or.inr (Or.inr (Or.inr (Or.inr (Or.inr (Or.inl hkj))))))))))); (exact Or.inr (Or.inr (Or.inr (Or.inr (Or.inr (Or.inr (Or.inr (Or.inr (Or.inr (Or.inr (Or.inr (Or.inl hkj)))))))))))); (exact Or.inr (Or.inr (Or.inr (Or.inr (Or.inr (Or.inr (Or.inr (Or.inr (Or.inr (Or.inr (Or.inr (Or.inr hkj))))))))))))) ?_ (fun _ _ => ?_))
def w_X4_pieceOf (k j : Nat) : Prop := False
set_option maxHeartbeats 4000000 in
theorem fr_X4_pieceOf_2 : ∀ (n : Nat) (v1 : Int32) (v2 : Int32) (S : zS), zFR w_X4_pieceOf (f_X4_pieceOf_2 n v1 v2 S) S := by
  intro n
  induction n with
  | zero =>
    intro v1 v2 S r hr
    cases (show (none : Option (Int32 × zS)) = some r from hr)
  | succ n ih =>
    intro v1 v2 S
    rw [f_X4_pieceOf_2]
    repeat' (first
    | with_reducible exact fr_none
    | with_reducible refine fr_if (fun _ => ?_) (fun _ => ?_)
    | with_reducible refine fr_some ?_
    | with_reducible exact z_fr_rf
    | with_reducible assumption
    | with_reducible refine fr_bind (fr_X8_has _ _ _) (fun k j hkj => by unfold w_X8_has at hkj; exact hkj.elim) ?_ (fun _ _ => ?_)
    | with_reducible refine fr_go ?_ (ih _ _ _))
set_option maxHeartbeats 4000000 in
theorem fr_X4_pieceOf : ∀ (a1 : Int32) (S : zS), zFR w_X4_pieceOf (f_X4_pieceOf a1 S) S := by
  intro a1 S
  unfold f_X4_pieceOf
  repeat' (first
    | with_reducible exact fr_none
    | with_reducible refine fr_if (fun _ => ?_) (fun _ => ?_)
    | with_reducible refine fr_some ?_
    | with_reducible exact z_fr_rf
    | with_reducible assumption
    | with_reducible refine fr_bind (fr_X8_has _ _ _) (fun k j hkj => by unfold w_X8_has at hkj; exact hkj.elim) ?_ (fun _ _ => ?_)
    | with_reducible refine fr_go ?_ (fr_X4_pieceOf_2 1000 _ _ _))
def w_X8_cut (k j : Nat) : Prop := (k = 57 ∧ j = 0) ∨ (k = 57 ∧ j = 1) ∨ (k = 57 ∧ j = 10) ∨ k = 58 ∨ k = 59 ∨ k = 60 ∨ k = 61 ∨ k = 62 ∨ k = 63 ∨ k = 64 ∨ k = 65 ∨ k = 67 ∨ k = 68
set_option maxHeartbeats 4000000 in
theorem fr_X8_cut : ∀ (a1 : Int32) (a2 : Int32) (S : zS), zFR w_X8_cut (f_X8_cut a1 a2 S) S := by
  intro a1 a2 S
  unfold f_X8_cut
  repeat' (first
    | with_reducible exact fr_none
    | with_reducible refine fr_if (fun _ => ?_) (fun _ => ?_)
    | with_reducible refine fr_some ?_
    | with_reducible exact z_fr_rf
    | with_reducible assumption
    | with_reducible refine fr_bind (fr_X8_has _ _ _) (fun k j hkj => by unfold w_X8_has at hkj; exact hkj.elim) ?_ (fun _ _ => ?_)
    | with_reducible refine fr_bind (fr_X8_surveyed _) (fun k j hkj => by unfold w_X8_surveyed at hkj; unfold w_X8_cut; rcases hkj with hkj | hkj | hkj | hkj | hkj | hkj | hkj | hkj | hkj | hkj | hkj | hkj | hkj; (exact Or.inl hkj); (exact Or.inr (Or.inl hkj)); (exact Or.inr (Or.inr (Or.inl hkj))); (exact Or.inr (Or.inr (Or.inr (Or.inl hkj)))); (exact Or.inr (Or.inr (Or.inr (Or.inr (Or.inl hkj))))); (exact Or.inr (Or.inr (Or.inr (Or.inr (Or.inr (Or.inl hkj)))))); (exact Or.inr (Or.inr (Or.inr (Or.inr (Or.inr (Or.inr (Or.inl hkj))))))); (exact Or.inr (Or.inr (Or.inr (Or.inr (Or.inr (Or.inr (Or.inr (Or.inl hkj)))))))); (exact Or.inr (Or.inr (Or.inr (Or.inr (Or.inr (Or.inr (Or.inr (Or.inr (Or.inl hkj))))))))); (exact Or.inr (Or.inr (Or.inr (Or.inr (Or.inr (Or.inr (Or.inr (Or.inr (Or.inr (Or.inl hkj)))))))))); (exact Or.inr (Or.inr (Or.inr (Or.inr (Or.inr (Or.inr (Or.inr (Or.inr (Or.inr (Or.inr (Or.inl hkj))))))))))); (exact Or.inr (Or.inr (Or.inr (Or.inr (Or.inr (Or.inr (Or.inr (Or.inr (Or.inr (Or.inr (Or.inr (Or.inl hkj)))))))))))); (exact Or.inr (Or.inr (Or.inr (Or.inr (Or.inr (Or.inr (Or.inr (Or.inr (Or.inr (Or.inr (Or.inr (Or.inr hkj))))))))))))) ?_ (fun _ _ => ?_)
    | with_reducible refine fr_bind (fr_X4_pieceOf _ _) (fun k j hkj => by unfold w_X4_pieceOf at hkj; exact hkj.elim) ?_ (fun _ _ => ?_)
    | with_reducible refine fr_bind (fr_X1_way _ _ _ _) (fun k j hkj => by unfold w_X1_way at hkj; exact hkj.elim) ?_ (fun _ _ => ?_))
def w_X9_roots (k j : Nat) : Prop := k = 99
set_option maxHeartbeats 4000000 in
theorem fr_X9_roots_105 {K23 : Int32 → Int32 → zS → Option (Unit × zS)} (hK23 : ∀ (v1 : Int32) (v2 : Int32) (S : zS), zFR w_X9_roots (K23 v1 v2 S) S) {K31 : Int32 → Int32 → Int32 → zS → Option (Unit × zS)} (hK31 : ∀ (v1 : Int32) (v2 : Int32) (v3 : Int32) (S : zS), zFR w_X9_roots (K31 v1 v2 v3 S) S) : ∀ (v1 : Int32) (v2 : Int32) (v3 : Int32) (v4 : Int32) (v5 : Int32) (t0 : Int32) (S : zS), zFR w_X9_roots (f_X9_roots_105 K23 K31 v1 v2 v3 v4 v5 t0 S) S := by
  intro v1 v2 v3 v4 v5 t0 S
  unfold f_X9_roots_105
  repeat' (first
    | with_reducible exact fr_none
    | with_reducible refine fr_if (fun _ => ?_) (fun _ => ?_)
    | with_reducible refine fr_some ?_
    | with_reducible refine z_fr_w ?_ (by unfold w_X9_roots; first | (exact rfl))
    | with_reducible refine z_fr_u ?_ (by intro j9; unfold w_X9_roots; first | (exact rfl))
    | with_reducible exact z_fr_rf
    | with_reducible assumption
    | with_reducible refine fr_bind (fr_X9_has _ _ _) (fun k j hkj => by unfold w_X9_has at hkj; exact hkj.elim) ?_ (fun _ _ => ?_)
    | with_reducible refine fr_go ?_ (hK31 _ _ _ _)
    | with_reducible refine fr_go ?_ (hK23 _ _ _))
set_option maxHeartbeats 4000000 in
theorem fr_X9_roots_31 {K23 : Int32 → Int32 → zS → Option (Unit × zS)} (hK23 : ∀ (v1 : Int32) (v2 : Int32) (S : zS), zFR w_X9_roots (K23 v1 v2 S) S) : ∀ (n : Nat) (v1 : Int32) (v2 : Int32) (v3 : Int32) (S : zS), zFR w_X9_roots (f_X9_roots_31 K23 n v1 v2 v3 S) S := by
  intro n
  induction n with
  | zero =>
    intro v1 v2 v3 S r hr
    cases (show (none : Option (Unit × zS)) = some r from hr)
  | succ n ih =>
    intro v1 v2 v3 S
    rw [f_X9_roots_31]
    repeat' (first
    | with_reducible exact fr_none
    | with_reducible refine fr_if (fun _ => ?_) (fun _ => ?_)
    | with_reducible refine fr_some ?_
    | with_reducible refine z_fr_w ?_ (by unfold w_X9_roots; first | (exact rfl))
    | with_reducible refine z_fr_u ?_ (by intro j9; unfold w_X9_roots; first | (exact rfl))
    | with_reducible exact z_fr_rf
    | with_reducible assumption
    | with_reducible refine fr_bind (fr_X9_has _ _ _) (fun k j hkj => by unfold w_X9_has at hkj; exact hkj.elim) ?_ (fun _ _ => ?_)
    | with_reducible refine fr_go ?_ (fr_X9_roots_105 (by first | exact hK23 | exact ih) (by first | exact hK31 | exact ih) _ _ _ _ _ _ _)
    | with_reducible refine fr_go ?_ (hK31 _ _ _ _)
    | with_reducible refine fr_go ?_ (hK23 _ _ _)
    | with_reducible refine fr_go ?_ (ih _ _ _ _))
set_option maxHeartbeats 4000000 in
theorem fr_X9_roots_23 : ∀ (n : Nat) (v1 : Int32) (v2 : Int32) (S : zS), zFR w_X9_roots (f_X9_roots_23 n v1 v2 S) S := by
  intro n
  induction n with
  | zero =>
    intro v1 v2 S r hr
    cases (show (none : Option (Unit × zS)) = some r from hr)
  | succ n ih =>
    intro v1 v2 S
    rw [f_X9_roots_23]
    repeat' (first
    | with_reducible exact fr_none
    | with_reducible refine fr_if (fun _ => ?_) (fun _ => ?_)
    | with_reducible refine fr_some ?_
    | with_reducible refine z_fr_w ?_ (by unfold w_X9_roots; first | (exact rfl))
    | with_reducible refine z_fr_u ?_ (by intro j9; unfold w_X9_roots; first | (exact rfl))
    | with_reducible exact z_fr_rf
    | with_reducible assumption
    | with_reducible refine fr_bind (fr_X9_has _ _ _) (fun k j hkj => by unfold w_X9_has at hkj; exact hkj.elim) ?_ (fun _ _ => ?_)
    | with_reducible refine fr_go ?_ (fr_X9_roots_105 (by first | exact hK23 | exact ih) (by first | exact hK31 | exact ih) _ _ _ _ _ _ _)
    | with_reducible refine fr_go ?_ (fr_X9_roots_31 (by first | exact hK23 | exact ih) 1000 _ _ _ _)
    | with_reducible refine fr_go ?_ (hK31 _ _ _ _)
    | with_reducible refine fr_go ?_ (hK23 _ _ _)
    | with_reducible refine fr_go ?_ (ih _ _ _))
set_option maxHeartbeats 4000000 in
theorem fr_X9_roots_2 : ∀ (n : Nat) (v1 : Int32) (v2 : Int32) (S : zS), zFR w_X9_roots (f_X9_roots_2 n v1 v2 S) S := by
  intro n
  induction n with
  | zero =>
    intro v1 v2 S r hr
    cases (show (none : Option (Unit × zS)) = some r from hr)
  | succ n ih =>
    intro v1 v2 S
    rw [f_X9_roots_2]
    repeat' (first
    | with_reducible exact fr_none
    | with_reducible refine fr_if (fun _ => ?_) (fun _ => ?_)
    | with_reducible refine fr_some ?_
    | with_reducible refine z_fr_w ?_ (by unfold w_X9_roots; first | (exact rfl))
    | with_reducible refine z_fr_u ?_ (by intro j9; unfold w_X9_roots; first | (exact rfl))
    | with_reducible exact z_fr_rf
    | with_reducible assumption
    | with_reducible refine fr_bind (fr_X9_has _ _ _) (fun k j hkj => by unfold w_X9_has at hkj; exact hkj.elim) ?_ (fun _ _ => ?_)
    | with_reducible refine fr_go ?_ (fr_X9_roots_105 (by first | exact hK23 | exact ih) (by first | exact hK31 | exact ih) _ _ _ _ _ _ _)
    | with_reducible refine fr_go ?_ (fr_X9_roots_31 (by first | exact hK23 | exact ih) 1000 _ _ _ _)
    | with_reducible refine fr_go ?_ (fr_X9_roots_23 1000 _ _ _)
    | with_reducible refine fr_go ?_ (hK31 _ _ _ _)
    | with_reducible refine fr_go ?_ (hK23 _ _ _)
    | with_reducible refine fr_go ?_ (ih _ _ _))
set_option maxHeartbeats 4000000 in
theorem fr_X9_roots : ∀ (a1 : Int32) (S : zS), zFR w_X9_roots (f_X9_roots a1 S) S := by
  intro a1 S
  unfold f_X9_roots
  repeat' (first
    | with_reducible exact fr_none
    | with_reducible refine fr_if (fun _ => ?_) (fun _ => ?_)
    | with_reducible refine fr_some ?_
    | with_reducible refine z_fr_w ?_ (by unfold w_X9_roots; first | (exact rfl))
    | with_reducible refine z_fr_u ?_ (by intro j9; unfold w_X9_roots; first | (exact rfl))
    | with_reducible exact z_fr_rf
    | with_reducible assumption
    | with_reducible refine fr_bind (fr_X9_has _ _ _) (fun k j hkj => by unfold w_X9_has at hkj; exact hkj.elim) ?_ (fun _ _ => ?_)
    | with_reducible refine fr_go ?_ (fr_X9_roots_105 (by first | exact hK23 | exact ih) (by first | exact hK31 | exact ih) _ _ _ _ _ _ _)
    | with_reducible refine fr_go ?_ (fr_X9_roots_31 (by first | exact hK23 | exact ih) 1000 _ _ _ _)
    | with_reducible refine fr_go ?_ (fr_X9_roots_23 1000 _ _ _)
    | with_reducible refine fr_go ?_ (fr_X9_roots_2 1000 _ _ _)
    | with_reducible refine fr_go ?_ (hK31 _ _ _ _)
    | with_reducible refine fr_go ?_ (hK23 _ _ _))
def w_X9_pieces (k j : Nat) : Prop := k = 100 ∨ (k = 87 ∧ j = 23) ∨ k = 99
set_option maxHeartbeats 4000000 in
theorem fr_X9_pieces_17 : ∀ (n : Nat) (v1 : Int32) (S : zS), zFR w_X9_pieces (f_X9_pieces_17 n v1 S) S := by
  intro n
  induction n with
  | zero =>
    intro v1 S r hr
    cases (show (none : Option (Unit × zS)) = some r from hr)
  | succ n ih =>
    intro v1 S
    rw [f_X9_pieces_17]
    repeat' (first
    | with_reducible exact fr_none
    | with_reducible refine fr_if (fun _ => ?_) (fun _ => ?_)
    | with_reducible refine fr_some ?_
    | with_reducible refine z_fr_w ?_ (by unfold w_X9_pieces; first | (exact Or.inr (Or.inl ⟨rfl, rfl⟩)) | (exact Or.inl rfl))
    | with_reducible refine z_fr_u ?_ (by intro j9; unfold w_X9_pieces; first | (exact Or.inr (Or.inl ⟨rfl, rfl⟩)) | (exact Or.inl rfl))
    | with_reducible exact z_fr_rf
    | with_reducible assumption
    | with_reducible refine fr_bind (fr_X9_roots _ _) (fun k j hkj => by unfold w_X9_roots at hkj; unfold w_X9_pieces; exact Or.inr (Or.inr hkj)) ?_ (fun _ _ => ?_)
    | with_reducible refine fr_bind (fr_X9_endsAt _ _ _ _) (fun k j hkj => by unfold w_X9_endsAt at hkj; exact hkj.elim) ?_ (fun _ _ => ?_)
    | with_reducible refine fr_go ?_ (ih _ _))
set_option maxHeartbeats 4000000 in
theorem fr_X9_pieces : ∀ (S : zS), zFR w_X9_pieces (f_X9_pieces  S) S := by
  intro  S
  unfold f_X9_pieces
  repeat' (first
    | with_reducible exact fr_none
    | with_reducible refine fr_if (fun _ => ?_) (fun _ => ?_)
    | with_reducible refine fr_some ?_
    | with_reducible refine z_fr_w ?_ (by unfold w_X9_pieces; first | (exact Or.inr (Or.inl ⟨rfl, rfl⟩)) | (exact Or.inl rfl))
    | with_reducible refine z_fr_u ?_ (by intro j9; unfold w_X9_pieces; first | (exact Or.inr (Or.inl ⟨rfl, rfl⟩)) | (exact Or.inl rfl))
    | with_reducible exact z_fr_rf
    | with_reducible assumption
    | with_reducible refine fr_bind (fr_X9_roots _ _) (fun k j hkj => by unfold w_X9_roots at hkj; unfold w_X9_pieces; exact Or.inr (Or.inr hkj)) ?_ (fun _ _ => ?_)
    | with_reducible refine fr_bind (fr_X9_endsAt _ _ _ _) (fun k j hkj => by unfold w_X9_endsAt at hkj; exact hkj.elim) ?_ (fun _ _ => ?_)
    | with_reducible refine fr_go ?_ (fr_X9_pieces_17 1000 _ _))
def w_X9_way (k j : Nat) : Prop := False
set_option maxHeartbeats 4000000 in
theorem fr_X9_way_49 : ∀ (v4 : Int32) (t0 : Int32) (S : zS), zFR w_X9_way (f_X9_way_49 v4 t0 S) S := by
  intro v4 t0 S
  unfold f_X9_way_49
  repeat' (first
    | with_reducible exact fr_none
    | with_reducible refine fr_if (fun _ => ?_) (fun _ => ?_)
    | with_reducible refine fr_some ?_
    | with_reducible exact z_fr_rf
    | with_reducible assumption)
set_option maxHeartbeats 4000000 in
theorem fr_X9_way : ∀ (a1 : Int32) (a2 : Int32) (S : zS), zFR w_X9_way (f_X9_way a1 a2 S) S := by
  intro a1 a2 S
  unfold f_X9_way
  repeat' (first
    | with_reducible exact fr_none
    | with_reducible refine fr_if (fun _ => ?_) (fun _ => ?_)
    | with_reducible refine fr_some ?_
    | with_reducible exact z_fr_rf
    | with_reducible assumption
    | with_reducible refine fr_go ?_ (fr_X9_way_49 _ _ _))
def w_X9_pieceOf (k j : Nat) : Prop := False
set_option maxHeartbeats 4000000 in
theorem fr_X9_pieceOf_2 : ∀ (n : Nat) (v1 : Int32) (v2 : Int32) (S : zS), zFR w_X9_pieceOf (f_X9_pieceOf_2 n v1 v2 S) S := by
  intro n
  induction n with
  | zero =>
    intro v1 v2 S r hr
    cases (show (none : Option (Int32 × zS)) = some r from hr)
  | succ n ih =>
    intro v1 v2 S
    rw [f_X9_pieceOf_2]
    repeat' (first
    | with_reducible exact fr_none
    | with_reducible refine fr_if (fun _ => ?_) (fun _ => ?_)
    | with_reducible refine fr_some ?_
    | with_reducible exact z_fr_rf
    | with_reducible assumption
    | with_reducible refine fr_go ?_ (ih _ _ _))
set_option maxHeartbeats 4000000 in
theorem fr_X9_pieceOf : ∀ (a1 : Int32) (S : zS), zFR w_X9_pieceOf (f_X9_pieceOf a1 S) S := by
  intro a1 S
  unfold f_X9_pieceOf
  repeat' (first
    | with_reducible exact fr_none
    | with_reducible refine fr_if (fun _ => ?_) (fun _ => ?_)
    | with_reducible refine fr_some ?_
    | with_reducible exact z_fr_rf
    | with_reducible assumption
    | with_reducible refine fr_go ?_ (fr_X9_pieceOf_2 1000 _ _ _))
def w_X9_cut (k j : Nat) : Prop := k = 100 ∨ (k = 87 ∧ j = 0) ∨ (k = 87 ∧ j = 23) ∨ k = 99
set_option maxHeartbeats 4000000 in
theorem fr_X9_cut : ∀ (a1 : Int32) (a2 : Int32) (S : zS), zFR w_X9_cut (f_X9_cut a1 a2 S) S := by
  intro a1 a2 S
  unfold f_X9_cut
  repeat' (first
    | with_reducible exact fr_none
    | with_reducible refine fr_if (fun _ => ?_) (fun _ => ?_)
    | with_reducible refine fr_some ?_
    | with_reducible refine z_fr_w ?_ (by unfold w_X9_cut; first | (exact Or.inr (Or.inl ⟨rfl, rfl⟩)))
    | with_reducible refine z_fr_u ?_ (by intro j9; unfold w_X9_cut; first | (exact Or.inr (Or.inl ⟨rfl, rfl⟩)))
    | with_reducible exact z_fr_rf
    | with_reducible assumption
    | with_reducible refine fr_bind (fr_X9_in _ _ _ _) (fun k j hkj => by unfold w_X9_in at hkj; exact hkj.elim) ?_ (fun _ _ => ?_)
    | with_reducible refine fr_bind (fr_X9_pieces _) (fun k j hkj => by unfold w_X9_pieces at hkj; unfold w_X9_cut; rcases hkj with hkj | hkj | hkj; (exact Or.inl hkj); (exact Or.inr (Or.inr (Or.inl hkj))); (exact Or.inr (Or.inr (Or.inr hkj)))) ?_ (fun _ _ => ?_)
    | with_reducible refine fr_bind (fr_X9_way _ _ _) (fun k j hkj => by unfold w_X9_way at hkj; exact hkj.elim) ?_ (fun _ _ => ?_)
    | with_reducible refine fr_bind (fr_X9_has _ _ _) (fun k j hkj => by unfold w_X9_has at hkj; exact hkj.elim) ?_ (fun _ _ => ?_)
    | with_reducible refine fr_bind (fr_X9_pieceOf _ _) (fun k j hkj => by unfold w_X9_pieceOf at hkj; exact hkj.elim) ?_ (fun _ _ => ?_))
def w_X8_part (k j : Nat) : Prop := False
set_option maxHeartbeats 4000000 in
theorem fr_X8_part : ∀ (a1 : Int32) (a2 : Int32) (S : zS), zFR w_X8_part (f_X8_part a1 a2 S) S := by
  intro a1 a2 S
  unfold f_X8_part
  repeat' (first
    | with_reducible exact fr_none
    | with_reducible refine fr_if (fun _ => ?_) (fun _ => ?_)
    | with_reducible refine fr_some ?_
    | with_reducible exact z_fr_rf
    | with_reducible assumption
    | with_reducible refine fr_bind (fr_J6_bitCount_0f7a4 _ _) (fun k j hkj => by unfold w_J6_bitCount_0f7a4 at hkj; exact hkj.elim) ?_ (fun _ _ => ?_))
def w_X9_cutsOfPart (k j : Nat) : Prop := False
set_option maxHeartbeats 4000000 in
theorem fr_X9_cutsOfPart_4 : ∀ (n : Nat) (v1 : Int32) (v2 : Int32) (v3 : Int32) (S : zS), zFR w_X9_cutsOfPart (f_X9_cutsOfPart_4 n v1 v2 v3 S) S := by
  intro n
  induction n with
  | zero =>
    intro v1 v2 v3 S r hr
    cases (show (none : Option (Int32 × zS)) = some r from hr)
  | succ n ih =>
    intro v1 v2 v3 S
    rw [f_X9_cutsOfPart_4]
    repeat' (first
    | with_reducible exact fr_none
    | with_reducible refine fr_if (fun _ => ?_) (fun _ => ?_)
    | with_reducible refine fr_some ?_
    | with_reducible exact z_fr_rf
    | with_reducible assumption
    | with_reducible refine fr_bind (fr_X9_ringAt _ _ _) (fun k j hkj => by unfold w_X9_ringAt at hkj; exact hkj.elim) ?_ (fun _ _ => ?_)
    | with_reducible refine fr_bind (fr_X9_cutOf _ _ _ _) (fun k j hkj => by unfold w_X9_cutOf at hkj; exact hkj.elim) ?_ (fun _ _ => ?_)
    | with_reducible refine fr_go ?_ (ih _ _ _ _))
set_option maxHeartbeats 4000000 in
theorem fr_X9_cutsOfPart : ∀ (a1 : Int32) (S : zS), zFR w_X9_cutsOfPart (f_X9_cutsOfPart a1 S) S := by
  intro a1 S
  unfold f_X9_cutsOfPart
  repeat' (first
    | with_reducible exact fr_none
    | with_reducible refine fr_if (fun _ => ?_) (fun _ => ?_)
    | with_reducible refine fr_some ?_
    | with_reducible exact z_fr_rf
    | with_reducible assumption
    | with_reducible refine fr_bind (fr_X9_ringAt _ _ _) (fun k j hkj => by unfold w_X9_ringAt at hkj; exact hkj.elim) ?_ (fun _ _ => ?_)
    | with_reducible refine fr_bind (fr_X9_cutOf _ _ _ _) (fun k j hkj => by unfold w_X9_cutOf at hkj; exact hkj.elim) ?_ (fun _ _ => ?_)
    | with_reducible refine fr_go ?_ (fr_X9_cutsOfPart_4 1000 _ _ _ _))
def w_X9_ones (k j : Nat) : Prop := False
set_option maxHeartbeats 4000000 in
theorem fr_X9_ones_4 : ∀ (n : Nat) (v1 : Int32) (v2 : Int32) (S : zS), zFR w_X9_ones (f_X9_ones_4 n v1 v2 S) S := by
  intro n
  induction n with
  | zero =>
    intro v1 v2 S r hr
    cases (show (none : Option (Int32 × zS)) = some r from hr)
  | succ n ih =>
    intro v1 v2 S
    rw [f_X9_ones_4]
    repeat' (first
    | with_reducible exact fr_none
    | with_reducible refine fr_if (fun _ => ?_) (fun _ => ?_)
    | with_reducible refine fr_some ?_
    | with_reducible exact z_fr_rf
    | with_reducible assumption
    | with_reducible refine fr_go ?_ (ih _ _ _))
set_option maxHeartbeats 4000000 in
theorem fr_X9_ones : ∀ (a0 : Int32) (S : zS), zFR w_X9_ones (f_X9_ones a0 S) S := by
  intro a0 S
  unfold f_X9_ones
  repeat' (first
    | with_reducible exact fr_none
    | with_reducible refine fr_if (fun _ => ?_) (fun _ => ?_)
    | with_reducible refine fr_some ?_
    | with_reducible exact z_fr_rf
    | with_reducible assumption
    | with_reducible refine fr_go ?_ (fr_X9_ones_4 1000 _ _ _))
def w_X9_part (k j : Nat) : Prop := (k = 87 ∧ j = 0)
set_option maxHeartbeats 4000000 in
theorem fr_X9_part : ∀ (a1 : Int32) (a2 : Int32) (S : zS), zFR w_X9_part (f_X9_part a1 a2 S) S := by
  intro a1 a2 S
  unfold f_X9_part
  repeat' (first
    | with_reducible exact fr_none
    | with_reducible refine fr_if (fun _ => ?_) (fun _ => ?_)
    | with_reducible refine fr_some ?_
    | with_reducible refine z_fr_w ?_ (by unfold w_X9_part; first | (exact ⟨rfl, rfl⟩))
    | with_reducible refine z_fr_u ?_ (by intro j9; unfold w_X9_part; first | (exact ⟨rfl, rfl⟩))
    | with_reducible exact z_fr_rf
    | with_reducible assumption
    | with_reducible refine fr_bind (fr_X9_in _ _ _ _) (fun k j hkj => by unfold w_X9_in at hkj; exact hkj.elim) ?_ (fun _ _ => ?_)
    | with_reducible refine fr_bind (fr_X9_cutsOfPart _ _) (fun k j hkj => by unfold w_X9_cutsOfPart at hkj; exact hkj.elim) ?_ (fun _ _ => ?_)
    | with_reducible refine fr_bind (fr_X9_ones _ _) (fun k j hkj => by unfold w_X9_ones at hkj; exact hkj.elim) ?_ (fun _ _ => ?_))
def w_X2_mayLose (p0 : Nat) (p2 : Nat) (k j : Nat) : Prop := False
set_option maxHeartbeats 4000000 in
theorem fr_X2_mayLose_41 {p0 : Nat} {p2 : Nat} {K14 : Int32 → Int32 → zS → Option (Int32 × zS)} (hK14 : ∀ (v3 : Int32) (v4 : Int32) (S : zS), zFR (w_X2_mayLose p0 p2) (K14 v3 v4 S) S) : ∀ (n : Nat) (v3 : Int32) (v4 : Int32) (v5 : Int32) (S : zS), zFR (w_X2_mayLose p0 p2) (f_X2_mayLose_41 p0 p2 K14 n v3 v4 v5 S) S := by
  intro n
  induction n with
  | zero =>
    intro v3 v4 v5 S r hr
    cases (show (none : Option (Int32 × zS)) = some r from hr)
  | succ n ih =>
    intro v3 v4 v5 S
    rw [f_X2_mayLose_41]
    repeat' (first
    | with_reducible exact fr_none
    | with_reducible refine fr_if (fun _ => ?_) (fun _ => ?_)
    | with_reducible refine fr_some ?_
    | with_reducible exact z_fr_rf
    | with_reducible assumption
    | with_reducible refine fr_bind (fr_X8_has _ _ _) (fun k j hkj => by unfold w_X8_has at hkj; exact hkj.elim) ?_ (fun _ _ => ?_)
    | with_reducible refine fr_go ?_ (hK14 _ _ _)
    | with_reducible refine fr_go ?_ (ih _ _ _ _))
set_option maxHeartbeats 4000000 in
theorem fr_X2_mayLose_14 {p0 : Nat} {p2 : Nat} : ∀ (n : Nat) (v3 : Int32) (v4 : Int32) (S : zS), zFR (w_X2_mayLose p0 p2) (f_X2_mayLose_14 p0 p2 n v3 v4 S) S := by
  intro n
  induction n with
  | zero =>
    intro v3 v4 S r hr
    cases (show (none : Option (Int32 × zS)) = some r from hr)
  | succ n ih =>
    intro v3 v4 S
    rw [f_X2_mayLose_14]
    repeat' (first
    | with_reducible exact fr_none
    | with_reducible refine fr_if (fun _ => ?_) (fun _ => ?_)
    | with_reducible refine fr_some ?_
    | with_reducible exact z_fr_rf
    | with_reducible assumption
    | with_reducible refine fr_bind (fr_X8_has _ _ _) (fun k j hkj => by unfold w_X8_has at hkj; exact hkj.elim) ?_ (fun _ _ => ?_)
    | with_reducible refine fr_go ?_ (fr_X2_mayLose_41 (by first | exact hK14 | exact ih) 1000 _ _ _ _)
    | with_reducible refine fr_go ?_ (hK14 _ _ _)
    | with_reducible refine fr_go ?_ (ih _ _ _))
set_option maxHeartbeats 4000000 in
theorem fr_X2_mayLose : ∀ (p0 : Nat) (a1 : Int32) (p2 : Nat) (S : zS), zFR (w_X2_mayLose p0 p2) (f_X2_mayLose p0 a1 p2 S) S := by
  intro p0 a1 p2 S
  unfold f_X2_mayLose
  repeat' (first
    | with_reducible exact fr_none
    | with_reducible refine fr_if (fun _ => ?_) (fun _ => ?_)
    | with_reducible refine fr_some ?_
    | with_reducible exact z_fr_rf
    | with_reducible assumption
    | with_reducible refine fr_bind (fr_X8_has _ _ _) (fun k j hkj => by unfold w_X8_has at hkj; exact hkj.elim) ?_ (fun _ _ => ?_)
    | with_reducible refine fr_go ?_ (fr_X2_mayLose_41 (by first | exact hK14 | exact ih) 1000 _ _ _ _)
    | with_reducible refine fr_go ?_ (fr_X2_mayLose_14 1000 _ _ _)
    | with_reducible refine fr_go ?_ (hK14 _ _ _))
def w_X2_become (p0 : Nat) (p1 : Nat) (k j : Nat) : Prop := (k = p0 ∧ j = 0) ∨ (k = p0 ∧ j = 1) ∨ (k = p0 ∧ j = 2) ∨ (k = p0 ∧ j = 3) ∨ k = p0 + 1
set_option maxHeartbeats 4000000 in
theorem fr_X2_become : ∀ (p0 : Nat) (p1 : Nat) (S : zS), zFR (w_X2_become p0 p1) (f_X2_become p0 p1 S) S := by
  intro p0 p1 S
  unfold f_X2_become
  repeat' (first
    | with_reducible exact fr_none
    | with_reducible refine fr_if (fun _ => ?_) (fun _ => ?_)
    | with_reducible refine fr_some ?_
    | with_reducible refine z_fr_w ?_ (by unfold w_X2_become; first | (exact Or.inl ⟨rfl, rfl⟩) | (exact Or.inr (Or.inl ⟨rfl, rfl⟩)) | (exact Or.inr (Or.inr (Or.inl ⟨rfl, rfl⟩))) | (exact Or.inr (Or.inr (Or.inr (Or.inl ⟨rfl, rfl⟩)))) | (exact Or.inr (Or.inr (Or.inr (Or.inr rfl)))))
    | with_reducible refine z_fr_u ?_ (by intro j9; unfold w_X2_become; first | (exact Or.inl ⟨rfl, rfl⟩) | (exact Or.inr (Or.inl ⟨rfl, rfl⟩)) | (exact Or.inr (Or.inr (Or.inl ⟨rfl, rfl⟩))) | (exact Or.inr (Or.inr (Or.inr (Or.inl ⟨rfl, rfl⟩)))) | (exact Or.inr (Or.inr (Or.inr (Or.inr rfl)))))
    | with_reducible exact z_fr_rf
    | with_reducible assumption)
def w_X0_remember (p1 : Nat) (k j : Nat) : Prop := (k = 34 ∧ j = 1) ∨ (k = 34 ∧ j = 2) ∨ (36 ≤ k ∧ k ≤ 55)
set_option maxHeartbeats 4000000 in
theorem fr_X0_remember_35 {p1 : Nat} : ∀ (t0 : Int32) (S : zS), zFR (w_X0_remember p1) (f_X0_remember_35 p1 t0 S) S := by
  intro t0 S
  unfold f_X0_remember_35
  repeat' (first
    | with_reducible exact fr_none
    | with_reducible refine fr_if (fun _ => ?_) (fun _ => ?_)
    | with_reducible refine fr_some ?_
    | with_reducible refine z_fr_w ?_ (by unfold w_X0_remember; first | (exact Or.inl ⟨rfl, rfl⟩) | (exact Or.inr (Or.inl ⟨rfl, rfl⟩)))
    | with_reducible refine z_fr_u ?_ (by intro j9; unfold w_X0_remember; first | (exact Or.inl ⟨rfl, rfl⟩) | (exact Or.inr (Or.inl ⟨rfl, rfl⟩)))
    | with_reducible exact z_fr_rf
    | with_reducible assumption
    | with_reducible refine fr_bind (fr_X2_become _ _ _) (fun k j hkj => by unfold w_X2_become at hkj; unfold w_X0_remember; rcases hkj with hkj | hkj | hkj | hkj | hkj; (exact Or.inr (Or.inr ((by have h8 := hkj; first | omega | (have hz9 := z_in_lt (n := 4) (by assumption); omega) | (have hz9 := z_in_lt (n := 10) (by assumption); omega) | (have hz9 := z_in_lt (n := 2) (by assumption); omega))))); (exact Or.inr (Or.inr ((by have h8 := hkj; first | omega | (have hz9 := z_in_lt (n := 4) (by assumption); omega) | (have hz9 := z_in_lt (n := 10) (by assumption); omega) | (have hz9 := z_in_lt (n := 2) (by assumption); omega))))); (exact Or.inr (Or.inr ((by have h8 := hkj; first | omega | (have hz9 := z_in_lt (n := 4) (by assumption); omega) | (have hz9 := z_in_lt (n := 10) (by assumption); omega) | (have hz9 := z_in_lt (n := 2) (by assumption); omega))))); (exact Or.inr (Or.inr ((by have h8 := hkj; first | omega | (have hz9 := z_in_lt (n := 4) (by assumption); omega) | (have hz9 := z_in_lt (n := 10) (by assumption); omega) | (have hz9 := z_in_lt (n := 2) (by assumption); omega))))); (exact Or.inr (Or.inr ((by have h8 := hkj; first | omega | (have hz9 := z_in_lt (n := 4) (by assumption); omega) | (have hz9 := z_in_lt (n := 10) (by assumption); omega) | (have hz9 := z_in_lt (n := 2) (by assumption); omega)))))) ?_ (fun _ _ => ?_))
set_option maxHeartbeats 4000000 in
theorem fr_X0_remember : ∀ (p1 : Nat) (S : zS), zFR (w_X0_remember p1) (f_X0_remember p1 S) S := by
  intro p1 S
  unfold f_X0_remember
  repeat' (first
    | with_reducible exact fr_none
    | with_reducible refine fr_if (fun _ => ?_) (fun _ => ?_)
    | with_reducible refine fr_some ?_
    | with_reducible refine z_fr_w ?_ (by unfold w_X0_remember; first | (exact Or.inl ⟨rfl, rfl⟩) | (exact Or.inr (Or.inl ⟨rfl, rfl⟩)))
    | with_reducible refine z_fr_u ?_ (by intro j9; unfold w_X0_remember; first | (exact Or.inl ⟨rfl, rfl⟩) | (exact Or.inr (Or.inl ⟨rfl, rfl⟩)))
    | with_reducible exact z_fr_rf
    | with_reducible assumption
    | with_reducible refine fr_bind (fr_X2_become _ _ _) (fun k j hkj => by unfold w_X2_become at hkj; unfold w_X0_remember; rcases hkj with hkj | hkj | hkj | hkj | hkj; (exact Or.inr (Or.inr ((by have h8 := hkj; first | omega | (have hz9 := z_in_lt (n := 4) (by assumption); omega) | (have hz9 := z_in_lt (n := 10) (by assumption); omega) | (have hz9 := z_in_lt (n := 2) (by assumption); omega))))); (exact Or.inr (Or.inr ((by have h8 := hkj; first | omega | (have hz9 := z_in_lt (n := 4) (by assumption); omega) | (have hz9 := z_in_lt (n := 10) (by assumption); omega) | (have hz9 := z_in_lt (n := 2) (by assumption); omega))))); (exact Or.inr (Or.inr ((by have h8 := hkj; first | omega | (have hz9 := z_in_lt (n := 4) (by assumption); omega) | (have hz9 := z_in_lt (n := 10) (by assumption); omega) | (have hz9 := z_in_lt (n := 2) (by assumption); omega))))); (exact Or.inr (Or.inr ((by have h8 := hkj; first | omega | (have hz9 := z_in_lt (n := 4) (by assumption); omega) | (have hz9 := z_in_lt (n := 10) (by assumption); omega) | (have hz9 := z_in_lt (n := 2) (by assumption); omega))))); (exact Or.inr (Or.inr ((by have h8 := hkj; first | omega | (have hz9 := z_in_lt (n := 4) (by assumption); omega) | (have hz9 := z_in_lt (n := 10) (by assumption); omega) | (have hz9 := z_in_lt (n := 2) (by assumption); omega)))))) ?_ (fun _ _ => ?_)
    | with_reducible refine fr_go ?_ (fr_X0_remember_35 _ _))
def w_X2_coolAt (p0 : Nat) (k j : Nat) : Prop := False
set_option maxHeartbeats 4000000 in
theorem fr_X2_coolAt : ∀ (p0 : Nat) (a1 : Int32) (a2 : Int32) (S : zS), zFR (w_X2_coolAt p0) (f_X2_coolAt p0 a1 a2 S) S := by
  intro p0 a1 a2 S
  unfold f_X2_coolAt
  repeat' (first
    | with_reducible exact fr_none
    | with_reducible refine fr_if (fun _ => ?_) (fun _ => ?_)
    | with_reducible refine fr_some ?_
    | with_reducible exact z_fr_rf
    | with_reducible assumption)
def w_X2_beginOfBurn (p0 : Nat) (p2 : Nat) (k j : Nat) : Prop := False
set_option maxHeartbeats 4000000 in
theorem fr_X2_beginOfBurn_40 {p0 : Nat} {p2 : Nat} : ∀ (v3 : Int32) (S : zS), zFR (w_X2_beginOfBurn p0 p2) (f_X2_beginOfBurn_40 p0 p2 v3 S) S := by
  intro v3 S
  unfold f_X2_beginOfBurn_40
  repeat' (first
    | with_reducible exact fr_none
    | with_reducible refine fr_if (fun _ => ?_) (fun _ => ?_)
    | with_reducible refine fr_some ?_
    | with_reducible exact z_fr_rf
    | with_reducible assumption
    | with_reducible refine fr_bind (fr_X2_coolAt _ _ _ _) (fun k j hkj => by unfold w_X2_coolAt at hkj; exact hkj.elim) ?_ (fun _ _ => ?_)
    | with_reducible refine fr_bind (fr_X1_way _ _ _ _) (fun k j hkj => by unfold w_X1_way at hkj; exact hkj.elim) ?_ (fun _ _ => ?_))
set_option maxHeartbeats 4000000 in
theorem fr_X2_beginOfBurn : ∀ (p0 : Nat) (a1 : Int32) (p2 : Nat) (S : zS), zFR (w_X2_beginOfBurn p0 p2) (f_X2_beginOfBurn p0 a1 p2 S) S := by
  intro p0 a1 p2 S
  unfold f_X2_beginOfBurn
  repeat' (first
    | with_reducible exact fr_none
    | with_reducible refine fr_if (fun _ => ?_) (fun _ => ?_)
    | with_reducible refine fr_some ?_
    | with_reducible exact z_fr_rf
    | with_reducible assumption
    | with_reducible refine fr_bind (fr_X2_coolAt _ _ _ _) (fun k j hkj => by unfold w_X2_coolAt at hkj; exact hkj.elim) ?_ (fun _ _ => ?_)
    | with_reducible refine fr_bind (fr_X1_way _ _ _ _) (fun k j hkj => by unfold w_X1_way at hkj; exact hkj.elim) ?_ (fun _ _ => ?_)
    | with_reducible refine fr_go ?_ (fr_X2_beginOfBurn_40 _ _))
def w_X2_burn (p0 : Nat) (p3 : Nat) (k j : Nat) : Prop := (k = p0 ∧ j = 0) ∨ (k = p0 ∧ j = 1) ∨ (k = p0 ∧ j = 2) ∨ (k = p0 ∧ j = 3) ∨ k = p0 + 1
set_option maxHeartbeats 4000000 in
theorem fr_X2_burn : ∀ (p0 : Nat) (a1 : Int32) (a2 : Int32) (p3 : Nat) (S : zS), zFR (w_X2_burn p0 p3) (f_X2_burn p0 a1 a2 p3 S) S := by
  intro p0 a1 a2 p3 S
  unfold f_X2_burn
  repeat' (first
    | with_reducible exact fr_none
    | with_reducible refine fr_if (fun _ => ?_) (fun _ => ?_)
    | with_reducible refine fr_some ?_
    | with_reducible refine z_fr_w ?_ (by unfold w_X2_burn; first | (exact Or.inr (Or.inr (Or.inr (Or.inr rfl)))) | (exact Or.inr (Or.inr (Or.inl ⟨rfl, rfl⟩))) | (exact Or.inl ⟨rfl, rfl⟩) | (exact Or.inr (Or.inl ⟨rfl, rfl⟩)) | (exact Or.inr (Or.inr (Or.inr (Or.inl ⟨rfl, rfl⟩)))))
    | with_reducible refine z_fr_u ?_ (by intro j9; unfold w_X2_burn; first | (exact Or.inr (Or.inr (Or.inr (Or.inr rfl)))) | (exact Or.inr (Or.inr (Or.inl ⟨rfl, rfl⟩))) | (exact Or.inl ⟨rfl, rfl⟩) | (exact Or.inr (Or.inl ⟨rfl, rfl⟩)) | (exact Or.inr (Or.inr (Or.inr (Or.inl ⟨rfl, rfl⟩)))))
    | with_reducible exact z_fr_rf
    | with_reducible assumption
    | with_reducible refine fr_bind (fr_X1_hasCorner _ _ _) (fun k j hkj => by unfold w_X1_hasCorner at hkj; exact hkj.elim) ?_ (fun _ _ => ?_)
    | with_reducible refine fr_bind (fr_X2_beginOfBurn _ _ _ _) (fun k j hkj => by unfold w_X2_beginOfBurn at hkj; exact hkj.elim) ?_ (fun _ _ => ?_)
    | with_reducible refine fr_bind (fr_X1_way _ _ _ _) (fun k j hkj => by unfold w_X1_way at hkj; exact hkj.elim) ?_ (fun _ _ => ?_))
def w_X8_burnTo (k j : Nat) : Prop := (k = 32 ∧ j = 0) ∨ (k = 32 ∧ j = 1) ∨ (k = 32 ∧ j = 2) ∨ (k = 32 ∧ j = 3) ∨ k = 33 ∨ (k = 34 ∧ j = 1) ∨ (k = 34 ∧ j = 2) ∨ (36 ≤ k ∧ k ≤ 55) ∨ (k = 57 ∧ j = 0) ∨ (k = 69 ∧ j = 0)
set_option maxHeartbeats 4000000 in
theorem fr_X8_burnTo : ∀ (a1 : Int32) (S : zS), zFR w_X8_burnTo (f_X8_burnTo a1 S) S := by
  intro a1 S
  unfold f_X8_burnTo
  repeat' (first
    | with_reducible exact fr_none
    | with_reducible refine fr_if (fun _ => ?_) (fun _ => ?_)
    | with_reducible refine fr_some ?_
    | with_reducible exact z_fr_rf
    | with_reducible assumption
    | with_reducible refine fr_bind (fr_X1_cutBetween _ _ _ _) (fun k j hkj => by unfold w_X1_cutBetween at hkj; exact hkj.elim) ?_ (fun _ _ => ?_)
    | with_reducible refine fr_bind (fr_X8_has _ _ _) (fun k j hkj => by unfold w_X8_has at hkj; exact hkj.elim) ?_ (fun _ _ => ?_)
    | with_reducible refine fr_bind (fr_X2_mayLose _ _ _ _) (fun k j hkj => by unfold w_X2_mayLose at hkj; exact hkj.elim) ?_ (fun _ _ => ?_)
    | with_reducible refine fr_bind (fr_X0_remember _ _) (fun k j hkj => by unfold w_X0_remember at hkj; unfold w_X8_burnTo; rcases hkj with hkj | hkj | hkj; (exact Or.inr (Or.inr (Or.inr (Or.inr (Or.inr (Or.inl hkj)))))); (exact Or.inr (Or.inr (Or.inr (Or.inr (Or.inr (Or.inr (Or.inl hkj))))))); (exact Or.inr (Or.inr (Or.inr (Or.inr (Or.inr (Or.inr (Or.inr (Or.inl hkj))))))))) ?_ (fun _ _ => ?_)
    | with_reducible refine fr_bind (fr_X2_burn _ _ _ _ _) (fun k j hkj => by unfold w_X2_burn at hkj; unfold w_X8_burnTo; rcases hkj with hkj | hkj | hkj | hkj | hkj; (exact Or.inl hkj); (exact Or.inr (Or.inl hkj)); (exact Or.inr (Or.inr (Or.inl hkj))); (exact Or.inr (Or.inr (Or.inr (Or.inl hkj)))); (exact Or.inr (Or.inr (Or.inr (Or.inr (Or.inl hkj)))))) ?_ (fun _ _ => ?_)
    | with_reducible refine fr_bind (fr_X8_outdate _) (fun k j hkj => by unfold w_X8_outdate at hkj; unfold w_X8_burnTo; rcases hkj with hkj | hkj; (exact Or.inr (Or.inr (Or.inr (Or.inr (Or.inr (Or.inr (Or.inr (Or.inr (Or.inl hkj))))))))); (exact Or.inr (Or.inr (Or.inr (Or.inr (Or.inr (Or.inr (Or.inr (Or.inr (Or.inr hkj)))))))))) ?_ (fun _ _ => ?_))
def w_X8_burns (k j : Nat) : Prop := (k = 32 ∧ j = 0) ∨ (k = 32 ∧ j = 1) ∨ (k = 32 ∧ j = 2) ∨ (k = 32 ∧ j = 3) ∨ k = 33 ∨ (k = 34 ∧ j = 1) ∨ (k = 34 ∧ j = 2) ∨ (36 ≤ k ∧ k ≤ 55) ∨ (k = 57 ∧ j = 0) ∨ (k = 69 ∧ j = 0)
set_option maxHeartbeats 4000000 in
theorem fr_X8_burns : ∀ (a1 : Int32) (S : zS), zFR w_X8_burns (f_X8_burns a1 S) S := by
  intro a1 S
  unfold f_X8_burns
  repeat' (first
    | with_reducible exact fr_none
    | with_reducible refine fr_if (fun _ => ?_) (fun _ => ?_)
    | with_reducible refine fr_some ?_
    | with_reducible exact z_fr_rf
    | with_reducible assumption
    | with_reducible refine fr_bind (fr_X1_hasCorner _ _ _) (fun k j hkj => by unfold w_X1_hasCorner at hkj; exact hkj.elim) ?_ (fun _ _ => ?_)
    | with_reducible refine fr_bind (fr_X8_burnTo _ _) (fun k j hkj => by unfold w_X8_burnTo at hkj; unfold w_X8_burns; rcases hkj with hkj | hkj | hkj | hkj | hkj | hkj | hkj | hkj | hkj | hkj; (exact Or.inl hkj); (exact Or.inr (Or.inl hkj)); (exact Or.inr (Or.inr (Or.inl hkj))); (exact Or.inr (Or.inr (Or.inr (Or.inl hkj)))); (exact Or.inr (Or.inr (Or.inr (Or.inr (Or.inl hkj))))); (exact Or.inr (Or.inr (Or.inr (Or.inr (Or.inr (Or.inl hkj)))))); (exact Or.inr (Or.inr (Or.inr (Or.inr (Or.inr (Or.inr (Or.inl hkj))))))); (exact Or.inr (Or.inr (Or.inr (Or.inr (Or.inr (Or.inr (Or.inr (Or.inl hkj)))))))); (exact Or.inr (Or.inr (Or.inr (Or.inr (Or.inr (Or.inr (Or.inr (Or.inr (Or.inl hkj))))))))); (exact Or.inr (Or.inr (Or.inr (Or.inr (Or.inr (Or.inr (Or.inr (Or.inr (Or.inr hkj)))))))))) ?_ (fun _ _ => ?_))
def w_X9_wouldFall (k j : Nat) : Prop := False
set_option maxHeartbeats 4000000 in
theorem fr_X9_wouldFall_17 {K4 : Int32 → Int32 → Int32 → zS → Option (Int32 × zS)} (hK4 : ∀ (v1 : Int32) (v2 : Int32) (v3 : Int32) (S : zS), zFR w_X9_wouldFall (K4 v1 v2 v3 S) S) : ∀ (n : Nat) (v1 : Int32) (v2 : Int32) (v3 : Int32) (v4 : Int32) (S : zS), zFR w_X9_wouldFall (f_X9_wouldFall_17 K4 n v1 v2 v3 v4 S) S := by
  intro n
  induction n with
  | zero =>
    intro v1 v2 v3 v4 S r hr
    cases (show (none : Option (Int32 × zS)) = some r from hr)
  | succ n ih =>
    intro v1 v2 v3 v4 S
    rw [f_X9_wouldFall_17]
    repeat' (first
    | with_reducible exact fr_none
    | with_reducible refine fr_if (fun _ => ?_) (fun _ => ?_)
    | with_reducible refine fr_some ?_
    | with_reducible exact z_fr_rf
    | with_reducible assumption
    | with_reducible refine fr_bind (fr_X9_has _ _ _) (fun k j hkj => by unfold w_X9_has at hkj; exact hkj.elim) ?_ (fun _ _ => ?_)
    | with_reducible refine fr_bind (fr_X9_cutsOfPart _ _) (fun k j hkj => by unfold w_X9_cutsOfPart at hkj; exact hkj.elim) ?_ (fun _ _ => ?_)
    | with_reducible refine fr_go ?_ (hK4 _ _ _ _)
    | with_reducible refine fr_go ?_ (ih _ _ _ _ _))
set_option maxHeartbeats 4000000 in
theorem fr_X9_wouldFall_4 : ∀ (n : Nat) (v1 : Int32) (v2 : Int32) (v3 : Int32) (S : zS), zFR w_X9_wouldFall (f_X9_wouldFall_4 n v1 v2 v3 S) S := by
  intro n
  induction n with
  | zero =>
    intro v1 v2 v3 S r hr
    cases (show (none : Option (Int32 × zS)) = some r from hr)
  | succ n ih =>
    intro v1 v2 v3 S
    rw [f_X9_wouldFall_4]
    repeat' (first
    | with_reducible exact fr_none
    | with_reducible refine fr_if (fun _ => ?_) (fun _ => ?_)
    | with_reducible refine fr_some ?_
    | with_reducible exact z_fr_rf
    | with_reducible assumption
    | with_reducible refine fr_bind (fr_X9_has _ _ _) (fun k j hkj => by unfold w_X9_has at hkj; exact hkj.elim) ?_ (fun _ _ => ?_)
    | with_reducible refine fr_bind (fr_X9_cutsOfPart _ _) (fun k j hkj => by unfold w_X9_cutsOfPart at hkj; exact hkj.elim) ?_ (fun _ _ => ?_)
    | with_reducible refine fr_go ?_ (fr_X9_wouldFall_17 (by first | exact hK4 | exact ih) 1000 _ _ _ _ _)
    | with_reducible refine fr_go ?_ (hK4 _ _ _ _)
    | with_reducible refine fr_go ?_ (ih _ _ _ _))
set_option maxHeartbeats 4000000 in
theorem fr_X9_wouldFall : ∀ (a1 : Int32) (S : zS), zFR w_X9_wouldFall (f_X9_wouldFall a1 S) S := by
  intro a1 S
  unfold f_X9_wouldFall
  repeat' (first
    | with_reducible exact fr_none
    | with_reducible refine fr_if (fun _ => ?_) (fun _ => ?_)
    | with_reducible refine fr_some ?_
    | with_reducible exact z_fr_rf
    | with_reducible assumption
    | with_reducible refine fr_bind (fr_X9_has _ _ _) (fun k j hkj => by unfold w_X9_has at hkj; exact hkj.elim) ?_ (fun _ _ => ?_)
    | with_reducible refine fr_bind (fr_X9_cutsOfPart _ _) (fun k j hkj => by unfold w_X9_cutsOfPart at hkj; exact hkj.elim) ?_ (fun _ _ => ?_)
    | with_reducible refine fr_go ?_ (fr_X9_wouldFall_17 (by first | exact hK4 | exact ih) 1000 _ _ _ _ _)
    | with_reducible refine fr_go ?_ (fr_X9_wouldFall_4 1000 _ _ _ _)
    | with_reducible refine fr_go ?_ (hK4 _ _ _ _))
def w_X9_mayBurn (k j : Nat) : Prop := False
set_option maxHeartbeats 4000000 in
theorem fr_X9_mayBurn : ∀ (a1 : Int32) (S : zS), zFR w_X9_mayBurn (f_X9_mayBurn a1 S) S := by
  intro a1 S
  unfold f_X9_mayBurn
  repeat' (first
    | with_reducible exact fr_none
    | with_reducible refine fr_if (fun _ => ?_) (fun _ => ?_)
    | with_reducible refine fr_some ?_
    | with_reducible exact z_fr_rf
    | with_reducible assumption
    | with_reducible refine fr_bind (fr_X9_cutOf _ _ _ _) (fun k j hkj => by unfold w_X9_cutOf at hkj; exact hkj.elim) ?_ (fun _ _ => ?_)
    | with_reducible refine fr_bind (fr_X9_has _ _ _) (fun k j hkj => by unfold w_X9_has at hkj; exact hkj.elim) ?_ (fun _ _ => ?_)
    | with_reducible refine fr_bind (fr_X9_wouldFall _ _) (fun k j hkj => by unfold w_X9_wouldFall at hkj; exact hkj.elim) ?_ (fun _ _ => ?_))
def w_X9_notes (k j : Nat) : Prop := (k = 87 ∧ j = 13) ∨ k = 92
set_option maxHeartbeats 4000000 in
theorem fr_X9_notes_46 : ∀ (n : Nat) (v1 : Int32) (S : zS), zFR w_X9_notes (f_X9_notes_46 n v1 S) S := by
  intro n
  induction n with
  | zero =>
    intro v1 S r hr
    cases (show (none : Option (Unit × zS)) = some r from hr)
  | succ n ih =>
    intro v1 S
    rw [f_X9_notes_46]
    repeat' (first
    | with_reducible exact fr_none
    | with_reducible refine fr_if (fun _ => ?_) (fun _ => ?_)
    | with_reducible refine fr_some ?_
    | with_reducible refine z_fr_w ?_ (by unfold w_X9_notes; first | (exact Or.inl ⟨rfl, rfl⟩) | (exact Or.inr rfl))
    | with_reducible refine z_fr_u ?_ (by intro j9; unfold w_X9_notes; first | (exact Or.inl ⟨rfl, rfl⟩) | (exact Or.inr rfl))
    | with_reducible exact z_fr_rf
    | with_reducible assumption
    | with_reducible refine fr_go ?_ (ih _ _))
set_option maxHeartbeats 4000000 in
theorem fr_X9_notes_11 : ∀ (n : Nat) (v1 : Int32) (S : zS), zFR w_X9_notes (f_X9_notes_11 n v1 S) S := by
  intro n
  induction n with
  | zero =>
    intro v1 S r hr
    cases (show (none : Option (Unit × zS)) = some r from hr)
  | succ n ih =>
    intro v1 S
    rw [f_X9_notes_11]
    repeat' (first
    | with_reducible exact fr_none
    | with_reducible refine fr_if (fun _ => ?_) (fun _ => ?_)
    | with_reducible refine fr_some ?_
    | with_reducible refine z_fr_w ?_ (by unfold w_X9_notes; first | (exact Or.inl ⟨rfl, rfl⟩) | (exact Or.inr rfl))
    | with_reducible refine z_fr_u ?_ (by intro j9; unfold w_X9_notes; first | (exact Or.inl ⟨rfl, rfl⟩) | (exact Or.inr rfl))
    | with_reducible exact z_fr_rf
    | with_reducible assumption
    | with_reducible refine fr_go ?_ (fr_X9_notes_46 1000 _ _)
    | with_reducible refine fr_go ?_ (ih _ _))
set_option maxHeartbeats 4000000 in
theorem fr_X9_notes : ∀ (S : zS), zFR w_X9_notes (f_X9_notes  S) S := by
  intro  S
  unfold f_X9_notes
  repeat' (first
    | with_reducible exact fr_none
    | with_reducible refine fr_if (fun _ => ?_) (fun _ => ?_)
    | with_reducible refine fr_some ?_
    | with_reducible refine z_fr_w ?_ (by unfold w_X9_notes; first | (exact Or.inl ⟨rfl, rfl⟩) | (exact Or.inr rfl))
    | with_reducible refine z_fr_u ?_ (by intro j9; unfold w_X9_notes; first | (exact Or.inl ⟨rfl, rfl⟩) | (exact Or.inr rfl))
    | with_reducible exact z_fr_rf
    | with_reducible assumption
    | with_reducible refine fr_go ?_ (fr_X9_notes_46 1000 _ _)
    | with_reducible refine fr_go ?_ (fr_X9_notes_11 1000 _ _))
def w_X9_isCool (k j : Nat) : Prop := False
set_option maxHeartbeats 4000000 in
theorem fr_X9_isCool : ∀ (a1 : Int32) (a2 : Int32) (S : zS), zFR w_X9_isCool (f_X9_isCool a1 a2 S) S := by
  intro a1 a2 S
  unfold f_X9_isCool
  repeat' (first
    | with_reducible exact fr_none
    | with_reducible refine fr_if (fun _ => ?_) (fun _ => ?_)
    | with_reducible refine fr_some ?_
    | with_reducible exact z_fr_rf
    | with_reducible assumption)
def w_X9_beginsAt (k j : Nat) : Prop := False
set_option maxHeartbeats 4000000 in
theorem fr_X9_beginsAt_136 : ∀ (v7 : Int32) (t0 : Int32) (S : zS), zFR w_X9_beginsAt (f_X9_beginsAt_136 v7 t0 S) S := by
  intro v7 t0 S
  unfold f_X9_beginsAt_136
  repeat' (first
    | with_reducible exact fr_none
    | with_reducible refine fr_if (fun _ => ?_) (fun _ => ?_)
    | with_reducible refine fr_some ?_
    | with_reducible exact z_fr_rf
    | with_reducible assumption
    | with_reducible refine fr_bind (fr_X9_way _ _ _) (fun k j hkj => by unfold w_X9_way at hkj; exact hkj.elim) ?_ (fun _ _ => ?_)
    | with_reducible refine fr_bind (fr_X9_isCool _ _ _) (fun k j hkj => by unfold w_X9_isCool at hkj; exact hkj.elim) ?_ (fun _ _ => ?_))
set_option maxHeartbeats 4000000 in
theorem fr_X9_beginsAt_120 : ∀ (v5 : Int32) (v6 : Int32) (t0 : Int32) (S : zS), zFR w_X9_beginsAt (f_X9_beginsAt_120 v5 v6 t0 S) S := by
  intro v5 v6 t0 S
  unfold f_X9_beginsAt_120
  repeat' (first
    | with_reducible exact fr_none
    | with_reducible refine fr_if (fun _ => ?_) (fun _ => ?_)
    | with_reducible refine fr_some ?_
    | with_reducible exact z_fr_rf
    | with_reducible assumption
    | with_reducible refine fr_bind (fr_X9_way _ _ _) (fun k j hkj => by unfold w_X9_way at hkj; exact hkj.elim) ?_ (fun _ _ => ?_)
    | with_reducible refine fr_bind (fr_X9_isCool _ _ _) (fun k j hkj => by unfold w_X9_isCool at hkj; exact hkj.elim) ?_ (fun _ _ => ?_)
    | with_reducible refine fr_go ?_ (fr_X9_beginsAt_136 _ _ _))
set_option maxHeartbeats 4000000 in
theorem fr_X9_beginsAt_83 : ∀ (v2 : Int32) (v4 : Int32) (v5 : Int32) (t0 : Int32) (S : zS), zFR w_X9_beginsAt (f_X9_beginsAt_83 v2 v4 v5 t0 S) S := by
  intro v2 v4 v5 t0 S
  unfold f_X9_beginsAt_83
  repeat' (first
    | with_reducible exact fr_none
    | with_reducible refine fr_if (fun _ => ?_) (fun _ => ?_)
    | with_reducible refine fr_some ?_
    | with_reducible exact z_fr_rf
    | with_reducible assumption
    | with_reducible refine fr_bind (fr_X9_way _ _ _) (fun k j hkj => by unfold w_X9_way at hkj; exact hkj.elim) ?_ (fun _ _ => ?_)
    | with_reducible refine fr_bind (fr_X9_isCool _ _ _) (fun k j hkj => by unfold w_X9_isCool at hkj; exact hkj.elim) ?_ (fun _ _ => ?_)
    | with_reducible refine fr_go ?_ (fr_X9_beginsAt_136 _ _ _)
    | with_reducible refine fr_go ?_ (fr_X9_beginsAt_120 _ _ _ _))
set_option maxHeartbeats 4000000 in
theorem fr_X9_beginsAt_48 : ∀ (v1 : Int32) (v2 : Int32) (v3 : Int32) (v4 : Int32) (S : zS), zFR w_X9_beginsAt (f_X9_beginsAt_48 v1 v2 v3 v4 S) S := by
  intro v1 v2 v3 v4 S
  unfold f_X9_beginsAt_48
  repeat' (first
    | with_reducible exact fr_none
    | with_reducible refine fr_if (fun _ => ?_) (fun _ => ?_)
    | with_reducible refine fr_some ?_
    | with_reducible exact z_fr_rf
    | with_reducible assumption
    | with_reducible refine fr_bind (fr_X9_way _ _ _) (fun k j hkj => by unfold w_X9_way at hkj; exact hkj.elim) ?_ (fun _ _ => ?_)
    | with_reducible refine fr_bind (fr_X9_isCool _ _ _) (fun k j hkj => by unfold w_X9_isCool at hkj; exact hkj.elim) ?_ (fun _ _ => ?_)
    | with_reducible refine fr_go ?_ (fr_X9_beginsAt_136 _ _ _)
    | with_reducible refine fr_go ?_ (fr_X9_beginsAt_120 _ _ _ _)
    | with_reducible refine fr_go ?_ (fr_X9_beginsAt_83 _ _ _ _ _))
set_option maxHeartbeats 4000000 in
theorem fr_X9_beginsAt_34 : ∀ (v1 : Int32) (v2 : Int32) (v3 : Int32) (v4 : Int32) (S : zS), zFR w_X9_beginsAt (f_X9_beginsAt_34 v1 v2 v3 v4 S) S := by
  intro v1 v2 v3 v4 S
  unfold f_X9_beginsAt_34
  repeat' (first
    | with_reducible exact fr_none
    | with_reducible refine fr_if (fun _ => ?_) (fun _ => ?_)
    | with_reducible refine fr_some ?_
    | with_reducible exact z_fr_rf
    | with_reducible assumption
    | with_reducible refine fr_bind (fr_X9_way _ _ _) (fun k j hkj => by unfold w_X9_way at hkj; exact hkj.elim) ?_ (fun _ _ => ?_)
    | with_reducible refine fr_bind (fr_X9_isCool _ _ _) (fun k j hkj => by unfold w_X9_isCool at hkj; exact hkj.elim) ?_ (fun _ _ => ?_)
    | with_reducible refine fr_go ?_ (fr_X9_beginsAt_136 _ _ _)
    | with_reducible refine fr_go ?_ (fr_X9_beginsAt_120 _ _ _ _)
    | with_reducible refine fr_go ?_ (fr_X9_beginsAt_83 _ _ _ _ _)
    | with_reducible refine fr_go ?_ (fr_X9_beginsAt_48 _ _ _ _ _))
set_option maxHeartbeats 4000000 in
theorem fr_X9_beginsAt : ∀ (a1 : Int32) (a2 : Int32) (S : zS), zFR w_X9_beginsAt (f_X9_beginsAt a1 a2 S) S := by
  intro a1 a2 S
  unfold f_X9_beginsAt
  repeat' (first
    | with_reducible exact fr_none
    | with_reducible refine fr_if (fun _ => ?_) (fun _ => ?_)
    | with_reducible refine fr_some ?_
    | with_reducible exact z_fr_rf
    | with_reducible assumption
    | with_reducible refine fr_bind (fr_X9_way _ _ _) (fun k j hkj => by unfold w_X9_way at hkj; exact hkj.elim) ?_ (fun _ _ => ?_)
    | with_reducible refine fr_bind (fr_X9_isCool _ _ _) (fun k j hkj => by unfold w_X9_isCool at hkj; exact hkj.elim) ?_ (fun _ _ => ?_)
    | with_reducible refine fr_go ?_ (fr_X9_beginsAt_136 _ _ _)
    | with_reducible refine fr_go ?_ (fr_X9_beginsAt_120 _ _ _ _)
    | with_reducible refine fr_go ?_ (fr_X9_beginsAt_83 _ _ _ _ _)
    | with_reducible refine fr_go ?_ (fr_X9_beginsAt_48 _ _ _ _ _)
    | with_reducible refine fr_go ?_ (fr_X9_beginsAt_34 _ _ _ _ _))
def w_X9_burn (k j : Nat) : Prop := (k = 87 ∧ j = 13) ∨ k = 91 ∨ k = 92
set_option maxHeartbeats 4000000 in
theorem fr_X9_burn : ∀ (a1 : Int32) (S : zS), zFR w_X9_burn (f_X9_burn a1 S) S := by
  intro a1 S
  unfold f_X9_burn
  repeat' (first
    | with_reducible exact fr_none
    | with_reducible refine fr_if (fun _ => ?_) (fun _ => ?_)
    | with_reducible refine fr_some ?_
    | with_reducible refine z_fr_w ?_ (by unfold w_X9_burn; first | (exact Or.inr (Or.inl rfl)))
    | with_reducible refine z_fr_u ?_ (by intro j9; unfold w_X9_burn; first | (exact Or.inr (Or.inl rfl)))
    | with_reducible exact z_fr_rf
    | with_reducible assumption
    | with_reducible refine fr_bind (fr_X9_notes _) (fun k j hkj => by unfold w_X9_notes at hkj; unfold w_X9_burn; rcases hkj with hkj | hkj; (exact Or.inl hkj); (exact Or.inr (Or.inr hkj))) ?_ (fun _ _ => ?_)
    | with_reducible refine fr_bind (fr_X9_beginsAt _ _ _) (fun k j hkj => by unfold w_X9_beginsAt at hkj; exact hkj.elim) ?_ (fun _ _ => ?_)
    | with_reducible refine fr_bind (fr_X9_cutOf _ _ _ _) (fun k j hkj => by unfold w_X9_cutOf at hkj; exact hkj.elim) ?_ (fun _ _ => ?_)
    | with_reducible refine fr_bind (fr_X9_way _ _ _) (fun k j hkj => by unfold w_X9_way at hkj; exact hkj.elim) ?_ (fun _ _ => ?_))
def w_X9_burns (k j : Nat) : Prop := (k = 87 ∧ j = 0) ∨ (k = 87 ∧ j = 13) ∨ k = 91 ∨ k = 92
set_option maxHeartbeats 4000000 in
theorem fr_X9_burns : ∀ (a1 : Int32) (S : zS), zFR w_X9_burns (f_X9_burns a1 S) S := by
  intro a1 S
  unfold f_X9_burns
  repeat' (first
    | with_reducible exact fr_none
    | with_reducible refine fr_if (fun _ => ?_) (fun _ => ?_)
    | with_reducible refine fr_some ?_
    | with_reducible refine z_fr_w ?_ (by unfold w_X9_burns; first | (exact Or.inl ⟨rfl, rfl⟩))
    | with_reducible refine z_fr_u ?_ (by intro j9; unfold w_X9_burns; first | (exact Or.inl ⟨rfl, rfl⟩))
    | with_reducible exact z_fr_rf
    | with_reducible assumption
    | with_reducible refine fr_bind (fr_X9_isCornerNow _ _) (fun k j hkj => by unfold w_X9_isCornerNow at hkj; exact hkj.elim) ?_ (fun _ _ => ?_)
    | with_reducible refine fr_bind (fr_X9_mayBurn _ _) (fun k j hkj => by unfold w_X9_mayBurn at hkj; exact hkj.elim) ?_ (fun _ _ => ?_)
    | with_reducible refine fr_bind (fr_X9_burn _ _) (fun k j hkj => by unfold w_X9_burn at hkj; unfold w_X9_burns; rcases hkj with hkj | hkj | hkj; (exact Or.inr (Or.inl hkj)); (exact Or.inr (Or.inr (Or.inl hkj))); (exact Or.inr (Or.inr (Or.inr hkj)))) ?_ (fun _ _ => ?_))
def w_X2_move (p0 : Nat) (p2 : Nat) (k j : Nat) : Prop := (k = p0 ∧ j = 1) ∨ (k = p0 ∧ j = 2) ∨ (k = p0 ∧ j = 3)
set_option maxHeartbeats 4000000 in
theorem fr_X2_move : ∀ (p0 : Nat) (a1 : Int32) (p2 : Nat) (S : zS), zFR (w_X2_move p0 p2) (f_X2_move p0 a1 p2 S) S := by
  intro p0 a1 p2 S
  unfold f_X2_move
  repeat' (first
    | with_reducible exact fr_none
    | with_reducible refine fr_if (fun _ => ?_) (fun _ => ?_)
    | with_reducible refine fr_some ?_
    | with_reducible refine z_fr_w ?_ (by unfold w_X2_move; first | (exact Or.inr (Or.inl ⟨rfl, rfl⟩)) | (exact Or.inl ⟨rfl, rfl⟩) | (exact Or.inr (Or.inr ⟨rfl, rfl⟩)))
    | with_reducible refine z_fr_u ?_ (by intro j9; unfold w_X2_move; first | (exact Or.inr (Or.inl ⟨rfl, rfl⟩)) | (exact Or.inl ⟨rfl, rfl⟩) | (exact Or.inr (Or.inr ⟨rfl, rfl⟩)))
    | with_reducible exact z_fr_rf
    | with_reducible assumption
    | with_reducible refine fr_bind (fr_X1_way _ _ _ _) (fun k j hkj => by unfold w_X1_way at hkj; exact hkj.elim) ?_ (fun _ _ => ?_))
def w_X8_moveTo (k j : Nat) : Prop := (k = 32 ∧ j = 1) ∨ (k = 32 ∧ j = 2) ∨ (k = 32 ∧ j = 3) ∨ (k = 34 ∧ j = 1) ∨ (k = 34 ∧ j = 2) ∨ (36 ≤ k ∧ k ≤ 55) ∨ (k = 57 ∧ j = 0) ∨ (k = 69 ∧ j = 0)
set_option maxHeartbeats 4000000 in
theorem fr_X8_moveTo : ∀ (a1 : Int32) (S : zS), zFR w_X8_moveTo (f_X8_moveTo a1 S) S := by
  intro a1 S
  unfold f_X8_moveTo
  repeat' (first
    | with_reducible exact fr_none
    | with_reducible refine fr_if (fun _ => ?_) (fun _ => ?_)
    | with_reducible refine fr_some ?_
    | with_reducible exact z_fr_rf
    | with_reducible assumption
    | with_reducible refine fr_bind (fr_X0_remember _ _) (fun k j hkj => by unfold w_X0_remember at hkj; unfold w_X8_moveTo; rcases hkj with hkj | hkj | hkj; (exact Or.inr (Or.inr (Or.inr (Or.inl hkj)))); (exact Or.inr (Or.inr (Or.inr (Or.inr (Or.inl hkj))))); (exact Or.inr (Or.inr (Or.inr (Or.inr (Or.inr (Or.inl hkj))))))) ?_ (fun _ _ => ?_)
    | with_reducible refine fr_bind (fr_X2_move _ _ _ _) (fun k j hkj => by unfold w_X2_move at hkj; unfold w_X8_moveTo; rcases hkj with hkj | hkj | hkj; (exact Or.inl hkj); (exact Or.inr (Or.inl hkj)); (exact Or.inr (Or.inr (Or.inl hkj)))) ?_ (fun _ _ => ?_)
    | with_reducible refine fr_bind (fr_X8_outdate _) (fun k j hkj => by unfold w_X8_outdate at hkj; unfold w_X8_moveTo; rcases hkj with hkj | hkj; (exact Or.inr (Or.inr (Or.inr (Or.inr (Or.inr (Or.inr (Or.inl hkj))))))); (exact Or.inr (Or.inr (Or.inr (Or.inr (Or.inr (Or.inr (Or.inr hkj)))))))) ?_ (fun _ _ => ?_))
def w_X8_moves (k j : Nat) : Prop := (k = 32 ∧ j = 1) ∨ (k = 32 ∧ j = 2) ∨ (k = 32 ∧ j = 3) ∨ (k = 34 ∧ j = 1) ∨ (k = 34 ∧ j = 2) ∨ (36 ≤ k ∧ k ≤ 55) ∨ (k = 57 ∧ j = 0) ∨ (k = 69 ∧ j = 0)
set_option maxHeartbeats 4000000 in
theorem fr_X8_moves : ∀ (a1 : Int32) (S : zS), zFR w_X8_moves (f_X8_moves a1 S) S := by
  intro a1 S
  unfold f_X8_moves
  repeat' (first
    | with_reducible exact fr_none
    | with_reducible refine fr_if (fun _ => ?_) (fun _ => ?_)
    | with_reducible refine fr_some ?_
    | with_reducible exact z_fr_rf
    | with_reducible assumption
    | with_reducible refine fr_bind (fr_X1_hasCorner _ _ _) (fun k j hkj => by unfold w_X1_hasCorner at hkj; exact hkj.elim) ?_ (fun _ _ => ?_)
    | with_reducible refine fr_bind (fr_X8_moveTo _ _) (fun k j hkj => by unfold w_X8_moveTo at hkj; unfold w_X8_moves; rcases hkj with hkj | hkj | hkj | hkj | hkj | hkj | hkj | hkj; (exact Or.inl hkj); (exact Or.inr (Or.inl hkj)); (exact Or.inr (Or.inr (Or.inl hkj))); (exact Or.inr (Or.inr (Or.inr (Or.inl hkj)))); (exact Or.inr (Or.inr (Or.inr (Or.inr (Or.inl hkj))))); (exact Or.inr (Or.inr (Or.inr (Or.inr (Or.inr (Or.inl hkj)))))); (exact Or.inr (Or.inr (Or.inr (Or.inr (Or.inr (Or.inr (Or.inl hkj))))))); (exact Or.inr (Or.inr (Or.inr (Or.inr (Or.inr (Or.inr (Or.inr hkj)))))))) ?_ (fun _ _ => ?_))
def w_X9_move (k j : Nat) : Prop := (k = 87 ∧ j = 13) ∨ k = 91 ∨ k = 92
set_option maxHeartbeats 4000000 in
theorem fr_X9_move : ∀ (a1 : Int32) (S : zS), zFR w_X9_move (f_X9_move a1 S) S := by
  intro a1 S
  unfold f_X9_move
  repeat' (first
    | with_reducible exact fr_none
    | with_reducible refine fr_if (fun _ => ?_) (fun _ => ?_)
    | with_reducible refine fr_some ?_
    | with_reducible refine z_fr_w ?_ (by unfold w_X9_move; first | (exact Or.inr (Or.inl rfl)))
    | with_reducible refine z_fr_u ?_ (by intro j9; unfold w_X9_move; first | (exact Or.inr (Or.inl rfl)))
    | with_reducible exact z_fr_rf
    | with_reducible assumption
    | with_reducible refine fr_bind (fr_X9_notes _) (fun k j hkj => by unfold w_X9_notes at hkj; unfold w_X9_move; rcases hkj with hkj | hkj; (exact Or.inl hkj); (exact Or.inr (Or.inr hkj))) ?_ (fun _ _ => ?_)
    | with_reducible refine fr_bind (fr_X9_way _ _ _) (fun k j hkj => by unfold w_X9_way at hkj; exact hkj.elim) ?_ (fun _ _ => ?_))
def w_X9_moves (k j : Nat) : Prop := (k = 87 ∧ j = 0) ∨ (k = 87 ∧ j = 13) ∨ k = 91 ∨ k = 92
set_option maxHeartbeats 4000000 in
theorem fr_X9_moves : ∀ (a1 : Int32) (S : zS), zFR w_X9_moves (f_X9_moves a1 S) S := by
  intro a1 S
  unfold f_X9_moves
  repeat' (first
    | with_reducible exact fr_none
    | with_reducible refine fr_if (fun _ => ?_) (fun _ => ?_)
    | with_reducible refine fr_some ?_
    | with_reducible refine z_fr_w ?_ (by unfold w_X9_moves; first | (exact Or.inl ⟨rfl, rfl⟩))
    | with_reducible refine z_fr_u ?_ (by intro j9; unfold w_X9_moves; first | (exact Or.inl ⟨rfl, rfl⟩))
    | with_reducible exact z_fr_rf
    | with_reducible assumption
    | with_reducible refine fr_bind (fr_X9_isCornerNow _ _) (fun k j hkj => by unfold w_X9_isCornerNow at hkj; exact hkj.elim) ?_ (fun _ _ => ?_)
    | with_reducible refine fr_bind (fr_X9_move _ _) (fun k j hkj => by unfold w_X9_move at hkj; unfold w_X9_moves; rcases hkj with hkj | hkj | hkj; (exact Or.inr (Or.inl hkj)); (exact Or.inr (Or.inr (Or.inl hkj))); (exact Or.inr (Or.inr (Or.inr hkj)))) ?_ (fun _ _ => ?_))
def w_X4_hasPiece (k j : Nat) : Prop := False
set_option maxHeartbeats 4000000 in
theorem fr_X4_hasPiece : ∀ (a1 : Int32) (S : zS), zFR w_X4_hasPiece (f_X4_hasPiece a1 S) S := by
  intro a1 S
  unfold f_X4_hasPiece
  repeat' (first
    | with_reducible exact fr_none
    | with_reducible refine fr_if (fun _ => ?_) (fun _ => ?_)
    | with_reducible refine fr_some ?_
    | with_reducible exact z_fr_rf
    | with_reducible assumption)
def w_X4_startOf (k j : Nat) : Prop := False
set_option maxHeartbeats 4000000 in
theorem fr_X4_startOf : ∀ (a1 : Int32) (S : zS), zFR w_X4_startOf (f_X4_startOf a1 S) S := by
  intro a1 S
  unfold f_X4_startOf
  repeat' (first
    | with_reducible exact fr_none
    | with_reducible refine fr_if (fun _ => ?_) (fun _ => ?_)
    | with_reducible refine fr_some ?_
    | with_reducible exact z_fr_rf
    | with_reducible assumption
    | with_reducible refine fr_bind (fr_X4_hasPiece _ _) (fun k j hkj => by unfold w_X4_hasPiece at hkj; exact hkj.elim) ?_ (fun _ _ => ?_))
def w_X5_layOut (p1 : Nat) (k j : Nat) : Prop := k = 73 ∨ k = 74
set_option maxHeartbeats 4000000 in
theorem fr_X5_layOut_17 {p1 : Nat} : ∀ (n : Nat) (v3 : Int32) (v4 : Int32) (S : zS), zFR (w_X5_layOut p1) (f_X5_layOut_17 p1 n v3 v4 S) S := by
  intro n
  induction n with
  | zero =>
    intro v3 v4 S r hr
    cases (show (none : Option (Unit × zS)) = some r from hr)
  | succ n ih =>
    intro v3 v4 S
    rw [f_X5_layOut_17]
    repeat' (first
    | with_reducible exact fr_none
    | with_reducible refine fr_if (fun _ => ?_) (fun _ => ?_)
    | with_reducible refine fr_some ?_
    | with_reducible exact z_fr_rf
    | with_reducible assumption
    | with_reducible refine fr_bind (fr_X6_lay _ _ _ _) (fun k j hkj => by unfold w_X6_lay at hkj; unfold w_X5_layOut; rcases hkj with hkj | hkj; (exact Or.inl hkj); (exact Or.inr hkj)) ?_ (fun _ _ => ?_)
    | with_reducible refine fr_bind (fr_X8_has _ _ _) (fun k j hkj => by unfold w_X8_has at hkj; exact hkj.elim) ?_ (fun _ _ => ?_)
    | with_reducible refine fr_bind (fr_X6_turn _ _ _ _) (fun k j hkj => by unfold w_X6_turn at hkj; unfold w_X5_layOut; exact Or.inr hkj) ?_ (fun _ _ => ?_)
    | with_reducible refine fr_go ?_ (ih _ _ _))
set_option maxHeartbeats 4000000 in
theorem fr_X5_layOut : ∀ (p1 : Nat) (a3 : Int32) (S : zS), zFR (w_X5_layOut p1) (f_X5_layOut p1 a3 S) S := by
  intro p1 a3 S
  unfold f_X5_layOut
  repeat' (first
    | with_reducible exact fr_none
    | with_reducible refine fr_if (fun _ => ?_) (fun _ => ?_)
    | with_reducible refine fr_some ?_
    | with_reducible exact z_fr_rf
    | with_reducible assumption
    | with_reducible refine fr_bind (fr_X6_lay _ _ _ _) (fun k j hkj => by unfold w_X6_lay at hkj; unfold w_X5_layOut; rcases hkj with hkj | hkj; (exact Or.inl hkj); (exact Or.inr hkj)) ?_ (fun _ _ => ?_)
    | with_reducible refine fr_bind (fr_X8_has _ _ _) (fun k j hkj => by unfold w_X8_has at hkj; exact hkj.elim) ?_ (fun _ _ => ?_)
    | with_reducible refine fr_bind (fr_X6_turn _ _ _ _) (fun k j hkj => by unfold w_X6_turn at hkj; unfold w_X5_layOut; exact Or.inr hkj) ?_ (fun _ _ => ?_)
    | with_reducible refine fr_go ?_ (fr_X5_layOut_17 1000 _ _ _))
def w_X4_stepsOf (k j : Nat) : Prop := False
set_option maxHeartbeats 4000000 in
theorem fr_X4_stepsOf : ∀ (a1 : Int32) (S : zS), zFR w_X4_stepsOf (f_X4_stepsOf a1 S) S := by
  intro a1 S
  unfold f_X4_stepsOf
  repeat' (first
    | with_reducible exact fr_none
    | with_reducible refine fr_if (fun _ => ?_) (fun _ => ?_)
    | with_reducible refine fr_some ?_
    | with_reducible exact z_fr_rf
    | with_reducible assumption
    | with_reducible refine fr_bind (fr_X4_hasPiece _ _) (fun k j hkj => by unfold w_X4_hasPiece at hkj; exact hkj.elim) ?_ (fun _ _ => ?_)
    | with_reducible refine fr_bind (fr_J6_bitCount_0f7a4 _ _) (fun k j hkj => by unfold w_J6_bitCount_0f7a4 at hkj; exact hkj.elim) ?_ (fun _ _ => ?_))
def w_X6_allReachedFrom (p0 : Nat) (k j : Nat) : Prop := False
set_option maxHeartbeats 4000000 in
theorem fr_X6_allReachedFrom_8 {p0 : Nat} : ∀ (n : Nat) (v2 : Int32) (v3 : Int32) (S : zS), zFR (w_X6_allReachedFrom p0) (f_X6_allReachedFrom_8 p0 n v2 v3 S) S := by
  intro n
  induction n with
  | zero =>
    intro v2 v3 S r hr
    cases (show (none : Option (Int32 × zS)) = some r from hr)
  | succ n ih =>
    intro v2 v3 S
    rw [f_X6_allReachedFrom_8]
    repeat' (first
    | with_reducible exact fr_none
    | with_reducible refine fr_if (fun _ => ?_) (fun _ => ?_)
    | with_reducible refine fr_some ?_
    | with_reducible exact z_fr_rf
    | with_reducible assumption
    | with_reducible refine fr_bind (fr_X6_reach _ _ _) (fun k j hkj => by unfold w_X6_reach at hkj; exact hkj.elim) ?_ (fun _ _ => ?_)
    | with_reducible refine fr_bind (fr_X8_has _ _ _) (fun k j hkj => by unfold w_X8_has at hkj; exact hkj.elim) ?_ (fun _ _ => ?_)
    | with_reducible refine fr_go ?_ (ih _ _ _))
set_option maxHeartbeats 4000000 in
theorem fr_X6_allReachedFrom : ∀ (p0 : Nat) (a1 : Int32) (S : zS), zFR (w_X6_allReachedFrom p0) (f_X6_allReachedFrom p0 a1 S) S := by
  intro p0 a1 S
  unfold f_X6_allReachedFrom
  repeat' (first
    | with_reducible exact fr_none
    | with_reducible refine fr_if (fun _ => ?_) (fun _ => ?_)
    | with_reducible refine fr_some ?_
    | with_reducible exact z_fr_rf
    | with_reducible assumption
    | with_reducible refine fr_bind (fr_X6_reach _ _ _) (fun k j hkj => by unfold w_X6_reach at hkj; exact hkj.elim) ?_ (fun _ _ => ?_)
    | with_reducible refine fr_bind (fr_X8_has _ _ _) (fun k j hkj => by unfold w_X8_has at hkj; exact hkj.elim) ?_ (fun _ _ => ?_)
    | with_reducible refine fr_go ?_ (fr_X6_allReachedFrom_8 1000 _ _ _))
def w_X5_takesTie (p1 : Nat) (k j : Nat) : Prop := k = p1
set_option maxHeartbeats 4000000 in
theorem fr_X5_takesTie : ∀ (p1 : Nat) (a2 : Int32) (a3 : Int32) (S : zS), zFR (w_X5_takesTie p1) (f_X5_takesTie p1 a2 a3 S) S := by
  intro p1 a2 a3 S
  unfold f_X5_takesTie
  repeat' (first
    | with_reducible exact fr_none
    | with_reducible refine fr_if (fun _ => ?_) (fun _ => ?_)
    | with_reducible refine fr_some ?_
    | with_reducible exact z_fr_rf
    | with_reducible assumption
    | with_reducible refine fr_bind (fr_X8_has _ _ _) (fun k j hkj => by unfold w_X8_has at hkj; exact hkj.elim) ?_ (fun _ _ => ?_)
    | with_reducible refine fr_bind (fr_X6_turn _ _ _ _) (fun k j hkj => by unfold w_X6_turn at hkj; unfold w_X5_takesTie; exact hkj) ?_ (fun _ _ => ?_)
    | with_reducible refine fr_bind (fr_X6_allReachedFrom _ _ _) (fun k j hkj => by unfold w_X6_allReachedFrom at hkj; exact hkj.elim) ?_ (fun _ _ => ?_))
def w_X5_notes (k j : Nat) : Prop := k = 70 ∨ k = 71
set_option maxHeartbeats 4000000 in
theorem fr_X5_notes : ∀ (a1 : Int32) (a2 : Int32) (S : zS), zFR w_X5_notes (f_X5_notes a1 a2 S) S := by
  intro a1 a2 S
  unfold f_X5_notes
  repeat' (first
    | with_reducible exact fr_none
    | with_reducible refine fr_if (fun _ => ?_) (fun _ => ?_)
    | with_reducible refine fr_some ?_
    | with_reducible refine z_fr_w ?_ (by unfold w_X5_notes; first | (exact Or.inl rfl) | (exact Or.inr rfl))
    | with_reducible refine z_fr_u ?_ (by intro j9; unfold w_X5_notes; first | (exact Or.inl rfl) | (exact Or.inr rfl))
    | with_reducible exact z_fr_rf
    | with_reducible assumption)
def w_X5_takesStep (k j : Nat) : Prop := k = 70 ∨ k = 71 ∨ k = 73 ∨ k = 74
set_option maxHeartbeats 4000000 in
theorem fr_X5_takesStep_23 : ∀ (n : Nat) (v1 : Int32) (v2 : Int32) (S : zS), zFR w_X5_takesStep (f_X5_takesStep_23 n v1 v2 S) S := by
  intro n
  induction n with
  | zero =>
    intro v1 v2 S r hr
    cases (show (none : Option (Int32 × zS)) = some r from hr)
  | succ n ih =>
    intro v1 v2 S
    rw [f_X5_takesStep_23]
    repeat' (first
    | with_reducible exact fr_none
    | with_reducible refine fr_if (fun _ => ?_) (fun _ => ?_)
    | with_reducible refine fr_some ?_
    | with_reducible exact z_fr_rf
    | with_reducible assumption
    | with_reducible refine fr_bind (fr_X5_takesTie _ _ _ _) (fun k j hkj => by unfold w_X5_takesTie at hkj; unfold w_X5_takesStep; exact Or.inr (Or.inr (Or.inl hkj))) ?_ (fun _ _ => ?_)
    | with_reducible refine fr_bind (fr_X5_takesTie _ _ _ _) (fun k j hkj => by unfold w_X5_takesTie at hkj; unfold w_X5_takesStep; exact Or.inr (Or.inr (Or.inr hkj))) ?_ (fun _ _ => ?_)
    | with_reducible refine fr_bind (fr_X5_notes _ _ _) (fun k j hkj => by unfold w_X5_notes at hkj; unfold w_X5_takesStep; rcases hkj with hkj | hkj; (exact Or.inl hkj); (exact Or.inr (Or.inl hkj))) ?_ (fun _ _ => ?_)
    | with_reducible refine fr_go ?_ (ih _ _ _))
set_option maxHeartbeats 4000000 in
theorem fr_X5_takesStep : ∀ (a1 : Int32) (S : zS), zFR w_X5_takesStep (f_X5_takesStep a1 S) S := by
  intro a1 S
  unfold f_X5_takesStep
  repeat' (first
    | with_reducible exact fr_none
    | with_reducible refine fr_if (fun _ => ?_) (fun _ => ?_)
    | with_reducible refine fr_some ?_
    | with_reducible exact z_fr_rf
    | with_reducible assumption
    | with_reducible refine fr_bind (fr_X5_takesTie _ _ _ _) (fun k j hkj => by unfold w_X5_takesTie at hkj; unfold w_X5_takesStep; exact Or.inr (Or.inr (Or.inl hkj))) ?_ (fun _ _ => ?_)
    | with_reducible refine fr_bind (fr_X5_takesTie _ _ _ _) (fun k j hkj => by unfold w_X5_takesTie at hkj; unfold w_X5_takesStep; exact Or.inr (Or.inr (Or.inr hkj))) ?_ (fun _ _ => ?_)
    | with_reducible refine fr_bind (fr_X5_notes _ _ _) (fun k j hkj => by unfold w_X5_notes at hkj; unfold w_X5_takesStep; rcases hkj with hkj | hkj; (exact Or.inl hkj); (exact Or.inr (Or.inl hkj))) ?_ (fun _ _ => ?_)
    | with_reducible refine fr_go ?_ (fr_X5_takesStep_23 1000 _ _ _))
def w_X5_go (p1 : Nat) (k j : Nat) : Prop := (k = 69 ∧ j = 0) ∨ (k = 69 ∧ j = 1) ∨ k = 70 ∨ k = 71 ∨ k = 73 ∨ k = 74
set_option maxHeartbeats 4000000 in
theorem fr_X5_go_48 {p1 : Nat} : ∀ (n : Nat) (v3 : Int32) (v4 : Int32) (v5 : Int32) (S : zS), zFR (w_X5_go p1) (f_X5_go_48 p1 n v3 v4 v5 S) S := by
  intro n
  induction n with
  | zero =>
    intro v3 v4 v5 S r hr
    cases (show (none : Option (Unit × zS)) = some r from hr)
  | succ n ih =>
    intro v3 v4 v5 S
    rw [f_X5_go_48]
    repeat' (first
    | with_reducible exact fr_none
    | with_reducible refine fr_if (fun _ => ?_) (fun _ => ?_)
    | with_reducible refine fr_some ?_
    | with_reducible refine z_fr_w ?_ (by unfold w_X5_go; first | (exact Or.inr (Or.inl ⟨rfl, rfl⟩)) | (exact Or.inl ⟨rfl, rfl⟩))
    | with_reducible refine z_fr_u ?_ (by intro j9; unfold w_X5_go; first | (exact Or.inr (Or.inl ⟨rfl, rfl⟩)) | (exact Or.inl ⟨rfl, rfl⟩))
    | with_reducible exact z_fr_rf
    | with_reducible assumption
    | with_reducible refine fr_bind (fr_X4_hasPiece _ _) (fun k j hkj => by unfold w_X4_hasPiece at hkj; exact hkj.elim) ?_ (fun _ _ => ?_)
    | with_reducible refine fr_bind (fr_X5_layOut _ _ _) (fun k j hkj => by unfold w_X5_layOut at hkj; unfold w_X5_go; rcases hkj with hkj | hkj; (exact Or.inr (Or.inr (Or.inr (Or.inr (Or.inl hkj))))); (exact Or.inr (Or.inr (Or.inr (Or.inr (Or.inr hkj)))))) ?_ (fun _ _ => ?_)
    | with_reducible refine fr_bind (fr_X4_stepsOf _ _) (fun k j hkj => by unfold w_X4_stepsOf at hkj; exact hkj.elim) ?_ (fun _ _ => ?_)
    | with_reducible refine fr_bind (fr_X4_startOf _ _) (fun k j hkj => by unfold w_X4_startOf at hkj; exact hkj.elim) ?_ (fun _ _ => ?_)
    | with_reducible refine fr_bind (fr_X5_takesStep _ _) (fun k j hkj => by unfold w_X5_takesStep at hkj; unfold w_X5_go; rcases hkj with hkj | hkj | hkj | hkj; (exact Or.inr (Or.inr (Or.inl hkj))); (exact Or.inr (Or.inr (Or.inr (Or.inl hkj)))); (exact Or.inr (Or.inr (Or.inr (Or.inr (Or.inl hkj))))); (exact Or.inr (Or.inr (Or.inr (Or.inr (Or.inr hkj)))))) ?_ (fun _ _ => ?_)
    | with_reducible refine fr_go ?_ (ih _ _ _ _))
set_option maxHeartbeats 4000000 in
theorem fr_X5_go : ∀ (p1 : Nat) (a3 : Int32) (S : zS), zFR (w_X5_go p1) (f_X5_go p1 a3 S) S := by
  intro p1 a3 S
  unfold f_X5_go
  repeat' (first
    | with_reducible exact fr_none
    | with_reducible refine fr_if (fun _ => ?_) (fun _ => ?_)
    | with_reducible refine fr_some ?_
    | with_reducible refine z_fr_w ?_ (by unfold w_X5_go; first | (exact Or.inr (Or.inl ⟨rfl, rfl⟩)) | (exact Or.inl ⟨rfl, rfl⟩))
    | with_reducible refine z_fr_u ?_ (by intro j9; unfold w_X5_go; first | (exact Or.inr (Or.inl ⟨rfl, rfl⟩)) | (exact Or.inl ⟨rfl, rfl⟩))
    | with_reducible exact z_fr_rf
    | with_reducible assumption
    | with_reducible refine fr_bind (fr_X4_hasPiece _ _) (fun k j hkj => by unfold w_X4_hasPiece at hkj; exact hkj.elim) ?_ (fun _ _ => ?_)
    | with_reducible refine fr_bind (fr_X5_layOut _ _ _) (fun k j hkj => by unfold w_X5_layOut at hkj; unfold w_X5_go; rcases hkj with hkj | hkj; (exact Or.inr (Or.inr (Or.inr (Or.inr (Or.inl hkj))))); (exact Or.inr (Or.inr (Or.inr (Or.inr (Or.inr hkj)))))) ?_ (fun _ _ => ?_)
    | with_reducible refine fr_bind (fr_X4_stepsOf _ _) (fun k j hkj => by unfold w_X4_stepsOf at hkj; exact hkj.elim) ?_ (fun _ _ => ?_)
    | with_reducible refine fr_bind (fr_X4_startOf _ _) (fun k j hkj => by unfold w_X4_startOf at hkj; exact hkj.elim) ?_ (fun _ _ => ?_)
    | with_reducible refine fr_bind (fr_X5_takesStep _ _) (fun k j hkj => by unfold w_X5_takesStep at hkj; unfold w_X5_go; rcases hkj with hkj | hkj | hkj | hkj; (exact Or.inr (Or.inr (Or.inl hkj))); (exact Or.inr (Or.inr (Or.inr (Or.inl hkj)))); (exact Or.inr (Or.inr (Or.inr (Or.inr (Or.inl hkj))))); (exact Or.inr (Or.inr (Or.inr (Or.inr (Or.inr hkj)))))) ?_ (fun _ _ => ?_)
    | with_reducible refine fr_go ?_ (fr_X5_go_48 1000 _ _ _ _))
def w_X8_follows (k j : Nat) : Prop := (k = 32 ∧ j = 0) ∨ (k = 32 ∧ j = 1) ∨ (k = 32 ∧ j = 2) ∨ (k = 32 ∧ j = 3) ∨ k = 33 ∨ (k = 34 ∧ j = 1) ∨ (k = 34 ∧ j = 2) ∨ (36 ≤ k ∧ k ≤ 55) ∨ (k = 57 ∧ j = 0) ∨ (k = 57 ∧ j = 1) ∨ (k = 57 ∧ j = 10) ∨ k = 58 ∨ k = 59 ∨ k = 60 ∨ k = 61 ∨ k = 62 ∨ k = 63 ∨ k = 64 ∨ k = 65 ∨ k = 67 ∨ k = 68 ∨ (k = 69 ∧ j = 0) ∨ (k = 69 ∧ j = 1) ∨ k = 70 ∨ k = 71 ∨ k = 73 ∨ k = 74
set_option maxHeartbeats 4000000 in
theorem fr_X8_follows : ∀ (S : zS), zFR w_X8_follows (f_X8_follows  S) S := by
  intro  S
  unfold f_X8_follows
  repeat' (first
    | with_reducible exact fr_none
    | with_reducible refine fr_if (fun _ => ?_) (fun _ => ?_)
    | with_reducible refine fr_some ?_
    | with_reducible exact z_fr_rf
    | with_reducible assumption
    | with_reducible refine fr_bind (fr_X8_surveyed _) (fun k j hkj => by unfold w_X8_surveyed at hkj; unfold w_X8_follows; rcases hkj with hkj | hkj | hkj | hkj | hkj | hkj | hkj | hkj | hkj | hkj | hkj | hkj | hkj; (exact Or.inr (Or.inr (Or.inr (Or.inr (Or.inr (Or.inr (Or.inr (Or.inr (Or.inl hkj))))))))); (exact Or.inr (Or.inr (Or.inr (Or.inr (Or.inr (Or.inr (Or.inr (Or.inr (Or.inr (Or.inl hkj)))))))))); (exact Or.inr (Or.inr (Or.inr (Or.inr (Or.inr (Or.inr (Or.inr (Or.inr (Or.inr (Or.inr (Or.inl hkj))))))))))); (exact Or.inr (Or.inr (Or.inr (Or.inr (Or.inr (Or.inr (Or.inr (Or.inr (Or.inr (Or.inr (Or.inr (Or.inl hkj)))))))))))); (exact Or.inr (Or.inr (Or.inr (Or.inr (Or.inr (Or.inr (Or.inr (Or.inr (Or.inr (Or.inr (Or.inr (Or.inr (Or.inl hkj))))))))))))); (exact Or.inr (Or.inr (Or.inr (Or.inr (Or.inr (Or.inr (Or.inr (Or.inr (Or.inr (Or.inr (Or.inr (Or.inr (Or.inr (Or.inl hkj)))))))))))))); (exact Or.inr (Or.inr (Or.inr (Or.inr (Or.inr (Or.inr (Or.inr (Or.inr (Or.inr (Or.inr (Or.inr (Or.inr (Or.inr (Or.inr (Or.inl hkj))))))))))))))); (exact Or.inr (Or.inr (Or.inr (Or.inr (Or.inr (Or.inr (Or.inr (Or.inr (Or.inr (Or.inr (Or.inr (Or.inr (Or.inr (Or.inr (Or.inr (Or.inl hkj)))))))))))))))); (exact Or.inr (Or.inr (Or.inr (Or.inr (Or.inr (Or.inr (Or.inr (Or.inr (Or.inr (Or.inr (Or.inr (Or.inr (Or.inr (Or.inr (Or.inr (Or.inr (Or.inl hkj))))))))))))))))); (exact Or.inr (Or.inr (Or.inr (Or.inr (Or.inr (Or.inr (Or.inr (Or.inr (Or.inr (Or.inr (Or.inr (Or.inr (Or.inr (Or.inr (Or.inr (Or.inr (Or.inr (Or.inl hkj)))))))))))))))))); (exact Or.inr (Or.inr (Or.inr (Or.inr (Or.inr (Or.inr (Or.inr (Or.inr (Or.inr (Or.inr (Or.inr (Or.inr (Or.inr (Or.inr (Or.inr (Or.inr (Or.inr (Or.inr (Or.inl hkj))))))))))))))))))); (exact Or.inr (Or.inr (Or.inr (Or.inr (Or.inr (Or.inr (Or.inr (Or.inr (Or.inr (Or.inr (Or.inr (Or.inr (Or.inr (Or.inr (Or.inr (Or.inr (Or.inr (Or.inr (Or.inr (Or.inl hkj)))))))))))))))))))); (exact Or.inr (Or.inr (Or.inr (Or.inr (Or.inr (Or.inr (Or.inr (Or.inr (Or.inr (Or.inr (Or.inr (Or.inr (Or.inr (Or.inr (Or.inr (Or.inr (Or.inr (Or.inr (Or.inr (Or.inr (Or.inl hkj)))))))))))))))))))))) ?_ (fun _ _ => ?_)
    | with_reducible refine fr_bind (fr_X4_startOf _ _) (fun k j hkj => by unfold w_X4_startOf at hkj; exact hkj.elim) ?_ (fun _ _ => ?_)
    | with_reducible refine fr_bind (fr_X5_go _ _ _) (fun k j hkj => by unfold w_X5_go at hkj; unfold w_X8_follows; rcases hkj with hkj | hkj | hkj | hkj | hkj | hkj; (exact Or.inr (Or.inr (Or.inr (Or.inr (Or.inr (Or.inr (Or.inr (Or.inr (Or.inr (Or.inr (Or.inr (Or.inr (Or.inr (Or.inr (Or.inr (Or.inr (Or.inr (Or.inr (Or.inr (Or.inr (Or.inr (Or.inl hkj)))))))))))))))))))))); (exact Or.inr (Or.inr (Or.inr (Or.inr (Or.inr (Or.inr (Or.inr (Or.inr (Or.inr (Or.inr (Or.inr (Or.inr (Or.inr (Or.inr (Or.inr (Or.inr (Or.inr (Or.inr (Or.inr (Or.inr (Or.inr (Or.inr (Or.inl hkj))))))))))))))))))))))); (exact Or.inr (Or.inr (Or.inr (Or.inr (Or.inr (Or.inr (Or.inr (Or.inr (Or.inr (Or.inr (Or.inr (Or.inr (Or.inr (Or.inr (Or.inr (Or.inr (Or.inr (Or.inr (Or.inr (Or.inr (Or.inr (Or.inr (Or.inr (Or.inl hkj)))))))))))))))))))))))); (exact Or.inr (Or.inr (Or.inr (Or.inr (Or.inr (Or.inr (Or.inr (Or.inr (Or.inr (Or.inr (Or.inr (Or.inr (Or.inr (Or.inr (Or.inr (Or.inr (Or.inr (Or.inr (Or.inr (Or.inr (Or.inr (Or.inr (Or.inr (Or.inr (Or.inl hkj))))))))))))))))))))))))); (exact Or.inr (Or.inr (Or.inr (Or.inr (Or.inr (Or.inr (Or.inr (Or.inr (Or.inr (Or.inr (Or.inr (Or.inr (Or.inr (Or.inr (Or.inr (Or.inr (Or.inr (Or.inr (Or.inr (Or.inr (Or.inr (Or.inr (Or.inr (Or.inr (Or.inr (Or.inl hkj)))))))))))))))))))))))))); (exact Or.inr (Or.inr (Or.inr (Or.inr (Or.inr (Or.inr (Or.inr (Or.inr (Or.inr (Or.inr (Or.inr (Or.inr (Or.inr (Or.inr (Or.inr (Or.inr (Or.inr (Or.inr (Or.inr (Or.inr (Or.inr (Or.inr (Or.inr (Or.inr (Or.inr (Or.inr hkj))))))))))))))))))))))))))) ?_ (fun _ _ => ?_)
    | with_reducible refine fr_bind (fr_X8_burnTo _ _) (fun k j hkj => by unfold w_X8_burnTo at hkj; unfold w_X8_follows; rcases hkj with hkj | hkj | hkj | hkj | hkj | hkj | hkj | hkj | hkj | hkj; (exact Or.inl hkj); (exact Or.inr (Or.inl hkj)); (exact Or.inr (Or.inr (Or.inl hkj))); (exact Or.inr (Or.inr (Or.inr (Or.inl hkj)))); (exact Or.inr (Or.inr (Or.inr (Or.inr (Or.inl hkj))))); (exact Or.inr (Or.inr (Or.inr (Or.inr (Or.inr (Or.inl hkj)))))); (exact Or.inr (Or.inr (Or.inr (Or.inr (Or.inr (Or.inr (Or.inl hkj))))))); (exact Or.inr (Or.inr (Or.inr (Or.inr (Or.inr (Or.inr (Or.inr (Or.inl hkj)))))))); (exact Or.inr (Or.inr (Or.inr (Or.inr (Or.inr (Or.inr (Or.inr (Or.inr (Or.inl hkj))))))))); (exact Or.inr (Or.inr (Or.inr (Or.inr (Or.inr (Or.inr (Or.inr (Or.inr (Or.inr (Or.inr (Or.inr (Or.inr (Or.inr (Or.inr (Or.inr (Or.inr (Or.inr (Or.inr (Or.inr (Or.inr (Or.inr (Or.inl hkj))))))))))))))))))))))) ?_ (fun _ _ => ?_)
    | with_reducible refine fr_bind (fr_X8_moveTo _ _) (fun k j hkj => by unfold w_X8_moveTo at hkj; unfold w_X8_follows; rcases hkj with hkj | hkj | hkj | hkj | hkj | hkj | hkj | hkj; (exact Or.inr (Or.inl hkj)); (exact Or.inr (Or.inr (Or.inl hkj))); (exact Or.inr (Or.inr (Or.inr (Or.inl hkj)))); (exact Or.inr (Or.inr (Or.inr (Or.inr (Or.inr (Or.inl hkj)))))); (exact Or.inr (Or.inr (Or.inr (Or.inr (Or.inr (Or.inr (Or.inl hkj))))))); (exact Or.inr (Or.inr (Or.inr (Or.inr (Or.inr (Or.inr (Or.inr (Or.inl hkj)))))))); (exact Or.inr (Or.inr (Or.inr (Or.inr (Or.inr (Or.inr (Or.inr (Or.inr (Or.inl hkj))))))))); (exact Or.inr (Or.inr (Or.inr (Or.inr (Or.inr (Or.inr (Or.inr (Or.inr (Or.inr (Or.inr (Or.inr (Or.inr (Or.inr (Or.inr (Or.inr (Or.inr (Or.inr (Or.inr (Or.inr (Or.inr (Or.inr (Or.inl hkj))))))))))))))))))))))) ?_ (fun _ _ => ?_))
def w_X9_cutsOf (k j : Nat) : Prop := False
set_option maxHeartbeats 4000000 in
theorem fr_X9_cutsOf_4 : ∀ (n : Nat) (v1 : Int32) (v2 : Int32) (v3 : Int32) (S : zS), zFR w_X9_cutsOf (f_X9_cutsOf_4 n v1 v2 v3 S) S := by
  intro n
  induction n with
  | zero =>
    intro v1 v2 v3 S r hr
    cases (show (none : Option (Int32 × zS)) = some r from hr)
  | succ n ih =>
    intro v1 v2 v3 S
    rw [f_X9_cutsOf_4]
    repeat' (first
    | with_reducible exact fr_none
    | with_reducible refine fr_if (fun _ => ?_) (fun _ => ?_)
    | with_reducible refine fr_some ?_
    | with_reducible exact z_fr_rf
    | with_reducible assumption
    | with_reducible refine fr_bind (fr_X9_has _ _ _) (fun k j hkj => by unfold w_X9_has at hkj; exact hkj.elim) ?_ (fun _ _ => ?_)
    | with_reducible refine fr_go ?_ (ih _ _ _ _))
set_option maxHeartbeats 4000000 in
theorem fr_X9_cutsOf : ∀ (a1 : Int32) (S : zS), zFR w_X9_cutsOf (f_X9_cutsOf a1 S) S := by
  intro a1 S
  unfold f_X9_cutsOf
  repeat' (first
    | with_reducible exact fr_none
    | with_reducible refine fr_if (fun _ => ?_) (fun _ => ?_)
    | with_reducible refine fr_some ?_
    | with_reducible exact z_fr_rf
    | with_reducible assumption
    | with_reducible refine fr_bind (fr_X9_has _ _ _) (fun k j hkj => by unfold w_X9_has at hkj; exact hkj.elim) ?_ (fun _ _ => ?_)
    | with_reducible refine fr_go ?_ (fr_X9_cutsOf_4 1000 _ _ _ _))
def w_X9_aheadOf (k j : Nat) : Prop := False
set_option maxHeartbeats 4000000 in
theorem fr_X9_aheadOf_59 {K4 : Int32 → Int32 → Int32 → zS → Option (Int32 × zS)} (hK4 : ∀ (v1 : Int32) (v2 : Int32) (v3 : Int32) (S : zS), zFR w_X9_aheadOf (K4 v1 v2 v3 S) S) {K17 : Int32 → Int32 → Int32 → Int32 → zS → Option (Int32 × zS)} (hK17 : ∀ (v1 : Int32) (v2 : Int32) (v3 : Int32) (v4 : Int32) (S : zS), zFR w_X9_aheadOf (K17 v1 v2 v3 v4 S) S) : ∀ (n : Nat) (v1 : Int32) (v2 : Int32) (v3 : Int32) (v4 : Int32) (v5 : Int32) (S : zS), zFR w_X9_aheadOf (f_X9_aheadOf_59 K4 K17 n v1 v2 v3 v4 v5 S) S := by
  intro n
  induction n with
  | zero =>
    intro v1 v2 v3 v4 v5 S r hr
    cases (show (none : Option (Int32 × zS)) = some r from hr)
  | succ n ih =>
    intro v1 v2 v3 v4 v5 S
    rw [f_X9_aheadOf_59]
    repeat' (first
    | with_reducible exact fr_none
    | with_reducible refine fr_if (fun _ => ?_) (fun _ => ?_)
    | with_reducible refine fr_some ?_
    | with_reducible exact z_fr_rf
    | with_reducible assumption
    | with_reducible refine fr_bind (fr_X9_has _ _ _) (fun k j hkj => by unfold w_X9_has at hkj; exact hkj.elim) ?_ (fun _ _ => ?_)
    | with_reducible refine fr_bind (fr_X9_cutsOfPart _ _) (fun k j hkj => by unfold w_X9_cutsOfPart at hkj; exact hkj.elim) ?_ (fun _ _ => ?_)
    | with_reducible refine fr_bind (fr_X9_cutsOf _ _) (fun k j hkj => by unfold w_X9_cutsOf at hkj; exact hkj.elim) ?_ (fun _ _ => ?_)
    | with_reducible refine fr_go ?_ (hK17 _ _ _ _ _)
    | with_reducible refine fr_go ?_ (hK4 _ _ _ _)
    | with_reducible refine fr_go ?_ (ih _ _ _ _ _ _))
set_option maxHeartbeats 4000000 in
theorem fr_X9_aheadOf_17 {K4 : Int32 → Int32 → Int32 → zS → Option (Int32 × zS)} (hK4 : ∀ (v1 : Int32) (v2 : Int32) (v3 : Int32) (S : zS), zFR w_X9_aheadOf (K4 v1 v2 v3 S) S) : ∀ (n : Nat) (v1 : Int32) (v2 : Int32) (v3 : Int32) (v4 : Int32) (S : zS), zFR w_X9_aheadOf (f_X9_aheadOf_17 K4 n v1 v2 v3 v4 S) S := by
  intro n
  induction n with
  | zero =>
    intro v1 v2 v3 v4 S r hr
    cases (show (none : Option (Int32 × zS)) = some r from hr)
  | succ n ih =>
    intro v1 v2 v3 v4 S
    rw [f_X9_aheadOf_17]
    repeat' (first
    | with_reducible exact fr_none
    | with_reducible refine fr_if (fun _ => ?_) (fun _ => ?_)
    | with_reducible refine fr_some ?_
    | with_reducible exact z_fr_rf
    | with_reducible assumption
    | with_reducible refine fr_bind (fr_X9_has _ _ _) (fun k j hkj => by unfold w_X9_has at hkj; exact hkj.elim) ?_ (fun _ _ => ?_)
    | with_reducible refine fr_bind (fr_X9_cutsOfPart _ _) (fun k j hkj => by unfold w_X9_cutsOfPart at hkj; exact hkj.elim) ?_ (fun _ _ => ?_)
    | with_reducible refine fr_bind (fr_X9_cutsOf _ _) (fun k j hkj => by unfold w_X9_cutsOf at hkj; exact hkj.elim) ?_ (fun _ _ => ?_)
    | with_reducible refine fr_go ?_ (fr_X9_aheadOf_59 (by first | exact hK4 | exact ih) (by first | exact hK17 | exact ih) 1000 _ _ _ _ _ _)
    | with_reducible refine fr_go ?_ (hK17 _ _ _ _ _)
    | with_reducible refine fr_go ?_ (hK4 _ _ _ _)
    | with_reducible refine fr_go ?_ (ih _ _ _ _ _))
set_option maxHeartbeats 4000000 in
theorem fr_X9_aheadOf_4 : ∀ (n : Nat) (v1 : Int32) (v2 : Int32) (v3 : Int32) (S : zS), zFR w_X9_aheadOf (f_X9_aheadOf_4 n v1 v2 v3 S) S := by
  intro n
  induction n with
  | zero =>
    intro v1 v2 v3 S r hr
    cases (show (none : Option (Int32 × zS)) = some r from hr)
  | succ n ih =>
    intro v1 v2 v3 S
    rw [f_X9_aheadOf_4]
    repeat' (first
    | with_reducible exact fr_none
    | with_reducible refine fr_if (fun _ => ?_) (fun _ => ?_)
    | with_reducible refine fr_some ?_
    | with_reducible exact z_fr_rf
    | with_reducible assumption
    | with_reducible refine fr_bind (fr_X9_has _ _ _) (fun k j hkj => by unfold w_X9_has at hkj; exact hkj.elim) ?_ (fun _ _ => ?_)
    | with_reducible refine fr_bind (fr_X9_cutsOfPart _ _) (fun k j hkj => by unfold w_X9_cutsOfPart at hkj; exact hkj.elim) ?_ (fun _ _ => ?_)
    | with_reducible refine fr_bind (fr_X9_cutsOf _ _) (fun k j hkj => by unfold w_X9_cutsOf at hkj; exact hkj.elim) ?_ (fun _ _ => ?_)
    | with_reducible refine fr_go ?_ (fr_X9_aheadOf_59 (by first | exact hK4 | exact ih) (by first | exact hK17 | exact ih) 1000 _ _ _ _ _ _)
    | with_reducible refine fr_go ?_ (fr_X9_aheadOf_17 (by first | exact hK4 | exact ih) 1000 _ _ _ _ _)
    | with_reducible refine fr_go ?_ (hK17 _ _ _ _ _)
    | with_reducible refine fr_go ?_ (hK4 _ _ _ _)
    | with_reducible refine fr_go ?_ (ih _ _ _ _))
set_option maxHeartbeats 4000000 in
theorem fr_X9_aheadOf : ∀ (a1 : Int32) (S : zS), zFR w_X9_aheadOf (f_X9_aheadOf a1 S) S := by
  intro a1 S
  unfold f_X9_aheadOf
  repeat' (first
    | with_reducible exact fr_none
    | with_reducible refine fr_if (fun _ => ?_) (fun _ => ?_)
    | with_reducible refine fr_some ?_
    | with_reducible exact z_fr_rf
    | with_reducible assumption
    | with_reducible refine fr_bind (fr_X9_has _ _ _) (fun k j hkj => by unfold w_X9_has at hkj; exact hkj.elim) ?_ (fun _ _ => ?_)
    | with_reducible refine fr_bind (fr_X9_cutsOfPart _ _) (fun k j hkj => by unfold w_X9_cutsOfPart at hkj; exact hkj.elim) ?_ (fun _ _ => ?_)
    | with_reducible refine fr_bind (fr_X9_cutsOf _ _) (fun k j hkj => by unfold w_X9_cutsOf at hkj; exact hkj.elim) ?_ (fun _ _ => ?_)
    | with_reducible refine fr_go ?_ (fr_X9_aheadOf_59 (by first | exact hK4 | exact ih) (by first | exact hK17 | exact ih) 1000 _ _ _ _ _ _)
    | with_reducible refine fr_go ?_ (fr_X9_aheadOf_17 (by first | exact hK4 | exact ih) 1000 _ _ _ _ _)
    | with_reducible refine fr_go ?_ (fr_X9_aheadOf_4 1000 _ _ _ _)
    | with_reducible refine fr_go ?_ (hK17 _ _ _ _ _)
    | with_reducible refine fr_go ?_ (hK4 _ _ _ _))
def w_X9_startOf (k j : Nat) : Prop := False
set_option maxHeartbeats 4000000 in
theorem fr_X9_startOf_43 : ∀ (v1 : Int32) (S : zS), zFR w_X9_startOf (f_X9_startOf_43 v1 S) S := by
  intro v1 S
  unfold f_X9_startOf_43
  repeat' (first
    | with_reducible exact fr_none
    | with_reducible refine fr_if (fun _ => ?_) (fun _ => ?_)
    | with_reducible refine fr_some ?_
    | with_reducible exact z_fr_rf
    | with_reducible assumption
    | with_reducible refine fr_bind (fr_X9_endsAt _ _ _ _) (fun k j hkj => by unfold w_X9_endsAt at hkj; exact hkj.elim) ?_ (fun _ _ => ?_))
set_option maxHeartbeats 4000000 in
theorem fr_X9_startOf : ∀ (a1 : Int32) (S : zS), zFR w_X9_startOf (f_X9_startOf a1 S) S := by
  intro a1 S
  unfold f_X9_startOf
  repeat' (first
    | with_reducible exact fr_none
    | with_reducible refine fr_if (fun _ => ?_) (fun _ => ?_)
    | with_reducible refine fr_some ?_
    | with_reducible exact z_fr_rf
    | with_reducible assumption
    | with_reducible refine fr_bind (fr_X9_endsAt _ _ _ _) (fun k j hkj => by unfold w_X9_endsAt at hkj; exact hkj.elim) ?_ (fun _ _ => ?_)
    | with_reducible refine fr_go ?_ (fr_X9_startOf_43 _ _))
