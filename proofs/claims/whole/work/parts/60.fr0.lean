/-! ===== what each pure function may write ===== -/
def z_fr (W : Nat → Nat → Prop) (S S' : zS) : Prop := S'.2 = S.2 ∧ ∀ k j, ¬ W k j → S'.1 k j = S.1 k j
def zFR {α : Type} (W : Nat → Nat → Prop) (E : Option (α × zS)) (S : zS) : Prop := ∀ r, E = some r → z_fr W S r.2
section FRS
variable {α β : Type} {W Wc : Nat → Nat → Prop} {S S1 S' : zS} {E E1 E2 : Option (α × zS)}
theorem z_fr_rf : z_fr W S S := ⟨rfl, fun _ _ _ => rfl⟩
theorem z_fr_tr (h : z_fr W S S1) (h2 : z_fr W S1 S') : z_fr W S S' := ⟨h2.1.trans h.1, fun k j hk => (h2.2 k j hk).trans (h.2 k j hk)⟩
theorem z_fr_w {q i : Nat} {x : Int32} (h : z_fr W S S1) (hw : W q i) : z_fr W S (z_w S1 q i x) := by
  refine ⟨h.1, fun k j hk => ?_⟩
  show z_ui S1.1 q (upd (S1.1 q) i x) k j = _
  unfold z_ui
  by_cases hq : k = q
  · subst hq
    rw [if_pos rfl]
    unfold upd
    by_cases hj : j = i
    · subst hj
      exact absurd hw hk
    · rw [if_neg hj]
      exact h.2 k j hk
  · rw [if_neg hq]
    exact h.2 k j hk
theorem z_fr_u {q : Nat} {g : Nat → Int32} (h : z_fr W S S1) (hw : ∀ j, W q j) : z_fr W S (z_ui S1.1 q g, S1.2) := by
  refine ⟨h.1, fun k j hk => ?_⟩
  show z_ui S1.1 q g k j = _
  unfold z_ui
  by_cases hq : k = q
  · subst hq
    exact absurd (hw j) hk
  · rw [if_neg hq]
    exact h.2 k j hk
theorem fr_none : zFR W (none : Option (α × zS)) S := fun r hr => by cases hr
theorem fr_some {v : α} (h : z_fr W S S') : zFR W (some (v, S')) S := fun r hr => by cases hr; exact h
theorem fr_if {c : Prop} [i : Decidable c] (h1 : c → zFR W E1 S) (h2 : ¬ c → zFR W E2 S) : zFR W (if c then E1 else E2) S := by
  by_cases hc : c
  · rw [if_pos hc]; exact h1 hc
  · rw [if_neg hc]; exact h2 hc
theorem fr_go (h : z_fr W S S1) (k : zFR W E S1) : zFR W E S := fun r hr => z_fr_tr h (k r hr)
theorem fr_bind {F : Option (β × zS)} {E' : β × zS → Option (α × zS)} (hc : zFR Wc F S1) (hs : ∀ k j, Wc k j → W k j) (h : z_fr W S S1) (k : ∀ r : β × zS, z_fr W S r.2 → zFR W (E' r) S) : zFR W (F.bind E') S := by
  intro r hr
  obtain ⟨x, hx, hr⟩ := Option.bind_eq_some_iff.mp hr
  have h1 := hc x hx
  exact k x (z_fr_tr h ⟨h1.1, fun k j hk => h1.2 k j (fun q => hk (hs k j q))⟩) r hr
end FRS
def w_X8_type (k j : Nat) : Prop := (k = 1 ∧ j = 1) ∨ k = 2
set_option maxHeartbeats 4000000 in
theorem fr_X8_type : ∀ (a1 : Int32) (S : zS), zFR w_X8_type (f_X8_type a1 S) S := by
  intro a1 S
  unfold f_X8_type
  repeat' (first
    | with_reducible exact fr_none
    | with_reducible refine fr_if (fun _ => ?_) (fun _ => ?_)
    | with_reducible refine fr_some ?_
    | with_reducible refine z_fr_w ?_ (by unfold w_X8_type; first | (exact Or.inr rfl) | (exact Or.inl ⟨rfl, rfl⟩))
    | with_reducible refine z_fr_u ?_ (by intro j9; unfold w_X8_type; first | (exact Or.inr rfl) | (exact Or.inl ⟨rfl, rfl⟩))
    | with_reducible exact z_fr_rf
    | with_reducible assumption)
def w_X9_in (k j : Nat) : Prop := False
set_option maxHeartbeats 4000000 in
theorem fr_X9_in : ∀ (a0 : Int32) (a1 : Int32) (a2 : Int32) (S : zS), zFR w_X9_in (f_X9_in a0 a1 a2 S) S := by
  intro a0 a1 a2 S
  unfold f_X9_in
  repeat' (first
    | with_reducible exact fr_none
    | with_reducible refine fr_if (fun _ => ?_) (fun _ => ?_)
    | with_reducible refine fr_some ?_
    | with_reducible exact z_fr_rf
    | with_reducible assumption)
def w_X9_type (k j : Nat) : Prop := (k = 87 ∧ j = 0) ∨ (k = 87 ∧ j = 2) ∨ k = 88
set_option maxHeartbeats 4000000 in
theorem fr_X9_type : ∀ (a1 : Int32) (S : zS), zFR w_X9_type (f_X9_type a1 S) S := by
  intro a1 S
  unfold f_X9_type
  repeat' (first
    | with_reducible exact fr_none
    | with_reducible refine fr_if (fun _ => ?_) (fun _ => ?_)
    | with_reducible refine fr_some ?_
    | with_reducible refine z_fr_w ?_ (by unfold w_X9_type; first | (exact Or.inl ⟨rfl, rfl⟩) | (exact Or.inr (Or.inr rfl)) | (exact Or.inr (Or.inl ⟨rfl, rfl⟩)))
    | with_reducible refine z_fr_u ?_ (by intro j9; unfold w_X9_type; first | (exact Or.inl ⟨rfl, rfl⟩) | (exact Or.inr (Or.inr rfl)) | (exact Or.inr (Or.inl ⟨rfl, rfl⟩)))
    | with_reducible exact z_fr_rf
    | with_reducible assumption
    | with_reducible refine fr_bind (fr_X9_in _ _ _ _) (fun k j hkj => by unfold w_X9_in at hkj; exact hkj.elim) ?_ (fun _ _ => ?_))
def w_X8_clear (k j : Nat) : Prop := (k = 1 ∧ j = 1)
set_option maxHeartbeats 4000000 in
theorem fr_X8_clear : ∀ (S : zS), zFR w_X8_clear (f_X8_clear  S) S := by
  intro  S
  unfold f_X8_clear
  repeat' (first
    | with_reducible exact fr_none
    | with_reducible refine fr_if (fun _ => ?_) (fun _ => ?_)
    | with_reducible refine fr_some ?_
    | with_reducible refine z_fr_w ?_ (by unfold w_X8_clear; first | (exact ⟨rfl, rfl⟩))
    | with_reducible refine z_fr_u ?_ (by intro j9; unfold w_X8_clear; first | (exact ⟨rfl, rfl⟩))
    | with_reducible exact z_fr_rf
    | with_reducible assumption)
def w_X9_clear (k j : Nat) : Prop := (k = 87 ∧ j = 0) ∨ (k = 87 ∧ j = 2)
set_option maxHeartbeats 4000000 in
theorem fr_X9_clear : ∀ (S : zS), zFR w_X9_clear (f_X9_clear  S) S := by
  intro  S
  unfold f_X9_clear
  repeat' (first
    | with_reducible exact fr_none
    | with_reducible refine fr_if (fun _ => ?_) (fun _ => ?_)
    | with_reducible refine fr_some ?_
    | with_reducible refine z_fr_w ?_ (by unfold w_X9_clear; first | (exact Or.inl ⟨rfl, rfl⟩) | (exact Or.inr ⟨rfl, rfl⟩))
    | with_reducible refine z_fr_u ?_ (by intro j9; unfold w_X9_clear; first | (exact Or.inl ⟨rfl, rfl⟩) | (exact Or.inr ⟨rfl, rfl⟩))
    | with_reducible exact z_fr_rf
    | with_reducible assumption)
def w_J7_fill_53178 (p0 : Nat) (k j : Nat) : Prop := k = p0
set_option maxHeartbeats 4000000 in
theorem fr_J7_fill_53178_5 {p0 : Nat} {n0 : Nat} : ∀ (n : Nat) (v1 : Int32) (v2 : Int32) (v3 : Int32) (S : zS), zFR (w_J7_fill_53178 p0) (f_J7_fill_53178_5 p0 n0 n v1 v2 v3 S) S := by
  intro n
  induction n with
  | zero =>
    intro v1 v2 v3 S r hr
    cases (show (none : Option (Unit × zS)) = some r from hr)
  | succ n ih =>
    intro v1 v2 v3 S
    rw [f_J7_fill_53178_5]
    repeat' (first
    | with_reducible exact fr_none
    | with_reducible refine fr_if (fun _ => ?_) (fun _ => ?_)
    | with_reducible refine fr_some ?_
    | with_reducible refine z_fr_w ?_ (by unfold w_J7_fill_53178; first | (exact rfl))
    | with_reducible refine z_fr_u ?_ (by intro j9; unfold w_J7_fill_53178; first | (exact rfl))
    | with_reducible exact z_fr_rf
    | with_reducible assumption
    | with_reducible refine fr_go ?_ (ih _ _ _ _))
set_option maxHeartbeats 4000000 in
theorem fr_J7_fill_53178 : ∀ (p0 : Nat) (n0 : Nat) (a1 : Int32) (S : zS), zFR (w_J7_fill_53178 p0) (f_J7_fill_53178 p0 n0 a1 S) S := by
  intro p0 n0 a1 S
  unfold f_J7_fill_53178
  repeat' (first
    | with_reducible exact fr_none
    | with_reducible refine fr_if (fun _ => ?_) (fun _ => ?_)
    | with_reducible refine fr_some ?_
    | with_reducible refine z_fr_w ?_ (by unfold w_J7_fill_53178; first | (exact rfl))
    | with_reducible refine z_fr_u ?_ (by intro j9; unfold w_J7_fill_53178; first | (exact rfl))
    | with_reducible exact z_fr_rf
    | with_reducible assumption
    | with_reducible refine fr_go ?_ (fr_J7_fill_53178_5 1000 _ _ _ _))
def w_X1_wipe (p0 : Nat) (k j : Nat) : Prop := (k = p0 ∧ j = 0) ∨ (k = p0 ∧ j = 12) ∨ (k = p0 ∧ j = 13) ∨ (k = p0 ∧ j = 4) ∨ (k = p0 ∧ j = 7) ∨ k = p0 + 3
set_option maxHeartbeats 4000000 in
theorem fr_X1_wipe : ∀ (p0 : Nat) (S : zS), zFR (w_X1_wipe p0) (f_X1_wipe p0 S) S := by
  intro p0 S
  unfold f_X1_wipe
  repeat' (first
    | with_reducible exact fr_none
    | with_reducible refine fr_if (fun _ => ?_) (fun _ => ?_)
    | with_reducible refine fr_some ?_
    | with_reducible refine z_fr_w ?_ (by unfold w_X1_wipe; first | (exact Or.inl ⟨rfl, rfl⟩) | (exact Or.inr (Or.inr (Or.inr (Or.inl ⟨rfl, rfl⟩)))) | (exact Or.inr (Or.inr (Or.inr (Or.inr (Or.inl ⟨rfl, rfl⟩))))) | (exact Or.inr (Or.inl ⟨rfl, rfl⟩)) | (exact Or.inr (Or.inr (Or.inl ⟨rfl, rfl⟩))))
    | with_reducible refine z_fr_u ?_ (by intro j9; unfold w_X1_wipe; first | (exact Or.inl ⟨rfl, rfl⟩) | (exact Or.inr (Or.inr (Or.inr (Or.inl ⟨rfl, rfl⟩)))) | (exact Or.inr (Or.inr (Or.inr (Or.inr (Or.inl ⟨rfl, rfl⟩))))) | (exact Or.inr (Or.inl ⟨rfl, rfl⟩)) | (exact Or.inr (Or.inr (Or.inl ⟨rfl, rfl⟩))))
    | with_reducible exact z_fr_rf
    | with_reducible assumption
    | with_reducible refine fr_bind (fr_J7_fill_53178 _ _ _ _) (fun k j hkj => by unfold w_J7_fill_53178 at hkj; unfold w_X1_wipe; exact Or.inr (Or.inr (Or.inr (Or.inr (Or.inr hkj))))) ?_ (fun _ _ => ?_))
def w_X3_isDigit (k j : Nat) : Prop := False
set_option maxHeartbeats 4000000 in
theorem fr_X3_isDigit : ∀ (a0 : Int32) (S : zS), zFR w_X3_isDigit (f_X3_isDigit a0 S) S := by
  intro a0 S
  unfold f_X3_isDigit
  repeat' (first
    | with_reducible exact fr_none
    | with_reducible refine fr_if (fun _ => ?_) (fun _ => ?_)
    | with_reducible refine fr_some ?_
    | with_reducible exact z_fr_rf
    | with_reducible assumption)
def w_X3_readNumber (k j : Nat) : Prop := (k = 31 ∧ j = 1) ∨ (k = 31 ∧ j = 2) ∨ (k = 31 ∧ j = 3)
set_option maxHeartbeats 4000000 in
theorem fr_X3_readNumber_107 : ∀ (t0 : Int32) (S : zS), zFR w_X3_readNumber (f_X3_readNumber_107 t0 S) S := by
  intro t0 S
  unfold f_X3_readNumber_107
  repeat' (first
    | with_reducible exact fr_none
    | with_reducible refine fr_if (fun _ => ?_) (fun _ => ?_)
    | with_reducible refine fr_some ?_
    | with_reducible refine z_fr_w ?_ (by unfold w_X3_readNumber; first | (exact Or.inr (Or.inr ⟨rfl, rfl⟩)) | (exact Or.inr (Or.inl ⟨rfl, rfl⟩)) | (exact Or.inl ⟨rfl, rfl⟩))
    | with_reducible refine z_fr_u ?_ (by intro j9; unfold w_X3_readNumber; first | (exact Or.inr (Or.inr ⟨rfl, rfl⟩)) | (exact Or.inr (Or.inl ⟨rfl, rfl⟩)) | (exact Or.inl ⟨rfl, rfl⟩))
    | with_reducible exact z_fr_rf
    | with_reducible assumption
    | with_reducible refine fr_bind (fr_X3_isDigit _ _) (fun k j hkj => by unfold w_X3_isDigit at hkj; exact hkj.elim) ?_ (fun _ _ => ?_))
set_option maxHeartbeats 4000000 in
theorem fr_X3_readNumber_87 : ∀ (v3 : Int32) (v4 : Int32) (S : zS), zFR w_X3_readNumber (f_X3_readNumber_87 v3 v4 S) S := by
  intro v3 v4 S
  unfold f_X3_readNumber_87
  repeat' (first
    | with_reducible exact fr_none
    | with_reducible refine fr_if (fun _ => ?_) (fun _ => ?_)
    | with_reducible refine fr_some ?_
    | with_reducible refine z_fr_w ?_ (by unfold w_X3_readNumber; first | (exact Or.inr (Or.inr ⟨rfl, rfl⟩)) | (exact Or.inr (Or.inl ⟨rfl, rfl⟩)) | (exact Or.inl ⟨rfl, rfl⟩))
    | with_reducible refine z_fr_u ?_ (by intro j9; unfold w_X3_readNumber; first | (exact Or.inr (Or.inr ⟨rfl, rfl⟩)) | (exact Or.inr (Or.inl ⟨rfl, rfl⟩)) | (exact Or.inl ⟨rfl, rfl⟩))
    | with_reducible exact z_fr_rf
    | with_reducible assumption
    | with_reducible refine fr_bind (fr_X3_isDigit _ _) (fun k j hkj => by unfold w_X3_isDigit at hkj; exact hkj.elim) ?_ (fun _ _ => ?_)
    | with_reducible refine fr_go ?_ (fr_X3_readNumber_107 _ _))
set_option maxHeartbeats 4000000 in
theorem fr_X3_readNumber_25 : ∀ (n : Nat) (v2 : Int32) (v3 : Int32) (v4 : Int32) (S : zS), zFR w_X3_readNumber (f_X3_readNumber_25 n v2 v3 v4 S) S := by
  intro n
  induction n with
  | zero =>
    intro v2 v3 v4 S r hr
    cases (show (none : Option (Unit × zS)) = some r from hr)
  | succ n ih =>
    intro v2 v3 v4 S
    rw [f_X3_readNumber_25]
    repeat' (first
    | with_reducible exact fr_none
    | with_reducible refine fr_if (fun _ => ?_) (fun _ => ?_)
    | with_reducible refine fr_some ?_
    | with_reducible refine z_fr_w ?_ (by unfold w_X3_readNumber; first | (exact Or.inr (Or.inr ⟨rfl, rfl⟩)) | (exact Or.inr (Or.inl ⟨rfl, rfl⟩)) | (exact Or.inl ⟨rfl, rfl⟩))
    | with_reducible refine z_fr_u ?_ (by intro j9; unfold w_X3_readNumber; first | (exact Or.inr (Or.inr ⟨rfl, rfl⟩)) | (exact Or.inr (Or.inl ⟨rfl, rfl⟩)) | (exact Or.inl ⟨rfl, rfl⟩))
    | with_reducible exact z_fr_rf
    | with_reducible assumption
    | with_reducible refine fr_bind (fr_X3_isDigit _ _) (fun k j hkj => by unfold w_X3_isDigit at hkj; exact hkj.elim) ?_ (fun _ _ => ?_)
    | with_reducible refine fr_go ?_ (fr_X3_readNumber_107 _ _)
    | with_reducible refine fr_go ?_ (fr_X3_readNumber_87 _ _ _)
    | with_reducible refine fr_go ?_ (ih _ _ _ _))
set_option maxHeartbeats 4000000 in
theorem fr_X3_readNumber : ∀ (a2 : Int32) (S : zS), zFR w_X3_readNumber (f_X3_readNumber a2 S) S := by
  intro a2 S
  unfold f_X3_readNumber
  repeat' (first
    | with_reducible exact fr_none
    | with_reducible refine fr_if (fun _ => ?_) (fun _ => ?_)
    | with_reducible refine fr_some ?_
    | with_reducible refine z_fr_w ?_ (by unfold w_X3_readNumber; first | (exact Or.inr (Or.inr ⟨rfl, rfl⟩)) | (exact Or.inr (Or.inl ⟨rfl, rfl⟩)) | (exact Or.inl ⟨rfl, rfl⟩))
    | with_reducible refine z_fr_u ?_ (by intro j9; unfold w_X3_readNumber; first | (exact Or.inr (Or.inr ⟨rfl, rfl⟩)) | (exact Or.inr (Or.inl ⟨rfl, rfl⟩)) | (exact Or.inl ⟨rfl, rfl⟩))
    | with_reducible exact z_fr_rf
    | with_reducible assumption
    | with_reducible refine fr_bind (fr_X3_isDigit _ _) (fun k j hkj => by unfold w_X3_isDigit at hkj; exact hkj.elim) ?_ (fun _ _ => ?_)
    | with_reducible refine fr_go ?_ (fr_X3_readNumber_107 _ _)
    | with_reducible refine fr_go ?_ (fr_X3_readNumber_87 _ _ _)
    | with_reducible refine fr_go ?_ (fr_X3_readNumber_25 1000 _ _ _ _))
def w_X3_readToken (k j : Nat) : Prop := (k = 31 ∧ j = 0) ∨ (k = 31 ∧ j = 1) ∨ (k = 31 ∧ j = 2) ∨ (k = 31 ∧ j = 3)
set_option maxHeartbeats 4000000 in
theorem fr_X3_readToken_134 : ∀ (v4 : Int32) (t0 : Int32) (S : zS), zFR w_X3_readToken (f_X3_readToken_134 v4 t0 S) S := by
  intro v4 t0 S
  unfold f_X3_readToken_134
  repeat' (first
    | with_reducible exact fr_none
    | with_reducible refine fr_if (fun _ => ?_) (fun _ => ?_)
    | with_reducible refine fr_some ?_
    | with_reducible refine z_fr_w ?_ (by unfold w_X3_readToken; first | (exact Or.inl ⟨rfl, rfl⟩) | (exact Or.inr (Or.inl ⟨rfl, rfl⟩)) | (exact Or.inr (Or.inr (Or.inl ⟨rfl, rfl⟩))))
    | with_reducible refine z_fr_u ?_ (by intro j9; unfold w_X3_readToken; first | (exact Or.inl ⟨rfl, rfl⟩) | (exact Or.inr (Or.inl ⟨rfl, rfl⟩)) | (exact Or.inr (Or.inr (Or.inl ⟨rfl, rfl⟩))))
    | with_reducible exact z_fr_rf
    | with_reducible assumption
    | with_reducible refine fr_bind (fr_X3_isDigit _ _) (fun k j hkj => by unfold w_X3_isDigit at hkj; exact hkj.elim) ?_ (fun _ _ => ?_)
    | with_reducible refine fr_bind (fr_X3_readNumber _ _) (fun k j hkj => by unfold w_X3_readNumber at hkj; unfold w_X3_readToken; rcases hkj with hkj | hkj | hkj; (exact Or.inr (Or.inl hkj)); (exact Or.inr (Or.inr (Or.inl hkj))); (exact Or.inr (Or.inr (Or.inr hkj)))) ?_ (fun _ _ => ?_))
set_option maxHeartbeats 4000000 in
theorem fr_X3_readToken_39 : ∀ (v3 : Int32) (S : zS), zFR w_X3_readToken (f_X3_readToken_39 v3 S) S := by
  intro v3 S
  unfold f_X3_readToken_39
  repeat' (first
    | with_reducible exact fr_none
    | with_reducible refine fr_if (fun _ => ?_) (fun _ => ?_)
    | with_reducible refine fr_some ?_
    | with_reducible refine z_fr_w ?_ (by unfold w_X3_readToken; first | (exact Or.inl ⟨rfl, rfl⟩) | (exact Or.inr (Or.inl ⟨rfl, rfl⟩)) | (exact Or.inr (Or.inr (Or.inl ⟨rfl, rfl⟩))))
    | with_reducible refine z_fr_u ?_ (by intro j9; unfold w_X3_readToken; first | (exact Or.inl ⟨rfl, rfl⟩) | (exact Or.inr (Or.inl ⟨rfl, rfl⟩)) | (exact Or.inr (Or.inr (Or.inl ⟨rfl, rfl⟩))))
    | with_reducible exact z_fr_rf
    | with_reducible assumption
    | with_reducible refine fr_bind (fr_X3_isDigit _ _) (fun k j hkj => by unfold w_X3_isDigit at hkj; exact hkj.elim) ?_ (fun _ _ => ?_)
    | with_reducible refine fr_bind (fr_X3_readNumber _ _) (fun k j hkj => by unfold w_X3_readNumber at hkj; unfold w_X3_readToken; rcases hkj with hkj | hkj | hkj; (exact Or.inr (Or.inl hkj)); (exact Or.inr (Or.inr (Or.inl hkj))); (exact Or.inr (Or.inr (Or.inr hkj)))) ?_ (fun _ _ => ?_)
    | with_reducible refine fr_go ?_ (fr_X3_readToken_134 _ _ _))
set_option maxHeartbeats 4000000 in
theorem fr_X3_readToken_7 : ∀ (n : Nat) (v3 : Int32) (S : zS), zFR w_X3_readToken (f_X3_readToken_7 n v3 S) S := by
  intro n
  induction n with
  | zero =>
    intro v3 S r hr
    cases (show (none : Option (Unit × zS)) = some r from hr)
  | succ n ih =>
    intro v3 S
    rw [f_X3_readToken_7]
    repeat' (first
    | with_reducible exact fr_none
    | with_reducible refine fr_if (fun _ => ?_) (fun _ => ?_)
    | with_reducible refine fr_some ?_
    | with_reducible refine z_fr_w ?_ (by unfold w_X3_readToken; first | (exact Or.inl ⟨rfl, rfl⟩) | (exact Or.inr (Or.inl ⟨rfl, rfl⟩)) | (exact Or.inr (Or.inr (Or.inl ⟨rfl, rfl⟩))))
    | with_reducible refine z_fr_u ?_ (by intro j9; unfold w_X3_readToken; first | (exact Or.inl ⟨rfl, rfl⟩) | (exact Or.inr (Or.inl ⟨rfl, rfl⟩)) | (exact Or.inr (Or.inr (Or.inl ⟨rfl, rfl⟩))))
    | with_reducible exact z_fr_rf
    | with_reducible assumption
    | with_reducible refine fr_bind (fr_X3_isDigit _ _) (fun k j hkj => by unfold w_X3_isDigit at hkj; exact hkj.elim) ?_ (fun _ _ => ?_)
    | with_reducible refine fr_bind (fr_X3_readNumber _ _) (fun k j hkj => by unfold w_X3_readNumber at hkj; unfold w_X3_readToken; rcases hkj with hkj | hkj | hkj; (exact Or.inr (Or.inl hkj)); (exact Or.inr (Or.inr (Or.inl hkj))); (exact Or.inr (Or.inr (Or.inr hkj)))) ?_ (fun _ _ => ?_)
    | with_reducible refine fr_go ?_ (fr_X3_readToken_134 _ _ _)
    | with_reducible refine fr_go ?_ (fr_X3_readToken_39 _ _)
    | with_reducible refine fr_go ?_ (ih _ _))
set_option maxHeartbeats 4000000 in
theorem fr_X3_readToken : ∀ (a2 : Int32) (S : zS), zFR w_X3_readToken (f_X3_readToken a2 S) S := by
  intro a2 S
  unfold f_X3_readToken
  repeat' (first
    | with_reducible exact fr_none
    | with_reducible refine fr_if (fun _ => ?_) (fun _ => ?_)
    | with_reducible refine fr_some ?_
    | with_reducible refine z_fr_w ?_ (by unfold w_X3_readToken; first | (exact Or.inl ⟨rfl, rfl⟩) | (exact Or.inr (Or.inl ⟨rfl, rfl⟩)) | (exact Or.inr (Or.inr (Or.inl ⟨rfl, rfl⟩))))
    | with_reducible refine z_fr_u ?_ (by intro j9; unfold w_X3_readToken; first | (exact Or.inl ⟨rfl, rfl⟩) | (exact Or.inr (Or.inl ⟨rfl, rfl⟩)) | (exact Or.inr (Or.inr (Or.inl ⟨rfl, rfl⟩))))
    | with_reducible exact z_fr_rf
    | with_reducible assumption
    | with_reducible refine fr_bind (fr_X3_isDigit _ _) (fun k j hkj => by unfold w_X3_isDigit at hkj; exact hkj.elim) ?_ (fun _ _ => ?_)
    | with_reducible refine fr_bind (fr_X3_readNumber _ _) (fun k j hkj => by unfold w_X3_readNumber at hkj; unfold w_X3_readToken; rcases hkj with hkj | hkj | hkj; (exact Or.inr (Or.inl hkj)); (exact Or.inr (Or.inr (Or.inl hkj))); (exact Or.inr (Or.inr (Or.inr hkj)))) ?_ (fun _ _ => ?_)
    | with_reducible refine fr_go ?_ (fr_X3_readToken_134 _ _ _)
    | with_reducible refine fr_go ?_ (fr_X3_readToken_39 _ _)
    | with_reducible refine fr_go ?_ (fr_X3_readToken_7 1000 _ _))
def w_X3_beginsItem (p1 : Nat) (k j : Nat) : Prop := (k = 31 ∧ j = 4) ∨ (k = 31 ∧ j = 5)
set_option maxHeartbeats 4000000 in
theorem fr_X3_beginsItem : ∀ (p1 : Nat) (S : zS), zFR (w_X3_beginsItem p1) (f_X3_beginsItem p1 S) S := by
  intro p1 S
  unfold f_X3_beginsItem
  repeat' (first
    | with_reducible exact fr_none
    | with_reducible refine fr_if (fun _ => ?_) (fun _ => ?_)
    | with_reducible refine fr_some ?_
    | with_reducible refine z_fr_w ?_ (by unfold w_X3_beginsItem; first | (exact Or.inl ⟨rfl, rfl⟩) | (exact Or.inr ⟨rfl, rfl⟩))
    | with_reducible refine z_fr_u ?_ (by intro j9; unfold w_X3_beginsItem; first | (exact Or.inl ⟨rfl, rfl⟩) | (exact Or.inr ⟨rfl, rfl⟩))
    | with_reducible exact z_fr_rf
    | with_reducible assumption)
def w_X1_hasCorner (p0 : Nat) (k j : Nat) : Prop := False
set_option maxHeartbeats 4000000 in
theorem fr_X1_hasCorner : ∀ (p0 : Nat) (a1 : Int32) (S : zS), zFR (w_X1_hasCorner p0) (f_X1_hasCorner p0 a1 S) S := by
  intro p0 a1 S
  unfold f_X1_hasCorner
  repeat' (first
    | with_reducible exact fr_none
    | with_reducible refine fr_if (fun _ => ?_) (fun _ => ?_)
    | with_reducible refine fr_some ?_
    | with_reducible exact z_fr_rf
    | with_reducible assumption)
def w_X8_has (k j : Nat) : Prop := False
set_option maxHeartbeats 4000000 in
theorem fr_X8_has : ∀ (a0 : Int32) (a1 : Int32) (S : zS), zFR w_X8_has (f_X8_has a0 a1 S) S := by
  intro a0 a1 S
  unfold f_X8_has
  repeat' (first
    | with_reducible exact fr_none
    | with_reducible refine fr_if (fun _ => ?_) (fun _ => ?_)
    | with_reducible refine fr_some ?_
    | with_reducible exact z_fr_rf
    | with_reducible assumption)
def w_X1_join (p0 : Nat) (k j : Nat) : Prop := (k = p0 ∧ j = 4) ∨ k = p0 + 3
set_option maxHeartbeats 4000000 in
theorem fr_X1_join : ∀ (p0 : Nat) (a1 : Int32) (a2 : Int32) (S : zS), zFR (w_X1_join p0) (f_X1_join p0 a1 a2 S) S := by
  intro p0 a1 a2 S
  unfold f_X1_join
  repeat' (first
    | with_reducible exact fr_none
    | with_reducible refine fr_if (fun _ => ?_) (fun _ => ?_)
    | with_reducible refine fr_some ?_
    | with_reducible refine z_fr_w ?_ (by unfold w_X1_join; first | (exact Or.inr rfl) | (exact Or.inl ⟨rfl, rfl⟩))
    | with_reducible refine z_fr_u ?_ (by intro j9; unfold w_X1_join; first | (exact Or.inr rfl) | (exact Or.inl ⟨rfl, rfl⟩))
    | with_reducible exact z_fr_rf
    | with_reducible assumption
    | with_reducible refine fr_bind (fr_X1_hasCorner _ _ _) (fun k j hkj => by unfold w_X1_hasCorner at hkj; exact hkj.elim) ?_ (fun _ _ => ?_)
    | with_reducible refine fr_bind (fr_X8_has _ _ _) (fun k j hkj => by unfold w_X8_has at hkj; exact hkj.elim) ?_ (fun _ _ => ?_))
def w_X3_endsRing (p1 : Nat) (k j : Nat) : Prop := (k = p1 ∧ j = 4) ∨ (k = p1 ∧ j = 7) ∨ k = p1 + 3 ∨ k = p1 + 6
set_option maxHeartbeats 4000000 in
theorem fr_X3_endsRing : ∀ (p1 : Nat) (S : zS), zFR (w_X3_endsRing p1) (f_X3_endsRing p1 S) S := by
  intro p1 S
  unfold f_X3_endsRing
  repeat' (first
    | with_reducible exact fr_none
    | with_reducible refine fr_if (fun _ => ?_) (fun _ => ?_)
    | with_reducible refine fr_some ?_
    | with_reducible refine z_fr_w ?_ (by unfold w_X3_endsRing; first | (exact Or.inr (Or.inr (Or.inr rfl))) | (exact Or.inr (Or.inl ⟨rfl, rfl⟩)))
    | with_reducible refine z_fr_u ?_ (by intro j9; unfold w_X3_endsRing; first | (exact Or.inr (Or.inr (Or.inr rfl))) | (exact Or.inr (Or.inl ⟨rfl, rfl⟩)))
    | with_reducible exact z_fr_rf
    | with_reducible assumption
    | with_reducible refine fr_bind (fr_X1_join _ _ _ _) (fun k j hkj => by unfold w_X1_join at hkj; unfold w_X3_endsRing; rcases hkj with hkj | hkj; (exact Or.inl hkj); (exact Or.inr (Or.inr (Or.inl hkj)))) ?_ (fun _ _ => ?_))
def w_X3_endsItem (p1 : Nat) (k j : Nat) : Prop := (k = 31 ∧ j = 4) ∨ (k = p1 ∧ j = 13) ∨ (k = p1 ∧ j = 4) ∨ (k = p1 ∧ j = 7) ∨ k = p1 + 3 ∨ k = p1 + 6
set_option maxHeartbeats 4000000 in
theorem fr_X3_endsItem_43 {p1 : Nat} : ∀ (t0 : Int32) (S : zS), zFR (w_X3_endsItem p1) (f_X3_endsItem_43 p1 t0 S) S := by
  intro t0 S
  unfold f_X3_endsItem_43
  repeat' (first
    | with_reducible exact fr_none
    | with_reducible refine fr_if (fun _ => ?_) (fun _ => ?_)
    | with_reducible refine fr_some ?_
    | with_reducible refine z_fr_w ?_ (by unfold w_X3_endsItem; first | (exact Or.inl ⟨rfl, rfl⟩) | (exact Or.inr (Or.inl ⟨rfl, rfl⟩)))
    | with_reducible refine z_fr_u ?_ (by intro j9; unfold w_X3_endsItem; first | (exact Or.inl ⟨rfl, rfl⟩) | (exact Or.inr (Or.inl ⟨rfl, rfl⟩)))
    | with_reducible exact z_fr_rf
    | with_reducible assumption
    | with_reducible refine fr_bind (fr_X3_endsRing _ _) (fun k j hkj => by unfold w_X3_endsRing at hkj; unfold w_X3_endsItem; rcases hkj with hkj | hkj | hkj | hkj; (exact Or.inr (Or.inr (Or.inl hkj))); (exact Or.inr (Or.inr (Or.inr (Or.inl hkj)))); (exact Or.inr (Or.inr (Or.inr (Or.inr (Or.inl hkj))))); (exact Or.inr (Or.inr (Or.inr (Or.inr (Or.inr hkj)))))) ?_ (fun _ _ => ?_))
set_option maxHeartbeats 4000000 in
theorem fr_X3_endsItem_35 {p1 : Nat} : ∀ (t0 : Int32) (t1 : Int32) (S : zS), zFR (w_X3_endsItem p1) (f_X3_endsItem_35 p1 t0 t1 S) S := by
  intro t0 t1 S
  unfold f_X3_endsItem_35
  repeat' (first
    | with_reducible exact fr_none
    | with_reducible refine fr_if (fun _ => ?_) (fun _ => ?_)
    | with_reducible refine fr_some ?_
    | with_reducible refine z_fr_w ?_ (by unfold w_X3_endsItem; first | (exact Or.inl ⟨rfl, rfl⟩) | (exact Or.inr (Or.inl ⟨rfl, rfl⟩)))
    | with_reducible refine z_fr_u ?_ (by intro j9; unfold w_X3_endsItem; first | (exact Or.inl ⟨rfl, rfl⟩) | (exact Or.inr (Or.inl ⟨rfl, rfl⟩)))
    | with_reducible exact z_fr_rf
    | with_reducible assumption
    | with_reducible refine fr_bind (fr_X3_endsRing _ _) (fun k j hkj => by unfold w_X3_endsRing at hkj; unfold w_X3_endsItem; rcases hkj with hkj | hkj | hkj | hkj; (exact Or.inr (Or.inr (Or.inl hkj))); (exact Or.inr (Or.inr (Or.inr (Or.inl hkj)))); (exact Or.inr (Or.inr (Or.inr (Or.inr (Or.inl hkj))))); (exact Or.inr (Or.inr (Or.inr (Or.inr (Or.inr hkj)))))) ?_ (fun _ _ => ?_)
    | with_reducible refine fr_go ?_ (fr_X3_endsItem_43 _ _))
set_option maxHeartbeats 4000000 in
theorem fr_X3_endsItem : ∀ (p1 : Nat) (S : zS), zFR (w_X3_endsItem p1) (f_X3_endsItem p1 S) S := by
  intro p1 S
  unfold f_X3_endsItem
  repeat' (first
    | with_reducible exact fr_none
    | with_reducible refine fr_if (fun _ => ?_) (fun _ => ?_)
    | with_reducible refine fr_some ?_
    | with_reducible refine z_fr_w ?_ (by unfold w_X3_endsItem; first | (exact Or.inl ⟨rfl, rfl⟩) | (exact Or.inr (Or.inl ⟨rfl, rfl⟩)))
    | with_reducible refine z_fr_u ?_ (by intro j9; unfold w_X3_endsItem; first | (exact Or.inl ⟨rfl, rfl⟩) | (exact Or.inr (Or.inl ⟨rfl, rfl⟩)))
    | with_reducible exact z_fr_rf
    | with_reducible assumption
    | with_reducible refine fr_bind (fr_X3_endsRing _ _) (fun k j hkj => by unfold w_X3_endsRing at hkj; unfold w_X3_endsItem; rcases hkj with hkj | hkj | hkj | hkj; (exact Or.inr (Or.inr (Or.inl hkj))); (exact Or.inr (Or.inr (Or.inr (Or.inl hkj)))); (exact Or.inr (Or.inr (Or.inr (Or.inr (Or.inl hkj))))); (exact Or.inr (Or.inr (Or.inr (Or.inr (Or.inr hkj)))))) ?_ (fun _ _ => ?_)
    | with_reducible refine fr_go ?_ (fr_X3_endsItem_43 _ _)
    | with_reducible refine fr_go ?_ (fr_X3_endsItem_35 _ _ _))
def w_X3_takesHeat (p1 : Nat) (k j : Nat) : Prop := (k = 31 ∧ j = 8) ∨ (k = p1 ∧ j = 12)
set_option maxHeartbeats 4000000 in
theorem fr_X3_takesHeat : ∀ (p1 : Nat) (S : zS), zFR (w_X3_takesHeat p1) (f_X3_takesHeat p1 S) S := by
  intro p1 S
  unfold f_X3_takesHeat
  repeat' (first
    | with_reducible exact fr_none
    | with_reducible refine fr_if (fun _ => ?_) (fun _ => ?_)
    | with_reducible refine fr_some ?_
    | with_reducible refine z_fr_w ?_ (by unfold w_X3_takesHeat; first | (exact Or.inr ⟨rfl, rfl⟩) | (exact Or.inl ⟨rfl, rfl⟩))
    | with_reducible refine z_fr_u ?_ (by intro j9; unfold w_X3_takesHeat; first | (exact Or.inr ⟨rfl, rfl⟩) | (exact Or.inl ⟨rfl, rfl⟩))
    | with_reducible exact z_fr_rf
    | with_reducible assumption)
def w_X1_addCorner (p0 : Nat) (k j : Nat) : Prop := (k = p0 ∧ j = 0) ∨ k = p0 + 1 ∨ k = p0 + 2
set_option maxHeartbeats 4000000 in
theorem fr_X1_addCorner_13 {p0 : Nat} : ∀ (n : Nat) (v1 : Int32) (v2 : Int32) (v3 : Int32) (S : zS), zFR (w_X1_addCorner p0) (f_X1_addCorner_13 p0 n v1 v2 v3 S) S := by
  intro n
  induction n with
  | zero =>
    intro v1 v2 v3 S r hr
    cases (show (none : Option (Int32 × zS)) = some r from hr)
  | succ n ih =>
    intro v1 v2 v3 S
    rw [f_X1_addCorner_13]
    repeat' (first
    | with_reducible exact fr_none
    | with_reducible refine fr_if (fun _ => ?_) (fun _ => ?_)
    | with_reducible refine fr_some ?_
    | with_reducible refine z_fr_w ?_ (by unfold w_X1_addCorner; first | (exact Or.inr (Or.inl rfl)) | (exact Or.inr (Or.inr rfl)) | (exact Or.inl ⟨rfl, rfl⟩))
    | with_reducible refine z_fr_u ?_ (by intro j9; unfold w_X1_addCorner; first | (exact Or.inr (Or.inl rfl)) | (exact Or.inr (Or.inr rfl)) | (exact Or.inl ⟨rfl, rfl⟩))
    | with_reducible exact z_fr_rf
    | with_reducible assumption
    | with_reducible refine fr_go ?_ (ih _ _ _ _))
set_option maxHeartbeats 4000000 in
theorem fr_X1_addCorner : ∀ (p0 : Nat) (a1 : Int32) (a2 : Int32) (S : zS), zFR (w_X1_addCorner p0) (f_X1_addCorner p0 a1 a2 S) S := by
  intro p0 a1 a2 S
  unfold f_X1_addCorner
  repeat' (first
    | with_reducible exact fr_none
    | with_reducible refine fr_if (fun _ => ?_) (fun _ => ?_)
    | with_reducible refine fr_some ?_
    | with_reducible refine z_fr_w ?_ (by unfold w_X1_addCorner; first | (exact Or.inr (Or.inl rfl)) | (exact Or.inr (Or.inr rfl)) | (exact Or.inl ⟨rfl, rfl⟩))
    | with_reducible refine z_fr_u ?_ (by intro j9; unfold w_X1_addCorner; first | (exact Or.inr (Or.inl rfl)) | (exact Or.inr (Or.inr rfl)) | (exact Or.inl ⟨rfl, rfl⟩))
    | with_reducible exact z_fr_rf
    | with_reducible assumption
    | with_reducible refine fr_go ?_ (fr_X1_addCorner_13 1000 _ _ _ _))
def w_X3_takesPlace (p1 : Nat) (k j : Nat) : Prop := (k = p1 ∧ j = 0) ∨ k = p1 + 1 ∨ k = p1 + 2
set_option maxHeartbeats 4000000 in
theorem fr_X3_takesPlace : ∀ (p1 : Nat) (S : zS), zFR (w_X3_takesPlace p1) (f_X3_takesPlace p1 S) S := by
  intro p1 S
  unfold f_X3_takesPlace
  repeat' (first
    | with_reducible exact fr_none
    | with_reducible refine fr_if (fun _ => ?_) (fun _ => ?_)
    | with_reducible refine fr_some ?_
    | with_reducible exact z_fr_rf
    | with_reducible assumption
    | with_reducible refine fr_bind (fr_X1_addCorner _ _ _ _) (fun k j hkj => by unfold w_X1_addCorner at hkj; unfold w_X3_takesPlace; rcases hkj with hkj | hkj | hkj; (exact Or.inl hkj); (exact Or.inr (Or.inl hkj)); (exact Or.inr (Or.inr hkj))) ?_ (fun _ _ => ?_))
def w_X3_takesRingCorner (p1 : Nat) (k j : Nat) : Prop := (k = p1 ∧ j = 4) ∨ k = p1 + 3 ∨ (p1 + 8 ≤ k ∧ k ≤ p1 + 11)
set_option maxHeartbeats 4000000 in
theorem fr_X3_takesRingCorner_33 {p1 : Nat} : ∀ (n : Nat) (v2 : Int32) (v3 : Int32) (S : zS), zFR (w_X3_takesRingCorner p1) (f_X3_takesRingCorner_33 p1 n v2 v3 S) S := by
  intro n
  induction n with
  | zero =>
    intro v2 v3 S r hr
    cases (show (none : Option (Int32 × zS)) = some r from hr)
  | succ n ih =>
    intro v2 v3 S
    rw [f_X3_takesRingCorner_33]
    repeat' (first
    | with_reducible exact fr_none
    | with_reducible refine fr_if (fun _ => ?_) (fun _ => ?_)
    | with_reducible refine fr_some ?_
    | with_reducible refine z_fr_w ?_ (by unfold w_X3_takesRingCorner; first | (exact Or.inr (Or.inr ⟨by first | omega | (have hz9 := z_in_lt (n := 4) (by assumption); omega) | (have hz9 := z_in_lt (n := 10) (by assumption); omega) | (have hz9 := z_in_lt (n := 2) (by assumption); omega), by first | omega | (have hz9 := z_in_lt (n := 4) (by assumption); omega) | (have hz9 := z_in_lt (n := 10) (by assumption); omega) | (have hz9 := z_in_lt (n := 2) (by assumption); omega)⟩)))
    | with_reducible refine z_fr_u ?_ (by intro j9; unfold w_X3_takesRingCorner; first | (exact Or.inr (Or.inr ⟨by first | omega | (have hz9 := z_in_lt (n := 4) (by assumption); omega) | (have hz9 := z_in_lt (n := 10) (by assumption); omega) | (have hz9 := z_in_lt (n := 2) (by assumption); omega), by first | omega | (have hz9 := z_in_lt (n := 4) (by assumption); omega) | (have hz9 := z_in_lt (n := 10) (by assumption); omega) | (have hz9 := z_in_lt (n := 2) (by assumption); omega)⟩)))
    | with_reducible exact z_fr_rf
    | with_reducible assumption
    | with_reducible refine fr_bind (fr_X1_hasCorner _ _ _) (fun k j hkj => by unfold w_X1_hasCorner at hkj; exact hkj.elim) ?_ (fun _ _ => ?_)
    | with_reducible refine fr_bind (fr_X1_join _ _ _ _) (fun k j hkj => by unfold w_X1_join at hkj; unfold w_X3_takesRingCorner; rcases hkj with hkj | hkj; (exact Or.inl hkj); (exact Or.inr (Or.inl hkj))) ?_ (fun _ _ => ?_)
    | with_reducible refine fr_go ?_ (ih _ _ _))
set_option maxHeartbeats 4000000 in
theorem fr_X3_takesRingCorner : ∀ (p1 : Nat) (S : zS), zFR (w_X3_takesRingCorner p1) (f_X3_takesRingCorner p1 S) S := by
  intro p1 S
  unfold f_X3_takesRingCorner
  repeat' (first
    | with_reducible exact fr_none
    | with_reducible refine fr_if (fun _ => ?_) (fun _ => ?_)
    | with_reducible refine fr_some ?_
    | with_reducible refine z_fr_w ?_ (by unfold w_X3_takesRingCorner; first | (exact Or.inr (Or.inr ⟨by first | omega | (have hz9 := z_in_lt (n := 4) (by assumption); omega) | (have hz9 := z_in_lt (n := 10) (by assumption); omega) | (have hz9 := z_in_lt (n := 2) (by assumption); omega), by first | omega | (have hz9 := z_in_lt (n := 4) (by assumption); omega) | (have hz9 := z_in_lt (n := 10) (by assumption); omega) | (have hz9 := z_in_lt (n := 2) (by assumption); omega)⟩)))
    | with_reducible refine z_fr_u ?_ (by intro j9; unfold w_X3_takesRingCorner; first | (exact Or.inr (Or.inr ⟨by first | omega | (have hz9 := z_in_lt (n := 4) (by assumption); omega) | (have hz9 := z_in_lt (n := 10) (by assumption); omega) | (have hz9 := z_in_lt (n := 2) (by assumption); omega), by first | omega | (have hz9 := z_in_lt (n := 4) (by assumption); omega) | (have hz9 := z_in_lt (n := 10) (by assumption); omega) | (have hz9 := z_in_lt (n := 2) (by assumption); omega)⟩)))
    | with_reducible exact z_fr_rf
    | with_reducible assumption
    | with_reducible refine fr_bind (fr_X1_hasCorner _ _ _) (fun k j hkj => by unfold w_X1_hasCorner at hkj; exact hkj.elim) ?_ (fun _ _ => ?_)
    | with_reducible refine fr_bind (fr_X1_join _ _ _ _) (fun k j hkj => by unfold w_X1_join at hkj; unfold w_X3_takesRingCorner; rcases hkj with hkj | hkj; (exact Or.inl hkj); (exact Or.inr (Or.inl hkj))) ?_ (fun _ _ => ?_)
    | with_reducible refine fr_go ?_ (fr_X3_takesRingCorner_33 1000 _ _ _))
def w_X3_takesSeamCorner (p1 : Nat) (k j : Nat) : Prop := (k = p1 ∧ j = 4) ∨ k = p1 + 3
set_option maxHeartbeats 4000000 in
theorem fr_X3_takesSeamCorner : ∀ (p1 : Nat) (S : zS), zFR (w_X3_takesSeamCorner p1) (f_X3_takesSeamCorner p1 S) S := by
  intro p1 S
  unfold f_X3_takesSeamCorner
  repeat' (first
    | with_reducible exact fr_none
    | with_reducible refine fr_if (fun _ => ?_) (fun _ => ?_)
    | with_reducible refine fr_some ?_
    | with_reducible exact z_fr_rf
    | with_reducible assumption
    | with_reducible refine fr_bind (fr_X1_hasCorner _ _ _) (fun k j hkj => by unfold w_X1_hasCorner at hkj; exact hkj.elim) ?_ (fun _ _ => ?_)
    | with_reducible refine fr_bind (fr_X1_join _ _ _ _) (fun k j hkj => by unfold w_X1_join at hkj; unfold w_X3_takesSeamCorner; rcases hkj with hkj | hkj; (exact Or.inl hkj); (exact Or.inr hkj)) ?_ (fun _ _ => ?_))
def w_X3_takesNumber (p1 : Nat) (k j : Nat) : Prop := (k = 31 ∧ j = 8) ∨ (k = p1 ∧ j = 0) ∨ (k = p1 ∧ j = 12) ∨ (k = p1 ∧ j = 4) ∨ k = p1 + 1 ∨ k = p1 + 2 ∨ k = p1 + 3 ∨ (p1 + 8 ≤ k ∧ k ≤ p1 + 11)
set_option maxHeartbeats 4000000 in
theorem fr_X3_takesNumber : ∀ (p1 : Nat) (S : zS), zFR (w_X3_takesNumber p1) (f_X3_takesNumber p1 S) S := by
  intro p1 S
  unfold f_X3_takesNumber
  repeat' (first
    | with_reducible exact fr_none
    | with_reducible refine fr_if (fun _ => ?_) (fun _ => ?_)
    | with_reducible refine fr_some ?_
    | with_reducible exact z_fr_rf
    | with_reducible assumption
    | with_reducible refine fr_bind (fr_X3_takesHeat _ _) (fun k j hkj => by unfold w_X3_takesHeat at hkj; unfold w_X3_takesNumber; rcases hkj with hkj | hkj; (exact Or.inl hkj); (exact Or.inr (Or.inr (Or.inl hkj)))) ?_ (fun _ _ => ?_)
    | with_reducible refine fr_bind (fr_X3_takesPlace _ _) (fun k j hkj => by unfold w_X3_takesPlace at hkj; unfold w_X3_takesNumber; rcases hkj with hkj | hkj | hkj; (exact Or.inr (Or.inl hkj)); (exact Or.inr (Or.inr (Or.inr (Or.inr (Or.inl hkj))))); (exact Or.inr (Or.inr (Or.inr (Or.inr (Or.inr (Or.inl hkj))))))) ?_ (fun _ _ => ?_)
    | with_reducible refine fr_bind (fr_X3_takesRingCorner _ _) (fun k j hkj => by unfold w_X3_takesRingCorner at hkj; unfold w_X3_takesNumber; rcases hkj with hkj | hkj | hkj; (exact Or.inr (Or.inr (Or.inr (Or.inl hkj)))); (exact Or.inr (Or.inr (Or.inr (Or.inr (Or.inr (Or.inr (Or.inl hkj))))))); (exact Or.inr (Or.inr (Or.inr (Or.inr (Or.inr (Or.inr (Or.inr hkj)))))))) ?_ (fun _ _ => ?_)
    | with_reducible refine fr_bind (fr_X3_takesSeamCorner _ _) (fun k j hkj => by unfold w_X3_takesSeamCorner at hkj; unfold w_X3_takesNumber; rcases hkj with hkj | hkj; (exact Or.inr (Or.inr (Or.inr (Or.inl hkj)))); (exact Or.inr (Or.inr (Or.inr (Or.inr (Or.inr (Or.inr (Or.inl hkj)))))))) ?_ (fun _ _ => ?_))
def w_X3_takesToken (p1 : Nat) (k j : Nat) : Prop := (k = 31 ∧ j = 4) ∨ (k = 31 ∧ j = 5) ∨ (k = 31 ∧ j = 6) ∨ (k = 31 ∧ j = 7) ∨ (k = 31 ∧ j = 8) ∨ (k = p1 ∧ j = 0) ∨ (k = p1 ∧ j = 12) ∨ (k = p1 ∧ j = 13) ∨ (k = p1 ∧ j = 4) ∨ (k = p1 ∧ j = 7) ∨ k = p1 + 1 ∨ k = p1 + 2 ∨ k = p1 + 3 ∨ k = p1 + 6 ∨ (p1 + 8 ≤ k ∧ k ≤ p1 + 11)
set_option maxHeartbeats 4000000 in
theorem fr_X3_takesToken : ∀ (p1 : Nat) (S : zS), zFR (w_X3_takesToken p1) (f_X3_takesToken p1 S) S := by
  intro p1 S
  unfold f_X3_takesToken
  repeat' (first
    | with_reducible exact fr_none
    | with_reducible refine fr_if (fun _ => ?_) (fun _ => ?_)
    | with_reducible refine fr_some ?_
    | with_reducible refine z_fr_w ?_ (by unfold w_X3_takesToken; first | (exact Or.inr (Or.inr (Or.inr (Or.inl ⟨rfl, rfl⟩)))) | (exact Or.inr (Or.inr (Or.inl ⟨rfl, rfl⟩))) | (exact Or.inr (Or.inl ⟨rfl, rfl⟩)))
    | with_reducible refine z_fr_u ?_ (by intro j9; unfold w_X3_takesToken; first | (exact Or.inr (Or.inr (Or.inr (Or.inl ⟨rfl, rfl⟩)))) | (exact Or.inr (Or.inr (Or.inl ⟨rfl, rfl⟩))) | (exact Or.inr (Or.inl ⟨rfl, rfl⟩)))
    | with_reducible exact z_fr_rf
    | with_reducible assumption
    | with_reducible refine fr_bind (fr_X3_beginsItem _ _) (fun k j hkj => by unfold w_X3_beginsItem at hkj; unfold w_X3_takesToken; rcases hkj with hkj | hkj; (exact Or.inl hkj); (exact Or.inr (Or.inl hkj))) ?_ (fun _ _ => ?_)
    | with_reducible refine fr_bind (fr_X3_endsItem _ _) (fun k j hkj => by unfold w_X3_endsItem at hkj; unfold w_X3_takesToken; rcases hkj with hkj | hkj | hkj | hkj | hkj | hkj; (exact Or.inl hkj); (exact Or.inr (Or.inr (Or.inr (Or.inr (Or.inr (Or.inr (Or.inr (Or.inl hkj)))))))); (exact Or.inr (Or.inr (Or.inr (Or.inr (Or.inr (Or.inr (Or.inr (Or.inr (Or.inl hkj))))))))); (exact Or.inr (Or.inr (Or.inr (Or.inr (Or.inr (Or.inr (Or.inr (Or.inr (Or.inr (Or.inl hkj)))))))))); (exact Or.inr (Or.inr (Or.inr (Or.inr (Or.inr (Or.inr (Or.inr (Or.inr (Or.inr (Or.inr (Or.inr (Or.inr (Or.inl hkj))))))))))))); (exact Or.inr (Or.inr (Or.inr (Or.inr (Or.inr (Or.inr (Or.inr (Or.inr (Or.inr (Or.inr (Or.inr (Or.inr (Or.inr (Or.inl hkj))))))))))))))) ?_ (fun _ _ => ?_)
    | with_reducible refine fr_bind (fr_X3_takesNumber _ _) (fun k j hkj => by unfold w_X3_takesNumber at hkj; unfold w_X3_takesToken; rcases hkj with hkj | hkj | hkj | hkj | hkj | hkj | hkj | hkj; (exact Or.inr (Or.inr (Or.inr (Or.inr (Or.inl hkj))))); (exact Or.inr (Or.inr (Or.inr (Or.inr (Or.inr (Or.inl hkj)))))); (exact Or.inr (Or.inr (Or.inr (Or.inr (Or.inr (Or.inr (Or.inl hkj))))))); (exact Or.inr (Or.inr (Or.inr (Or.inr (Or.inr (Or.inr (Or.inr (Or.inr (Or.inl hkj))))))))); (exact Or.inr (Or.inr (Or.inr (Or.inr (Or.inr (Or.inr (Or.inr (Or.inr (Or.inr (Or.inr (Or.inl hkj))))))))))); (exact Or.inr (Or.inr (Or.inr (Or.inr (Or.inr (Or.inr (Or.inr (Or.inr (Or.inr (Or.inr (Or.inr (Or.inl hkj)))))))))))); (exact Or.inr (Or.inr (Or.inr (Or.inr (Or.inr (Or.inr (Or.inr (Or.inr (Or.inr (Or.inr (Or.inr (Or.inr (Or.inl hkj))))))))))))); (exact Or.inr (Or.inr (Or.inr (Or.inr (Or.inr (Or.inr (Or.inr (Or.inr (Or.inr (Or.inr (Or.inr (Or.inr (Or.inr (Or.inr hkj))))))))))))))) ?_ (fun _ _ => ?_))
def w_X1_numberCuts (p0 : Nat) (k j : Nat) : Prop := k = p0 + 4 ∨ k = p0 + 5
set_option maxHeartbeats 4000000 in
theorem fr_X1_numberCuts_16 {p0 : Nat} {K4 : Int32 → Int32 → zS → Option (Unit × zS)} (hK4 : ∀ (v1 : Int32) (v2 : Int32) (S : zS), zFR (w_X1_numberCuts p0) (K4 v1 v2 S) S) : ∀ (n : Nat) (v1 : Int32) (v2 : Int32) (v3 : Int32) (S : zS), zFR (w_X1_numberCuts p0) (f_X1_numberCuts_16 p0 K4 n v1 v2 v3 S) S := by
  intro n
  induction n with
  | zero =>
    intro v1 v2 v3 S r hr
    cases (show (none : Option (Unit × zS)) = some r from hr)
  | succ n ih =>
    intro v1 v2 v3 S
    rw [f_X1_numberCuts_16]
    repeat' (first
    | with_reducible exact fr_none
    | with_reducible refine fr_if (fun _ => ?_) (fun _ => ?_)
    | with_reducible refine fr_some ?_
    | with_reducible refine z_fr_w ?_ (by unfold w_X1_numberCuts; first | (exact Or.inl rfl) | (exact Or.inr rfl))
    | with_reducible refine z_fr_u ?_ (by intro j9; unfold w_X1_numberCuts; first | (exact Or.inl rfl) | (exact Or.inr rfl))
    | with_reducible exact z_fr_rf
    | with_reducible assumption
    | with_reducible refine fr_bind (fr_X8_has _ _ _) (fun k j hkj => by unfold w_X8_has at hkj; exact hkj.elim) ?_ (fun _ _ => ?_)
    | with_reducible refine fr_go ?_ (hK4 _ _ _)
    | with_reducible refine fr_go ?_ (ih _ _ _ _))
set_option maxHeartbeats 4000000 in
theorem fr_X1_numberCuts_4 {p0 : Nat} : ∀ (n : Nat) (v1 : Int32) (v2 : Int32) (S : zS), zFR (w_X1_numberCuts p0) (f_X1_numberCuts_4 p0 n v1 v2 S) S := by
  intro n
  induction n with
  | zero =>
    intro v1 v2 S r hr
    cases (show (none : Option (Unit × zS)) = some r from hr)
  | succ n ih =>
    intro v1 v2 S
    rw [f_X1_numberCuts_4]
    repeat' (first
    | with_reducible exact fr_none
    | with_reducible refine fr_if (fun _ => ?_) (fun _ => ?_)
    | with_reducible refine fr_some ?_
    | with_reducible refine z_fr_w ?_ (by unfold w_X1_numberCuts; first | (exact Or.inl rfl) | (exact Or.inr rfl))
    | with_reducible refine z_fr_u ?_ (by intro j9; unfold w_X1_numberCuts; first | (exact Or.inl rfl) | (exact Or.inr rfl))
    | with_reducible exact z_fr_rf
    | with_reducible assumption
    | with_reducible refine fr_bind (fr_X8_has _ _ _) (fun k j hkj => by unfold w_X8_has at hkj; exact hkj.elim) ?_ (fun _ _ => ?_)
    | with_reducible refine fr_go ?_ (fr_X1_numberCuts_16 (by first | exact hK4 | exact ih) 1000 _ _ _ _)
    | with_reducible refine fr_go ?_ (hK4 _ _ _)
    | with_reducible refine fr_go ?_ (ih _ _ _))
set_option maxHeartbeats 4000000 in
theorem fr_X1_numberCuts : ∀ (p0 : Nat) (S : zS), zFR (w_X1_numberCuts p0) (f_X1_numberCuts p0 S) S := by
  intro p0 S
  unfold f_X1_numberCuts
  repeat' (first
    | with_reducible exact fr_none
    | with_reducible refine fr_if (fun _ => ?_) (fun _ => ?_)
    | with_reducible refine fr_some ?_
    | with_reducible refine z_fr_w ?_ (by unfold w_X1_numberCuts; first | (exact Or.inl rfl) | (exact Or.inr rfl))
    | with_reducible refine z_fr_u ?_ (by intro j9; unfold w_X1_numberCuts; first | (exact Or.inl rfl) | (exact Or.inr rfl))
    | with_reducible exact z_fr_rf
    | with_reducible assumption
    | with_reducible refine fr_bind (fr_X8_has _ _ _) (fun k j hkj => by unfold w_X8_has at hkj; exact hkj.elim) ?_ (fun _ _ => ?_)
    | with_reducible refine fr_go ?_ (fr_X1_numberCuts_16 (by first | exact hK4 | exact ih) 1000 _ _ _ _)
    | with_reducible refine fr_go ?_ (fr_X1_numberCuts_4 1000 _ _ _)
    | with_reducible refine fr_go ?_ (hK4 _ _ _))
def w_X1_nextInRing (p0 : Nat) (k j : Nat) : Prop := False
set_option maxHeartbeats 4000000 in
theorem fr_X1_nextInRing : ∀ (p0 : Nat) (a1 : Int32) (a2 : Int32) (S : zS), zFR (w_X1_nextInRing p0) (f_X1_nextInRing p0 a1 a2 S) S := by
  intro p0 a1 a2 S
  unfold f_X1_nextInRing
  repeat' (first
    | with_reducible exact fr_none
    | with_reducible refine fr_if (fun _ => ?_) (fun _ => ?_)
    | with_reducible refine fr_some ?_
    | with_reducible exact z_fr_rf
    | with_reducible assumption)
def w_X1_cutBetween (p0 : Nat) (k j : Nat) : Prop := False
set_option maxHeartbeats 4000000 in
theorem fr_X1_cutBetween_16 {p0 : Nat} : ∀ (n : Nat) (v3 : Int32) (v4 : Int32) (v5 : Int32) (S : zS), zFR (w_X1_cutBetween p0) (f_X1_cutBetween_16 p0 n v3 v4 v5 S) S := by
  intro n
  induction n with
  | zero =>
    intro v3 v4 v5 S r hr
    cases (show (none : Option (Int32 × zS)) = some r from hr)
  | succ n ih =>
    intro v3 v4 v5 S
    rw [f_X1_cutBetween_16]
    repeat' (first
    | with_reducible exact fr_none
    | with_reducible refine fr_if (fun _ => ?_) (fun _ => ?_)
    | with_reducible refine fr_some ?_
    | with_reducible exact z_fr_rf
    | with_reducible assumption
    | with_reducible refine fr_go ?_ (ih _ _ _ _))
set_option maxHeartbeats 4000000 in
theorem fr_X1_cutBetween : ∀ (p0 : Nat) (a1 : Int32) (a2 : Int32) (S : zS), zFR (w_X1_cutBetween p0) (f_X1_cutBetween p0 a1 a2 S) S := by
  intro p0 a1 a2 S
  unfold f_X1_cutBetween
  repeat' (first
    | with_reducible exact fr_none
    | with_reducible refine fr_if (fun _ => ?_) (fun _ => ?_)
    | with_reducible refine fr_some ?_
    | with_reducible exact z_fr_rf
    | with_reducible assumption
    | with_reducible refine fr_go ?_ (fr_X1_cutBetween_16 1000 _ _ _ _))
def w_X1_cutsOfRing (p0 : Nat) (k j : Nat) : Prop := False
set_option maxHeartbeats 4000000 in
theorem fr_X1_cutsOfRing_4 {p0 : Nat} : ∀ (n : Nat) (v1 : Int32) (v2 : Int32) (v3 : Int32) (S : zS), zFR (w_X1_cutsOfRing p0) (f_X1_cutsOfRing_4 p0 n v1 v2 v3 S) S := by
  intro n
  induction n with
  | zero =>
    intro v1 v2 v3 S r hr
    cases (show (none : Option (Int32 × zS)) = some r from hr)
  | succ n ih =>
    intro v1 v2 v3 S
    rw [f_X1_cutsOfRing_4]
    repeat' (first
    | with_reducible exact fr_none
    | with_reducible refine fr_if (fun _ => ?_) (fun _ => ?_)
    | with_reducible refine fr_some ?_
    | with_reducible exact z_fr_rf
    | with_reducible assumption
    | with_reducible refine fr_bind (fr_X1_nextInRing _ _ _ _) (fun k j hkj => by unfold w_X1_nextInRing at hkj; exact hkj.elim) ?_ (fun _ _ => ?_)
    | with_reducible refine fr_bind (fr_X1_cutBetween _ _ _ _) (fun k j hkj => by unfold w_X1_cutBetween at hkj; exact hkj.elim) ?_ (fun _ _ => ?_)
    | with_reducible refine fr_go ?_ (ih _ _ _ _))
set_option maxHeartbeats 4000000 in
theorem fr_X1_cutsOfRing : ∀ (p0 : Nat) (a1 : Int32) (S : zS), zFR (w_X1_cutsOfRing p0) (f_X1_cutsOfRing p0 a1 S) S := by
  intro p0 a1 S
  unfold f_X1_cutsOfRing
  repeat' (first
    | with_reducible exact fr_none
    | with_reducible refine fr_if (fun _ => ?_) (fun _ => ?_)
    | with_reducible refine fr_some ?_
    | with_reducible exact z_fr_rf
    | with_reducible assumption
    | with_reducible refine fr_bind (fr_X1_nextInRing _ _ _ _) (fun k j hkj => by unfold w_X1_nextInRing at hkj; exact hkj.elim) ?_ (fun _ _ => ?_)
    | with_reducible refine fr_bind (fr_X1_cutBetween _ _ _ _) (fun k j hkj => by unfold w_X1_cutBetween at hkj; exact hkj.elim) ?_ (fun _ _ => ?_)
    | with_reducible refine fr_go ?_ (fr_X1_cutsOfRing_4 1000 _ _ _ _))
def w_X1_side (p0 : Nat) (k j : Nat) : Prop := False
set_option maxHeartbeats 4000000 in
theorem fr_X1_side : ∀ (p0 : Nat) (a1 : Int32) (a2 : Int32) (a3 : Int32) (S : zS), zFR (w_X1_side p0) (f_X1_side p0 a1 a2 a3 S) S := by
  intro p0 a1 a2 a3 S
  unfold f_X1_side
  repeat' (first
    | with_reducible exact fr_none
    | with_reducible refine fr_if (fun _ => ?_) (fun _ => ?_)
    | with_reducible refine fr_some ?_
    | with_reducible exact z_fr_rf
    | with_reducible assumption)
def w_X1_liesOn (p0 : Nat) (k j : Nat) : Prop := False
set_option maxHeartbeats 4000000 in
theorem fr_X1_liesOn : ∀ (p0 : Nat) (a1 : Int32) (a2 : Int32) (a3 : Int32) (S : zS), zFR (w_X1_liesOn p0) (f_X1_liesOn p0 a1 a2 a3 S) S := by
  intro p0 a1 a2 a3 S
  unfold f_X1_liesOn
  repeat' (first
    | with_reducible exact fr_none
    | with_reducible refine fr_if (fun _ => ?_) (fun _ => ?_)
    | with_reducible refine fr_some ?_
    | with_reducible exact z_fr_rf
    | with_reducible assumption
    | with_reducible refine fr_bind (fr_X1_side _ _ _ _ _) (fun k j hkj => by unfold w_X1_side at hkj; exact hkj.elim) ?_ (fun _ _ => ?_))
def w_X1_crossing (p0 : Nat) (k j : Nat) : Prop := False
set_option maxHeartbeats 4000000 in
theorem fr_X1_crossing_42 {p0 : Nat} : ∀ (v1 : Int32) (v2 : Int32) (v3 : Int32) (S : zS), zFR (w_X1_crossing p0) (f_X1_crossing_42 p0 v1 v2 v3 S) S := by
  intro v1 v2 v3 S
  unfold f_X1_crossing_42
  repeat' (first
    | with_reducible exact fr_none
    | with_reducible refine fr_if (fun _ => ?_) (fun _ => ?_)
    | with_reducible refine fr_some ?_
    | with_reducible exact z_fr_rf
    | with_reducible assumption
    | with_reducible refine fr_bind (fr_X1_side _ _ _ _ _) (fun k j hkj => by unfold w_X1_side at hkj; exact hkj.elim) ?_ (fun _ _ => ?_))
set_option maxHeartbeats 4000000 in
theorem fr_X1_crossing : ∀ (p0 : Nat) (a1 : Int32) (a2 : Int32) (a3 : Int32) (S : zS), zFR (w_X1_crossing p0) (f_X1_crossing p0 a1 a2 a3 S) S := by
  intro p0 a1 a2 a3 S
  unfold f_X1_crossing
  repeat' (first
    | with_reducible exact fr_none
    | with_reducible refine fr_if (fun _ => ?_) (fun _ => ?_)
    | with_reducible refine fr_some ?_
    | with_reducible exact z_fr_rf
    | with_reducible assumption
    | with_reducible refine fr_bind (fr_X1_side _ _ _ _ _) (fun k j hkj => by unfold w_X1_side at hkj; exact hkj.elim) ?_ (fun _ _ => ?_)
    | with_reducible refine fr_go ?_ (fr_X1_crossing_42 _ _ _ _))
def w_X1_goesRound (p0 : Nat) (k j : Nat) : Prop := False
set_option maxHeartbeats 4000000 in
theorem fr_X1_goesRound_5 {p0 : Nat} : ∀ (n : Nat) (v1 : Int32) (v2 : Int32) (v3 : Int32) (v4 : Int32) (S : zS), zFR (w_X1_goesRound p0) (f_X1_goesRound_5 p0 n v1 v2 v3 v4 S) S := by
  intro n
  induction n with
  | zero =>
    intro v1 v2 v3 v4 S r hr
    cases (show (none : Option (Int32 × zS)) = some r from hr)
  | succ n ih =>
    intro v1 v2 v3 v4 S
    rw [f_X1_goesRound_5]
    repeat' (first
    | with_reducible exact fr_none
    | with_reducible refine fr_if (fun _ => ?_) (fun _ => ?_)
    | with_reducible refine fr_some ?_
    | with_reducible exact z_fr_rf
    | with_reducible assumption
    | with_reducible refine fr_bind (fr_X1_nextInRing _ _ _ _) (fun k j hkj => by unfold w_X1_nextInRing at hkj; exact hkj.elim) ?_ (fun _ _ => ?_)
    | with_reducible refine fr_bind (fr_X1_liesOn _ _ _ _ _) (fun k j hkj => by unfold w_X1_liesOn at hkj; exact hkj.elim) ?_ (fun _ _ => ?_)
    | with_reducible refine fr_bind (fr_X1_crossing _ _ _ _ _) (fun k j hkj => by unfold w_X1_crossing at hkj; exact hkj.elim) ?_ (fun _ _ => ?_)
    | with_reducible refine fr_go ?_ (ih _ _ _ _ _))
set_option maxHeartbeats 4000000 in
theorem fr_X1_goesRound : ∀ (p0 : Nat) (a1 : Int32) (a2 : Int32) (S : zS), zFR (w_X1_goesRound p0) (f_X1_goesRound p0 a1 a2 S) S := by
  intro p0 a1 a2 S
  unfold f_X1_goesRound
  repeat' (first
    | with_reducible exact fr_none
    | with_reducible refine fr_if (fun _ => ?_) (fun _ => ?_)
    | with_reducible refine fr_some ?_
    | with_reducible exact z_fr_rf
    | with_reducible assumption
    | with_reducible refine fr_bind (fr_X1_nextInRing _ _ _ _) (fun k j hkj => by unfold w_X1_nextInRing at hkj; exact hkj.elim) ?_ (fun _ _ => ?_)
    | with_reducible refine fr_bind (fr_X1_liesOn _ _ _ _ _) (fun k j hkj => by unfold w_X1_liesOn at hkj; exact hkj.elim) ?_ (fun _ _ => ?_)
    | with_reducible refine fr_bind (fr_X1_crossing _ _ _ _ _) (fun k j hkj => by unfold w_X1_crossing at hkj; exact hkj.elim) ?_ (fun _ _ => ?_)
    | with_reducible refine fr_go ?_ (fr_X1_goesRound_5 1000 _ _ _ _ _))
def w_X1_partsAround (p0 : Nat) (k j : Nat) : Prop := False
set_option maxHeartbeats 4000000 in
theorem fr_X1_partsAround_4 {p0 : Nat} : ∀ (n : Nat) (v1 : Int32) (v2 : Int32) (v3 : Int32) (S : zS), zFR (w_X1_partsAround p0) (f_X1_partsAround_4 p0 n v1 v2 v3 S) S := by
  intro n
  induction n with
  | zero =>
    intro v1 v2 v3 S r hr
    cases (show (none : Option (Int32 × zS)) = some r from hr)
  | succ n ih =>
    intro v1 v2 v3 S
    rw [f_X1_partsAround_4]
    repeat' (first
    | with_reducible exact fr_none
    | with_reducible refine fr_if (fun _ => ?_) (fun _ => ?_)
    | with_reducible refine fr_some ?_
    | with_reducible exact z_fr_rf
    | with_reducible assumption
    | with_reducible refine fr_bind (fr_X1_goesRound _ _ _ _) (fun k j hkj => by unfold w_X1_goesRound at hkj; exact hkj.elim) ?_ (fun _ _ => ?_)
    | with_reducible refine fr_go ?_ (ih _ _ _ _))
set_option maxHeartbeats 4000000 in
theorem fr_X1_partsAround : ∀ (p0 : Nat) (a1 : Int32) (S : zS), zFR (w_X1_partsAround p0) (f_X1_partsAround p0 a1 S) S := by
  intro p0 a1 S
  unfold f_X1_partsAround
  repeat' (first
    | with_reducible exact fr_none
    | with_reducible refine fr_if (fun _ => ?_) (fun _ => ?_)
    | with_reducible refine fr_some ?_
    | with_reducible exact z_fr_rf
    | with_reducible assumption
    | with_reducible refine fr_bind (fr_X1_goesRound _ _ _ _) (fun k j hkj => by unfold w_X1_goesRound at hkj; exact hkj.elim) ?_ (fun _ _ => ?_)
    | with_reducible refine fr_go ?_ (fr_X1_partsAround_4 1000 _ _ _ _))
def w_X1_settle (p0 : Nat) (k j : Nat) : Prop := k = p0 + 12 ∨ k = p0 + 13 ∨ k = p0 + 4 ∨ k = p0 + 5
set_option maxHeartbeats 4000000 in
theorem fr_X1_settle_33 {p0 : Nat} : ∀ (n : Nat) (v1 : Int32) (S : zS), zFR (w_X1_settle p0) (f_X1_settle_33 p0 n v1 S) S := by
  intro n
  induction n with
  | zero =>
    intro v1 S r hr
    cases (show (none : Option (Unit × zS)) = some r from hr)
  | succ n ih =>
    intro v1 S
    rw [f_X1_settle_33]
    repeat' (first
    | with_reducible exact fr_none
    | with_reducible refine fr_if (fun _ => ?_) (fun _ => ?_)
    | with_reducible refine fr_some ?_
    | with_reducible refine z_fr_w ?_ (by unfold w_X1_settle; first | (exact Or.inr (Or.inl rfl)) | (exact Or.inl rfl))
    | with_reducible refine z_fr_u ?_ (by intro j9; unfold w_X1_settle; first | (exact Or.inr (Or.inl rfl)) | (exact Or.inl rfl))
    | with_reducible exact z_fr_rf
    | with_reducible assumption
    | with_reducible refine fr_bind (fr_X1_numberCuts _ _) (fun k j hkj => by unfold w_X1_numberCuts at hkj; unfold w_X1_settle; rcases hkj with hkj | hkj; (exact Or.inr (Or.inr (Or.inl hkj))); (exact Or.inr (Or.inr (Or.inr hkj)))) ?_ (fun _ _ => ?_)
    | with_reducible refine fr_bind (fr_X1_partsAround _ _ _) (fun k j hkj => by unfold w_X1_partsAround at hkj; exact hkj.elim) ?_ (fun _ _ => ?_)
    | with_reducible refine fr_bind (fr_X1_cutsOfRing _ _ _) (fun k j hkj => by unfold w_X1_cutsOfRing at hkj; exact hkj.elim) ?_ (fun _ _ => ?_)
    | with_reducible refine fr_go ?_ (ih _ _))
set_option maxHeartbeats 4000000 in
theorem fr_X1_settle_6 {p0 : Nat} : ∀ (n : Nat) (v1 : Int32) (S : zS), zFR (w_X1_settle p0) (f_X1_settle_6 p0 n v1 S) S := by
  intro n
  induction n with
  | zero =>
    intro v1 S r hr
    cases (show (none : Option (Unit × zS)) = some r from hr)
  | succ n ih =>
    intro v1 S
    rw [f_X1_settle_6]
    repeat' (first
    | with_reducible exact fr_none
    | with_reducible refine fr_if (fun _ => ?_) (fun _ => ?_)
    | with_reducible refine fr_some ?_
    | with_reducible refine z_fr_w ?_ (by unfold w_X1_settle; first | (exact Or.inr (Or.inl rfl)) | (exact Or.inl rfl))
    | with_reducible refine z_fr_u ?_ (by intro j9; unfold w_X1_settle; first | (exact Or.inr (Or.inl rfl)) | (exact Or.inl rfl))
    | with_reducible exact z_fr_rf
    | with_reducible assumption
    | with_reducible refine fr_bind (fr_X1_numberCuts _ _) (fun k j hkj => by unfold w_X1_numberCuts at hkj; unfold w_X1_settle; rcases hkj with hkj | hkj; (exact Or.inr (Or.inr (Or.inl hkj))); (exact Or.inr (Or.inr (Or.inr hkj)))) ?_ (fun _ _ => ?_)
    | with_reducible refine fr_bind (fr_X1_partsAround _ _ _) (fun k j hkj => by unfold w_X1_partsAround at hkj; exact hkj.elim) ?_ (fun _ _ => ?_)
    | with_reducible refine fr_bind (fr_X1_cutsOfRing _ _ _) (fun k j hkj => by unfold w_X1_cutsOfRing at hkj; exact hkj.elim) ?_ (fun _ _ => ?_)
    | with_reducible refine fr_go ?_ (fr_X1_settle_33 1000 _ _)
    | with_reducible refine fr_go ?_ (ih _ _))
set_option maxHeartbeats 4000000 in
theorem fr_X1_settle : ∀ (p0 : Nat) (S : zS), zFR (w_X1_settle p0) (f_X1_settle p0 S) S := by
  intro p0 S
  unfold f_X1_settle
  repeat' (first
    | with_reducible exact fr_none
    | with_reducible refine fr_if (fun _ => ?_) (fun _ => ?_)
    | with_reducible refine fr_some ?_
    | with_reducible refine z_fr_w ?_ (by unfold w_X1_settle; first | (exact Or.inr (Or.inl rfl)) | (exact Or.inl rfl))
    | with_reducible refine z_fr_u ?_ (by intro j9; unfold w_X1_settle; first | (exact Or.inr (Or.inl rfl)) | (exact Or.inl rfl))
    | with_reducible exact z_fr_rf
    | with_reducible assumption
    | with_reducible refine fr_bind (fr_X1_numberCuts _ _) (fun k j hkj => by unfold w_X1_numberCuts at hkj; unfold w_X1_settle; rcases hkj with hkj | hkj; (exact Or.inr (Or.inr (Or.inl hkj))); (exact Or.inr (Or.inr (Or.inr hkj)))) ?_ (fun _ _ => ?_)
    | with_reducible refine fr_bind (fr_X1_partsAround _ _ _) (fun k j hkj => by unfold w_X1_partsAround at hkj; exact hkj.elim) ?_ (fun _ _ => ?_)
    | with_reducible refine fr_bind (fr_X1_cutsOfRing _ _ _) (fun k j hkj => by unfold w_X1_cutsOfRing at hkj; exact hkj.elim) ?_ (fun _ _ => ?_)
    | with_reducible refine fr_go ?_ (fr_X1_settle_33 1000 _ _)
    | with_reducible refine fr_go ?_ (fr_X1_settle_6 1000 _ _))
def w_X3_read (p3 : Nat) (k j : Nat) : Prop := (k = 31 ∧ j = 0) ∨ (k = 31 ∧ j = 1) ∨ (k = 31 ∧ j = 2) ∨ (k = 31 ∧ j = 3) ∨ (k = 31 ∧ j = 4) ∨ (k = 31 ∧ j = 5) ∨ (k = 31 ∧ j = 6) ∨ (k = 31 ∧ j = 7) ∨ (k = 31 ∧ j = 8) ∨ (k = p3 ∧ j = 0) ∨ (k = p3 ∧ j = 12) ∨ (k = p3 ∧ j = 13) ∨ (k = p3 ∧ j = 4) ∨ (k = p3 ∧ j = 7) ∨ k = p3 + 1 ∨ k = p3 + 12 ∨ k = p3 + 13 ∨ k = p3 + 2 ∨ k = p3 + 3 ∨ k = p3 + 4 ∨ k = p3 + 5 ∨ k = p3 + 6 ∨ (p3 + 8 ≤ k ∧ k ≤ p3 + 11)
set_option maxHeartbeats 4000000 in
theorem fr_X3_read_63 {p3 : Nat} : ∀ (v2 : Int32) (S : zS), zFR (w_X3_read p3) (f_X3_read_63 p3 v2 S) S := by
  intro v2 S
  unfold f_X3_read_63
  repeat' (first
    | with_reducible exact fr_none
    | with_reducible refine fr_if (fun _ => ?_) (fun _ => ?_)
    | with_reducible refine fr_some ?_
    | with_reducible refine z_fr_w ?_ (by unfold w_X3_read; first | (exact Or.inr (Or.inl ⟨rfl, rfl⟩)) | (exact Or.inr (Or.inr (Or.inr (Or.inr (Or.inl ⟨rfl, rfl⟩))))) | (exact Or.inr (Or.inr (Or.inr (Or.inr (Or.inr (Or.inr (Or.inr (Or.inr (Or.inl ⟨rfl, rfl⟩))))))))))
    | with_reducible refine z_fr_u ?_ (by intro j9; unfold w_X3_read; first | (exact Or.inr (Or.inl ⟨rfl, rfl⟩)) | (exact Or.inr (Or.inr (Or.inr (Or.inr (Or.inl ⟨rfl, rfl⟩))))) | (exact Or.inr (Or.inr (Or.inr (Or.inr (Or.inr (Or.inr (Or.inr (Or.inr (Or.inl ⟨rfl, rfl⟩))))))))))
    | with_reducible exact z_fr_rf
    | with_reducible assumption
    | with_reducible refine fr_bind (fr_X1_wipe _ _) (fun k j hkj => by unfold w_X1_wipe at hkj; unfold w_X3_read; rcases hkj with hkj | hkj | hkj | hkj | hkj | hkj; (exact Or.inr (Or.inr (Or.inr (Or.inr (Or.inr (Or.inr (Or.inr (Or.inr (Or.inr (Or.inl hkj)))))))))); (exact Or.inr (Or.inr (Or.inr (Or.inr (Or.inr (Or.inr (Or.inr (Or.inr (Or.inr (Or.inr (Or.inl hkj))))))))))); (exact Or.inr (Or.inr (Or.inr (Or.inr (Or.inr (Or.inr (Or.inr (Or.inr (Or.inr (Or.inr (Or.inr (Or.inl hkj)))))))))))); (exact Or.inr (Or.inr (Or.inr (Or.inr (Or.inr (Or.inr (Or.inr (Or.inr (Or.inr (Or.inr (Or.inr (Or.inr (Or.inl hkj))))))))))))); (exact Or.inr (Or.inr (Or.inr (Or.inr (Or.inr (Or.inr (Or.inr (Or.inr (Or.inr (Or.inr (Or.inr (Or.inr (Or.inr (Or.inl hkj)))))))))))))); (exact Or.inr (Or.inr (Or.inr (Or.inr (Or.inr (Or.inr (Or.inr (Or.inr (Or.inr (Or.inr (Or.inr (Or.inr (Or.inr (Or.inr (Or.inr (Or.inr (Or.inr (Or.inr (Or.inl hkj)))))))))))))))))))) ?_ (fun _ _ => ?_)
    | with_reducible refine fr_bind (fr_X1_settle _ _) (fun k j hkj => by unfold w_X1_settle at hkj; unfold w_X3_read; rcases hkj with hkj | hkj | hkj | hkj; (exact Or.inr (Or.inr (Or.inr (Or.inr (Or.inr (Or.inr (Or.inr (Or.inr (Or.inr (Or.inr (Or.inr (Or.inr (Or.inr (Or.inr (Or.inr (Or.inl hkj)))))))))))))))); (exact Or.inr (Or.inr (Or.inr (Or.inr (Or.inr (Or.inr (Or.inr (Or.inr (Or.inr (Or.inr (Or.inr (Or.inr (Or.inr (Or.inr (Or.inr (Or.inr (Or.inl hkj))))))))))))))))); (exact Or.inr (Or.inr (Or.inr (Or.inr (Or.inr (Or.inr (Or.inr (Or.inr (Or.inr (Or.inr (Or.inr (Or.inr (Or.inr (Or.inr (Or.inr (Or.inr (Or.inr (Or.inr (Or.inr (Or.inl hkj)))))))))))))))))))); (exact Or.inr (Or.inr (Or.inr (Or.inr (Or.inr (Or.inr (Or.inr (Or.inr (Or.inr (Or.inr (Or.inr (Or.inr (Or.inr (Or.inr (Or.inr (Or.inr (Or.inr (Or.inr (Or.inr (Or.inr (Or.inl hkj)))))))))))))))))))))) ?_ (fun _ _ => ?_)
    | with_reducible refine fr_bind (fr_X3_readToken _ _) (fun k j hkj => by unfold w_X3_readToken at hkj; unfold w_X3_read; rcases hkj with hkj | hkj | hkj | hkj; (exact Or.inl hkj); (exact Or.inr (Or.inl hkj)); (exact Or.inr (Or.inr (Or.inl hkj))); (exact Or.inr (Or.inr (Or.inr (Or.inl hkj))))) ?_ (fun _ _ => ?_)
    | with_reducible refine fr_bind (fr_X3_takesToken _ _) (fun k j hkj => by unfold w_X3_takesToken at hkj; unfold w_X3_read; rcases hkj with hkj | hkj | hkj | hkj | hkj | hkj | hkj | hkj | hkj | hkj | hkj | hkj | hkj | hkj | hkj; (exact Or.inr (Or.inr (Or.inr (Or.inr (Or.inl hkj))))); (exact Or.inr (Or.inr (Or.inr (Or.inr (Or.inr (Or.inl hkj)))))); (exact Or.inr (Or.inr (Or.inr (Or.inr (Or.inr (Or.inr (Or.inl hkj))))))); (exact Or.inr (Or.inr (Or.inr (Or.inr (Or.inr (Or.inr (Or.inr (Or.inl hkj)))))))); (exact Or.inr (Or.inr (Or.inr (Or.inr (Or.inr (Or.inr (Or.inr (Or.inr (Or.inl hkj))))))))); (exact Or.inr (Or.inr (Or.inr (Or.inr (Or.inr (Or.inr (Or.inr (Or.inr (Or.inr (Or.inl hkj)))))))))); (exact Or.inr (Or.inr (Or.inr (Or.inr (Or.inr (Or.inr (Or.inr (Or.inr (Or.inr (Or.inr (Or.inl hkj))))))))))); (exact Or.inr (Or.inr (Or.inr (Or.inr (Or.inr (Or.inr (Or.inr (Or.inr (Or.inr (Or.inr (Or.inr (Or.inl hkj)))))))))))); (exact Or.inr (Or.inr (Or.inr (Or.inr (Or.inr (Or.inr (Or.inr (Or.inr (Or.inr (Or.inr (Or.inr (Or.inr (Or.inl hkj))))))))))))); (exact Or.inr (Or.inr (Or.inr (Or.inr (Or.inr (Or.inr (Or.inr (Or.inr (Or.inr (Or.inr (Or.inr (Or.inr (Or.inr (Or.inl hkj)))))))))))))); (exact Or.inr (Or.inr (Or.inr (Or.inr (Or.inr (Or.inr (Or.inr (Or.inr (Or.inr (Or.inr (Or.inr (Or.inr (Or.inr (Or.inr (Or.inl hkj))))))))))))))); (exact Or.inr (Or.inr (Or.inr (Or.inr (Or.inr (Or.inr (Or.inr (Or.inr (Or.inr (Or.inr (Or.inr (Or.inr (Or.inr (Or.inr (Or.inr (Or.inr (Or.inr (Or.inl hkj)))))))))))))))))); (exact Or.inr (Or.inr (Or.inr (Or.inr (Or.inr (Or.inr (Or.inr (Or.inr (Or.inr (Or.inr (Or.inr (Or.inr (Or.inr (Or.inr (Or.inr (Or.inr (Or.inr (Or.inr (Or.inl hkj))))))))))))))))))); (exact Or.inr (Or.inr (Or.inr (Or.inr (Or.inr (Or.inr (Or.inr (Or.inr (Or.inr (Or.inr (Or.inr (Or.inr (Or.inr (Or.inr (Or.inr (Or.inr (Or.inr (Or.inr (Or.inr (Or.inr (Or.inr (Or.inl hkj)))))))))))))))))))))); (exact Or.inr (Or.inr (Or.inr (Or.inr (Or.inr (Or.inr (Or.inr (Or.inr (Or.inr (Or.inr (Or.inr (Or.inr (Or.inr (Or.inr (Or.inr (Or.inr (Or.inr (Or.inr (Or.inr (Or.inr (Or.inr (Or.inr hkj))))))))))))))))))))))) ?_ (fun _ _ => ?_))
set_option maxHeartbeats 4000000 in
theorem fr_X3_read_22 {p3 : Nat} : ∀ (n : Nat) (v2 : Int32) (v4 : Int32) (S : zS), zFR (w_X3_read p3) (f_X3_read_22 p3 n v2 v4 S) S := by
  intro n
  induction n with
  | zero =>
    intro v2 v4 S r hr
    cases (show (none : Option (Int32 × zS)) = some r from hr)
  | succ n ih =>
    intro v2 v4 S
    rw [f_X3_read_22]
    repeat' (first
    | with_reducible exact fr_none
    | with_reducible refine fr_if (fun _ => ?_) (fun _ => ?_)
    | with_reducible refine fr_some ?_
    | with_reducible refine z_fr_w ?_ (by unfold w_X3_read; first | (exact Or.inr (Or.inl ⟨rfl, rfl⟩)) | (exact Or.inr (Or.inr (Or.inr (Or.inr (Or.inl ⟨rfl, rfl⟩))))) | (exact Or.inr (Or.inr (Or.inr (Or.inr (Or.inr (Or.inr (Or.inr (Or.inr (Or.inl ⟨rfl, rfl⟩))))))))))
    | with_reducible refine z_fr_u ?_ (by intro j9; unfold w_X3_read; first | (exact Or.inr (Or.inl ⟨rfl, rfl⟩)) | (exact Or.inr (Or.inr (Or.inr (Or.inr (Or.inl ⟨rfl, rfl⟩))))) | (exact Or.inr (Or.inr (Or.inr (Or.inr (Or.inr (Or.inr (Or.inr (Or.inr (Or.inl ⟨rfl, rfl⟩))))))))))
    | with_reducible exact z_fr_rf
    | with_reducible assumption
    | with_reducible refine fr_bind (fr_X1_wipe _ _) (fun k j hkj => by unfold w_X1_wipe at hkj; unfold w_X3_read; rcases hkj with hkj | hkj | hkj | hkj | hkj | hkj; (exact Or.inr (Or.inr (Or.inr (Or.inr (Or.inr (Or.inr (Or.inr (Or.inr (Or.inr (Or.inl hkj)))))))))); (exact Or.inr (Or.inr (Or.inr (Or.inr (Or.inr (Or.inr (Or.inr (Or.inr (Or.inr (Or.inr (Or.inl hkj))))))))))); (exact Or.inr (Or.inr (Or.inr (Or.inr (Or.inr (Or.inr (Or.inr (Or.inr (Or.inr (Or.inr (Or.inr (Or.inl hkj)))))))))))); (exact Or.inr (Or.inr (Or.inr (Or.inr (Or.inr (Or.inr (Or.inr (Or.inr (Or.inr (Or.inr (Or.inr (Or.inr (Or.inl hkj))))))))))))); (exact Or.inr (Or.inr (Or.inr (Or.inr (Or.inr (Or.inr (Or.inr (Or.inr (Or.inr (Or.inr (Or.inr (Or.inr (Or.inr (Or.inl hkj)))))))))))))); (exact Or.inr (Or.inr (Or.inr (Or.inr (Or.inr (Or.inr (Or.inr (Or.inr (Or.inr (Or.inr (Or.inr (Or.inr (Or.inr (Or.inr (Or.inr (Or.inr (Or.inr (Or.inr (Or.inl hkj)))))))))))))))))))) ?_ (fun _ _ => ?_)
    | with_reducible refine fr_bind (fr_X1_settle _ _) (fun k j hkj => by unfold w_X1_settle at hkj; unfold w_X3_read; rcases hkj with hkj | hkj | hkj | hkj; (exact Or.inr (Or.inr (Or.inr (Or.inr (Or.inr (Or.inr (Or.inr (Or.inr (Or.inr (Or.inr (Or.inr (Or.inr (Or.inr (Or.inr (Or.inr (Or.inl hkj)))))))))))))))); (exact Or.inr (Or.inr (Or.inr (Or.inr (Or.inr (Or.inr (Or.inr (Or.inr (Or.inr (Or.inr (Or.inr (Or.inr (Or.inr (Or.inr (Or.inr (Or.inr (Or.inl hkj))))))))))))))))); (exact Or.inr (Or.inr (Or.inr (Or.inr (Or.inr (Or.inr (Or.inr (Or.inr (Or.inr (Or.inr (Or.inr (Or.inr (Or.inr (Or.inr (Or.inr (Or.inr (Or.inr (Or.inr (Or.inr (Or.inl hkj)))))))))))))))))))); (exact Or.inr (Or.inr (Or.inr (Or.inr (Or.inr (Or.inr (Or.inr (Or.inr (Or.inr (Or.inr (Or.inr (Or.inr (Or.inr (Or.inr (Or.inr (Or.inr (Or.inr (Or.inr (Or.inr (Or.inr (Or.inl hkj)))))))))))))))))))))) ?_ (fun _ _ => ?_)
    | with_reducible refine fr_bind (fr_X3_readToken _ _) (fun k j hkj => by unfold w_X3_readToken at hkj; unfold w_X3_read; rcases hkj with hkj | hkj | hkj | hkj; (exact Or.inl hkj); (exact Or.inr (Or.inl hkj)); (exact Or.inr (Or.inr (Or.inl hkj))); (exact Or.inr (Or.inr (Or.inr (Or.inl hkj))))) ?_ (fun _ _ => ?_)
    | with_reducible refine fr_bind (fr_X3_takesToken _ _) (fun k j hkj => by unfold w_X3_takesToken at hkj; unfold w_X3_read; rcases hkj with hkj | hkj | hkj | hkj | hkj | hkj | hkj | hkj | hkj | hkj | hkj | hkj | hkj | hkj | hkj; (exact Or.inr (Or.inr (Or.inr (Or.inr (Or.inl hkj))))); (exact Or.inr (Or.inr (Or.inr (Or.inr (Or.inr (Or.inl hkj)))))); (exact Or.inr (Or.inr (Or.inr (Or.inr (Or.inr (Or.inr (Or.inl hkj))))))); (exact Or.inr (Or.inr (Or.inr (Or.inr (Or.inr (Or.inr (Or.inr (Or.inl hkj)))))))); (exact Or.inr (Or.inr (Or.inr (Or.inr (Or.inr (Or.inr (Or.inr (Or.inr (Or.inl hkj))))))))); (exact Or.inr (Or.inr (Or.inr (Or.inr (Or.inr (Or.inr (Or.inr (Or.inr (Or.inr (Or.inl hkj)))))))))); (exact Or.inr (Or.inr (Or.inr (Or.inr (Or.inr (Or.inr (Or.inr (Or.inr (Or.inr (Or.inr (Or.inl hkj))))))))))); (exact Or.inr (Or.inr (Or.inr (Or.inr (Or.inr (Or.inr (Or.inr (Or.inr (Or.inr (Or.inr (Or.inr (Or.inl hkj)))))))))))); (exact Or.inr (Or.inr (Or.inr (Or.inr (Or.inr (Or.inr (Or.inr (Or.inr (Or.inr (Or.inr (Or.inr (Or.inr (Or.inl hkj))))))))))))); (exact Or.inr (Or.inr (Or.inr (Or.inr (Or.inr (Or.inr (Or.inr (Or.inr (Or.inr (Or.inr (Or.inr (Or.inr (Or.inr (Or.inl hkj)))))))))))))); (exact Or.inr (Or.inr (Or.inr (Or.inr (Or.inr (Or.inr (Or.inr (Or.inr (Or.inr (Or.inr (Or.inr (Or.inr (Or.inr (Or.inr (Or.inl hkj))))))))))))))); (exact Or.inr (Or.inr (Or.inr (Or.inr (Or.inr (Or.inr (Or.inr (Or.inr (Or.inr (Or.inr (Or.inr (Or.inr (Or.inr (Or.inr (Or.inr (Or.inr (Or.inr (Or.inl hkj)))))))))))))))))); (exact Or.inr (Or.inr (Or.inr (Or.inr (Or.inr (Or.inr (Or.inr (Or.inr (Or.inr (Or.inr (Or.inr (Or.inr (Or.inr (Or.inr (Or.inr (Or.inr (Or.inr (Or.inr (Or.inl hkj))))))))))))))))))); (exact Or.inr (Or.inr (Or.inr (Or.inr (Or.inr (Or.inr (Or.inr (Or.inr (Or.inr (Or.inr (Or.inr (Or.inr (Or.inr (Or.inr (Or.inr (Or.inr (Or.inr (Or.inr (Or.inr (Or.inr (Or.inr (Or.inl hkj)))))))))))))))))))))); (exact Or.inr (Or.inr (Or.inr (Or.inr (Or.inr (Or.inr (Or.inr (Or.inr (Or.inr (Or.inr (Or.inr (Or.inr (Or.inr (Or.inr (Or.inr (Or.inr (Or.inr (Or.inr (Or.inr (Or.inr (Or.inr (Or.inr hkj))))))))))))))))))))))) ?_ (fun _ _ => ?_)
    | with_reducible refine fr_go ?_ (fr_X3_read_63 _ _)
    | with_reducible refine fr_go ?_ (ih _ _ _))
set_option maxHeartbeats 4000000 in
theorem fr_X3_read : ∀ (a2 : Int32) (p3 : Nat) (S : zS), zFR (w_X3_read p3) (f_X3_read a2 p3 S) S := by
  intro a2 p3 S
  unfold f_X3_read
  repeat' (first
    | with_reducible exact fr_none
    | with_reducible refine fr_if (fun _ => ?_) (fun _ => ?_)
    | with_reducible refine fr_some ?_
    | with_reducible refine z_fr_w ?_ (by unfold w_X3_read; first | (exact Or.inr (Or.inl ⟨rfl, rfl⟩)) | (exact Or.inr (Or.inr (Or.inr (Or.inr (Or.inl ⟨rfl, rfl⟩))))) | (exact Or.inr (Or.inr (Or.inr (Or.inr (Or.inr (Or.inr (Or.inr (Or.inr (Or.inl ⟨rfl, rfl⟩))))))))))
    | with_reducible refine z_fr_u ?_ (by intro j9; unfold w_X3_read; first | (exact Or.inr (Or.inl ⟨rfl, rfl⟩)) | (exact Or.inr (Or.inr (Or.inr (Or.inr (Or.inl ⟨rfl, rfl⟩))))) | (exact Or.inr (Or.inr (Or.inr (Or.inr (Or.inr (Or.inr (Or.inr (Or.inr (Or.inl ⟨rfl, rfl⟩))))))))))
    | with_reducible exact z_fr_rf
    | with_reducible assumption
    | with_reducible refine fr_bind (fr_X1_wipe _ _) (fun k j hkj => by unfold w_X1_wipe at hkj; unfold w_X3_read; rcases hkj with hkj | hkj | hkj | hkj | hkj | hkj; (exact Or.inr (Or.inr (Or.inr (Or.inr (Or.inr (Or.inr (Or.inr (Or.inr (Or.inr (Or.inl hkj)))))))))); (exact Or.inr (Or.inr (Or.inr (Or.inr (Or.inr (Or.inr (Or.inr (Or.inr (Or.inr (Or.inr (Or.inl hkj))))))))))); (exact Or.inr (Or.inr (Or.inr (Or.inr (Or.inr (Or.inr (Or.inr (Or.inr (Or.inr (Or.inr (Or.inr (Or.inl hkj)))))))))))); (exact Or.inr (Or.inr (Or.inr (Or.inr (Or.inr (Or.inr (Or.inr (Or.inr (Or.inr (Or.inr (Or.inr (Or.inr (Or.inl hkj))))))))))))); (exact Or.inr (Or.inr (Or.inr (Or.inr (Or.inr (Or.inr (Or.inr (Or.inr (Or.inr (Or.inr (Or.inr (Or.inr (Or.inr (Or.inl hkj)))))))))))))); (exact Or.inr (Or.inr (Or.inr (Or.inr (Or.inr (Or.inr (Or.inr (Or.inr (Or.inr (Or.inr (Or.inr (Or.inr (Or.inr (Or.inr (Or.inr (Or.inr (Or.inr (Or.inr (Or.inl hkj)))))))))))))))))))) ?_ (fun _ _ => ?_)
    | with_reducible refine fr_bind (fr_X1_settle _ _) (fun k j hkj => by unfold w_X1_settle at hkj; unfold w_X3_read; rcases hkj with hkj | hkj | hkj | hkj; (exact Or.inr (Or.inr (Or.inr (Or.inr (Or.inr (Or.inr (Or.inr (Or.inr (Or.inr (Or.inr (Or.inr (Or.inr (Or.inr (Or.inr (Or.inr (Or.inl hkj)))))))))))))))); (exact Or.inr (Or.inr (Or.inr (Or.inr (Or.inr (Or.inr (Or.inr (Or.inr (Or.inr (Or.inr (Or.inr (Or.inr (Or.inr (Or.inr (Or.inr (Or.inr (Or.inl hkj))))))))))))))))); (exact Or.inr (Or.inr (Or.inr (Or.inr (Or.inr (Or.inr (Or.inr (Or.inr (Or.inr (Or.inr (Or.inr (Or.inr (Or.inr (Or.inr (Or.inr (Or.inr (Or.inr (Or.inr (Or.inr (Or.inl hkj)))))))))))))))))))); (exact Or.inr (Or.inr (Or.inr (Or.inr (Or.inr (Or.inr (Or.inr (Or.inr (Or.inr (Or.inr (Or.inr (Or.inr (Or.inr (Or.inr (Or.inr (Or.inr (Or.inr (Or.inr (Or.inr (Or.inr (Or.inl hkj)))))))))))))))))))))) ?_ (fun _ _ => ?_)
    | with_reducible refine fr_bind (fr_X3_readToken _ _) (fun k j hkj => by unfold w_X3_readToken at hkj; unfold w_X3_read; rcases hkj with hkj | hkj | hkj | hkj; (exact Or.inl hkj); (exact Or.inr (Or.inl hkj)); (exact Or.inr (Or.inr (Or.inl hkj))); (exact Or.inr (Or.inr (Or.inr (Or.inl hkj))))) ?_ (fun _ _ => ?_)
    | with_reducible refine fr_bind (fr_X3_takesToken _ _) (fun k j hkj => by unfold w_X3_takesToken at hkj; unfold w_X3_read; rcases hkj with hkj | hkj | hkj | hkj | hkj | hkj | hkj | hkj | hkj | hkj | hkj | hkj | hkj | hkj | hkj; (exact Or.inr (Or.inr (Or.inr (Or.inr (Or.inl hkj))))); (exact Or.inr (Or.inr (Or.inr (Or.inr (Or.inr (Or.inl hkj)))))); (exact Or.inr (Or.inr (Or.inr (Or.inr (Or.inr (Or.inr (Or.inl hkj))))))); (exact Or.inr (Or.inr (Or.inr (Or.inr (Or.inr (Or.inr (Or.inr (Or.inl hkj)))))))); (exact Or.inr (Or.inr (Or.inr (Or.inr (Or.inr (Or.inr (Or.inr (Or.inr (Or.inl hkj))))))))); (exact Or.inr (Or.inr (Or.inr (Or.inr (Or.inr (Or.inr (Or.inr (Or.inr (Or.inr (Or.inl hkj)))))))))); (exact Or.inr (Or.inr (Or.inr (Or.inr (Or.inr (Or.inr (Or.inr (Or.inr (Or.inr (Or.inr (Or.inl hkj))))))))))); (exact Or.inr (Or.inr (Or.inr (Or.inr (Or.inr (Or.inr (Or.inr (Or.inr (Or.inr (Or.inr (Or.inr (Or.inl hkj)))))))))))); (exact Or.inr (Or.inr (Or.inr (Or.inr (Or.inr (Or.inr (Or.inr (Or.inr (Or.inr (Or.inr (Or.inr (Or.inr (Or.inl hkj))))))))))))); (exact Or.inr (Or.inr (Or.inr (Or.inr (Or.inr (Or.inr (Or.inr (Or.inr (Or.inr (Or.inr (Or.inr (Or.inr (Or.inr (Or.inl hkj)))))))))))))); (exact Or.inr (Or.inr (Or.inr (Or.inr (Or.inr (Or.inr (Or.inr (Or.inr (Or.inr (Or.inr (Or.inr (Or.inr (Or.inr (Or.inr (Or.inl hkj))))))))))))))); (exact Or.inr (Or.inr (Or.inr (Or.inr (Or.inr (Or.inr (Or.inr (Or.inr (Or.inr (Or.inr (Or.inr (Or.inr (Or.inr (Or.inr (Or.inr (Or.inr (Or.inr (Or.inl hkj)))))))))))))))))); (exact Or.inr (Or.inr (Or.inr (Or.inr (Or.inr (Or.inr (Or.inr (Or.inr (Or.inr (Or.inr (Or.inr (Or.inr (Or.inr (Or.inr (Or.inr (Or.inr (Or.inr (Or.inr (Or.inl hkj))))))))))))))))))); (exact Or.inr (Or.inr (Or.inr (Or.inr (Or.inr (Or.inr (Or.inr (Or.inr (Or.inr (Or.inr (Or.inr (Or.inr (Or.inr (Or.inr (Or.inr (Or.inr (Or.inr (Or.inr (Or.inr (Or.inr (Or.inr (Or.inl hkj)))))))))))))))))))))); (exact Or.inr (Or.inr (Or.inr (Or.inr (Or.inr (Or.inr (Or.inr (Or.inr (Or.inr (Or.inr (Or.inr (Or.inr (Or.inr (Or.inr (Or.inr (Or.inr (Or.inr (Or.inr (Or.inr (Or.inr (Or.inr (Or.inr hkj))))))))))))))))))))))) ?_ (fun _ _ => ?_)
    | with_reducible refine fr_go ?_ (fr_X3_read_63 _ _)
    | with_reducible refine fr_go ?_ (fr_X3_read_22 1000 _ _ _))
def w_X2_beginOn (p0 : Nat) (p1 : Nat) (k j : Nat) : Prop := (k = p0 ∧ j = 0) ∨ (k = p0 ∧ j = 1) ∨ (k = p0 ∧ j = 2) ∨ (k = p0 ∧ j = 3) ∨ k = p0 + 1
set_option maxHeartbeats 4000000 in
theorem fr_X2_beginOn_26 {p0 : Nat} {p1 : Nat} : ∀ (t0 : Int32) (S : zS), zFR (w_X2_beginOn p0 p1) (f_X2_beginOn_26 p0 p1 t0 S) S := by
  intro t0 S
  unfold f_X2_beginOn_26
  repeat' (first
    | with_reducible exact fr_none
    | with_reducible refine fr_if (fun _ => ?_) (fun _ => ?_)
    | with_reducible refine fr_some ?_
    | with_reducible refine z_fr_w ?_ (by unfold w_X2_beginOn; first | (exact Or.inl ⟨rfl, rfl⟩) | (exact Or.inr (Or.inl ⟨rfl, rfl⟩)) | (exact Or.inr (Or.inr (Or.inl ⟨rfl, rfl⟩))) | (exact Or.inr (Or.inr (Or.inr (Or.inl ⟨rfl, rfl⟩)))))
    | with_reducible refine z_fr_u ?_ (by intro j9; unfold w_X2_beginOn; first | (exact Or.inl ⟨rfl, rfl⟩) | (exact Or.inr (Or.inl ⟨rfl, rfl⟩)) | (exact Or.inr (Or.inr (Or.inl ⟨rfl, rfl⟩))) | (exact Or.inr (Or.inr (Or.inr (Or.inl ⟨rfl, rfl⟩)))))
    | with_reducible exact z_fr_rf
    | with_reducible assumption
    | with_reducible refine fr_bind (fr_J7_fill_53178 _ _ _ _) (fun k j hkj => by unfold w_J7_fill_53178 at hkj; unfold w_X2_beginOn; exact Or.inr (Or.inr (Or.inr (Or.inr hkj)))) ?_ (fun _ _ => ?_))
set_option maxHeartbeats 4000000 in
theorem fr_X2_beginOn : ∀ (p0 : Nat) (p1 : Nat) (S : zS), zFR (w_X2_beginOn p0 p1) (f_X2_beginOn p0 p1 S) S := by
  intro p0 p1 S
  unfold f_X2_beginOn
  repeat' (first
    | with_reducible exact fr_none
    | with_reducible refine fr_if (fun _ => ?_) (fun _ => ?_)
    | with_reducible refine fr_some ?_
    | with_reducible refine z_fr_w ?_ (by unfold w_X2_beginOn; first | (exact Or.inl ⟨rfl, rfl⟩) | (exact Or.inr (Or.inl ⟨rfl, rfl⟩)) | (exact Or.inr (Or.inr (Or.inl ⟨rfl, rfl⟩))) | (exact Or.inr (Or.inr (Or.inr (Or.inl ⟨rfl, rfl⟩)))))
    | with_reducible refine z_fr_u ?_ (by intro j9; unfold w_X2_beginOn; first | (exact Or.inl ⟨rfl, rfl⟩) | (exact Or.inr (Or.inl ⟨rfl, rfl⟩)) | (exact Or.inr (Or.inr (Or.inl ⟨rfl, rfl⟩))) | (exact Or.inr (Or.inr (Or.inr (Or.inl ⟨rfl, rfl⟩)))))
    | with_reducible exact z_fr_rf
    | with_reducible assumption
    | with_reducible refine fr_bind (fr_J7_fill_53178 _ _ _ _) (fun k j hkj => by unfold w_J7_fill_53178 at hkj; unfold w_X2_beginOn; exact Or.inr (Or.inr (Or.inr (Or.inr hkj)))) ?_ (fun _ _ => ?_)
    | with_reducible refine fr_go ?_ (fr_X2_beginOn_26 _ _))
def w_X0_lose (k j : Nat) : Prop := (k = 34 ∧ j = 2)
set_option maxHeartbeats 4000000 in
theorem fr_X0_lose : ∀ (S : zS), zFR w_X0_lose (f_X0_lose  S) S := by
  intro  S
  unfold f_X0_lose
  repeat' (first
    | with_reducible exact fr_none
    | with_reducible refine fr_if (fun _ => ?_) (fun _ => ?_)
    | with_reducible refine fr_some ?_
    | with_reducible refine z_fr_w ?_ (by unfold w_X0_lose; first | (exact ⟨rfl, rfl⟩))
    | with_reducible refine z_fr_u ?_ (by intro j9; unfold w_X0_lose; first | (exact ⟨rfl, rfl⟩))
    | with_reducible exact z_fr_rf
    | with_reducible assumption)
def w_X7_lose (k j : Nat) : Prop := (k = 75 ∧ j = 0)
set_option maxHeartbeats 4000000 in
theorem fr_X7_lose : ∀ (S : zS), zFR w_X7_lose (f_X7_lose  S) S := by
  intro  S
  unfold f_X7_lose
  repeat' (first
    | with_reducible exact fr_none
    | with_reducible refine fr_if (fun _ => ?_) (fun _ => ?_)
    | with_reducible refine fr_some ?_
    | with_reducible refine z_fr_w ?_ (by unfold w_X7_lose; first | (exact ⟨rfl, rfl⟩))
    | with_reducible refine z_fr_u ?_ (by intro j9; unfold w_X7_lose; first | (exact ⟨rfl, rfl⟩))
    | with_reducible exact z_fr_rf
    | with_reducible assumption)
def w_X8_outdate (k j : Nat) : Prop := (k = 57 ∧ j = 0) ∨ (k = 69 ∧ j = 0)
set_option maxHeartbeats 4000000 in
theorem fr_X8_outdate : ∀ (S : zS), zFR w_X8_outdate (f_X8_outdate  S) S := by
  intro  S
  unfold f_X8_outdate
  repeat' (first
    | with_reducible exact fr_none
    | with_reducible refine fr_if (fun _ => ?_) (fun _ => ?_)
    | with_reducible refine fr_some ?_
    | with_reducible refine z_fr_w ?_ (by unfold w_X8_outdate; first | (exact Or.inl ⟨rfl, rfl⟩) | (exact Or.inr ⟨rfl, rfl⟩))
    | with_reducible refine z_fr_u ?_ (by intro j9; unfold w_X8_outdate; first | (exact Or.inl ⟨rfl, rfl⟩) | (exact Or.inr ⟨rfl, rfl⟩))
    | with_reducible exact z_fr_rf
    | with_reducible assumption)
def w_X9_begins (k j : Nat) : Prop := (k = 87 ∧ j = 8) ∨ k = 90
set_option maxHeartbeats 4000000 in
theorem fr_X9_begins_2 : ∀ (n : Nat) (v1 : Int32) (S : zS), zFR w_X9_begins (f_X9_begins_2 n v1 S) S := by
  intro n
  induction n with
  | zero =>
    intro v1 S r hr
    cases (show (none : Option (Unit × zS)) = some r from hr)
  | succ n ih =>
    intro v1 S
    rw [f_X9_begins_2]
    repeat' (first
    | with_reducible exact fr_none
    | with_reducible refine fr_if (fun _ => ?_) (fun _ => ?_)
    | with_reducible refine fr_some ?_
    | with_reducible refine z_fr_w ?_ (by unfold w_X9_begins; first | (exact Or.inl ⟨rfl, rfl⟩) | (exact Or.inr rfl))
    | with_reducible refine z_fr_u ?_ (by intro j9; unfold w_X9_begins; first | (exact Or.inl ⟨rfl, rfl⟩) | (exact Or.inr rfl))
    | with_reducible exact z_fr_rf
    | with_reducible assumption
    | with_reducible refine fr_go ?_ (ih _ _))
set_option maxHeartbeats 4000000 in
theorem fr_X9_begins : ∀ (S : zS), zFR w_X9_begins (f_X9_begins  S) S := by
  intro  S
  unfold f_X9_begins
  repeat' (first
    | with_reducible exact fr_none
    | with_reducible refine fr_if (fun _ => ?_) (fun _ => ?_)
    | with_reducible refine fr_some ?_
    | with_reducible refine z_fr_w ?_ (by unfold w_X9_begins; first | (exact Or.inl ⟨rfl, rfl⟩) | (exact Or.inr rfl))
    | with_reducible refine z_fr_u ?_ (by intro j9; unfold w_X9_begins; first | (exact Or.inl ⟨rfl, rfl⟩) | (exact Or.inr rfl))
    | with_reducible exact z_fr_rf
    | with_reducible assumption
    | with_reducible refine fr_go ?_ (fr_X9_begins_2 1000 _ _))
def w_X9_letterAt (k j : Nat) : Prop := False
set_option maxHeartbeats 4000000 in
theorem fr_X9_letterAt : ∀ (a1 : Int32) (S : zS), zFR w_X9_letterAt (f_X9_letterAt a1 S) S := by
  intro a1 S
  unfold f_X9_letterAt
  repeat' (first
    | with_reducible exact fr_none
    | with_reducible refine fr_if (fun _ => ?_) (fun _ => ?_)
    | with_reducible refine fr_some ?_
    | with_reducible exact z_fr_rf
    | with_reducible assumption)
def w_X9_advances (k j : Nat) : Prop := (k = 87 ∧ j = 3) ∨ (k = 87 ∧ j = 4) ∨ (k = 87 ∧ j = 5) ∨ (k = 87 ∧ j = 6)
set_option maxHeartbeats 4000000 in
theorem fr_X9_advances_71 : ∀ (n : Nat) (v1 : Int32) (S : zS), zFR w_X9_advances (f_X9_advances_71 n v1 S) S := by
  intro n
  induction n with
  | zero =>
    intro v1 S r hr
    cases (show (none : Option (Unit × zS)) = some r from hr)
  | succ n ih =>
    intro v1 S
    rw [f_X9_advances_71]
    repeat' (first
    | with_reducible exact fr_none
    | with_reducible refine fr_if (fun _ => ?_) (fun _ => ?_)
    | with_reducible refine fr_some ?_
    | with_reducible refine z_fr_w ?_ (by unfold w_X9_advances; first | (exact Or.inl ⟨rfl, rfl⟩) | (exact Or.inr (Or.inr (Or.inl ⟨rfl, rfl⟩))) | (exact Or.inr (Or.inr (Or.inr ⟨rfl, rfl⟩))) | (exact Or.inr (Or.inl ⟨rfl, rfl⟩)))
    | with_reducible refine z_fr_u ?_ (by intro j9; unfold w_X9_advances; first | (exact Or.inl ⟨rfl, rfl⟩) | (exact Or.inr (Or.inr (Or.inl ⟨rfl, rfl⟩))) | (exact Or.inr (Or.inr (Or.inr ⟨rfl, rfl⟩))) | (exact Or.inr (Or.inl ⟨rfl, rfl⟩)))
    | with_reducible exact z_fr_rf
    | with_reducible assumption
    | with_reducible refine fr_bind (fr_X9_letterAt _ _) (fun k j hkj => by unfold w_X9_letterAt at hkj; exact hkj.elim) ?_ (fun _ _ => ?_)
    | with_reducible refine fr_bind (fr_X9_in _ _ _ _) (fun k j hkj => by unfold w_X9_in at hkj; exact hkj.elim) ?_ (fun _ _ => ?_)
    | with_reducible refine fr_go ?_ (ih _ _))
set_option maxHeartbeats 4000000 in
theorem fr_X9_advances_0 : ∀ (n : Nat) (S : zS), zFR w_X9_advances (f_X9_advances_0 n  S) S := by
  intro n
  induction n with
  | zero =>
    intro S r hr
    cases (show (none : Option (Unit × zS)) = some r from hr)
  | succ n ih =>
    intro S
    rw [f_X9_advances_0]
    repeat' (first
    | with_reducible exact fr_none
    | with_reducible refine fr_if (fun _ => ?_) (fun _ => ?_)
    | with_reducible refine fr_some ?_
    | with_reducible refine z_fr_w ?_ (by unfold w_X9_advances; first | (exact Or.inl ⟨rfl, rfl⟩) | (exact Or.inr (Or.inr (Or.inl ⟨rfl, rfl⟩))) | (exact Or.inr (Or.inr (Or.inr ⟨rfl, rfl⟩))) | (exact Or.inr (Or.inl ⟨rfl, rfl⟩)))
    | with_reducible refine z_fr_u ?_ (by intro j9; unfold w_X9_advances; first | (exact Or.inl ⟨rfl, rfl⟩) | (exact Or.inr (Or.inr (Or.inl ⟨rfl, rfl⟩))) | (exact Or.inr (Or.inr (Or.inr ⟨rfl, rfl⟩))) | (exact Or.inr (Or.inl ⟨rfl, rfl⟩)))
    | with_reducible exact z_fr_rf
    | with_reducible assumption
    | with_reducible refine fr_bind (fr_X9_letterAt _ _) (fun k j hkj => by unfold w_X9_letterAt at hkj; exact hkj.elim) ?_ (fun _ _ => ?_)
    | with_reducible refine fr_bind (fr_X9_in _ _ _ _) (fun k j hkj => by unfold w_X9_in at hkj; exact hkj.elim) ?_ (fun _ _ => ?_)
    | with_reducible refine fr_go ?_ (fr_X9_advances_71 1000 _ _)
    | with_reducible refine fr_go ?_ (ih _))
set_option maxHeartbeats 4000000 in
theorem fr_X9_advances : ∀ (S : zS), zFR w_X9_advances (f_X9_advances  S) S := by
  intro  S
  unfold f_X9_advances
  repeat' (first
    | with_reducible exact fr_none
    | with_reducible refine fr_if (fun _ => ?_) (fun _ => ?_)
    | with_reducible refine fr_some ?_
    | with_reducible refine z_fr_w ?_ (by unfold w_X9_advances; first | (exact Or.inl ⟨rfl, rfl⟩) | (exact Or.inr (Or.inr (Or.inl ⟨rfl, rfl⟩))) | (exact Or.inr (Or.inr (Or.inr ⟨rfl, rfl⟩))) | (exact Or.inr (Or.inl ⟨rfl, rfl⟩)))
    | with_reducible refine z_fr_u ?_ (by intro j9; unfold w_X9_advances; first | (exact Or.inl ⟨rfl, rfl⟩) | (exact Or.inr (Or.inr (Or.inl ⟨rfl, rfl⟩))) | (exact Or.inr (Or.inr (Or.inr ⟨rfl, rfl⟩))) | (exact Or.inr (Or.inl ⟨rfl, rfl⟩)))
    | with_reducible exact z_fr_rf
    | with_reducible assumption
    | with_reducible refine fr_bind (fr_X9_letterAt _ _) (fun k j hkj => by unfold w_X9_letterAt at hkj; exact hkj.elim) ?_ (fun _ _ => ?_)
    | with_reducible refine fr_bind (fr_X9_in _ _ _ _) (fun k j hkj => by unfold w_X9_in at hkj; exact hkj.elim) ?_ (fun _ _ => ?_)
    | with_reducible refine fr_go ?_ (fr_X9_advances_71 1000 _ _)
    | with_reducible refine fr_go ?_ (fr_X9_advances_0 1000 _))
def w_X9_isWell (k j : Nat) : Prop := False
set_option maxHeartbeats 4000000 in
theorem fr_X9_isWell : ∀ (S : zS), zFR w_X9_isWell (f_X9_isWell  S) S := by
  intro  S
  unfold f_X9_isWell
  repeat' (first
    | with_reducible exact fr_none
    | with_reducible refine fr_if (fun _ => ?_) (fun _ => ?_)
    | with_reducible refine fr_some ?_
    | with_reducible exact z_fr_rf
    | with_reducible assumption)
def w_X9_mayBegin (k j : Nat) : Prop := False
set_option maxHeartbeats 4000000 in
theorem fr_X9_mayBegin : ∀ (S : zS), zFR w_X9_mayBegin (f_X9_mayBegin  S) S := by
  intro  S
  unfold f_X9_mayBegin
  repeat' (first
    | with_reducible exact fr_none
    | with_reducible refine fr_if (fun _ => ?_) (fun _ => ?_)
    | with_reducible refine fr_some ?_
    | with_reducible exact z_fr_rf
    | with_reducible assumption)
def w_X9_takes (k j : Nat) : Prop := (k = 87 ∧ j = 3) ∨ (k = 87 ∧ j = 4) ∨ (k = 87 ∧ j = 5) ∨ (k = 87 ∧ j = 6) ∨ (k = 87 ∧ j = 7)
set_option maxHeartbeats 4000000 in
theorem fr_X9_takes : ∀ (a1 : Int32) (S : zS), zFR w_X9_takes (f_X9_takes a1 S) S := by
  intro a1 S
  unfold f_X9_takes
  repeat' (first
    | with_reducible exact fr_none
    | with_reducible refine fr_if (fun _ => ?_) (fun _ => ?_)
    | with_reducible refine fr_some ?_
    | with_reducible refine z_fr_w ?_ (by unfold w_X9_takes; first | (exact Or.inr (Or.inr (Or.inr (Or.inr ⟨rfl, rfl⟩)))))
    | with_reducible refine z_fr_u ?_ (by intro j9; unfold w_X9_takes; first | (exact Or.inr (Or.inr (Or.inr (Or.inr ⟨rfl, rfl⟩)))))
    | with_reducible exact z_fr_rf
    | with_reducible assumption
    | with_reducible refine fr_bind (fr_X9_isWell _) (fun k j hkj => by unfold w_X9_isWell at hkj; exact hkj.elim) ?_ (fun _ _ => ?_)
    | with_reducible refine fr_bind (fr_X9_advances _) (fun k j hkj => by unfold w_X9_advances at hkj; unfold w_X9_takes; rcases hkj with hkj | hkj | hkj | hkj; (exact Or.inl hkj); (exact Or.inr (Or.inl hkj)); (exact Or.inr (Or.inr (Or.inl hkj))); (exact Or.inr (Or.inr (Or.inr (Or.inl hkj))))) ?_ (fun _ _ => ?_))
def w_X9_isNumber (k j : Nat) : Prop := False
set_option maxHeartbeats 4000000 in
theorem fr_X9_isNumber : ∀ (a1 : Int32) (a2 : Int32) (S : zS), zFR w_X9_isNumber (f_X9_isNumber a1 a2 S) S := by
  intro a1 a2 S
  unfold f_X9_isNumber
  repeat' (first
    | with_reducible exact fr_none
    | with_reducible refine fr_if (fun _ => ?_) (fun _ => ?_)
    | with_reducible refine fr_some ?_
    | with_reducible exact z_fr_rf
    | with_reducible assumption
    | with_reducible refine fr_bind (fr_X9_in _ _ _ _) (fun k j hkj => by unfold w_X9_in at hkj; exact hkj.elim) ?_ (fun _ _ => ?_))
def w_X9_isFreeAt (k j : Nat) : Prop := False
set_option maxHeartbeats 4000000 in
theorem fr_X9_isFreeAt_5 : ∀ (n : Nat) (v1 : Int32) (v2 : Int32) (v3 : Int32) (v4 : Int32) (S : zS), zFR w_X9_isFreeAt (f_X9_isFreeAt_5 n v1 v2 v3 v4 S) S := by
  intro n
  induction n with
  | zero =>
    intro v1 v2 v3 v4 S r hr
    cases (show (none : Option (Int32 × zS)) = some r from hr)
  | succ n ih =>
    intro v1 v2 v3 v4 S
    rw [f_X9_isFreeAt_5]
    repeat' (first
    | with_reducible exact fr_none
    | with_reducible refine fr_if (fun _ => ?_) (fun _ => ?_)
    | with_reducible refine fr_some ?_
    | with_reducible exact z_fr_rf
    | with_reducible assumption
    | with_reducible refine fr_go ?_ (ih _ _ _ _ _))
set_option maxHeartbeats 4000000 in
theorem fr_X9_isFreeAt : ∀ (a1 : Int32) (a2 : Int32) (S : zS), zFR w_X9_isFreeAt (f_X9_isFreeAt a1 a2 S) S := by
  intro a1 a2 S
  unfold f_X9_isFreeAt
  repeat' (first
    | with_reducible exact fr_none
    | with_reducible refine fr_if (fun _ => ?_) (fun _ => ?_)
    | with_reducible refine fr_some ?_
    | with_reducible exact z_fr_rf
    | with_reducible assumption
    | with_reducible refine fr_go ?_ (fr_X9_isFreeAt_5 1000 _ _ _ _ _))
def w_X9_readsCorner (k j : Nat) : Prop := (k = 87 ∧ j = 3) ∨ (k = 87 ∧ j = 4) ∨ (k = 87 ∧ j = 5) ∨ (k = 87 ∧ j = 6) ∨ (k = 87 ∧ j = 7) ∨ k = 90
set_option maxHeartbeats 4000000 in
theorem fr_X9_readsCorner_40 : ∀ (v1 : Int32) (t0 : Int32) (S : zS), zFR w_X9_readsCorner (f_X9_readsCorner_40 v1 t0 S) S := by
  intro v1 t0 S
  unfold f_X9_readsCorner_40
  repeat' (first
    | with_reducible exact fr_none
    | with_reducible refine fr_if (fun _ => ?_) (fun _ => ?_)
    | with_reducible refine fr_some ?_
    | with_reducible refine z_fr_w ?_ (by unfold w_X9_readsCorner; first | (exact Or.inr (Or.inr (Or.inr (Or.inr (Or.inr rfl))))))
    | with_reducible refine z_fr_u ?_ (by intro j9; unfold w_X9_readsCorner; first | (exact Or.inr (Or.inr (Or.inr (Or.inr (Or.inr rfl))))))
    | with_reducible exact z_fr_rf
    | with_reducible assumption
    | with_reducible refine fr_bind (fr_X9_isNumber _ _ _) (fun k j hkj => by unfold w_X9_isNumber at hkj; exact hkj.elim) ?_ (fun _ _ => ?_)
    | with_reducible refine fr_bind (fr_X9_takes _ _) (fun k j hkj => by unfold w_X9_takes at hkj; unfold w_X9_readsCorner; rcases hkj with hkj | hkj | hkj | hkj | hkj; (exact Or.inl hkj); (exact Or.inr (Or.inl hkj)); (exact Or.inr (Or.inr (Or.inl hkj))); (exact Or.inr (Or.inr (Or.inr (Or.inl hkj)))); (exact Or.inr (Or.inr (Or.inr (Or.inr (Or.inl hkj)))))) ?_ (fun _ _ => ?_)
    | with_reducible refine fr_bind (fr_X9_isFreeAt _ _ _) (fun k j hkj => by unfold w_X9_isFreeAt at hkj; exact hkj.elim) ?_ (fun _ _ => ?_))
set_option maxHeartbeats 4000000 in
theorem fr_X9_readsCorner : ∀ (S : zS), zFR w_X9_readsCorner (f_X9_readsCorner  S) S := by
  intro  S
  unfold f_X9_readsCorner
  repeat' (first
    | with_reducible exact fr_none
    | with_reducible refine fr_if (fun _ => ?_) (fun _ => ?_)
    | with_reducible refine fr_some ?_
    | with_reducible refine z_fr_w ?_ (by unfold w_X9_readsCorner; first | (exact Or.inr (Or.inr (Or.inr (Or.inr (Or.inr rfl))))))
    | with_reducible refine z_fr_u ?_ (by intro j9; unfold w_X9_readsCorner; first | (exact Or.inr (Or.inr (Or.inr (Or.inr (Or.inr rfl))))))
    | with_reducible exact z_fr_rf
    | with_reducible assumption
    | with_reducible refine fr_bind (fr_X9_isNumber _ _ _) (fun k j hkj => by unfold w_X9_isNumber at hkj; exact hkj.elim) ?_ (fun _ _ => ?_)
    | with_reducible refine fr_bind (fr_X9_takes _ _) (fun k j hkj => by unfold w_X9_takes at hkj; unfold w_X9_readsCorner; rcases hkj with hkj | hkj | hkj | hkj | hkj; (exact Or.inl hkj); (exact Or.inr (Or.inl hkj)); (exact Or.inr (Or.inr (Or.inl hkj))); (exact Or.inr (Or.inr (Or.inr (Or.inl hkj)))); (exact Or.inr (Or.inr (Or.inr (Or.inr (Or.inl hkj)))))) ?_ (fun _ _ => ?_)
    | with_reducible refine fr_bind (fr_X9_isFreeAt _ _ _) (fun k j hkj => by unfold w_X9_isFreeAt at hkj; exact hkj.elim) ?_ (fun _ _ => ?_)
    | with_reducible refine fr_go ?_ (fr_X9_readsCorner_40 _ _ _))
def w_X9_isCorner (k j : Nat) : Prop := False
set_option maxHeartbeats 4000000 in
theorem fr_X9_isCorner : ∀ (S : zS), zFR w_X9_isCorner (f_X9_isCorner  S) S := by
  intro  S
  unfold f_X9_isCorner
  repeat' (first
    | with_reducible exact fr_none
    | with_reducible refine fr_if (fun _ => ?_) (fun _ => ?_)
    | with_reducible refine fr_some ?_
    | with_reducible exact z_fr_rf
    | with_reducible assumption
    | with_reducible refine fr_bind (fr_X9_isNumber _ _ _) (fun k j hkj => by unfold w_X9_isNumber at hkj; exact hkj.elim) ?_ (fun _ _ => ?_))
def w_X9_has (k j : Nat) : Prop := False
set_option maxHeartbeats 4000000 in
theorem fr_X9_has : ∀ (a0 : Int32) (a1 : Int32) (S : zS), zFR w_X9_has (f_X9_has a0 a1 S) S := by
  intro a0 a1 S
  unfold f_X9_has
  repeat' (first
    | with_reducible exact fr_none
    | with_reducible refine fr_if (fun _ => ?_) (fun _ => ?_)
    | with_reducible refine fr_some ?_
    | with_reducible exact z_fr_rf
    | with_reducible assumption)
def w_X9_cutOf (p0 : Nat) (k j : Nat) : Prop := False
set_option maxHeartbeats 4000000 in
theorem fr_X9_cutOf_62 {p0 : Nat} {K5 : Int32 → Int32 → Int32 → Int32 → zS → Option (Int32 × zS)} (hK5 : ∀ (v1 : Int32) (v2 : Int32) (v3 : Int32) (v4 : Int32) (S : zS), zFR (w_X9_cutOf p0) (K5 v1 v2 v3 v4 S) S) : ∀ (v1 : Int32) (v2 : Int32) (v3 : Int32) (v4 : Int32) (t0 : Int32) (S : zS), zFR (w_X9_cutOf p0) (f_X9_cutOf_62 p0 K5 v1 v2 v3 v4 t0 S) S := by
  intro v1 v2 v3 v4 t0 S
  unfold f_X9_cutOf_62
  repeat' (first
    | with_reducible exact fr_none
    | with_reducible refine fr_if (fun _ => ?_) (fun _ => ?_)
    | with_reducible refine fr_some ?_
    | with_reducible exact z_fr_rf
    | with_reducible assumption
    | with_reducible refine fr_go ?_ (hK5 _ _ _ _ _))
set_option maxHeartbeats 4000000 in
theorem fr_X9_cutOf_35 {p0 : Nat} {K5 : Int32 → Int32 → Int32 → Int32 → zS → Option (Int32 × zS)} (hK5 : ∀ (v1 : Int32) (v2 : Int32) (v3 : Int32) (v4 : Int32) (S : zS), zFR (w_X9_cutOf p0) (K5 v1 v2 v3 v4 S) S) : ∀ (v1 : Int32) (v2 : Int32) (v3 : Int32) (v4 : Int32) (S : zS), zFR (w_X9_cutOf p0) (f_X9_cutOf_35 p0 K5 v1 v2 v3 v4 S) S := by
  intro v1 v2 v3 v4 S
  unfold f_X9_cutOf_35
  repeat' (first
    | with_reducible exact fr_none
    | with_reducible refine fr_if (fun _ => ?_) (fun _ => ?_)
    | with_reducible refine fr_some ?_
    | with_reducible exact z_fr_rf
    | with_reducible assumption
    | with_reducible refine fr_go ?_ (fr_X9_cutOf_62 (by first | exact hK5 | exact ih) _ _ _ _ _ _)
    | with_reducible refine fr_go ?_ (hK5 _ _ _ _ _))
set_option maxHeartbeats 4000000 in
theorem fr_X9_cutOf_5 {p0 : Nat} : ∀ (n : Nat) (v1 : Int32) (v2 : Int32) (v3 : Int32) (v4 : Int32) (S : zS), zFR (w_X9_cutOf p0) (f_X9_cutOf_5 p0 n v1 v2 v3 v4 S) S := by
  intro n
  induction n with
  | zero =>
    intro v1 v2 v3 v4 S r hr
    cases (show (none : Option (Int32 × zS)) = some r from hr)
  | succ n ih =>
    intro v1 v2 v3 v4 S
    rw [f_X9_cutOf_5]
    repeat' (first
    | with_reducible exact fr_none
    | with_reducible refine fr_if (fun _ => ?_) (fun _ => ?_)
    | with_reducible refine fr_some ?_
    | with_reducible exact z_fr_rf
    | with_reducible assumption
    | with_reducible refine fr_go ?_ (fr_X9_cutOf_62 (by first | exact hK5 | exact ih) _ _ _ _ _ _)
    | with_reducible refine fr_go ?_ (fr_X9_cutOf_35 (by first | exact hK5 | exact ih) _ _ _ _ _)
    | with_reducible refine fr_go ?_ (hK5 _ _ _ _ _)
    | with_reducible refine fr_go ?_ (ih _ _ _ _ _))
set_option maxHeartbeats 4000000 in
theorem fr_X9_cutOf : ∀ (p0 : Nat) (a1 : Int32) (a2 : Int32) (S : zS), zFR (w_X9_cutOf p0) (f_X9_cutOf p0 a1 a2 S) S := by
  intro p0 a1 a2 S
  unfold f_X9_cutOf
  repeat' (first
    | with_reducible exact fr_none
    | with_reducible refine fr_if (fun _ => ?_) (fun _ => ?_)
    | with_reducible refine fr_some ?_
    | with_reducible exact z_fr_rf
    | with_reducible assumption
    | with_reducible refine fr_go ?_ (fr_X9_cutOf_62 (by first | exact hK5 | exact ih) _ _ _ _ _ _)
    | with_reducible refine fr_go ?_ (fr_X9_cutOf_35 (by first | exact hK5 | exact ih) _ _ _ _ _)
    | with_reducible refine fr_go ?_ (fr_X9_cutOf_5 1000 _ _ _ _ _)
    | with_reducible refine fr_go ?_ (hK5 _ _ _ _ _))
def w_X9_hasRoom (k j : Nat) : Prop := False
set_option maxHeartbeats 4000000 in
theorem fr_X9_hasRoom : ∀ (a1 : Int32) (a2 : Int32) (S : zS), zFR w_X9_hasRoom (f_X9_hasRoom a1 a2 S) S := by
  intro a1 a2 S
  unfold f_X9_hasRoom
  repeat' (first
    | with_reducible exact fr_none
    | with_reducible refine fr_if (fun _ => ?_) (fun _ => ?_)
    | with_reducible refine fr_some ?_
    | with_reducible exact z_fr_rf
    | with_reducible assumption
    | with_reducible refine fr_bind (fr_X9_cutOf _ _ _ _) (fun k j hkj => by unfold w_X9_cutOf at hkj; exact hkj.elim) ?_ (fun _ _ => ?_))
def w_X9_cuts (k j : Nat) : Prop := k = 90
set_option maxHeartbeats 4000000 in
theorem fr_X9_cuts_63 : ∀ (t0 : Int32) (t1 : Int32) (S : zS), zFR w_X9_cuts (f_X9_cuts_63 t0 t1 S) S := by
  intro t0 t1 S
  unfold f_X9_cuts_63
  repeat' (first
    | with_reducible exact fr_none
    | with_reducible refine fr_if (fun _ => ?_) (fun _ => ?_)
    | with_reducible refine fr_some ?_
    | with_reducible refine z_fr_w ?_ (by unfold w_X9_cuts; first | (exact rfl))
    | with_reducible refine z_fr_u ?_ (by intro j9; unfold w_X9_cuts; first | (exact rfl))
    | with_reducible exact z_fr_rf
    | with_reducible assumption
    | with_reducible refine fr_bind (fr_X9_isWell _) (fun k j hkj => by unfold w_X9_isWell at hkj; exact hkj.elim) ?_ (fun _ _ => ?_)
    | with_reducible refine fr_bind (fr_X9_cutOf _ _ _ _) (fun k j hkj => by unfold w_X9_cutOf at hkj; exact hkj.elim) ?_ (fun _ _ => ?_))
set_option maxHeartbeats 4000000 in
theorem fr_X9_cuts_44 : ∀ (v1 : Int32) (v2 : Int32) (v3 : Int32) (t0 : Int32) (t1 : Int32) (S : zS), zFR w_X9_cuts (f_X9_cuts_44 v1 v2 v3 t0 t1 S) S := by
  intro v1 v2 v3 t0 t1 S
  unfold f_X9_cuts_44
  repeat' (first
    | with_reducible exact fr_none
    | with_reducible refine fr_if (fun _ => ?_) (fun _ => ?_)
    | with_reducible refine fr_some ?_
    | with_reducible refine z_fr_w ?_ (by unfold w_X9_cuts; first | (exact rfl))
    | with_reducible refine z_fr_u ?_ (by intro j9; unfold w_X9_cuts; first | (exact rfl))
    | with_reducible exact z_fr_rf
    | with_reducible assumption
    | with_reducible refine fr_bind (fr_X9_isWell _) (fun k j hkj => by unfold w_X9_isWell at hkj; exact hkj.elim) ?_ (fun _ _ => ?_)
    | with_reducible refine fr_bind (fr_X9_cutOf _ _ _ _) (fun k j hkj => by unfold w_X9_cutOf at hkj; exact hkj.elim) ?_ (fun _ _ => ?_)
    | with_reducible refine fr_go ?_ (fr_X9_cuts_63 _ _ _))
set_option maxHeartbeats 4000000 in
theorem fr_X9_cuts : ∀ (a1 : Int32) (a2 : Int32) (S : zS), zFR w_X9_cuts (f_X9_cuts a1 a2 S) S := by
  intro a1 a2 S
  unfold f_X9_cuts
  repeat' (first
    | with_reducible exact fr_none
    | with_reducible refine fr_if (fun _ => ?_) (fun _ => ?_)
    | with_reducible refine fr_some ?_
    | with_reducible refine z_fr_w ?_ (by unfold w_X9_cuts; first | (exact rfl))
    | with_reducible refine z_fr_u ?_ (by intro j9; unfold w_X9_cuts; first | (exact rfl))
    | with_reducible exact z_fr_rf
    | with_reducible assumption
    | with_reducible refine fr_bind (fr_X9_isWell _) (fun k j hkj => by unfold w_X9_isWell at hkj; exact hkj.elim) ?_ (fun _ _ => ?_)
    | with_reducible refine fr_bind (fr_X9_cutOf _ _ _ _) (fun k j hkj => by unfold w_X9_cutOf at hkj; exact hkj.elim) ?_ (fun _ _ => ?_)
    | with_reducible refine fr_go ?_ (fr_X9_cuts_63 _ _ _)
    | with_reducible refine fr_go ?_ (fr_X9_cuts_44 _ _ _ _ _ _))
def w_X9_readsPart (k j : Nat) : Prop := (k = 87 ∧ j = 3) ∨ (k = 87 ∧ j = 4) ∨ (k = 87 ∧ j = 5) ∨ (k = 87 ∧ j = 6) ∨ (k = 87 ∧ j = 7) ∨ k = 90
set_option maxHeartbeats 4000000 in
theorem fr_X9_readsPart_222 : ∀ (v1 : Int32) (v2 : Int32) (S : zS), zFR w_X9_readsPart (f_X9_readsPart_222 v1 v2 S) S := by
  intro v1 v2 S
  unfold f_X9_readsPart_222
  repeat' (first
    | with_reducible exact fr_none
    | with_reducible refine fr_if (fun _ => ?_) (fun _ => ?_)
    | with_reducible refine fr_some ?_
    | with_reducible refine z_fr_w ?_ (by unfold w_X9_readsPart; first | (exact Or.inr (Or.inr (Or.inr (Or.inr (Or.inr rfl))))) | (exact Or.inr (Or.inr (Or.inr (Or.inr (Or.inl ⟨rfl, rfl⟩))))))
    | with_reducible refine z_fr_u ?_ (by intro j9; unfold w_X9_readsPart; first | (exact Or.inr (Or.inr (Or.inr (Or.inr (Or.inr rfl))))) | (exact Or.inr (Or.inr (Or.inr (Or.inr (Or.inl ⟨rfl, rfl⟩))))))
    | with_reducible exact z_fr_rf
    | with_reducible assumption
    | with_reducible refine fr_bind (fr_X9_isWell _) (fun k j hkj => by unfold w_X9_isWell at hkj; exact hkj.elim) ?_ (fun _ _ => ?_)
    | with_reducible refine fr_bind (fr_X9_hasRoom _ _ _) (fun k j hkj => by unfold w_X9_hasRoom at hkj; exact hkj.elim) ?_ (fun _ _ => ?_)
    | with_reducible refine fr_bind (fr_X9_cuts _ _ _) (fun k j hkj => by unfold w_X9_cuts at hkj; unfold w_X9_readsPart; exact Or.inr (Or.inr (Or.inr (Or.inr (Or.inr hkj))))) ?_ (fun _ _ => ?_)
    | with_reducible refine fr_bind (fr_X9_takes _ _) (fun k j hkj => by unfold w_X9_takes at hkj; unfold w_X9_readsPart; rcases hkj with hkj | hkj | hkj | hkj | hkj; (exact Or.inl hkj); (exact Or.inr (Or.inl hkj)); (exact Or.inr (Or.inr (Or.inl hkj))); (exact Or.inr (Or.inr (Or.inr (Or.inl hkj)))); (exact Or.inr (Or.inr (Or.inr (Or.inr (Or.inl hkj)))))) ?_ (fun _ _ => ?_)
    | with_reducible refine fr_bind (fr_X9_isCorner _) (fun k j hkj => by unfold w_X9_isCorner at hkj; exact hkj.elim) ?_ (fun _ _ => ?_)
    | with_reducible refine fr_bind (fr_X9_has _ _ _) (fun k j hkj => by unfold w_X9_has at hkj; exact hkj.elim) ?_ (fun _ _ => ?_)
    | with_reducible refine fr_go ?_ (hK11 _ _ _ _))
set_option maxHeartbeats 4000000 in
theorem fr_X9_readsPart_214 : ∀ (v1 : Int32) (v2 : Int32) (v4 : Int32) (v5 : Int32) (S : zS), zFR w_X9_readsPart (f_X9_readsPart_214 v1 v2 v4 v5 S) S := by
  intro v1 v2 v4 v5 S
  unfold f_X9_readsPart_214
  repeat' (first
    | with_reducible exact fr_none
    | with_reducible refine fr_if (fun _ => ?_) (fun _ => ?_)
    | with_reducible refine fr_some ?_
    | with_reducible refine z_fr_w ?_ (by unfold w_X9_readsPart; first | (exact Or.inr (Or.inr (Or.inr (Or.inr (Or.inr rfl))))) | (exact Or.inr (Or.inr (Or.inr (Or.inr (Or.inl ⟨rfl, rfl⟩))))))
    | with_reducible refine z_fr_u ?_ (by intro j9; unfold w_X9_readsPart; first | (exact Or.inr (Or.inr (Or.inr (Or.inr (Or.inr rfl))))) | (exact Or.inr (Or.inr (Or.inr (Or.inr (Or.inl ⟨rfl, rfl⟩))))))
    | with_reducible exact z_fr_rf
    | with_reducible assumption
    | with_reducible refine fr_bind (fr_X9_isWell _) (fun k j hkj => by unfold w_X9_isWell at hkj; exact hkj.elim) ?_ (fun _ _ => ?_)
    | with_reducible refine fr_bind (fr_X9_hasRoom _ _ _) (fun k j hkj => by unfold w_X9_hasRoom at hkj; exact hkj.elim) ?_ (fun _ _ => ?_)
    | with_reducible refine fr_bind (fr_X9_cuts _ _ _) (fun k j hkj => by unfold w_X9_cuts at hkj; unfold w_X9_readsPart; exact Or.inr (Or.inr (Or.inr (Or.inr (Or.inr hkj))))) ?_ (fun _ _ => ?_)
    | with_reducible refine fr_bind (fr_X9_takes _ _) (fun k j hkj => by unfold w_X9_takes at hkj; unfold w_X9_readsPart; rcases hkj with hkj | hkj | hkj | hkj | hkj; (exact Or.inl hkj); (exact Or.inr (Or.inl hkj)); (exact Or.inr (Or.inr (Or.inl hkj))); (exact Or.inr (Or.inr (Or.inr (Or.inl hkj)))); (exact Or.inr (Or.inr (Or.inr (Or.inr (Or.inl hkj)))))) ?_ (fun _ _ => ?_)
    | with_reducible refine fr_bind (fr_X9_isCorner _) (fun k j hkj => by unfold w_X9_isCorner at hkj; exact hkj.elim) ?_ (fun _ _ => ?_)
    | with_reducible refine fr_bind (fr_X9_has _ _ _) (fun k j hkj => by unfold w_X9_has at hkj; exact hkj.elim) ?_ (fun _ _ => ?_)
    | with_reducible refine fr_go ?_ (fr_X9_readsPart_222 _ _ _)
    | with_reducible refine fr_go ?_ (hK11 _ _ _ _))
set_option maxHeartbeats 4000000 in
theorem fr_X9_readsPart_158 : ∀ (v1 : Int32) (v2 : Int32) (S : zS), zFR w_X9_readsPart (f_X9_readsPart_158 v1 v2 S) S := by
  intro v1 v2 S
  unfold f_X9_readsPart_158
  repeat' (first
    | with_reducible exact fr_none
    | with_reducible refine fr_if (fun _ => ?_) (fun _ => ?_)
    | with_reducible refine fr_some ?_
    | with_reducible refine z_fr_w ?_ (by unfold w_X9_readsPart; first | (exact Or.inr (Or.inr (Or.inr (Or.inr (Or.inr rfl))))) | (exact Or.inr (Or.inr (Or.inr (Or.inr (Or.inl ⟨rfl, rfl⟩))))))
    | with_reducible refine z_fr_u ?_ (by intro j9; unfold w_X9_readsPart; first | (exact Or.inr (Or.inr (Or.inr (Or.inr (Or.inr rfl))))) | (exact Or.inr (Or.inr (Or.inr (Or.inr (Or.inl ⟨rfl, rfl⟩))))))
    | with_reducible exact z_fr_rf
    | with_reducible assumption
    | with_reducible refine fr_bind (fr_X9_isWell _) (fun k j hkj => by unfold w_X9_isWell at hkj; exact hkj.elim) ?_ (fun _ _ => ?_)
    | with_reducible refine fr_bind (fr_X9_hasRoom _ _ _) (fun k j hkj => by unfold w_X9_hasRoom at hkj; exact hkj.elim) ?_ (fun _ _ => ?_)
    | with_reducible refine fr_bind (fr_X9_cuts _ _ _) (fun k j hkj => by unfold w_X9_cuts at hkj; unfold w_X9_readsPart; exact Or.inr (Or.inr (Or.inr (Or.inr (Or.inr hkj))))) ?_ (fun _ _ => ?_)
    | with_reducible refine fr_bind (fr_X9_takes _ _) (fun k j hkj => by unfold w_X9_takes at hkj; unfold w_X9_readsPart; rcases hkj with hkj | hkj | hkj | hkj | hkj; (exact Or.inl hkj); (exact Or.inr (Or.inl hkj)); (exact Or.inr (Or.inr (Or.inl hkj))); (exact Or.inr (Or.inr (Or.inr (Or.inl hkj)))); (exact Or.inr (Or.inr (Or.inr (Or.inr (Or.inl hkj)))))) ?_ (fun _ _ => ?_)
    | with_reducible refine fr_bind (fr_X9_isCorner _) (fun k j hkj => by unfold w_X9_isCorner at hkj; exact hkj.elim) ?_ (fun _ _ => ?_)
    | with_reducible refine fr_bind (fr_X9_has _ _ _) (fun k j hkj => by unfold w_X9_has at hkj; exact hkj.elim) ?_ (fun _ _ => ?_)
    | with_reducible refine fr_go ?_ (fr_X9_readsPart_222 _ _ _)
    | with_reducible refine fr_go ?_ (fr_X9_readsPart_214 _ _ _ _ _)
    | with_reducible refine fr_go ?_ (hK11 _ _ _ _))
set_option maxHeartbeats 4000000 in
theorem fr_X9_readsPart_130 {K11 : Int32 → Int32 → Int32 → zS → Option (Unit × zS)} (hK11 : ∀ (v1 : Int32) (v2 : Int32) (v3 : Int32) (S : zS), zFR w_X9_readsPart (K11 v1 v2 v3 S) S) : ∀ (v1 : Int32) (v2 : Int32) (v3 : Int32) (v6 : Int32) (S : zS), zFR w_X9_readsPart (f_X9_readsPart_130 K11 v1 v2 v3 v6 S) S := by
  intro v1 v2 v3 v6 S
  unfold f_X9_readsPart_130
  repeat' (first
    | with_reducible exact fr_none
    | with_reducible refine fr_if (fun _ => ?_) (fun _ => ?_)
    | with_reducible refine fr_some ?_
    | with_reducible refine z_fr_w ?_ (by unfold w_X9_readsPart; first | (exact Or.inr (Or.inr (Or.inr (Or.inr (Or.inr rfl))))) | (exact Or.inr (Or.inr (Or.inr (Or.inr (Or.inl ⟨rfl, rfl⟩))))))
    | with_reducible refine z_fr_u ?_ (by intro j9; unfold w_X9_readsPart; first | (exact Or.inr (Or.inr (Or.inr (Or.inr (Or.inr rfl))))) | (exact Or.inr (Or.inr (Or.inr (Or.inr (Or.inl ⟨rfl, rfl⟩))))))
    | with_reducible exact z_fr_rf
    | with_reducible assumption
    | with_reducible refine fr_bind (fr_X9_isWell _) (fun k j hkj => by unfold w_X9_isWell at hkj; exact hkj.elim) ?_ (fun _ _ => ?_)
    | with_reducible refine fr_bind (fr_X9_hasRoom _ _ _) (fun k j hkj => by unfold w_X9_hasRoom at hkj; exact hkj.elim) ?_ (fun _ _ => ?_)
    | with_reducible refine fr_bind (fr_X9_cuts _ _ _) (fun k j hkj => by unfold w_X9_cuts at hkj; unfold w_X9_readsPart; exact Or.inr (Or.inr (Or.inr (Or.inr (Or.inr hkj))))) ?_ (fun _ _ => ?_)
    | with_reducible refine fr_bind (fr_X9_takes _ _) (fun k j hkj => by unfold w_X9_takes at hkj; unfold w_X9_readsPart; rcases hkj with hkj | hkj | hkj | hkj | hkj; (exact Or.inl hkj); (exact Or.inr (Or.inl hkj)); (exact Or.inr (Or.inr (Or.inl hkj))); (exact Or.inr (Or.inr (Or.inr (Or.inl hkj)))); (exact Or.inr (Or.inr (Or.inr (Or.inr (Or.inl hkj)))))) ?_ (fun _ _ => ?_)
    | with_reducible refine fr_bind (fr_X9_isCorner _) (fun k j hkj => by unfold w_X9_isCorner at hkj; exact hkj.elim) ?_ (fun _ _ => ?_)
    | with_reducible refine fr_bind (fr_X9_has _ _ _) (fun k j hkj => by unfold w_X9_has at hkj; exact hkj.elim) ?_ (fun _ _ => ?_)
    | with_reducible refine fr_go ?_ (fr_X9_readsPart_222 _ _ _)
    | with_reducible refine fr_go ?_ (fr_X9_readsPart_214 _ _ _ _ _)
    | with_reducible refine fr_go ?_ (fr_X9_readsPart_158 _ _ _)
    | with_reducible refine fr_go ?_ (hK11 _ _ _ _))
set_option maxHeartbeats 4000000 in
theorem fr_X9_readsPart_101 {K11 : Int32 → Int32 → Int32 → zS → Option (Unit × zS)} (hK11 : ∀ (v1 : Int32) (v2 : Int32) (v3 : Int32) (S : zS), zFR w_X9_readsPart (K11 v1 v2 v3 S) S) : ∀ (v1 : Int32) (v2 : Int32) (v3 : Int32) (v4 : Int32) (t0 : Int32) (S : zS), zFR w_X9_readsPart (f_X9_readsPart_101 K11 v1 v2 v3 v4 t0 S) S := by
  intro v1 v2 v3 v4 t0 S
  unfold f_X9_readsPart_101
  repeat' (first
    | with_reducible exact fr_none
    | with_reducible refine fr_if (fun _ => ?_) (fun _ => ?_)
    | with_reducible refine fr_some ?_
    | with_reducible refine z_fr_w ?_ (by unfold w_X9_readsPart; first | (exact Or.inr (Or.inr (Or.inr (Or.inr (Or.inr rfl))))) | (exact Or.inr (Or.inr (Or.inr (Or.inr (Or.inl ⟨rfl, rfl⟩))))))
    | with_reducible refine z_fr_u ?_ (by intro j9; unfold w_X9_readsPart; first | (exact Or.inr (Or.inr (Or.inr (Or.inr (Or.inr rfl))))) | (exact Or.inr (Or.inr (Or.inr (Or.inr (Or.inl ⟨rfl, rfl⟩))))))
    | with_reducible exact z_fr_rf
    | with_reducible assumption
    | with_reducible refine fr_bind (fr_X9_isWell _) (fun k j hkj => by unfold w_X9_isWell at hkj; exact hkj.elim) ?_ (fun _ _ => ?_)
    | with_reducible refine fr_bind (fr_X9_hasRoom _ _ _) (fun k j hkj => by unfold w_X9_hasRoom at hkj; exact hkj.elim) ?_ (fun _ _ => ?_)
    | with_reducible refine fr_bind (fr_X9_cuts _ _ _) (fun k j hkj => by unfold w_X9_cuts at hkj; unfold w_X9_readsPart; exact Or.inr (Or.inr (Or.inr (Or.inr (Or.inr hkj))))) ?_ (fun _ _ => ?_)
    | with_reducible refine fr_bind (fr_X9_takes _ _) (fun k j hkj => by unfold w_X9_takes at hkj; unfold w_X9_readsPart; rcases hkj with hkj | hkj | hkj | hkj | hkj; (exact Or.inl hkj); (exact Or.inr (Or.inl hkj)); (exact Or.inr (Or.inr (Or.inl hkj))); (exact Or.inr (Or.inr (Or.inr (Or.inl hkj)))); (exact Or.inr (Or.inr (Or.inr (Or.inr (Or.inl hkj)))))) ?_ (fun _ _ => ?_)
    | with_reducible refine fr_bind (fr_X9_isCorner _) (fun k j hkj => by unfold w_X9_isCorner at hkj; exact hkj.elim) ?_ (fun _ _ => ?_)
    | with_reducible refine fr_bind (fr_X9_has _ _ _) (fun k j hkj => by unfold w_X9_has at hkj; exact hkj.elim) ?_ (fun _ _ => ?_)
    | with_reducible refine fr_go ?_ (fr_X9_readsPart_222 _ _ _)
    | with_reducible refine fr_go ?_ (fr_X9_readsPart_214 _ _ _ _ _)
    | with_reducible refine fr_go ?_ (fr_X9_readsPart_158 _ _ _)
    | with_reducible refine fr_go ?_ (fr_X9_readsPart_130 (by first | exact hK11 | exact ih) _ _ _ _ _)
    | with_reducible refine fr_go ?_ (hK11 _ _ _ _))
set_option maxHeartbeats 4000000 in
theorem fr_X9_readsPart_54 {K11 : Int32 → Int32 → Int32 → zS → Option (Unit × zS)} (hK11 : ∀ (v1 : Int32) (v2 : Int32) (v3 : Int32) (S : zS), zFR w_X9_readsPart (K11 v1 v2 v3 S) S) : ∀ (v1 : Int32) (v2 : Int32) (v3 : Int32) (t0 : Int32) (S : zS), zFR w_X9_readsPart (f_X9_readsPart_54 K11 v1 v2 v3 t0 S) S := by
  intro v1 v2 v3 t0 S
  unfold f_X9_readsPart_54
  repeat' (first
    | with_reducible exact fr_none
    | with_reducible refine fr_if (fun _ => ?_) (fun _ => ?_)
    | with_reducible refine fr_some ?_
    | with_reducible refine z_fr_w ?_ (by unfold w_X9_readsPart; first | (exact Or.inr (Or.inr (Or.inr (Or.inr (Or.inr rfl))))) | (exact Or.inr (Or.inr (Or.inr (Or.inr (Or.inl ⟨rfl, rfl⟩))))))
    | with_reducible refine z_fr_u ?_ (by intro j9; unfold w_X9_readsPart; first | (exact Or.inr (Or.inr (Or.inr (Or.inr (Or.inr rfl))))) | (exact Or.inr (Or.inr (Or.inr (Or.inr (Or.inl ⟨rfl, rfl⟩))))))
    | with_reducible exact z_fr_rf
    | with_reducible assumption
    | with_reducible refine fr_bind (fr_X9_isWell _) (fun k j hkj => by unfold w_X9_isWell at hkj; exact hkj.elim) ?_ (fun _ _ => ?_)
    | with_reducible refine fr_bind (fr_X9_hasRoom _ _ _) (fun k j hkj => by unfold w_X9_hasRoom at hkj; exact hkj.elim) ?_ (fun _ _ => ?_)
    | with_reducible refine fr_bind (fr_X9_cuts _ _ _) (fun k j hkj => by unfold w_X9_cuts at hkj; unfold w_X9_readsPart; exact Or.inr (Or.inr (Or.inr (Or.inr (Or.inr hkj))))) ?_ (fun _ _ => ?_)
    | with_reducible refine fr_bind (fr_X9_takes _ _) (fun k j hkj => by unfold w_X9_takes at hkj; unfold w_X9_readsPart; rcases hkj with hkj | hkj | hkj | hkj | hkj; (exact Or.inl hkj); (exact Or.inr (Or.inl hkj)); (exact Or.inr (Or.inr (Or.inl hkj))); (exact Or.inr (Or.inr (Or.inr (Or.inl hkj)))); (exact Or.inr (Or.inr (Or.inr (Or.inr (Or.inl hkj)))))) ?_ (fun _ _ => ?_)
    | with_reducible refine fr_bind (fr_X9_isCorner _) (fun k j hkj => by unfold w_X9_isCorner at hkj; exact hkj.elim) ?_ (fun _ _ => ?_)
    | with_reducible refine fr_bind (fr_X9_has _ _ _) (fun k j hkj => by unfold w_X9_has at hkj; exact hkj.elim) ?_ (fun _ _ => ?_)
    | with_reducible refine fr_go ?_ (fr_X9_readsPart_222 _ _ _)
    | with_reducible refine fr_go ?_ (fr_X9_readsPart_214 _ _ _ _ _)
    | with_reducible refine fr_go ?_ (fr_X9_readsPart_158 _ _ _)
    | with_reducible refine fr_go ?_ (fr_X9_readsPart_130 (by first | exact hK11 | exact ih) _ _ _ _ _)
    | with_reducible refine fr_go ?_ (fr_X9_readsPart_101 (by first | exact hK11 | exact ih) _ _ _ _ _ _)
    | with_reducible refine fr_go ?_ (hK11 _ _ _ _))
set_option maxHeartbeats 4000000 in
theorem fr_X9_readsPart_31 {K11 : Int32 → Int32 → Int32 → zS → Option (Unit × zS)} (hK11 : ∀ (v1 : Int32) (v2 : Int32) (v3 : Int32) (S : zS), zFR w_X9_readsPart (K11 v1 v2 v3 S) S) : ∀ (v1 : Int32) (v2 : Int32) (v3 : Int32) (S : zS), zFR w_X9_readsPart (f_X9_readsPart_31 K11 v1 v2 v3 S) S := by
  intro v1 v2 v3 S
  unfold f_X9_readsPart_31
  repeat' (first
    | with_reducible exact fr_none
    | with_reducible refine fr_if (fun _ => ?_) (fun _ => ?_)
    | with_reducible refine fr_some ?_
    | with_reducible refine z_fr_w ?_ (by unfold w_X9_readsPart; first | (exact Or.inr (Or.inr (Or.inr (Or.inr (Or.inr rfl))))) | (exact Or.inr (Or.inr (Or.inr (Or.inr (Or.inl ⟨rfl, rfl⟩))))))
    | with_reducible refine z_fr_u ?_ (by intro j9; unfold w_X9_readsPart; first | (exact Or.inr (Or.inr (Or.inr (Or.inr (Or.inr rfl))))) | (exact Or.inr (Or.inr (Or.inr (Or.inr (Or.inl ⟨rfl, rfl⟩))))))
    | with_reducible exact z_fr_rf
    | with_reducible assumption
    | with_reducible refine fr_bind (fr_X9_isWell _) (fun k j hkj => by unfold w_X9_isWell at hkj; exact hkj.elim) ?_ (fun _ _ => ?_)
    | with_reducible refine fr_bind (fr_X9_hasRoom _ _ _) (fun k j hkj => by unfold w_X9_hasRoom at hkj; exact hkj.elim) ?_ (fun _ _ => ?_)
    | with_reducible refine fr_bind (fr_X9_cuts _ _ _) (fun k j hkj => by unfold w_X9_cuts at hkj; unfold w_X9_readsPart; exact Or.inr (Or.inr (Or.inr (Or.inr (Or.inr hkj))))) ?_ (fun _ _ => ?_)
    | with_reducible refine fr_bind (fr_X9_takes _ _) (fun k j hkj => by unfold w_X9_takes at hkj; unfold w_X9_readsPart; rcases hkj with hkj | hkj | hkj | hkj | hkj; (exact Or.inl hkj); (exact Or.inr (Or.inl hkj)); (exact Or.inr (Or.inr (Or.inl hkj))); (exact Or.inr (Or.inr (Or.inr (Or.inl hkj)))); (exact Or.inr (Or.inr (Or.inr (Or.inr (Or.inl hkj)))))) ?_ (fun _ _ => ?_)
    | with_reducible refine fr_bind (fr_X9_isCorner _) (fun k j hkj => by unfold w_X9_isCorner at hkj; exact hkj.elim) ?_ (fun _ _ => ?_)
    | with_reducible refine fr_bind (fr_X9_has _ _ _) (fun k j hkj => by unfold w_X9_has at hkj; exact hkj.elim) ?_ (fun _ _ => ?_)
    | with_reducible refine fr_go ?_ (fr_X9_readsPart_222 _ _ _)
    | with_reducible refine fr_go ?_ (fr_X9_readsPart_214 _ _ _ _ _)
    | with_reducible refine fr_go ?_ (fr_X9_readsPart_158 _ _ _)
    | with_reducible refine fr_go ?_ (fr_X9_readsPart_130 (by first | exact hK11 | exact ih) _ _ _ _ _)
    | with_reducible refine fr_go ?_ (fr_X9_readsPart_101 (by first | exact hK11 | exact ih) _ _ _ _ _ _)
    | with_reducible refine fr_go ?_ (fr_X9_readsPart_54 (by first | exact hK11 | exact ih) _ _ _ _ _)
    | with_reducible refine fr_go ?_ (hK11 _ _ _ _))
set_option maxHeartbeats 4000000 in
theorem fr_X9_readsPart_11 : ∀ (n : Nat) (v1 : Int32) (v2 : Int32) (v3 : Int32) (S : zS), zFR w_X9_readsPart (f_X9_readsPart_11 n v1 v2 v3 S) S := by
  intro n
  induction n with
  | zero =>
    intro v1 v2 v3 S r hr
    cases (show (none : Option (Unit × zS)) = some r from hr)
  | succ n ih =>
    intro v1 v2 v3 S
    rw [f_X9_readsPart_11]
    repeat' (first
    | with_reducible exact fr_none
    | with_reducible refine fr_if (fun _ => ?_) (fun _ => ?_)
    | with_reducible refine fr_some ?_
    | with_reducible refine z_fr_w ?_ (by unfold w_X9_readsPart; first | (exact Or.inr (Or.inr (Or.inr (Or.inr (Or.inr rfl))))) | (exact Or.inr (Or.inr (Or.inr (Or.inr (Or.inl ⟨rfl, rfl⟩))))))
    | with_reducible refine z_fr_u ?_ (by intro j9; unfold w_X9_readsPart; first | (exact Or.inr (Or.inr (Or.inr (Or.inr (Or.inr rfl))))) | (exact Or.inr (Or.inr (Or.inr (Or.inr (Or.inl ⟨rfl, rfl⟩))))))
    | with_reducible exact z_fr_rf
    | with_reducible assumption
    | with_reducible refine fr_bind (fr_X9_isWell _) (fun k j hkj => by unfold w_X9_isWell at hkj; exact hkj.elim) ?_ (fun _ _ => ?_)
    | with_reducible refine fr_bind (fr_X9_hasRoom _ _ _) (fun k j hkj => by unfold w_X9_hasRoom at hkj; exact hkj.elim) ?_ (fun _ _ => ?_)
    | with_reducible refine fr_bind (fr_X9_cuts _ _ _) (fun k j hkj => by unfold w_X9_cuts at hkj; unfold w_X9_readsPart; exact Or.inr (Or.inr (Or.inr (Or.inr (Or.inr hkj))))) ?_ (fun _ _ => ?_)
    | with_reducible refine fr_bind (fr_X9_takes _ _) (fun k j hkj => by unfold w_X9_takes at hkj; unfold w_X9_readsPart; rcases hkj with hkj | hkj | hkj | hkj | hkj; (exact Or.inl hkj); (exact Or.inr (Or.inl hkj)); (exact Or.inr (Or.inr (Or.inl hkj))); (exact Or.inr (Or.inr (Or.inr (Or.inl hkj)))); (exact Or.inr (Or.inr (Or.inr (Or.inr (Or.inl hkj)))))) ?_ (fun _ _ => ?_)
    | with_reducible refine fr_bind (fr_X9_isCorner _) (fun k j hkj => by unfold w_X9_isCorner at hkj; exact hkj.elim) ?_ (fun _ _ => ?_)
    | with_reducible refine fr_bind (fr_X9_has _ _ _) (fun k j hkj => by unfold w_X9_has at hkj; exact hkj.elim) ?_ (fun _ _ => ?_)
    | with_reducible refine fr_go ?_ (fr_X9_readsPart_222 _ _ _)
    | with_reducible refine fr_go ?_ (fr_X9_readsPart_214 _ _ _ _ _)
    | with_reducible refine fr_go ?_ (fr_X9_readsPart_158 _ _ _)
    | with_reducible refine fr_go ?_ (fr_X9_readsPart_130 (by first | exact hK11 | exact ih) _ _ _ _ _)
    | with_reducible refine fr_go ?_ (fr_X9_readsPart_101 (by first | exact hK11 | exact ih) _ _ _ _ _ _)
    | with_reducible refine fr_go ?_ (fr_X9_readsPart_54 (by first | exact hK11 | exact ih) _ _ _ _ _)
    | with_reducible refine fr_go ?_ (fr_X9_readsPart_31 (by first | exact hK11 | exact ih) _ _ _ _)
    | with_reducible refine fr_go ?_ (hK11 _ _ _ _)
    | with_reducible refine fr_go ?_ (ih _ _ _ _))
set_option maxHeartbeats 4000000 in
theorem fr_X9_readsPart : ∀ (S : zS), zFR w_X9_readsPart (f_X9_readsPart  S) S := by
  intro  S
  unfold f_X9_readsPart
  repeat' (first
    | with_reducible exact fr_none
    | with_reducible refine fr_if (fun _ => ?_) (fun _ => ?_)
    | with_reducible refine fr_some ?_
    | with_reducible refine z_fr_w ?_ (by unfold w_X9_readsPart; first | (exact Or.inr (Or.inr (Or.inr (Or.inr (Or.inr rfl))))) | (exact Or.inr (Or.inr (Or.inr (Or.inr (Or.inl ⟨rfl, rfl⟩))))))
    | with_reducible refine z_fr_u ?_ (by intro j9; unfold w_X9_readsPart; first | (exact Or.inr (Or.inr (Or.inr (Or.inr (Or.inr rfl))))) | (exact Or.inr (Or.inr (Or.inr (Or.inr (Or.inl ⟨rfl, rfl⟩))))))
    | with_reducible exact z_fr_rf
    | with_reducible assumption
    | with_reducible refine fr_bind (fr_X9_isWell _) (fun k j hkj => by unfold w_X9_isWell at hkj; exact hkj.elim) ?_ (fun _ _ => ?_)
    | with_reducible refine fr_bind (fr_X9_hasRoom _ _ _) (fun k j hkj => by unfold w_X9_hasRoom at hkj; exact hkj.elim) ?_ (fun _ _ => ?_)
    | with_reducible refine fr_bind (fr_X9_cuts _ _ _) (fun k j hkj => by unfold w_X9_cuts at hkj; unfold w_X9_readsPart; exact Or.inr (Or.inr (Or.inr (Or.inr (Or.inr hkj))))) ?_ (fun _ _ => ?_)
    | with_reducible refine fr_bind (fr_X9_takes _ _) (fun k j hkj => by unfold w_X9_takes at hkj; unfold w_X9_readsPart; rcases hkj with hkj | hkj | hkj | hkj | hkj; (exact Or.inl hkj); (exact Or.inr (Or.inl hkj)); (exact Or.inr (Or.inr (Or.inl hkj))); (exact Or.inr (Or.inr (Or.inr (Or.inl hkj)))); (exact Or.inr (Or.inr (Or.inr (Or.inr (Or.inl hkj)))))) ?_ (fun _ _ => ?_)
    | with_reducible refine fr_bind (fr_X9_isCorner _) (fun k j hkj => by unfold w_X9_isCorner at hkj; exact hkj.elim) ?_ (fun _ _ => ?_)
    | with_reducible refine fr_bind (fr_X9_has _ _ _) (fun k j hkj => by unfold w_X9_has at hkj; exact hkj.elim) ?_ (fun _ _ => ?_)
    | with_reducible refine fr_go ?_ (fr_X9_readsPart_222 _ _ _)
    | with_reducible refine fr_go ?_ (fr_X9_readsPart_214 _ _ _ _ _)
    | with_reducible refine fr_go ?_ (fr_X9_readsPart_158 _ _ _)
    | with_reducible refine fr_go ?_ (fr_X9_readsPart_130 (by first | exact hK11 | exact ih) _ _ _ _ _)
    | with_reducible refine fr_go ?_ (fr_X9_readsPart_101 (by first | exact hK11 | exact ih) _ _ _ _ _ _)
    | with_reducible refine fr_go ?_ (fr_X9_readsPart_54 (by first | exact hK11 | exact ih) _ _ _ _ _)
    | with_reducible refine fr_go ?_ (fr_X9_readsPart_31 (by first | exact hK11 | exact ih) _ _ _ _)
    | with_reducible refine fr_go ?_ (fr_X9_readsPart_11 1000 _ _ _ _)
    | with_reducible refine fr_go ?_ (hK11 _ _ _ _))
