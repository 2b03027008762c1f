def f_X9_pieces_17 : Nat → Int32 → zS → Option (Unit × zS)
  | 0, _, _ => none
  | n + 1, v1, S => if (S.1 89 0) ≤ v1 then (some ((), S)) else (if z_in v1 9 then (if (S.1 99 v1.toNatClampNeg) = v1 then ((f_X9_endsAt 89 v1 (S.1 91 0) S).bind (fun r48 => if r48.1 ≤ 0 then (f_X9_pieces_17 n (v1 + 1) r48.2) else (if z_in (r48.2.1 87 23) 9 then (f_X9_pieces_17 n (v1 + 1) (z_w (z_w r48.2 100 ((r48.2.1 87 23).toNatClampNeg) v1) 87 23 (((z_w r48.2 100 ((r48.2.1 87 23).toNatClampNeg) v1).1 87 23) + 1))) else none))) else (f_X9_pieces_17 n (v1 + 1) S)) else none)
set_option maxRecDepth 100000 in
set_option maxHeartbeats 4000000 in
theorem zd_X9_pieces_17 (V : zV) (d : Nat) : ∀ (n : Nat) (v1 : Int32) (S : zS), z_J zeV V mX9_pieces (d + 2) (f_X9_pieces_17 n v1 S) 17 [.ref 87, .int v1] [] S := by
  intro n
  induction n with
  | zero =>
    intro v1 S r hr
    cases (show (none : Option (Unit × zS)) = some r from hr)
  | succ n ih =>
    intro v1 S
    rw [f_X9_pieces_17]
    refine d_st (fun _ k => zg_iload_n dX9_pieces_17 rfl (zg_aload_n dX9_pieces_18 rfl (zs_getR dX9_pieces_19 zf_X9_13 rfl (zq_87 _) (by decide) (by decide) zr_87_9 (zg_iconst 0 dX9_pieces_22 (by decide) (zs_iald (j := 0) dX9_pieces_23 (by decide) (zq_89 _) (by decide) (by decide) k))))) ?_
    refine d_br (fun _ => zg_icmp_ge 80 dX9_pieces_24 rfl) (fun c24 => ?_) (fun c24 => ?_)
    · exact d_retV dX9_pieces_80 rfl
    · refine d_st (fun _ k => zg_aload_n dX9_pieces_27 rfl (zs_getR dX9_pieces_28 zf_X9_44 rfl (zq_87 _) (by decide) (by decide) zr_87_21 (zg_iload_n dX9_pieces_31 rfl k))) ?_
      refine d_gd (fun g32 => ?_)
      refine d_st (fun _ k => zs_iald dX9_pieces_32 (by decide) (zq_99 _) g32 rfl k) ?_
      refine d_st (fun _ k => zg_iload_n dX9_pieces_33 rfl k) ?_
      refine d_br (fun _ => zg_icmp_ne 74 dX9_pieces_34 rfl) (fun c34 => ?_) (fun c34 => ?_)
      · refine d_st (fun _ k => zg_aload_n dX9_pieces_37 rfl (zs_getR dX9_pieces_38 zf_X9_13 rfl (zq_87 _) (by decide) (by decide) zr_87_9 (zg_iload_n dX9_pieces_41 rfl (zg_aload_n dX9_pieces_42 rfl (zs_getR dX9_pieces_43 zf_X9_19 rfl (zq_87 _) (by decide) (by decide) zr_87_11 (zg_iconst 0 dX9_pieces_46 (by decide) (zs_iald (j := 0) dX9_pieces_47 (by decide) (zq_91 _) (by decide) (by decide) k))))))) ?_
        refine d_cSi (As := [_, _, _]) dX9_pieces_48 zk_X9_192 rfl rfl (Nat.le_of_ble_eq_true rfl) (Nat.le_of_ble_eq_true rfl) rfl (zd_X9_endsAt V ⟨(by decide), fun _ => (zq_89 _)⟩ d _ _ _) (fun r48 _ => ?_)
        refine d_br (fun _ => zg_if_le 74 dX9_pieces_51 rfl) (fun c51 => ?_) (fun c51 => ?_)
        · refine d_st (fun _ k => zg_iinc (ls' := [_, _]) 1 dX9_pieces_74 rfl (by decide) (Nat.le_of_ble_eq_true rfl) rfl rfl (zg_goto 17 dX9_pieces_77 rfl k)) ?_
          exact d_fg (z_le_s (z_le_s z_le_n)) (ih _ _)
        · refine d_st (fun _ k => zg_aload_n dX9_pieces_54 rfl (zs_getR dX9_pieces_55 zf_X9_47 rfl (zq_87 _) (by decide) (by decide) zr_87_22 (zg_aload_n dX9_pieces_58 rfl (zs_getI dX9_pieces_59 zf_X9_198 rfl (zq_87 _) (by decide) (by decide) (zg_iload_n dX9_pieces_62 rfl k))))) ?_
          refine d_gd (fun g63 => ?_)
          refine d_st (fun _ k => zs_iast dX9_pieces_63 (by decide) (zq_100 _) g63 rfl k) ?_
          refine d_st (fun _ k => zg_aload_n dX9_pieces_64 rfl (zg_dupr dX9_pieces_65 (zs_getI dX9_pieces_66 zf_X9_198 rfl (zq_87 _) (by decide) (by decide) (zg_iconst 1 dX9_pieces_69 (by decide) (zg_iadd dX9_pieces_70 (zs_putI dX9_pieces_71 zf_X9_198 rfl (zq_87 _) (by decide) (by decide) (zg_iinc (ls' := [_, _]) 1 dX9_pieces_74 rfl (by decide) (Nat.le_of_ble_eq_true rfl) rfl rfl (zg_goto 17 dX9_pieces_77 rfl k)))))))) ?_
          exact d_fg (z_le_s (z_le_s z_le_n)) (ih _ _)
      · refine d_st (fun _ k => zg_iinc (ls' := [_, _]) 1 dX9_pieces_74 rfl (by decide) (Nat.le_of_ble_eq_true rfl) rfl rfl (zg_goto 17 dX9_pieces_77 rfl k)) ?_
        exact d_fg (z_le_s (z_le_s z_le_n)) (ih _ _)
def f_X9_pieces (S : zS) : Option (Unit × zS) := (f_X9_roots (S.1 91 0) S).bind (fun r7 => f_X9_pieces_17 1000 0 (z_w r7.2 87 23 0))
set_option maxRecDepth 100000 in
set_option maxHeartbeats 4000000 in
theorem zd_X9_pieces (V : zV) (d : Nat) : ∀ (S : zS), z_J zeV V mX9_pieces (d + 2) (f_X9_pieces  S) 0 (z_ent mX9_pieces [.ref 87]) [] S := by
  intro S
  show z_J zeV V mX9_pieces (d + 2) (f_X9_pieces  S) 0 [.ref 87, .null] [] S
  unfold f_X9_pieces
  refine d_st (fun _ k => zg_aload_n dX9_pieces_0 rfl (zg_aload_n dX9_pieces_1 rfl (zs_getR dX9_pieces_2 zf_X9_19 rfl (zq_87 _) (by decide) (by decide) zr_87_11 (zg_iconst 0 dX9_pieces_5 (by decide) (zs_iald (j := 0) dX9_pieces_6 (by decide) (zq_91 _) (by decide) (by decide) k))))) ?_
  refine d_cVv (As := [_]) dX9_pieces_7 zk_X9_195 (zq_87 _) (by decide) ⟨_, _, rfl⟩ rfl rfl (Nat.le_of_ble_eq_true rfl) (Nat.le_of_ble_eq_true rfl) rfl (zd_X9_roots V d _ _) (fun r7 _ => ?_)
  refine d_st (fun _ k => zg_aload_n dX9_pieces_10 rfl (zg_iconst 0 dX9_pieces_11 (by decide) (zs_putI dX9_pieces_12 zf_X9_198 rfl (zq_87 _) (by decide) (by decide) (zg_iconst 0 dX9_pieces_15 (by decide) (zg_istore_n (ls' := [_, _]) dX9_pieces_16 (Nat.le_of_ble_eq_true rfl) rfl rfl k))))) ?_
  exact d_fg (z_le_s (z_le_s z_le_n)) (zd_X9_pieces_17 V d 1000 _ _)
def f_X9_way_49 (v4 : Int32) (t0 : Int32) (S : zS) : Option (Int32 × zS) := if 0 ≤ v4 then (some (t0 + v4, S)) else (some (t0 + (-v4), S))
set_option maxRecDepth 100000 in
set_option maxHeartbeats 4000000 in
theorem zd_X9_way_49 (V : zV) (d : Nat) : ∀ (v4 : Int32) (t0 : Int32) (S : zS), z_J zeI V mX9_way (d) (f_X9_way_49 v4 t0 S) 49 [.null, .null, .null, .null, .int v4] [.int t0] S := by
  intro v4 t0 S
  unfold f_X9_way_49
  refine d_st (fun _ k => zg_iload dX9_way_49 rfl k) ?_
  refine d_br (fun _ => zg_if_ge 60 dX9_way_51 rfl) (fun c51 => ?_) (fun c51 => ?_)
  · refine d_st (fun _ k => zg_iload dX9_way_60 rfl (zg_iadd dX9_way_62 k)) ?_
    exact d_retI dX9_way_63 rfl
  · refine d_st (fun _ k => zg_iload dX9_way_54 rfl (zg_ineg dX9_way_56 (zg_goto 62 dX9_way_57 rfl (zg_iadd dX9_way_62 k)))) ?_
    exact d_retI dX9_way_63 rfl
def f_X9_way (a1 : Int32) (a2 : Int32) (S : zS) : Option (Int32 × zS) := if z_in (4 + a1) 74 then (if z_in (4 + a2) 74 then (if z_in (13 + a1) 74 then (if z_in (13 + a2) 74 then (if 0 ≤ ((S.1 89 (4 + a1).toNatClampNeg) - (S.1 89 (4 + a2).toNatClampNeg)) then (f_X9_way_49 ((S.1 89 (13 + a1).toNatClampNeg) - (S.1 89 (13 + a2).toNatClampNeg)) ((S.1 89 (4 + a1).toNatClampNeg) - (S.1 89 (4 + a2).toNatClampNeg)) S) else (f_X9_way_49 ((S.1 89 (13 + a1).toNatClampNeg) - (S.1 89 (13 + a2).toNatClampNeg)) (-((S.1 89 (4 + a1).toNatClampNeg) - (S.1 89 (4 + a2).toNatClampNeg))) S)) else none) else none) else none) else none
set_option maxRecDepth 100000 in
set_option maxHeartbeats 4000000 in
theorem zd_X9_way (V : zV) (d : Nat) : ∀ (a1 : Int32) (a2 : Int32) (S : zS), z_J zeI V mX9_way (d) (f_X9_way a1 a2 S) 0 (z_ent mX9_way [.ref 87, .int a1, .int a2]) [] S := by
  intro a1 a2 S
  show z_J zeI V mX9_way (d) (f_X9_way a1 a2 S) 0 [.ref 87, .int a1, .int a2, .null, .null] [] S
  unfold f_X9_way
  refine d_st (fun _ k => zg_aload_n dX9_way_0 rfl (zs_getR dX9_way_1 zf_X9_13 rfl (zq_87 _) (by decide) (by decide) zr_87_9 (zg_iconst 4 dX9_way_4 (by decide) (zg_iload_n dX9_way_5 rfl (zg_iadd dX9_way_6 k))))) ?_
  refine d_gd (fun g7 => ?_)
  refine d_st (fun _ k => zs_iald dX9_way_7 (by decide) (zq_89 _) g7 rfl k) ?_
  refine d_st (fun _ k => zg_aload_n dX9_way_8 rfl (zs_getR dX9_way_9 zf_X9_13 rfl (zq_87 _) (by decide) (by decide) zr_87_9 (zg_iconst 4 dX9_way_12 (by decide) (zg_iload_n dX9_way_13 rfl (zg_iadd dX9_way_14 k))))) ?_
  refine d_gd (fun g15 => ?_)
  refine d_st (fun _ k => zs_iald dX9_way_15 (by decide) (zq_89 _) g15 rfl k) ?_
  refine d_st (fun _ k => zg_isub dX9_way_16 (zg_istore_n (ls' := [_, _, _, _, _]) dX9_way_17 (Nat.le_of_ble_eq_true rfl) rfl rfl (zg_aload_n dX9_way_18 rfl (zs_getR dX9_way_19 zf_X9_13 rfl (zq_87 _) (by decide) (by decide) zr_87_9 (zg_bipush 13 dX9_way_22 (by decide) (zg_iload_n dX9_way_24 rfl (zg_iadd dX9_way_25 k))))))) ?_
  refine d_gd (fun g26 => ?_)
  refine d_st (fun _ k => zs_iald dX9_way_26 (by decide) (zq_89 _) g26 rfl k) ?_
  refine d_st (fun _ k => zg_aload_n dX9_way_27 rfl (zs_getR dX9_way_28 zf_X9_13 rfl (zq_87 _) (by decide) (by decide) zr_87_9 (zg_bipush 13 dX9_way_31 (by decide) (zg_iload_n dX9_way_33 rfl (zg_iadd dX9_way_34 k))))) ?_
  refine d_gd (fun g35 => ?_)
  refine d_st (fun _ k => zs_iald dX9_way_35 (by decide) (zq_89 _) g35 rfl k) ?_
  refine d_st (fun _ k => zg_isub dX9_way_36 (zg_istore (ls' := [_, _, _, _, _]) dX9_way_37 (Nat.le_of_ble_eq_true rfl) rfl rfl (zg_iload_n dX9_way_39 rfl k))) ?_
  refine d_br (fun _ => zg_if_ge 48 dX9_way_40 rfl) (fun c40 => ?_) (fun c40 => ?_)
  · refine d_st (fun _ k => zg_iload_n dX9_way_48 rfl k) ?_
    exact d_fg (z_le_0 (z_le_0 (z_le_0 (z_le_0 (z_le_s z_le_n))))) (zd_X9_way_49 V d _ _ _)
  · refine d_st (fun _ k => zg_iload_n dX9_way_43 rfl (zg_ineg dX9_way_44 (zg_goto 49 dX9_way_45 rfl k))) ?_
    exact d_fg (z_le_0 (z_le_0 (z_le_0 (z_le_0 (z_le_s z_le_n))))) (zd_X9_way_49 V d _ _ _)
def f_X9_pieceOf_2 : Nat → Int32 → Int32 → zS → Option (Int32 × zS)
  | 0, _, _, _ => none
  | n + 1, v1, v2, S => if z_in v2 9 then (if z_in (22 + v1) 74 then (if z_in (S.1 89 (22 + v1).toNatClampNeg) 9 then (if (S.1 100 v2.toNatClampNeg) = (S.1 99 (S.1 89 (22 + v1).toNatClampNeg).toNatClampNeg) then (some (v2, S)) else (f_X9_pieceOf_2 n v1 (v2 + 1) S)) else none) else none) else none
set_option maxRecDepth 100000 in
set_option maxHeartbeats 4000000 in
theorem zd_X9_pieceOf_2 (V : zV) (d : Nat) : ∀ (n : Nat) (v1 : Int32) (v2 : Int32) (S : zS), z_J zeI V mX9_pieceOf (d) (f_X9_pieceOf_2 n v1 v2 S) 2 [.ref 87, .int v1, .int v2] [] S := by
  intro n
  induction n with
  | zero =>
    intro v1 v2 S r hr
    cases (show (none : Option (Int32 × zS)) = some r from hr)
  | succ n ih =>
    intro v1 v2 S
    rw [f_X9_pieceOf_2]
    refine d_st (fun _ k => zg_aload_n dX9_pieceOf_2 rfl (zs_getR dX9_pieceOf_3 zf_X9_47 rfl (zq_87 _) (by decide) (by decide) zr_87_22 (zg_iload_n dX9_pieceOf_6 rfl k))) ?_
    refine d_gd (fun g7 => ?_)
    refine d_st (fun _ k => zs_iald dX9_pieceOf_7 (by decide) (zq_100 _) g7 rfl k) ?_
    refine d_st (fun _ k => zg_aload_n dX9_pieceOf_8 rfl (zs_getR dX9_pieceOf_9 zf_X9_44 rfl (zq_87 _) (by decide) (by decide) zr_87_21 (zg_aload_n dX9_pieceOf_12 rfl (zs_getR dX9_pieceOf_13 zf_X9_13 rfl (zq_87 _) (by decide) (by decide) zr_87_9 (zg_bipush 22 dX9_pieceOf_16 (by decide) (zg_iload_n dX9_pieceOf_18 rfl (zg_iadd dX9_pieceOf_19 k))))))) ?_
    refine d_gd (fun g20 => ?_)
    refine d_st (fun _ k => zs_iald dX9_pieceOf_20 (by decide) (zq_89 _) g20 rfl k) ?_
    refine d_gd (fun g21 => ?_)
    refine d_st (fun _ k => zs_iald dX9_pieceOf_21 (by decide) (zq_99 _) g21 rfl k) ?_
    refine d_br (fun _ => zg_icmp_eq 31 dX9_pieceOf_22 rfl) (fun c22 => ?_) (fun c22 => ?_)
    · refine d_st (fun _ k => zg_iload_n dX9_pieceOf_31 rfl k) ?_
      exact d_retI dX9_pieceOf_32 rfl
    · refine d_st (fun _ k => zg_iinc (ls' := [_, _, _]) 1 dX9_pieceOf_25 rfl (by decide) (Nat.le_of_ble_eq_true rfl) rfl rfl (zg_goto 2 dX9_pieceOf_28 rfl k)) ?_
      exact d_fg (z_le_s (z_le_s (z_le_s z_le_n))) (ih _ _ _)
def f_X9_pieceOf (a1 : Int32) (S : zS) : Option (Int32 × zS) := f_X9_pieceOf_2 1000 a1 0 S
set_option maxRecDepth 100000 in
set_option maxHeartbeats 4000000 in
theorem zd_X9_pieceOf (V : zV) (d : Nat) : ∀ (a1 : Int32) (S : zS), z_J zeI V mX9_pieceOf (d) (f_X9_pieceOf a1 S) 0 (z_ent mX9_pieceOf [.ref 87, .int a1]) [] S := by
  intro a1 S
  show z_J zeI V mX9_pieceOf (d) (f_X9_pieceOf a1 S) 0 [.ref 87, .int a1, .null] [] S
  unfold f_X9_pieceOf
  refine d_st (fun _ k => zg_iconst 0 dX9_pieceOf_0 (by decide) (zg_istore_n (ls' := [_, _, _]) dX9_pieceOf_1 (Nat.le_of_ble_eq_true rfl) rfl rfl k)) ?_
  exact d_fg (z_le_s (z_le_s (z_le_s z_le_n))) (zd_X9_pieceOf_2 V d 1000 _ _ _)
def f_X9_cut (a1 : Int32) (a2 : Int32) (S : zS) : Option (Int32 × zS) := (f_X9_in a1 0 (((z_w S 87 0 0).1 89 1) - 1) (z_w S 87 0 0)).bind (fun r15 => if r15.1 = 0 then (some ((-1), r15.2)) else ((f_X9_in a2 0 4 r15.2).bind (fun r24 => if r24.1 = 0 then (some ((-1), r24.2)) else (if 3 ≤ a2 then ((f_X9_pieces  r24.2).bind (fun r82 => if a2 = 4 then (if z_in (22 + a1) 74 then (if z_in (36 + a1) 74 then ((f_X9_way (r82.2.1 89 (22 + a1).toNatClampNeg) (r82.2.1 89 (36 + a1).toNatClampNeg) r82.2).bind (fun r109 => some (r109.1, r109.2))) else none) else none) else ((f_X9_has (r82.2.1 91 0) a1 r82.2).bind (fun r122 => if r122.1 = 0 then (some ((-9), r122.2)) else ((f_X9_pieceOf a1 r122.2).bind (fun r130 => some (r130.1, r130.2))))))) else (if a2 = 0 then (if z_in (22 + a1) 74 then (some (r24.2.1 89 (22 + a1).toNatClampNeg, r24.2)) else none) else (if a2 = 1 then (if z_in (36 + a1) 74 then (some (r24.2.1 89 (36 + a1).toNatClampNeg, r24.2)) else none) else (some (((r24.2.1 91 0) >>> (a1 &&& 31)) &&& 1, r24.2))))))))
set_option maxRecDepth 100000 in
set_option maxHeartbeats 4000000 in
theorem zd_X9_cut (V : zV) (d : Nat) : ∀ (a1 : Int32) (a2 : Int32) (S : zS), z_J zeI V mX9_cut (d + 3) (f_X9_cut a1 a2 S) 0 (z_ent mX9_cut [.ref 87, .int a1, .int a2]) [] S := by
  intro a1 a2 S
  show z_J zeI V mX9_cut (d + 3) (f_X9_cut a1 a2 S) 0 [.ref 87, .int a1, .int a2] [] S
  unfold f_X9_cut
  refine d_st (fun _ k => zg_aload_n dX9_cut_0 rfl (zg_iconst 0 dX9_cut_1 (by decide) (zs_putI dX9_cut_2 zf_X9_80 rfl (zq_87 _) (by decide) (by decide) (zg_iload_n dX9_cut_5 rfl (zg_iconst 0 dX9_cut_6 (by decide) (zg_aload_n dX9_cut_7 rfl (zs_getR dX9_cut_8 zf_X9_13 rfl (zq_87 _) (by decide) (by decide) zr_87_9 (zg_iconst 1 dX9_cut_11 (by decide) (zs_iald (j := 1) dX9_cut_12 (by decide) (zq_89 _) (by decide) (by decide) (zg_iconst 1 dX9_cut_13 (by decide) (zg_isub dX9_cut_14 k))))))))))) ?_
  refine d_cSi (As := [_, _, _]) dX9_cut_15 zk_X9_88 rfl rfl (Nat.le_of_ble_eq_true rfl) (Nat.le_of_ble_eq_true rfl) rfl (zd_X9_in V (d + 2) _ _ _ _) (fun r15 _ => ?_)
  refine d_br (fun _ => zg_if_eq 30 dX9_cut_18 rfl) (fun c18 => ?_) (fun c18 => ?_)
  · refine d_st (fun _ k => zg_iconst (-1) dX9_cut_30 (by decide) k) ?_
    exact d_retI dX9_cut_31 rfl
  · refine d_st (fun _ k => zg_iload_n dX9_cut_21 rfl (zg_iconst 0 dX9_cut_22 (by decide) (zg_iconst 4 dX9_cut_23 (by decide) k))) ?_
    refine d_cSi (As := [_, _, _]) dX9_cut_24 zk_X9_88 rfl rfl (Nat.le_of_ble_eq_true rfl) (Nat.le_of_ble_eq_true rfl) rfl (zd_X9_in V (d + 2) _ _ _ _) (fun r24 _ => ?_)
    refine d_br (fun _ => zg_if_ne 32 dX9_cut_27 rfl) (fun c27 => ?_) (fun c27 => ?_)
    · refine d_st (fun _ k => zg_iconst (-1) dX9_cut_30 (by decide) k) ?_
      exact d_retI dX9_cut_31 rfl
    · refine d_st (fun _ k => zg_iload_n dX9_cut_32 rfl (zg_iconst 3 dX9_cut_33 (by decide) k)) ?_
      refine d_br (fun _ => zg_icmp_ge 81 dX9_cut_34 rfl) (fun c34 => ?_) (fun c34 => ?_)
      · refine d_st (fun _ k => zg_aload_n dX9_cut_81 rfl k) ?_
        refine d_cVv (As := []) dX9_cut_82 zk_X9_201 (zq_87 _) (by decide) ⟨_, _, rfl⟩ rfl rfl (Nat.le_of_ble_eq_true rfl) (Nat.le_of_ble_eq_true rfl) rfl (zd_X9_pieces V d _) (fun r82 _ => ?_)
        refine d_st (fun _ k => zg_iload_n dX9_cut_85 rfl (zg_iconst 4 dX9_cut_86 (by decide) k)) ?_
        refine d_br (fun _ => zg_icmp_ne 115 dX9_cut_87 rfl) (fun c87 => ?_) (fun c87 => ?_)
        · refine d_st (fun _ k => zg_aload_n dX9_cut_90 rfl (zg_aload_n dX9_cut_91 rfl (zs_getR dX9_cut_92 zf_X9_13 rfl (zq_87 _) (by decide) (by decide) zr_87_9 (zg_bipush 22 dX9_cut_95 (by decide) (zg_iload_n dX9_cut_97 rfl (zg_iadd dX9_cut_98 k)))))) ?_
          refine d_gd (fun g99 => ?_)
          refine d_st (fun _ k => zs_iald dX9_cut_99 (by decide) (zq_89 _) g99 rfl k) ?_
          refine d_st (fun _ k => zg_aload_n dX9_cut_100 rfl (zs_getR dX9_cut_101 zf_X9_13 rfl (zq_87 _) (by decide) (by decide) zr_87_9 (zg_bipush 36 dX9_cut_104 (by decide) (zg_iload_n dX9_cut_106 rfl (zg_iadd dX9_cut_107 k))))) ?_
          refine d_gd (fun g108 => ?_)
          refine d_st (fun _ k => zs_iald dX9_cut_108 (by decide) (zq_89 _) g108 rfl k) ?_
          refine d_cVi (As := [_, _]) dX9_cut_109 zk_X9_204 (zq_87 _) (by decide) ⟨_, _, rfl⟩ rfl rfl (Nat.le_of_ble_eq_true rfl) (Nat.le_of_ble_eq_true rfl) rfl (zd_X9_way V (d + 2) _ _ _) (fun r109 _ => ?_)
          refine d_st (fun _ k => zg_goto 138 dX9_cut_112 rfl k) ?_
          exact d_retI dX9_cut_138 rfl
        · refine d_st (fun _ k => zg_aload_n dX9_cut_115 rfl (zs_getR dX9_cut_116 zf_X9_19 rfl (zq_87 _) (by decide) (by decide) zr_87_11 (zg_iconst 0 dX9_cut_119 (by decide) (zs_iald (j := 0) dX9_cut_120 (by decide) (zq_91 _) (by decide) (by decide) (zg_iload_n dX9_cut_121 rfl k))))) ?_
          refine d_cSi (As := [_, _]) dX9_cut_122 zk_X9_84 rfl rfl (Nat.le_of_ble_eq_true rfl) (Nat.le_of_ble_eq_true rfl) rfl (zd_X9_has V (d + 2) _ _ _) (fun r122 _ => ?_)
          refine d_br (fun _ => zg_if_eq 136 dX9_cut_125 rfl) (fun c125 => ?_) (fun c125 => ?_)
          · refine d_st (fun _ k => zg_bipush (-9) dX9_cut_136 (by decide) k) ?_
            exact d_retI dX9_cut_138 rfl
          · refine d_st (fun _ k => zg_aload_n dX9_cut_128 rfl (zg_iload_n dX9_cut_129 rfl k)) ?_
            refine d_cVi (As := [_]) dX9_cut_130 zk_X9_207 (zq_87 _) (by decide) ⟨_, _, rfl⟩ rfl rfl (Nat.le_of_ble_eq_true rfl) (Nat.le_of_ble_eq_true rfl) rfl (zd_X9_pieceOf V (d + 2) _ _) (fun r130 _ => ?_)
            refine d_st (fun _ k => zg_goto 138 dX9_cut_133 rfl k) ?_
            exact d_retI dX9_cut_138 rfl
      · refine d_st (fun _ k => zg_iload_n dX9_cut_37 rfl k) ?_
        refine d_br (fun _ => zg_if_ne 53 dX9_cut_38 rfl) (fun c38 => ?_) (fun c38 => ?_)
        · refine d_st (fun _ k => zg_aload_n dX9_cut_41 rfl (zs_getR dX9_cut_42 zf_X9_13 rfl (zq_87 _) (by decide) (by decide) zr_87_9 (zg_bipush 22 dX9_cut_45 (by decide) (zg_iload_n dX9_cut_47 rfl (zg_iadd dX9_cut_48 k))))) ?_
          refine d_gd (fun g49 => ?_)
          refine d_st (fun _ k => zs_iald dX9_cut_49 (by decide) (zq_89 _) g49 rfl k) ?_
          refine d_st (fun _ k => zg_goto 80 dX9_cut_50 rfl k) ?_
          exact d_retI dX9_cut_80 rfl
        · refine d_st (fun _ k => zg_iload_n dX9_cut_53 rfl (zg_iconst 1 dX9_cut_54 (by decide) k)) ?_
          refine d_br (fun _ => zg_icmp_ne 70 dX9_cut_55 rfl) (fun c55 => ?_) (fun c55 => ?_)
          · refine d_st (fun _ k => zg_aload_n dX9_cut_58 rfl (zs_getR dX9_cut_59 zf_X9_13 rfl (zq_87 _) (by decide) (by decide) zr_87_9 (zg_bipush 36 dX9_cut_62 (by decide) (zg_iload_n dX9_cut_64 rfl (zg_iadd dX9_cut_65 k))))) ?_
            refine d_gd (fun g66 => ?_)
            refine d_st (fun _ k => zs_iald dX9_cut_66 (by decide) (zq_89 _) g66 rfl k) ?_
            refine d_st (fun _ k => zg_goto 80 dX9_cut_67 rfl k) ?_
            exact d_retI dX9_cut_80 rfl
          · refine d_st (fun _ k => zg_aload_n dX9_cut_70 rfl (zs_getR dX9_cut_71 zf_X9_19 rfl (zq_87 _) (by decide) (by decide) zr_87_11 (zg_iconst 0 dX9_cut_74 (by decide) (zs_iald (j := 0) dX9_cut_75 (by decide) (zq_91 _) (by decide) (by decide) (zg_iload_n dX9_cut_76 rfl (zg_ishr dX9_cut_77 (zg_iconst 1 dX9_cut_78 (by decide) (zg_iand dX9_cut_79 k)))))))) ?_
            exact d_retI dX9_cut_80 rfl
def f_X8_part (a1 : Int32) (a2 : Int32) (S : zS) : Option (Int32 × zS) := if a1 < 0 then (some ((-1), S)) else (if z_isP S.2.1 then (if a1 < (S.1 S.2.1 7) then (if a2 = 0 then (if z_isP S.2.1 then (if z_in a1 4 then (some (S.1 (S.2.1 + 6) a1.toNatClampNeg, S)) else none) else none) else (if a2 = 1 then (if z_isP S.2.1 then (if z_in a1 4 then ((f_J6_bitCount_0f7a4 ((S.1 (S.2.1 + 12) a1.toNatClampNeg) &&& (S.1 32 0)) S).bind (fun r71 => some (r71.1, r71.2))) else none) else none) else (if a2 = 2 then (if z_isP S.2.1 then (if z_in a1 4 then (some (S.1 (S.2.1 + 13) a1.toNatClampNeg, S)) else none) else none) else (some ((-1), S))))) else (some ((-1), S))) else none)
set_option maxRecDepth 100000 in
set_option maxHeartbeats 4000000 in
theorem zd_X8_part (V : zV) (d : Nat) : ∀ (a1 : Int32) (a2 : Int32) (S : zS), z_J zeI V mX8_part (d + 1) (f_X8_part a1 a2 S) 0 (z_ent mX8_part [.ref 1, .int a1, .int a2]) [] S := by
  intro a1 a2 S
  show z_J zeI V mX8_part (d + 1) (f_X8_part a1 a2 S) 0 [.ref 1, .int a1, .int a2] [] S
  unfold f_X8_part
  refine d_st (fun _ k => zg_iload_n dX8_part_0 rfl k) ?_
  refine d_br (fun _ => zg_if_lt 15 dX8_part_1 rfl) (fun c1 => ?_) (fun c1 => ?_)
  · refine d_st (fun _ k => zg_iconst (-1) dX8_part_15 (by decide) k) ?_
    exact d_retI dX8_part_16 rfl
  · refine d_st (fun _ k => zg_iload_n dX8_part_4 rfl (zg_aload_n dX8_part_5 rfl k)) ?_
    refine d_gd (fun g6 => ?_)
    refine d_st (fun _ k => zs_getR dX8_part_6 zf_X8_20 rfl (zq_1 _) (by decide) (by decide) zr_pl k) ?_
    refine d_st (fun _ k => zs_getI dX8_part_9 zf_X8_138 rfl (zp_o g6 _) (by decide) (by decide) k) ?_
    refine d_br (fun _ => zg_icmp_lt 17 dX8_part_12 rfl) (fun c12 => ?_) (fun c12 => ?_)
    · refine d_st (fun _ k => zg_iload_n dX8_part_17 rfl k) ?_
      refine d_if (fun s18_0 => ?_) (fun s18_0 => ?_)
      · refine d_st (fun _ k => zg_tableIn 44 dX8_part_18 (by rw [s18_0]; decide) (by rw [s18_0]; decide) (by rw [s18_0]; rfl) rfl k) ?_
        refine d_st (fun _ k => zg_aload_n dX8_part_44 rfl k) ?_
        refine d_gd (fun g45 => ?_)
        refine d_st (fun _ k => zs_getR dX8_part_45 zf_X8_20 rfl (zq_1 _) (by decide) (by decide) zr_pl k) ?_
        refine d_st (fun _ k => zs_getR dX8_part_48 zf_X8_141 rfl (zp_o g45 _) (by decide) (by decide) (zp_r8 g45) (zg_iload_n dX8_part_51 rfl k)) ?_
        refine d_gd (fun g52 => ?_)
        refine d_st (fun _ k => zs_iald dX8_part_52 (zp_p6 g45) (zp_6 g45 _) g52 rfl k) ?_
        exact d_retI dX8_part_53 rfl
      refine d_if (fun s18_1 => ?_) (fun s18_1 => ?_)
      · refine d_st (fun _ k => zg_tableIn 54 dX8_part_18 (by rw [s18_1]; decide) (by rw [s18_1]; decide) (by rw [s18_1]; rfl) rfl k) ?_
        refine d_st (fun _ k => zg_aload_n dX8_part_54 rfl k) ?_
        refine d_gd (fun g55 => ?_)
        refine d_st (fun _ k => zs_getR dX8_part_55 zf_X8_20 rfl (zq_1 _) (by decide) (by decide) zr_pl k) ?_
        refine d_st (fun _ k => zs_getR dX8_part_58 zf_X8_144 rfl (zp_o g55 _) (by decide) (by decide) (zp_r10 g55) (zg_iload_n dX8_part_61 rfl k)) ?_
        refine d_gd (fun g62 => ?_)
        refine d_st (fun _ k => zs_iald dX8_part_62 (zp_p12 g55) (zp_12 g55 _) g62 rfl k) ?_
        refine d_st (fun _ k => zg_aload_n dX8_part_63 rfl (zs_getR dX8_part_64 zf_X8_37 rfl (zq_1 _) (by decide) (by decide) zr_1_5 (zs_getI dX8_part_67 zf_X8_104 rfl (zq_32 _) (by decide) (by decide) (zg_iand dX8_part_70 k)))) ?_
        refine d_cSi (As := [_]) dX8_part_71 zk_X8_147 rfl rfl (Nat.le_of_ble_eq_true rfl) (Nat.le_of_ble_eq_true rfl) rfl (zd_J6_bitCount_0f7a4 V d _ _) (fun r71 _ => ?_)
        exact d_retI dX8_part_74 rfl
      refine d_if (fun s18_2 => ?_) (fun s18_2 => ?_)
      · refine d_st (fun _ k => zg_tableIn 75 dX8_part_18 (by rw [s18_2]; decide) (by rw [s18_2]; decide) (by rw [s18_2]; rfl) rfl k) ?_
        refine d_st (fun _ k => zg_aload_n dX8_part_75 rfl k) ?_
        refine d_gd (fun g76 => ?_)
        refine d_st (fun _ k => zs_getR dX8_part_76 zf_X8_20 rfl (zq_1 _) (by decide) (by decide) zr_pl k) ?_
        refine d_st (fun _ k => zs_getR dX8_part_79 zf_X8_152 rfl (zp_o g76 _) (by decide) (by decide) (zp_r11 g76) (zg_iload_n dX8_part_82 rfl k)) ?_
        refine d_gd (fun g83 => ?_)
        refine d_st (fun _ k => zs_iald dX8_part_83 (zp_p13 g76) (zp_13 g76 _) g83 rfl k) ?_
        exact d_retI dX8_part_84 rfl
      refine d_st (fun _ k => zg_tableOut 85 dX8_part_18 (z_tb2 s18_0 s18_1 s18_2) rfl k) ?_
      refine d_st (fun _ k => zg_iconst (-1) dX8_part_85 (by decide) k) ?_
      exact d_retI dX8_part_86 rfl
    · refine d_st (fun _ k => zg_iconst (-1) dX8_part_15 (by decide) k) ?_
      exact d_retI dX8_part_16 rfl
def f_X9_cutsOfPart_4 : Nat → Int32 → Int32 → Int32 → zS → Option (Int32 × zS)
  | 0, _, _, _, _ => none
  | n + 1, v1, v2, v3, S => if z_in (50 + v1) 74 then (if (S.1 89 (50 + v1).toNatClampNeg) ≤ v3 then (some (v2, S)) else ((f_X9_ringAt v1 v3 S).bind (fun r26 => (f_X9_ringAt v1 (v3 + 1) r26.2).bind (fun r34 => (f_X9_cutOf 89 r26.1 r34.1 r34.2).bind (fun r37 => f_X9_cutsOfPart_4 n v1 (v2 ||| ((1 : Int32) <<< (r37.1 &&& 31))) (v3 + 1) r37.2))))) else none
set_option maxRecDepth 100000 in
set_option maxHeartbeats 4000000 in
theorem zd_X9_cutsOfPart_4 (V : zV) (d : Nat) : ∀ (n : Nat) (v1 : Int32) (v2 : Int32) (v3 : Int32) (S : zS), z_J zeI V mX9_cutsOfPart (d + 1) (f_X9_cutsOfPart_4 n v1 v2 v3 S) 4 [.ref 87, .int v1, .int v2, .int v3] [] S := by
  intro n
  induction n with
  | zero =>
    intro v1 v2 v3 S r hr
    cases (show (none : Option (Int32 × zS)) = some r from hr)
  | succ n ih =>
    intro v1 v2 v3 S
    rw [f_X9_cutsOfPart_4]
    refine d_st (fun _ k => zg_iload_n dX9_cutsOfPart_4 rfl (zg_aload_n dX9_cutsOfPart_5 rfl (zs_getR dX9_cutsOfPart_6 zf_X9_13 rfl (zq_87 _) (by decide) (by decide) zr_87_9 (zg_bipush 50 dX9_cutsOfPart_9 (by decide) (zg_iload_n dX9_cutsOfPart_11 rfl (zg_iadd dX9_cutsOfPart_12 k)))))) ?_
    refine d_gd (fun g13 => ?_)
    refine d_st (fun _ k => zs_iald dX9_cutsOfPart_13 (by decide) (zq_89 _) g13 rfl k) ?_
    refine d_br (fun _ => zg_icmp_ge 49 dX9_cutsOfPart_14 rfl) (fun c14 => ?_) (fun c14 => ?_)
    · refine d_st (fun _ k => zg_iload_n dX9_cutsOfPart_49 rfl k) ?_
      exact d_retI dX9_cutsOfPart_50 rfl
    · refine d_st (fun _ k => zg_iload_n dX9_cutsOfPart_17 rfl (zg_iconst 1 dX9_cutsOfPart_18 (by decide) (zg_aload_n dX9_cutsOfPart_19 rfl (zs_getR dX9_cutsOfPart_20 zf_X9_13 rfl (zq_87 _) (by decide) (by decide) zr_87_9 (zg_aload_n dX9_cutsOfPart_23 rfl (zg_iload_n dX9_cutsOfPart_24 rfl (zg_iload_n dX9_cutsOfPart_25 rfl k))))))) ?_
      refine d_cVi (As := [_, _]) dX9_cutsOfPart_26 zk_X9_181 (zq_87 _) (by decide) ⟨_, _, rfl⟩ rfl rfl (Nat.le_of_ble_eq_true rfl) (Nat.le_of_ble_eq_true rfl) rfl (zd_X9_ringAt V d _ _ _) (fun r26 _ => ?_)
      refine d_st (fun _ k => zg_aload_n dX9_cutsOfPart_29 rfl (zg_iload_n dX9_cutsOfPart_30 rfl (zg_iload_n dX9_cutsOfPart_31 rfl (zg_iconst 1 dX9_cutsOfPart_32 (by decide) (zg_iadd dX9_cutsOfPart_33 k))))) ?_
      refine d_cVi (As := [_, _]) dX9_cutsOfPart_34 zk_X9_181 (zq_87 _) (by decide) ⟨_, _, rfl⟩ rfl rfl (Nat.le_of_ble_eq_true rfl) (Nat.le_of_ble_eq_true rfl) rfl (zd_X9_ringAt V d _ _ _) (fun r34 _ => ?_)
      refine d_cSi (As := [_, _, _]) dX9_cutsOfPart_37 zk_X9_125 rfl rfl (Nat.le_of_ble_eq_true rfl) (Nat.le_of_ble_eq_true rfl) rfl (zd_X9_cutOf V ⟨(by decide), fun _ => (zq_89 _)⟩ d _ _ _) (fun r37 _ => ?_)
      refine d_st (fun _ k => zg_ishl dX9_cutsOfPart_40 (zg_ior dX9_cutsOfPart_41 (zg_istore_n (ls' := [_, _, _, _]) dX9_cutsOfPart_42 (Nat.le_of_ble_eq_true rfl) rfl rfl (zg_iinc (ls' := [_, _, _, _]) 1 dX9_cutsOfPart_43 rfl (by decide) (Nat.le_of_ble_eq_true rfl) rfl rfl (zg_goto 4 dX9_cutsOfPart_46 rfl k))))) ?_
      exact d_fg (z_le_s (z_le_s (z_le_s (z_le_s z_le_n)))) (ih _ _ _ _)
def f_X9_cutsOfPart (a1 : Int32) (S : zS) : Option (Int32 × zS) := f_X9_cutsOfPart_4 1000 a1 0 0 S
set_option maxRecDepth 100000 in
set_option maxHeartbeats 4000000 in
theorem zd_X9_cutsOfPart (V : zV) (d : Nat) : ∀ (a1 : Int32) (S : zS), z_J zeI V mX9_cutsOfPart (d + 1) (f_X9_cutsOfPart a1 S) 0 (z_ent mX9_cutsOfPart [.ref 87, .int a1]) [] S := by
  intro a1 S
  show z_J zeI V mX9_cutsOfPart (d + 1) (f_X9_cutsOfPart a1 S) 0 [.ref 87, .int a1, .null, .null] [] S
  unfold f_X9_cutsOfPart
  refine d_st (fun _ k => zg_iconst 0 dX9_cutsOfPart_0 (by decide) (zg_istore_n (ls' := [_, _, _, _]) dX9_cutsOfPart_1 (Nat.le_of_ble_eq_true rfl) rfl rfl (zg_iconst 0 dX9_cutsOfPart_2 (by decide) (zg_istore_n (ls' := [_, _, _, _]) dX9_cutsOfPart_3 (Nat.le_of_ble_eq_true rfl) rfl rfl k)))) ?_
  exact d_fg (z_le_s (z_le_s (z_le_s (z_le_s z_le_n)))) (zd_X9_cutsOfPart_4 V d 1000 _ _ _ _)
def f_X9_ones_4 : Nat → Int32 → Int32 → zS → Option (Int32 × zS)
  | 0, _, _, _ => none
  | n + 1, v1, v2, S => if v2 = 0 then (some (v1, S)) else (f_X9_ones_4 n (v1 + 1) (v2 &&& (v2 - 1)) S)
set_option maxRecDepth 100000 in
set_option maxHeartbeats 4000000 in
theorem zd_X9_ones_4 (V : zV) (d : Nat) : ∀ (n : Nat) (v1 : Int32) (v2 : Int32) (S : zS), z_J zeI V mX9_ones (d) (f_X9_ones_4 n v1 v2 S) 4 [.null, .int v1, .int v2] [] S := by
  intro n
  induction n with
  | zero =>
    intro v1 v2 S r hr
    cases (show (none : Option (Int32 × zS)) = some r from hr)
  | succ n ih =>
    intro v1 v2 S
    rw [f_X9_ones_4]
    refine d_st (fun _ k => zg_iload_n dX9_ones_4 rfl k) ?_
    refine d_br (fun _ => zg_if_eq 20 dX9_ones_5 rfl) (fun c5 => ?_) (fun c5 => ?_)
    · refine d_st (fun _ k => zg_iload_n dX9_ones_20 rfl k) ?_
      exact d_retI dX9_ones_21 rfl
    · refine d_st (fun _ k => zg_iinc (ls' := [_, _, _]) 1 dX9_ones_8 rfl (by decide) (Nat.le_of_ble_eq_true rfl) rfl rfl (zg_iload_n dX9_ones_11 rfl (zg_iload_n dX9_ones_12 rfl (zg_iconst 1 dX9_ones_13 (by decide) (zg_isub dX9_ones_14 (zg_iand dX9_ones_15 (zg_istore_n (ls' := [_, _, _]) dX9_ones_16 (Nat.le_of_ble_eq_true rfl) rfl rfl (zg_goto 4 dX9_ones_17 rfl k)))))))) ?_
      exact d_fg (z_le_0 (z_le_s (z_le_s z_le_n))) (ih _ _ _)
def f_X9_ones (a0 : Int32) (S : zS) : Option (Int32 × zS) := f_X9_ones_4 1000 0 a0 S
set_option maxRecDepth 100000 in
set_option maxHeartbeats 4000000 in
theorem zd_X9_ones (V : zV) (d : Nat) : ∀ (a0 : Int32) (S : zS), z_J zeI V mX9_ones (d) (f_X9_ones a0 S) 0 (z_ent mX9_ones [.int a0]) [] S := by
  intro a0 S
  show z_J zeI V mX9_ones (d) (f_X9_ones a0 S) 0 [.int a0, .null, .null] [] S
  unfold f_X9_ones
  refine d_st (fun _ k => zg_iconst 0 dX9_ones_0 (by decide) (zg_istore_n (ls' := [_, _, _]) dX9_ones_1 (Nat.le_of_ble_eq_true rfl) rfl rfl (zg_iload_n dX9_ones_2 rfl (zg_istore_n (ls' := [_, _, _]) dX9_ones_3 (Nat.le_of_ble_eq_true rfl) rfl rfl k)))) ?_
  exact d_fg (z_le_0 (z_le_s (z_le_s z_le_n))) (zd_X9_ones_4 V d 1000 _ _ _)
def f_X9_part (a1 : Int32) (a2 : Int32) (S : zS) : Option (Int32 × zS) := (f_X9_in a1 0 (((z_w S 87 0 0).1 89 2) - 1) (z_w S 87 0 0)).bind (fun r15 => if r15.1 = 0 then (some ((-1), r15.2)) else ((f_X9_in a2 0 2 r15.2).bind (fun r24 => if r24.1 = 0 then (some ((-1), r24.2)) else (if a2 = 0 then (if z_in (50 + a1) 74 then (some (r24.2.1 89 (50 + a1).toNatClampNeg, r24.2)) else none) else (if a2 = 1 then ((f_X9_cutsOfPart a1 r24.2).bind (fun r55 => (f_X9_ones (r55.1 &&& (r55.2.1 91 0)) r55.2).bind (fun r65 => some (r65.1, r65.2)))) else (if z_in a1 4 then (some (r24.2.1 98 a1.toNatClampNeg, r24.2)) else none))))))
set_option maxRecDepth 100000 in
set_option maxHeartbeats 4000000 in
theorem zd_X9_part (V : zV) (d : Nat) : ∀ (a1 : Int32) (a2 : Int32) (S : zS), z_J zeI V mX9_part (d + 2) (f_X9_part a1 a2 S) 0 (z_ent mX9_part [.ref 87, .int a1, .int a2]) [] S := by
  intro a1 a2 S
  show z_J zeI V mX9_part (d + 2) (f_X9_part a1 a2 S) 0 [.ref 87, .int a1, .int a2] [] S
  unfold f_X9_part
  refine d_st (fun _ k => zg_aload_n dX9_part_0 rfl (zg_iconst 0 dX9_part_1 (by decide) (zs_putI dX9_part_2 zf_X9_80 rfl (zq_87 _) (by decide) (by decide) (zg_iload_n dX9_part_5 rfl (zg_iconst 0 dX9_part_6 (by decide) (zg_aload_n dX9_part_7 rfl (zs_getR dX9_part_8 zf_X9_13 rfl (zq_87 _) (by decide) (by decide) zr_87_9 (zg_iconst 2 dX9_part_11 (by decide) (zs_iald (j := 2) dX9_part_12 (by decide) (zq_89 _) (by decide) (by decide) (zg_iconst 1 dX9_part_13 (by decide) (zg_isub dX9_part_14 k))))))))))) ?_
  refine d_cSi (As := [_, _, _]) dX9_part_15 zk_X9_88 rfl rfl (Nat.le_of_ble_eq_true rfl) (Nat.le_of_ble_eq_true rfl) rfl (zd_X9_in V (d + 1) _ _ _ _) (fun r15 _ => ?_)
  refine d_br (fun _ => zg_if_eq 30 dX9_part_18 rfl) (fun c18 => ?_) (fun c18 => ?_)
  · refine d_st (fun _ k => zg_iconst (-1) dX9_part_30 (by decide) k) ?_
    exact d_retI dX9_part_31 rfl
  · refine d_st (fun _ k => zg_iload_n dX9_part_21 rfl (zg_iconst 0 dX9_part_22 (by decide) (zg_iconst 2 dX9_part_23 (by decide) k))) ?_
    refine d_cSi (As := [_, _, _]) dX9_part_24 zk_X9_88 rfl rfl (Nat.le_of_ble_eq_true rfl) (Nat.le_of_ble_eq_true rfl) rfl (zd_X9_in V (d + 1) _ _ _ _) (fun r24 _ => ?_)
    refine d_br (fun _ => zg_if_ne 32 dX9_part_27 rfl) (fun c27 => ?_) (fun c27 => ?_)
    · refine d_st (fun _ k => zg_iconst (-1) dX9_part_30 (by decide) k) ?_
      exact d_retI dX9_part_31 rfl
    · refine d_st (fun _ k => zg_iload_n dX9_part_32 rfl k) ?_
      refine d_br (fun _ => zg_if_ne 48 dX9_part_33 rfl) (fun c33 => ?_) (fun c33 => ?_)
      · refine d_st (fun _ k => zg_aload_n dX9_part_36 rfl (zs_getR dX9_part_37 zf_X9_13 rfl (zq_87 _) (by decide) (by decide) zr_87_9 (zg_bipush 50 dX9_part_40 (by decide) (zg_iload_n dX9_part_42 rfl (zg_iadd dX9_part_43 k))))) ?_
        refine d_gd (fun g44 => ?_)
        refine d_st (fun _ k => zs_iald dX9_part_44 (by decide) (zq_89 _) g44 rfl k) ?_
        refine d_st (fun _ k => zg_goto 77 dX9_part_45 rfl k) ?_
        exact d_retI dX9_part_77 rfl
      · refine d_st (fun _ k => zg_iload_n dX9_part_48 rfl (zg_iconst 1 dX9_part_49 (by decide) k)) ?_
        refine d_br (fun _ => zg_icmp_ne 71 dX9_part_50 rfl) (fun c50 => ?_) (fun c50 => ?_)
        · refine d_st (fun _ k => zg_aload_n dX9_part_53 rfl (zg_iload_n dX9_part_54 rfl k)) ?_
          refine d_cVi (As := [_]) dX9_part_55 zk_X9_210 (zq_87 _) (by decide) ⟨_, _, rfl⟩ rfl rfl (Nat.le_of_ble_eq_true rfl) (Nat.le_of_ble_eq_true rfl) rfl (zd_X9_cutsOfPart V d _ _) (fun r55 _ => ?_)
          refine d_st (fun _ k => zg_aload_n dX9_part_58 rfl (zs_getR dX9_part_59 zf_X9_19 rfl (zq_87 _) (by decide) (by decide) zr_87_11 (zg_iconst 0 dX9_part_62 (by decide) (zs_iald (j := 0) dX9_part_63 (by decide) (zq_91 _) (by decide) (by decide) (zg_iand dX9_part_64 k))))) ?_
          refine d_cSi (As := [_]) dX9_part_65 zk_X9_213 rfl rfl (Nat.le_of_ble_eq_true rfl) (Nat.le_of_ble_eq_true rfl) rfl (zd_X9_ones V (d + 1) _ _) (fun r65 _ => ?_)
          refine d_st (fun _ k => zg_goto 77 dX9_part_68 rfl k) ?_
          exact d_retI dX9_part_77 rfl
        · refine d_st (fun _ k => zg_aload_n dX9_part_71 rfl (zs_getR dX9_part_72 zf_X9_41 rfl (zq_87 _) (by decide) (by decide) zr_87_20 (zg_iload_n dX9_part_75 rfl k))) ?_
          refine d_gd (fun g76 => ?_)
          refine d_st (fun _ k => zs_iald dX9_part_76 (by decide) (zq_98 _) g76 rfl k) ?_
          exact d_retI dX9_part_77 rfl
def f_X2_mayLose_41 (p0 : Nat) (p2 : Nat) (K14 : Int32 → Int32 → zS → Option (Int32 × zS)) : Nat → Int32 → Int32 → Int32 → zS → Option (Int32 × zS)
  | 0, _, _, _, _ => none
  | n + 1, v3, v4, v5, S => if (S.1 p2 7) ≤ v5 then (K14 v3 (v4 + 1) S) else (if z_in v4 4 then ((f_X8_has (S.1 (p2 + 13) v4.toNatClampNeg) v5 S).bind (fun r59 => if r59.1 = 0 then (f_X2_mayLose_41 p0 p2 K14 n v3 v4 (v5 + 1) r59.2) else (if z_in v5 4 then (if ((r59.2.1 (p2 + 12) v5.toNatClampNeg) &&& v3) = 0 then (some (0, r59.2)) else (f_X2_mayLose_41 p0 p2 K14 n v3 v4 (v5 + 1) r59.2)) else none))) else none)
set_option maxRecDepth 100000 in
set_option maxHeartbeats 4000000 in
theorem zd_X2_mayLose_41 (V : zV) {p0 : Nat} {p2 : Nat} (h0 : z_isQ p0) (h2 : z_isP p2) (d : Nat) {K14 : Int32 → Int32 → zS → Option (Int32 × zS)} (hK14 : ∀ (v3 : Int32) (v4 : Int32) (S : zS), z_J zeI V mX2_mayLose (d + 1) (K14 v3 v4 S) 14 [.null, .null, .ref p2, .int v3, .int v4, .null] [] S) : ∀ (n : Nat) (v3 : Int32) (v4 : Int32) (v5 : Int32) (S : zS), z_J zeI V mX2_mayLose (d + 1) (f_X2_mayLose_41 p0 p2 K14 n v3 v4 v5 S) 41 [.null, .null, .ref p2, .int v3, .int v4, .int v5] [] S := by
  intro n
  induction n with
  | zero =>
    intro v3 v4 v5 S r hr
    cases (show (none : Option (Int32 × zS)) = some r from hr)
  | succ n ih =>
    intro v3 v4 v5 S
    rw [f_X2_mayLose_41]
    refine d_st (fun _ k => zg_iload dX2_mayLose_41 rfl (zg_aload_n dX2_mayLose_43 rfl (zs_getI dX2_mayLose_44 zf_X2_72 rfl (zp_o h2 _) (by decide) (by decide) k))) ?_
    refine d_br (fun _ => zg_icmp_ge 85 dX2_mayLose_47 rfl) (fun c47 => ?_) (fun c47 => ?_)
    · refine d_st (fun _ k => zg_iinc (ls' := [_, _, _, _, _, _]) 1 dX2_mayLose_85 rfl (by decide) (Nat.le_of_ble_eq_true rfl) rfl rfl (zg_goto 14 dX2_mayLose_88 rfl k)) ?_
      exact d_fg (z_le_0 (z_le_0 (z_le_s (z_le_s (z_le_s (z_le_0 z_le_n)))))) (hK14 _ _ _)
    · refine d_st (fun _ k => zg_aload_n dX2_mayLose_50 rfl (zs_getR dX2_mayLose_51 zf_X2_78 rfl (zp_o h2 _) (by decide) (by decide) (zp_r11 h2) (zg_iload dX2_mayLose_54 rfl k))) ?_
      refine d_gd (fun g56 => ?_)
      refine d_st (fun _ k => zs_iald dX2_mayLose_56 (zp_p13 h2) (zp_13 h2 _) g56 rfl k) ?_
      refine d_st (fun _ k => zg_iload dX2_mayLose_57 rfl k) ?_
      refine d_cTi (As := [_, _]) dX2_mayLose_59 zk_X2_81 rfl rfl (Nat.le_of_ble_eq_true rfl) (Nat.le_of_ble_eq_true rfl) rfl (zd_X8_has V d _ _ _) (fun r59 _ => ?_)
      refine d_br (fun _ => zg_if_eq 79 dX2_mayLose_62 rfl) (fun c62 => ?_) (fun c62 => ?_)
      · refine d_st (fun _ k => zg_iinc (ls' := [_, _, _, _, _, _]) 1 dX2_mayLose_79 rfl (by decide) (Nat.le_of_ble_eq_true rfl) rfl rfl (zg_goto 41 dX2_mayLose_82 rfl k)) ?_
        exact d_fg (z_le_0 (z_le_0 (z_le_s (z_le_s (z_le_s (z_le_s z_le_n)))))) (ih _ _ _ _)
      · refine d_st (fun _ k => zg_aload_n dX2_mayLose_65 rfl (zs_getR dX2_mayLose_66 zf_X2_75 rfl (zp_o h2 _) (by decide) (by decide) (zp_r10 h2) (zg_iload dX2_mayLose_69 rfl k))) ?_
        refine d_gd (fun g71 => ?_)
        refine d_st (fun _ k => zs_iald dX2_mayLose_71 (zp_p12 h2) (zp_12 h2 _) g71 rfl k) ?_
        refine d_st (fun _ k => zg_iload_n dX2_mayLose_72 rfl (zg_iand dX2_mayLose_73 k)) ?_
        refine d_br (fun _ => zg_if_ne 79 dX2_mayLose_74 rfl) (fun c74 => ?_) (fun c74 => ?_)
        · refine d_st (fun _ k => zg_iconst 0 dX2_mayLose_77 (by decide) k) ?_
          exact d_retZ dX2_mayLose_78 rfl (by decide)
        · refine d_st (fun _ k => zg_iinc (ls' := [_, _, _, _, _, _]) 1 dX2_mayLose_79 rfl (by decide) (Nat.le_of_ble_eq_true rfl) rfl rfl (zg_goto 41 dX2_mayLose_82 rfl k)) ?_
          exact d_fg (z_le_0 (z_le_0 (z_le_s (z_le_s (z_le_s (z_le_s z_le_n)))))) (ih _ _ _ _)
def f_X2_mayLose_14 (p0 : Nat) (p2 : Nat) : Nat → Int32 → Int32 → zS → Option (Int32 × zS)
  | 0, _, _, _ => none
  | n + 1, v3, v4, S => if (S.1 p2 7) ≤ v4 then (some (1, S)) else (if z_in v4 4 then (if ((S.1 (p2 + 12) v4.toNatClampNeg) &&& v3) = 0 then (f_X2_mayLose_14 p0 p2 n v3 (v4 + 1) S) else (f_X2_mayLose_41 p0 p2 (f_X2_mayLose_14 p0 p2 n) 1000 v3 v4 0 S)) else none)
set_option maxRecDepth 100000 in
set_option maxHeartbeats 4000000 in
theorem zd_X2_mayLose_14 (V : zV) {p0 : Nat} {p2 : Nat} (h0 : z_isQ p0) (h2 : z_isP p2) (d : Nat) : ∀ (n : Nat) (v3 : Int32) (v4 : Int32) (S : zS), z_J zeI V mX2_mayLose (d + 1) (f_X2_mayLose_14 p0 p2 n v3 v4 S) 14 [.null, .null, .ref p2, .int v3, .int v4, .null] [] S := by
  intro n
  induction n with
  | zero =>
    intro v3 v4 S r hr
    cases (show (none : Option (Int32 × zS)) = some r from hr)
  | succ n ih =>
    intro v3 v4 S
    rw [f_X2_mayLose_14]
    refine d_st (fun _ k => zg_iload dX2_mayLose_14 rfl (zg_aload_n dX2_mayLose_16 rfl (zs_getI dX2_mayLose_17 zf_X2_72 rfl (zp_o h2 _) (by decide) (by decide) k))) ?_
    refine d_br (fun _ => zg_icmp_ge 91 dX2_mayLose_20 rfl) (fun c20 => ?_) (fun c20 => ?_)
    · refine d_st (fun _ k => zg_iconst 1 dX2_mayLose_91 (by decide) k) ?_
      exact d_retZ dX2_mayLose_92 rfl (by decide)
    · refine d_st (fun _ k => zg_aload_n dX2_mayLose_23 rfl (zs_getR dX2_mayLose_24 zf_X2_75 rfl (zp_o h2 _) (by decide) (by decide) (zp_r10 h2) (zg_iload dX2_mayLose_27 rfl k))) ?_
      refine d_gd (fun g29 => ?_)
      refine d_st (fun _ k => zs_iald dX2_mayLose_29 (zp_p12 h2) (zp_12 h2 _) g29 rfl k) ?_
      refine d_st (fun _ k => zg_iload_n dX2_mayLose_30 rfl (zg_iand dX2_mayLose_31 k)) ?_
      refine d_br (fun _ => zg_if_ne 38 dX2_mayLose_32 rfl) (fun c32 => ?_) (fun c32 => ?_)
      · refine d_st (fun _ k => zg_goto 85 dX2_mayLose_35 rfl (zg_iinc (ls' := [_, _, _, _, _, _]) 1 dX2_mayLose_85 rfl (by decide) (Nat.le_of_ble_eq_true rfl) rfl rfl (zg_goto 14 dX2_mayLose_88 rfl k))) ?_
        exact d_fg (z_le_0 (z_le_0 (z_le_s (z_le_s (z_le_s (z_le_0 z_le_n)))))) (ih _ _ _)
      · refine d_st (fun _ k => zg_iconst 0 dX2_mayLose_38 (by decide) (zg_istore (ls' := [_, _, _, _, _, _]) dX2_mayLose_39 (Nat.le_of_ble_eq_true rfl) rfl rfl k)) ?_
        exact d_fg (z_le_0 (z_le_0 (z_le_s (z_le_s (z_le_s (z_le_s z_le_n)))))) (zd_X2_mayLose_41 V h0 h2 d ih 1000 _ _ _ _)
def f_X2_mayLose (p0 : Nat) (a1 : Int32) (p2 : Nat) (S : zS) : Option (Int32 × zS) := f_X2_mayLose_14 p0 p2 1000 ((S.1 p0 0) &&& (((1 : Int32) <<< (a1 &&& 31)) ^^^ (-1))) 0 S
set_option maxRecDepth 100000 in
set_option maxHeartbeats 4000000 in
theorem zd_X2_mayLose (V : zV) {p0 : Nat} {p2 : Nat} (h0 : z_isQ p0) (h2 : z_isP p2) (d : Nat) : ∀ (a1 : Int32) (S : zS), z_J zeI V mX2_mayLose (d + 1) (f_X2_mayLose p0 a1 p2 S) 0 (z_ent mX2_mayLose [.ref p0, .int a1, .ref p2]) [] S := by
  intro a1 S
  show z_J zeI V mX2_mayLose (d + 1) (f_X2_mayLose p0 a1 p2 S) 0 [.ref p0, .int a1, .ref p2, .null, .null, .null] [] S
  unfold f_X2_mayLose
  refine d_st (fun _ k => zg_aload_n dX2_mayLose_0 rfl (zs_getI dX2_mayLose_1 zf_X2_9 rfl (zl_o h0 _).1 (by decide) (by decide) (zg_iconst 1 dX2_mayLose_4 (by decide) (zg_iload_n dX2_mayLose_5 rfl (zg_ishl dX2_mayLose_6 (zg_iconst (-1) dX2_mayLose_7 (by decide) (zg_ixor dX2_mayLose_8 (zg_iand dX2_mayLose_9 (zg_istore_n (ls' := [_, _, _, _, _, _]) dX2_mayLose_10 (Nat.le_of_ble_eq_true rfl) rfl rfl (zg_iconst 0 dX2_mayLose_11 (by decide) (zg_istore (ls' := [_, _, _, _, _, _]) dX2_mayLose_12 (Nat.le_of_ble_eq_true rfl) rfl rfl k))))))))))) ?_
  exact d_fg (z_le_0 (z_le_0 (z_le_s (z_le_s (z_le_s (z_le_0 z_le_n)))))) (zd_X2_mayLose_14 V h0 h2 d 1000 _ _ _)
def f_X2_become (p0 : Nat) (p1 : Nat) (S : zS) : Option (Unit × zS) := if ((z_w (z_w (z_w S p0 0 (S.1 p1 0)) p0 1 ((z_w S p0 0 (S.1 p1 0)).1 p1 1)) p0 2 ((z_w (z_w S p0 0 (S.1 p1 0)) p0 1 ((z_w S p0 0 (S.1 p1 0)).1 p1 1)).1 p1 2)).1 p1 3) = 0 ∨ ((z_w (z_w (z_w S p0 0 (S.1 p1 0)) p0 1 ((z_w S p0 0 (S.1 p1 0)).1 p1 1)) p0 2 ((z_w (z_w S p0 0 (S.1 p1 0)) p0 1 ((z_w S p0 0 (S.1 p1 0)).1 p1 1)).1 p1 2)).1 p1 3) = 1 then (some ((), (z_ui (z_w (z_w (z_w (z_w S p0 0 (S.1 p1 0)) p0 1 ((z_w S p0 0 (S.1 p1 0)).1 p1 1)) p0 2 ((z_w (z_w S p0 0 (S.1 p1 0)) p0 1 ((z_w S p0 0 (S.1 p1 0)).1 p1 1)).1 p1 2)) p0 3 ((z_w (z_w (z_w S p0 0 (S.1 p1 0)) p0 1 ((z_w S p0 0 (S.1 p1 0)).1 p1 1)) p0 2 ((z_w (z_w S p0 0 (S.1 p1 0)) p0 1 ((z_w S p0 0 (S.1 p1 0)).1 p1 1)).1 p1 2)).1 p1 3)).1 (p0 + 1) (va_cpy ((z_w (z_w (z_w (z_w S p0 0 (S.1 p1 0)) p0 1 ((z_w S p0 0 (S.1 p1 0)).1 p1 1)) p0 2 ((z_w (z_w S p0 0 (S.1 p1 0)) p0 1 ((z_w S p0 0 (S.1 p1 0)).1 p1 1)).1 p1 2)) p0 3 ((z_w (z_w (z_w S p0 0 (S.1 p1 0)) p0 1 ((z_w S p0 0 (S.1 p1 0)).1 p1 1)) p0 2 ((z_w (z_w S p0 0 (S.1 p1 0)) p0 1 ((z_w S p0 0 (S.1 p1 0)).1 p1 1)).1 p1 2)).1 p1 3)).1 (p1 + 1)) ((z_w (z_w (z_w (z_w S p0 0 (S.1 p1 0)) p0 1 ((z_w S p0 0 (S.1 p1 0)).1 p1 1)) p0 2 ((z_w (z_w S p0 0 (S.1 p1 0)) p0 1 ((z_w S p0 0 (S.1 p1 0)).1 p1 1)).1 p1 2)) p0 3 ((z_w (z_w (z_w S p0 0 (S.1 p1 0)) p0 1 ((z_w S p0 0 (S.1 p1 0)).1 p1 1)) p0 2 ((z_w (z_w S p0 0 (S.1 p1 0)) p0 1 ((z_w S p0 0 (S.1 p1 0)).1 p1 1)).1 p1 2)).1 p1 3)).1 (p0 + 1)) (0 : Int32).toNatClampNeg (0 : Int32).toNatClampNeg (9 : Int32).toNatClampNeg), (z_w (z_w (z_w (z_w S p0 0 (S.1 p1 0)) p0 1 ((z_w S p0 0 (S.1 p1 0)).1 p1 1)) p0 2 ((z_w (z_w S p0 0 (S.1 p1 0)) p0 1 ((z_w S p0 0 (S.1 p1 0)).1 p1 1)).1 p1 2)) p0 3 ((z_w (z_w (z_w S p0 0 (S.1 p1 0)) p0 1 ((z_w S p0 0 (S.1 p1 0)).1 p1 1)) p0 2 ((z_w (z_w S p0 0 (S.1 p1 0)) p0 1 ((z_w S p0 0 (S.1 p1 0)).1 p1 1)).1 p1 2)).1 p1 3)).2))) else none
set_option maxRecDepth 100000 in
set_option maxHeartbeats 4000000 in
theorem zd_X2_become (V : zV) {p0 : Nat} {p1 : Nat} (h0 : z_isQ p0) (h1 : z_isQ p1) (d : Nat) : ∀ (S : zS), z_J zeV V mX2_become (d + 1) (f_X2_become p0 p1 S) 0 (z_ent mX2_become [.ref p0, .ref p1]) [] S := by
  intro S
  show z_J zeV V mX2_become (d + 1) (f_X2_become p0 p1 S) 0 [.ref p0, .ref p1] [] S
  unfold f_X2_become
  refine d_st (fun _ k => zg_aload_n dX2_become_0 rfl (zg_aload_n dX2_become_1 rfl (zs_getI dX2_become_2 zf_X2_9 rfl (zl_o h1 _).1 (by decide) (by decide) (zs_putI dX2_become_5 zf_X2_9 rfl (zl_o h0 _).1 (by decide) (by decide) (zg_aload_n dX2_become_8 rfl (zg_aload_n dX2_become_9 rfl (zs_getI dX2_become_10 zf_X2_15 rfl (zl_o h1 _).1 (by decide) (by decide) (zs_putI dX2_become_13 zf_X2_15 rfl (zl_o h0 _).1 (by decide) (by decide) (zg_aload_n dX2_become_16 rfl (zg_aload_n dX2_become_17 rfl (zs_getI dX2_become_18 zf_X2_18 rfl (zl_o h1 _).1 (by decide) (by decide) (zs_putI dX2_become_21 zf_X2_18 rfl (zl_o h0 _).1 (by decide) (by decide) (zg_aload_n dX2_become_24 rfl (zg_aload_n dX2_become_25 rfl (zs_getI dX2_become_26 zf_X2_21 rfl (zl_o h1 _).1 (by decide) (by decide) k))))))))))))))) ?_
  refine d_gd (fun g29 => ?_)
  refine d_st (fun _ k => zs_putZ dX2_become_29 zf_X2_21 rfl g29 (zl_o h0 _).1 (by decide) (by decide) k) ?_
  refine d_st (fun _ k => zg_aload_n dX2_become_32 rfl (zs_getR dX2_become_33 zf_X2_25 rfl (zl_o h1 _).1 (by decide) (by decide) (zl_r h1) (zg_iconst 0 dX2_become_36 (by decide) (zg_aload_n dX2_become_37 rfl (zs_getR dX2_become_38 zf_X2_25 rfl (zl_o h0 _).1 (by decide) (by decide) (zl_r h0) (zg_iconst 0 dX2_become_41 (by decide) (zg_bipush 9 dX2_become_42 (by decide) (zs_copy dX2_become_44 zt_3_154 zt_3_156 zt_3_155 zt_1_14 (Nat.succ_pos _) (Nat.succ_pos _) (zl_o h1 _).2 (zl_o h0 _).2 (by decide) (by decide) (by decide) (by decide) (by decide) (Nat.le_of_ble_eq_true rfl) k)))))))) ?_
  exact d_retV dX2_become_47 rfl
def f_X0_remember_35 (p1 : Nat) (t0 : Int32) (S : zS) : Option (Unit × zS) := some ((), (z_w (z_w S 34 1 t0) 34 2 (if 10 < (((z_w S 34 1 t0).1 34 2) + 1) then 10 else ((z_w S 34 1 t0).1 34 2) + 1)))
set_option maxRecDepth 100000 in
set_option maxHeartbeats 4000000 in
theorem zd_X0_remember_35 (V : zV) {p1 : Nat} (h1 : z_isQ p1) (d : Nat) : ∀ (t0 : Int32) (S : zS), z_J zeV V mX0_remember (d + 2) (f_X0_remember_35 p1 t0 S) 35 [.ref 34, .null] [.int t0, .ref 34] S := by
  intro t0 S
  unfold f_X0_remember_35
  refine d_st (fun _ k => zs_putI dX0_remember_35 zf_X0_17 rfl (zq_34 _) (by decide) (by decide) (zg_aload_n dX0_remember_38 rfl (zg_aload_n dX0_remember_39 rfl (zs_getI dX0_remember_40 zf_X0_21 rfl (zq_34 _) (by decide) (by decide) (zg_iconst 1 dX0_remember_43 (by decide) (zg_iadd dX0_remember_44 (zg_bipush 10 dX0_remember_45 (by decide) (zg_mmin dX0_remember_47 zt_3_157 zt_2_149 zt_1_12 zt_2_150 (Nat.le_of_ble_eq_true rfl) (zs_putI dX0_remember_50 zf_X0_21 rfl (zq_34 _) (by decide) (by decide) k))))))))) ?_
  exact d_retV dX0_remember_53 rfl
def f_X0_remember (p1 : Nat) (S : zS) : Option (Unit × zS) := if z_in (S.1 34 1) 10 then ((f_X2_become (36 + 2 * (S.1 34 1).toNatClampNeg) p1 S).bind (fun r10 => if 10 ≤ ((r10.2.1 34 1) + 1) then (f_X0_remember_35 p1 0 r10.2) else (f_X0_remember_35 p1 ((r10.2.1 34 1) + 1) r10.2))) else none
set_option maxRecDepth 100000 in
set_option maxHeartbeats 4000000 in
theorem zd_X0_remember (V : zV) {p1 : Nat} (h1 : z_isQ p1) (d : Nat) : ∀ (S : zS), z_J zeV V mX0_remember (d + 2) (f_X0_remember p1 S) 0 (z_ent mX0_remember [.ref 34, .ref p1]) [] S := by
  intro S
  show z_J zeV V mX0_remember (d + 2) (f_X0_remember p1 S) 0 [.ref 34, .ref p1] [] S
  unfold f_X0_remember
  refine d_st (fun _ k => zg_aload_n dX0_remember_0 rfl (zs_getR dX0_remember_1 zf_X0_11 rfl (zq_34 _) (by decide) (by decide) zr_34_0 (zg_aload_n dX0_remember_4 rfl (zs_getI dX0_remember_5 zf_X0_17 rfl (zq_34 _) (by decide) (by decide) k)))) ?_
  refine d_gd (fun g8 => ?_)
  refine d_st (fun _ k => zs_rows dX0_remember_8 g8 k) ?_
  refine d_st (fun _ k => zg_aload_n dX0_remember_9 rfl k) ?_
  refine d_cVv (As := [_]) dX0_remember_10 zk_X0_25 (zl_o (zl_rows (pl := 0) (dr := 0) (z_in_lt g8)).2 _).1 (by decide) ⟨_, _, rfl⟩ rfl rfl (Nat.le_of_ble_eq_true rfl) (Nat.le_of_ble_eq_true rfl) rfl (zd_X2_become V (zl_rows (pl := 0) (dr := 0) (z_in_lt g8)).2 h1 d _) (fun r10 _ => ?_)
  refine d_st (fun _ k => zg_aload_n dX0_remember_13 rfl (zg_aload_n dX0_remember_14 rfl (zs_getI dX0_remember_15 zf_X0_17 rfl (zq_34 _) (by decide) (by decide) (zg_iconst 1 dX0_remember_18 (by decide) (zg_iadd dX0_remember_19 (zg_bipush 10 dX0_remember_20 (by decide) k)))))) ?_
  refine d_br (fun _ => zg_icmp_ge 34 dX0_remember_22 rfl) (fun c22 => ?_) (fun c22 => ?_)
  · refine d_st (fun _ k => zg_iconst 0 dX0_remember_34 (by decide) k) ?_
    exact d_fg (z_le_s (z_le_0 z_le_n)) (zd_X0_remember_35 V h1 d _ _)
  · refine d_st (fun _ k => zg_aload_n dX0_remember_25 rfl (zs_getI dX0_remember_26 zf_X0_17 rfl (zq_34 _) (by decide) (by decide) (zg_iconst 1 dX0_remember_29 (by decide) (zg_iadd dX0_remember_30 (zg_goto 35 dX0_remember_31 rfl k))))) ?_
    exact d_fg (z_le_s (z_le_0 z_le_n)) (zd_X0_remember_35 V h1 d _ _)
def f_X2_coolAt (p0 : Nat) (a1 : Int32) (a2 : Int32) (S : zS) : Option (Int32 × zS) := if z_in a1 9 then (if (S.1 (p0 + 1) a1.toNatClampNeg) = (-9) then (some (0, S)) else (if z_in a1 9 then (some ((S.1 (p0 + 1) a1.toNatClampNeg) + a2, S)) else none)) else none
set_option maxRecDepth 100000 in
set_option maxHeartbeats 4000000 in
theorem zd_X2_coolAt (V : zV) {p0 : Nat} (h0 : z_isQ p0) (d : Nat) : ∀ (a1 : Int32) (a2 : Int32) (S : zS), z_J zeI V mX2_coolAt (d) (f_X2_coolAt p0 a1 a2 S) 0 (z_ent mX2_coolAt [.ref p0, .int a1, .int a2]) [] S := by
  intro a1 a2 S
  show z_J zeI V mX2_coolAt (d) (f_X2_coolAt p0 a1 a2 S) 0 [.ref p0, .int a1, .int a2] [] S
  unfold f_X2_coolAt
  refine d_st (fun _ k => zg_aload_n dX2_coolAt_0 rfl (zs_getR dX2_coolAt_1 zf_X2_25 rfl (zl_o h0 _).1 (by decide) (by decide) (zl_r h0) (zg_iload_n dX2_coolAt_4 rfl k))) ?_
  refine d_gd (fun g5 => ?_)
  refine d_st (fun _ k => zs_iald dX2_coolAt_5 (Nat.succ_pos _) (zl_o h0 _).2 g5 rfl k) ?_
  refine d_st (fun _ k => zg_bipush (-9) dX2_coolAt_6 (by decide) k) ?_
  refine d_br (fun _ => zg_icmp_ne 15 dX2_coolAt_8 rfl) (fun c8 => ?_) (fun c8 => ?_)
  · refine d_st (fun _ k => zg_iconst 0 dX2_coolAt_11 (by decide) (zg_goto 23 dX2_coolAt_12 rfl k)) ?_
    exact d_retI dX2_coolAt_23 rfl
  · refine d_st (fun _ k => zg_aload_n dX2_coolAt_15 rfl (zs_getR dX2_coolAt_16 zf_X2_25 rfl (zl_o h0 _).1 (by decide) (by decide) (zl_r h0) (zg_iload_n dX2_coolAt_19 rfl k))) ?_
    refine d_gd (fun g20 => ?_)
    refine d_st (fun _ k => zs_iald dX2_coolAt_20 (Nat.succ_pos _) (zl_o h0 _).2 g20 rfl k) ?_
    refine d_st (fun _ k => zg_iload_n dX2_coolAt_21 rfl (zg_iadd dX2_coolAt_22 k)) ?_
    exact d_retI dX2_coolAt_23 rfl
def f_X2_beginOfBurn_40 (p0 : Nat) (p2 : Nat) (v3 : Int32) (S : zS) : Option (Int32 × zS) := (f_X2_coolAt p0 (S.1 p0 1) (S.1 p2 12) S).bind (fun r57 => some (if (if (S.1 p0 2) < v3 then v3 else S.1 p0 2) < r57.1 then r57.1 else if (S.1 p0 2) < v3 then v3 else S.1 p0 2, r57.2))
set_option maxRecDepth 100000 in
set_option maxHeartbeats 4000000 in
theorem zd_X2_beginOfBurn_40 (V : zV) {p0 : Nat} {p2 : Nat} (h0 : z_isQ p0) (h2 : z_isP p2) (d : Nat) : ∀ (v3 : Int32) (S : zS), z_J zeI V mX2_beginOfBurn (d + 2) (f_X2_beginOfBurn_40 p0 p2 v3 S) 40 [.ref p0, .null, .ref p2, .int v3] [] S := by
  intro v3 S
  unfold f_X2_beginOfBurn_40
  refine d_st (fun _ k => zg_aload_n dX2_beginOfBurn_40 rfl (zs_getI dX2_beginOfBurn_41 zf_X2_18 rfl (zl_o h0 _).1 (by decide) (by decide) (zg_iload_n dX2_beginOfBurn_44 rfl (zg_mmax dX2_beginOfBurn_45 zt_3_172 zt_2_232 zt_1_12 zt_2_233 (Nat.le_of_ble_eq_true rfl) (zg_aload_n dX2_beginOfBurn_48 rfl (zg_aload_n dX2_beginOfBurn_49 rfl (zs_getI dX2_beginOfBurn_50 zf_X2_15 rfl (zl_o h0 _).1 (by decide) (by decide) (zg_aload_n dX2_beginOfBurn_53 rfl (zs_getI dX2_beginOfBurn_54 zf_X2_61 rfl (zp_o h2 _) (by decide) (by decide) k))))))))) ?_
  refine d_cVi (As := [_, _]) dX2_beginOfBurn_57 zk_X2_64 (zl_o h0 _).1 (by decide) ⟨_, _, rfl⟩ rfl rfl (Nat.le_of_ble_eq_true rfl) (Nat.le_of_ble_eq_true rfl) rfl (zd_X2_coolAt V h0 (d + 1) _ _ _) (fun r57 _ => ?_)
  refine d_st (fun _ k => zg_mmax dX2_beginOfBurn_60 zt_3_172 zt_2_232 zt_1_12 zt_2_233 (Nat.le_of_ble_eq_true rfl) k) ?_
  exact d_retI dX2_beginOfBurn_63 rfl
def f_X2_beginOfBurn (p0 : Nat) (a1 : Int32) (p2 : Nat) (S : zS) : Option (Int32 × zS) := (f_X2_coolAt p0 a1 (S.1 p2 12) S).bind (fun r6 => (f_X1_way p2 (r6.2.1 p0 1) a1 r6.2).bind (fun r15 => if (r15.2.1 p0 3) = 0 then (f_X2_beginOfBurn_40 p0 p2 (r6.1 - r15.1) r15.2) else (if (r15.2.1 p0 2) < (r6.1 - r15.1) then (f_X2_beginOfBurn_40 p0 p2 (r6.1 - r15.1) r15.2) else (some (r15.2.1 p0 2, r15.2)))))
set_option maxRecDepth 100000 in
set_option maxHeartbeats 4000000 in
theorem zd_X2_beginOfBurn (V : zV) {p0 : Nat} {p2 : Nat} (h0 : z_isQ p0) (h2 : z_isP p2) (d : Nat) : ∀ (a1 : Int32) (S : zS), z_J zeI V mX2_beginOfBurn (d + 2) (f_X2_beginOfBurn p0 a1 p2 S) 0 (z_ent mX2_beginOfBurn [.ref p0, .int a1, .ref p2]) [] S := by
  intro a1 S
  show z_J zeI V mX2_beginOfBurn (d + 2) (f_X2_beginOfBurn p0 a1 p2 S) 0 [.ref p0, .int a1, .ref p2, .null] [] S
  unfold f_X2_beginOfBurn
  refine d_st (fun _ k => zg_aload_n dX2_beginOfBurn_0 rfl (zg_iload_n dX2_beginOfBurn_1 rfl (zg_aload_n dX2_beginOfBurn_2 rfl (zs_getI dX2_beginOfBurn_3 zf_X2_61 rfl (zp_o h2 _) (by decide) (by decide) k)))) ?_
  refine d_cVi (As := [_, _]) dX2_beginOfBurn_6 zk_X2_64 (zl_o h0 _).1 (by decide) ⟨_, _, rfl⟩ rfl rfl (Nat.le_of_ble_eq_true rfl) (Nat.le_of_ble_eq_true rfl) rfl (zd_X2_coolAt V h0 (d + 1) _ _ _) (fun r6 _ => ?_)
  refine d_st (fun _ k => zg_aload_n dX2_beginOfBurn_9 rfl (zg_aload_n dX2_beginOfBurn_10 rfl (zs_getI dX2_beginOfBurn_11 zf_X2_15 rfl (zl_o h0 _).1 (by decide) (by decide) (zg_iload_n dX2_beginOfBurn_14 rfl k)))) ?_
  refine d_cVi (As := [_, _]) dX2_beginOfBurn_15 zk_X2_49 (zp_o h2 _) (by decide) ⟨_, _, rfl⟩ rfl rfl (Nat.le_of_ble_eq_true rfl) (Nat.le_of_ble_eq_true rfl) rfl (zd_X1_way V h2 d _ _ _) (fun r15 _ => ?_)
  refine d_st (fun _ k => zg_isub dX2_beginOfBurn_18 (zg_istore_n (ls' := [_, _, _, _]) dX2_beginOfBurn_19 (Nat.le_of_ble_eq_true rfl) rfl rfl (zg_aload_n dX2_beginOfBurn_20 rfl (zs_getI dX2_beginOfBurn_21 zf_X2_21 rfl (zl_o h0 _).1 (by decide) (by decide) k)))) ?_
  refine d_br (fun _ => zg_if_eq 40 dX2_beginOfBurn_24 rfl) (fun c24 => ?_) (fun c24 => ?_)
  · exact d_fg (z_le_s (z_le_0 (z_le_s (z_le_s z_le_n)))) (zd_X2_beginOfBurn_40 V h0 h2 d _ _)
  · refine d_st (fun _ k => zg_iload_n dX2_beginOfBurn_27 rfl (zg_aload_n dX2_beginOfBurn_28 rfl (zs_getI dX2_beginOfBurn_29 zf_X2_18 rfl (zl_o h0 _).1 (by decide) (by decide) k))) ?_
    refine d_br (fun _ => zg_icmp_gt 40 dX2_beginOfBurn_32 rfl) (fun c32 => ?_) (fun c32 => ?_)
    · exact d_fg (z_le_s (z_le_0 (z_le_s (z_le_s z_le_n)))) (zd_X2_beginOfBurn_40 V h0 h2 d _ _)
    · refine d_st (fun _ k => zg_aload_n dX2_beginOfBurn_35 rfl (zs_getI dX2_beginOfBurn_36 zf_X2_18 rfl (zl_o h0 _).1 (by decide) (by decide) k)) ?_
      exact d_retI dX2_beginOfBurn_39 rfl
def f_X2_burn (p0 : Nat) (a1 : Int32) (a2 : Int32) (p3 : Nat) (S : zS) : Option (Unit × zS) := (f_X1_hasCorner p3 (S.1 p0 1) S).bind (fun r5 => if r5.1 = 0 then (some ((), r5.2)) else ((f_X1_hasCorner p3 a2 r5.2).bind (fun r13 => if r13.1 = 0 then (some ((), r13.2)) else ((f_X2_beginOfBurn p0 a2 p3 r13.2).bind (fun r23 => if z_in (r23.2.1 p0 1) 9 then ((f_X1_way p3 ((z_w r23.2 (p0 + 1) ((r23.2.1 p0 1).toNatClampNeg) r23.1).1 p0 1) a2 (z_w r23.2 (p0 + 1) ((r23.2.1 p0 1).toNatClampNeg) r23.1)).bind (fun r48 => if z_in a2 9 then (some ((), (z_w (z_w (z_w (z_w (z_w r48.2 p0 2 (r23.1 + r48.1)) (p0 + 1) a2.toNatClampNeg ((z_w r48.2 p0 2 (r23.1 + r48.1)).1 p0 2)) p0 0 (((z_w (z_w r48.2 p0 2 (r23.1 + r48.1)) (p0 + 1) a2.toNatClampNeg ((z_w r48.2 p0 2 (r23.1 + r48.1)).1 p0 2)).1 p0 0) &&& (((1 : Int32) <<< (a1 &&& 31)) ^^^ (-1)))) p0 1 a2) p0 3 1))) else none)) else none)))))
set_option maxRecDepth 100000 in
set_option maxHeartbeats 4000000 in
theorem zd_X2_burn (V : zV) {p0 : Nat} {p3 : Nat} (h0 : z_isQ p0) (h3 : z_isP p3) (d : Nat) : ∀ (a1 : Int32) (a2 : Int32) (S : zS), z_J zeV V mX2_burn (d + 3) (f_X2_burn p0 a1 a2 p3 S) 0 (z_ent mX2_burn [.ref p0, .int a1, .int a2, .ref p3]) [] S := by
  intro a1 a2 S
  show z_J zeV V mX2_burn (d + 3) (f_X2_burn p0 a1 a2 p3 S) 0 [.ref p0, .int a1, .int a2, .ref p3, .null] [] S
  unfold f_X2_burn
  refine d_st (fun _ k => zg_aload_n dX2_burn_0 rfl (zg_aload_n dX2_burn_1 rfl (zs_getI dX2_burn_2 zf_X2_15 rfl (zl_o h0 _).1 (by decide) (by decide) k))) ?_
  refine d_cVi (As := [_]) dX2_burn_5 zk_X2_53 (zp_o h3 _) (by decide) ⟨_, _, rfl⟩ rfl rfl (Nat.le_of_ble_eq_true rfl) (Nat.le_of_ble_eq_true rfl) rfl (zd_X1_hasCorner V h3 (d + 2) _ _) (fun r5 _ => ?_)
  refine d_br (fun _ => zg_if_eq 19 dX2_burn_8 rfl) (fun c8 => ?_) (fun c8 => ?_)
  · exact d_retV dX2_burn_19 rfl
  · refine d_st (fun _ k => zg_aload_n dX2_burn_11 rfl (zg_iload_n dX2_burn_12 rfl k)) ?_
    refine d_cVi (As := [_]) dX2_burn_13 zk_X2_53 (zp_o h3 _) (by decide) ⟨_, _, rfl⟩ rfl rfl (Nat.le_of_ble_eq_true rfl) (Nat.le_of_ble_eq_true rfl) rfl (zd_X1_hasCorner V h3 (d + 2) _ _) (fun r13 _ => ?_)
    refine d_br (fun _ => zg_if_ne 20 dX2_burn_16 rfl) (fun c16 => ?_) (fun c16 => ?_)
    · exact d_retV dX2_burn_19 rfl
    · refine d_st (fun _ k => zg_aload_n dX2_burn_20 rfl (zg_iload_n dX2_burn_21 rfl (zg_aload_n dX2_burn_22 rfl k))) ?_
      refine d_cVi (As := [_, _]) dX2_burn_23 zk_X2_57 (zl_o h0 _).1 (by decide) ⟨_, _, rfl⟩ rfl rfl (Nat.le_of_ble_eq_true rfl) (Nat.le_of_ble_eq_true rfl) rfl (zd_X2_beginOfBurn V h0 h3 d _ _) (fun r23 _ => ?_)
      refine d_st (fun _ k => zg_istore (ls' := [_, _, _, _, _]) dX2_burn_26 (Nat.le_of_ble_eq_true rfl) rfl rfl (zg_aload_n dX2_burn_28 rfl (zs_getR dX2_burn_29 zf_X2_25 rfl (zl_o h0 _).1 (by decide) (by decide) (zl_r h0) (zg_aload_n dX2_burn_32 rfl (zs_getI dX2_burn_33 zf_X2_15 rfl (zl_o h0 _).1 (by decide) (by decide) (zg_iload dX2_burn_36 rfl k)))))) ?_
      refine d_gd (fun g38 => ?_)
      refine d_st (fun _ k => zs_iast dX2_burn_38 (Nat.succ_pos _) (zl_o h0 _).2 g38 rfl k) ?_
      refine d_st (fun _ k => zg_aload_n dX2_burn_39 rfl (zg_iload dX2_burn_40 rfl (zg_aload_n dX2_burn_42 rfl (zg_aload_n dX2_burn_43 rfl (zs_getI dX2_burn_44 zf_X2_15 rfl (zl_o h0 _).1 (by decide) (by decide) (zg_iload_n dX2_burn_47 rfl k)))))) ?_
      refine d_cVi (As := [_, _]) dX2_burn_48 zk_X2_49 (zp_o h3 _) (by decide) ⟨_, _, rfl⟩ rfl rfl (Nat.le_of_ble_eq_true rfl) (Nat.le_of_ble_eq_true rfl) rfl (zd_X1_way V h3 (d + 1) _ _ _) (fun r48 _ => ?_)
      refine d_st (fun _ k => zg_iadd dX2_burn_51 (zs_putI dX2_burn_52 zf_X2_18 rfl (zl_o h0 _).1 (by decide) (by decide) (zg_aload_n dX2_burn_55 rfl (zs_getR dX2_burn_56 zf_X2_25 rfl (zl_o h0 _).1 (by decide) (by decide) (zl_r h0) (zg_iload_n dX2_burn_59 rfl (zg_aload_n dX2_burn_60 rfl (zs_getI dX2_burn_61 zf_X2_18 rfl (zl_o h0 _).1 (by decide) (by decide) k))))))) ?_
      refine d_gd (fun g64 => ?_)
      refine d_st (fun _ k => zs_iast dX2_burn_64 (Nat.succ_pos _) (zl_o h0 _).2 g64 rfl k) ?_
      refine d_st (fun _ k => zg_aload_n dX2_burn_65 rfl (zg_dupr dX2_burn_66 (zs_getI dX2_burn_67 zf_X2_9 rfl (zl_o h0 _).1 (by decide) (by decide) (zg_iconst 1 dX2_burn_70 (by decide) (zg_iload_n dX2_burn_71 rfl (zg_ishl dX2_burn_72 (zg_iconst (-1) dX2_burn_73 (by decide) (zg_ixor dX2_burn_74 (zg_iand dX2_burn_75 (zs_putI dX2_burn_76 zf_X2_9 rfl (zl_o h0 _).1 (by decide) (by decide) (zg_aload_n dX2_burn_79 rfl (zg_iload_n dX2_burn_80 rfl (zs_putI dX2_burn_81 zf_X2_15 rfl (zl_o h0 _).1 (by decide) (by decide) (zg_aload_n dX2_burn_84 rfl (zg_iconst 1 dX2_burn_85 (by decide) (zs_putZ dX2_burn_86 zf_X2_21 rfl (by decide) (zl_o h0 _).1 (by decide) (by decide) k)))))))))))))))) ?_
      exact d_retV dX2_burn_89 rfl
def f_X8_burnTo (a1 : Int32) (S : zS) : Option (Int32 × zS) := if z_isP S.2.1 then ((f_X1_cutBetween S.2.1 (S.1 32 1) a1 S).bind (fun r12 => if r12.1 = (-9) then (some (0, r12.2)) else ((f_X8_has (r12.2.1 32 0) r12.1 r12.2).bind (fun r30 => if r30.1 = 0 then (some (0, r30.2)) else (if z_isP r30.2.2.1 then ((f_X2_mayLose 32 r12.1 r30.2.2.1 r30.2).bind (fun r45 => if r45.1 = 0 then (some (0, r45.2)) else ((f_X0_remember 32 r45.2).bind (fun r61 => if z_isP r61.2.2.1 then ((f_X2_burn 32 r12.1 a1 r61.2.2.1 r61.2).bind (fun r74 => (f_X8_outdate  r74.2).bind (fun r78 => some (1, r78.2)))) else none)))) else none))))) else none
set_option maxRecDepth 100000 in
set_option maxHeartbeats 4000000 in
theorem zd_X8_burnTo (V : zV) (d : Nat) : ∀ (a1 : Int32) (S : zS), z_J zeI V mX8_burnTo (d + 4) (f_X8_burnTo a1 S) 0 (z_ent mX8_burnTo [.ref 1, .int a1]) [] S := by
  intro a1 S
  show z_J zeI V mX8_burnTo (d + 4) (f_X8_burnTo a1 S) 0 [.ref 1, .int a1, .null] [] S
  unfold f_X8_burnTo
  refine d_st (fun _ k => zg_aload_n dX8_burnTo_0 rfl k) ?_
  refine d_gd (fun g1 => ?_)
  refine d_st (fun _ k => zs_getR dX8_burnTo_1 zf_X8_20 rfl (zq_1 _) (by decide) (by decide) zr_pl k) ?_
  refine d_st (fun _ k => zg_aload_n dX8_burnTo_4 rfl (zs_getR dX8_burnTo_5 zf_X8_37 rfl (zq_1 _) (by decide) (by decide) zr_1_5 (zs_getI dX8_burnTo_8 zf_X8_155 rfl (zq_32 _) (by decide) (by decide) (zg_iload_n dX8_burnTo_11 rfl k)))) ?_
  refine d_cVi (As := [_, _]) dX8_burnTo_12 zk_X8_247 (zp_o g1 _) (by decide) ⟨_, _, rfl⟩ rfl rfl (Nat.le_of_ble_eq_true rfl) (Nat.le_of_ble_eq_true rfl) rfl (zd_X1_cutBetween V g1 (d + 2) _ _ _) (fun r12 _ => ?_)
  refine d_st (fun _ k => zg_istore_n (ls' := [_, _, _]) dX8_burnTo_15 (Nat.le_of_ble_eq_true rfl) rfl rfl (zg_iload_n dX8_burnTo_16 rfl (zg_bipush (-9) dX8_burnTo_17 (by decide) k))) ?_
  refine d_br (fun _ => zg_icmp_eq 51 dX8_burnTo_19 rfl) (fun c19 => ?_) (fun c19 => ?_)
  · refine d_st (fun _ k => zg_iconst 0 dX8_burnTo_51 (by decide) k) ?_
    exact d_retZ dX8_burnTo_52 rfl (by decide)
  · refine d_st (fun _ k => zg_aload_n dX8_burnTo_22 rfl (zs_getR dX8_burnTo_23 zf_X8_37 rfl (zq_1 _) (by decide) (by decide) zr_1_5 (zs_getI dX8_burnTo_26 zf_X8_104 rfl (zq_32 _) (by decide) (by decide) (zg_iload_n dX8_burnTo_29 rfl k)))) ?_
    refine d_cSi (As := [_, _]) dX8_burnTo_30 zk_X8_123 rfl rfl (Nat.le_of_ble_eq_true rfl) (Nat.le_of_ble_eq_true rfl) rfl (zd_X8_has V (d + 3) _ _ _) (fun r30 _ => ?_)
    refine d_br (fun _ => zg_if_eq 51 dX8_burnTo_33 rfl) (fun c33 => ?_) (fun c33 => ?_)
    · refine d_st (fun _ k => zg_iconst 0 dX8_burnTo_51 (by decide) k) ?_
      exact d_retZ dX8_burnTo_52 rfl (by decide)
    · refine d_st (fun _ k => zg_aload_n dX8_burnTo_36 rfl (zs_getR dX8_burnTo_37 zf_X8_37 rfl (zq_1 _) (by decide) (by decide) zr_1_5 (zg_iload_n dX8_burnTo_40 rfl (zg_aload_n dX8_burnTo_41 rfl k)))) ?_
      refine d_gd (fun g42 => ?_)
      refine d_st (fun _ k => zs_getR dX8_burnTo_42 zf_X8_20 rfl (zq_1 _) (by decide) (by decide) zr_pl k) ?_
      refine d_cVi (As := [_, _]) dX8_burnTo_45 zk_X8_250 (zq_32 _) (by decide) ⟨_, _, rfl⟩ rfl rfl (Nat.le_of_ble_eq_true rfl) (Nat.le_of_ble_eq_true rfl) rfl (zd_X2_mayLose V (by decide) g42 (d + 2) _ _) (fun r45 _ => ?_)
      refine d_br (fun _ => zg_if_ne 53 dX8_burnTo_48 rfl) (fun c48 => ?_) (fun c48 => ?_)
      · refine d_st (fun _ k => zg_iconst 0 dX8_burnTo_51 (by decide) k) ?_
        exact d_retZ dX8_burnTo_52 rfl (by decide)
      · refine d_st (fun _ k => zg_aload_n dX8_burnTo_53 rfl (zs_getR dX8_burnTo_54 zf_X8_44 rfl (zq_1 _) (by decide) (by decide) zr_1_6 (zg_aload_n dX8_burnTo_57 rfl (zs_getR dX8_burnTo_58 zf_X8_37 rfl (zq_1 _) (by decide) (by decide) zr_1_5 k)))) ?_
        refine d_cVv (As := [_]) dX8_burnTo_61 zk_X8_254 (zq_34 _) (by decide) ⟨_, _, rfl⟩ rfl rfl (Nat.le_of_ble_eq_true rfl) (Nat.le_of_ble_eq_true rfl) rfl (zd_X0_remember V (by decide) (d + 1) _) (fun r61 _ => ?_)
        refine d_st (fun _ k => zg_aload_n dX8_burnTo_64 rfl (zs_getR dX8_burnTo_65 zf_X8_37 rfl (zq_1 _) (by decide) (by decide) zr_1_5 (zg_iload_n dX8_burnTo_68 rfl (zg_iload_n dX8_burnTo_69 rfl (zg_aload_n dX8_burnTo_70 rfl k))))) ?_
        refine d_gd (fun g71 => ?_)
        refine d_st (fun _ k => zs_getR dX8_burnTo_71 zf_X8_20 rfl (zq_1 _) (by decide) (by decide) zr_pl k) ?_
        refine d_cVv (As := [_, _, _]) dX8_burnTo_74 zk_X8_257 (zq_32 _) (by decide) ⟨_, _, rfl⟩ rfl rfl (Nat.le_of_ble_eq_true rfl) (Nat.le_of_ble_eq_true rfl) rfl (zd_X2_burn V (by decide) g71 d _ _ _) (fun r74 _ => ?_)
        refine d_st (fun _ k => zg_aload_n dX8_burnTo_77 rfl k) ?_
        refine d_cVv (As := []) dX8_burnTo_78 zk_X8_88 (zq_1 _) (by decide) ⟨_, _, rfl⟩ rfl rfl (Nat.le_of_ble_eq_true rfl) (Nat.le_of_ble_eq_true rfl) rfl (zd_X8_outdate V (d + 3) _) (fun r78 _ => ?_)
        refine d_st (fun _ k => zg_iconst 1 dX8_burnTo_81 (by decide) k) ?_
        exact d_retZ dX8_burnTo_82 rfl (by decide)
def f_X8_burns (a1 : Int32) (S : zS) : Option (Int32 × zS) := if z_isP S.2.1 then ((f_X1_hasCorner S.2.1 a1 S).bind (fun r5 => if r5.1 = 0 then (some ((-1), r5.2)) else (if a1 = (r5.2.1 32 1) then (some ((-1), r5.2)) else ((f_X8_burnTo a1 r5.2).bind (fun r26 => if r26.1 = 0 then (some ((-2), r26.2)) else (some (r26.2.1 32 2, r26.2))))))) else none
set_option maxRecDepth 100000 in
set_option maxHeartbeats 4000000 in
theorem zd_X8_burns (V : zV) (d : Nat) : ∀ (a1 : Int32) (S : zS), z_J zeI V mX8_burns (d + 5) (f_X8_burns a1 S) 0 (z_ent mX8_burns [.ref 1, .int a1]) [] S := by
  intro a1 S
  show z_J zeI V mX8_burns (d + 5) (f_X8_burns a1 S) 0 [.ref 1, .int a1] [] S
  unfold f_X8_burns
  refine d_st (fun _ k => zg_aload_n dX8_burns_0 rfl k) ?_
  refine d_gd (fun g1 => ?_)
  refine d_st (fun _ k => zs_getR dX8_burns_1 zf_X8_20 rfl (zq_1 _) (by decide) (by decide) zr_pl k) ?_
  refine d_st (fun _ k => zg_iload_n dX8_burns_4 rfl k) ?_
  refine d_cVi (As := [_]) dX8_burns_5 zk_X8_94 (zp_o g1 _) (by decide) ⟨_, _, rfl⟩ rfl rfl (Nat.le_of_ble_eq_true rfl) (Nat.le_of_ble_eq_true rfl) rfl (zd_X1_hasCorner V g1 (d + 4) _ _) (fun r5 _ => ?_)
  refine d_br (fun _ => zg_if_eq 22 dX8_burns_8 rfl) (fun c8 => ?_) (fun c8 => ?_)
  · refine d_st (fun _ k => zg_iconst (-1) dX8_burns_22 (by decide) k) ?_
    exact d_retI dX8_burns_23 rfl
  · refine d_st (fun _ k => zg_iload_n dX8_burns_11 rfl (zg_aload_n dX8_burns_12 rfl (zs_getR dX8_burns_13 zf_X8_37 rfl (zq_1 _) (by decide) (by decide) zr_1_5 (zs_getI dX8_burns_16 zf_X8_155 rfl (zq_32 _) (by decide) (by decide) k)))) ?_
    refine d_br (fun _ => zg_icmp_ne 24 dX8_burns_19 rfl) (fun c19 => ?_) (fun c19 => ?_)
    · refine d_st (fun _ k => zg_iconst (-1) dX8_burns_22 (by decide) k) ?_
      exact d_retI dX8_burns_23 rfl
    · refine d_st (fun _ k => zg_aload_n dX8_burns_24 rfl (zg_iload_n dX8_burns_25 rfl k)) ?_
      refine d_cVi (As := [_]) dX8_burns_26 zk_X8_158 (zq_1 _) (by decide) ⟨_, _, rfl⟩ rfl rfl (Nat.le_of_ble_eq_true rfl) (Nat.le_of_ble_eq_true rfl) rfl (zd_X8_burnTo V d _ _) (fun r26 _ => ?_)
      refine d_br (fun _ => zg_if_eq 42 dX8_burns_29 rfl) (fun c29 => ?_) (fun c29 => ?_)
      · refine d_st (fun _ k => zg_bipush (-2) dX8_burns_42 (by decide) k) ?_
        exact d_retI dX8_burns_44 rfl
      · refine d_st (fun _ k => zg_aload_n dX8_burns_32 rfl (zs_getR dX8_burns_33 zf_X8_37 rfl (zq_1 _) (by decide) (by decide) zr_1_5 (zs_getI dX8_burns_36 zf_X8_161 rfl (zq_32 _) (by decide) (by decide) (zg_goto 44 dX8_burns_39 rfl k)))) ?_
        exact d_retI dX8_burns_44 rfl
def f_X9_wouldFall_17 (K4 : Int32 → Int32 → Int32 → zS → Option (Int32 × zS)) : Nat → Int32 → Int32 → Int32 → Int32 → zS → Option (Int32 × zS)
  | 0, _, _, _, _, _ => none
  | n + 1, v1, v2, v3, v4, S => if (S.1 89 2) ≤ v4 then (K4 v1 v2 (v3 + 1) S) else (if v2 = 0 then (if z_in v4 4 then ((f_X9_has (S.1 98 v4.toNatClampNeg) v3 S).bind (fun r40 => if r40.1 = 0 then (f_X9_wouldFall_17 K4 n v1 0 v3 (v4 + 1) r40.2) else ((f_X9_cutsOfPart v3 r40.2).bind (fun r48 => if (r48.1 &&& v1) = 0 then ((f_X9_cutsOfPart v4 r48.2).bind (fun r59 => if (r59.1 &&& v1) = 0 then (f_X9_wouldFall_17 K4 n v1 0 v3 (v4 + 1) r59.2) else (f_X9_wouldFall_17 K4 n v1 1 v3 (v4 + 1) r59.2))) else (f_X9_wouldFall_17 K4 n v1 0 v3 (v4 + 1) r48.2))))) else none) else (f_X9_wouldFall_17 K4 n v1 1 v3 (v4 + 1) S))
set_option maxRecDepth 100000 in
set_option maxHeartbeats 4000000 in
theorem zd_X9_wouldFall_17 (V : zV) (d : Nat) {K4 : Int32 → Int32 → Int32 → zS → Option (Int32 × zS)} (hK4 : ∀ (v1 : Int32) (v2 : Int32) (v3 : Int32) (S : zS), z_J zeI V mX9_wouldFall (d + 2) (K4 v1 v2 v3 S) 4 [.ref 87, .int v1, .int v2, .int v3, .null] [] S) : ∀ (n : Nat) (v1 : Int32) (v2 : Int32) (v3 : Int32) (v4 : Int32) (S : zS), z_J zeI V mX9_wouldFall (d + 2) (f_X9_wouldFall_17 K4 n v1 v2 v3 v4 S) 17 [.ref 87, .int v1, .int v2, .int v3, .int v4] [] S := by
  intro n
  induction n with
  | zero =>
    intro v1 v2 v3 v4 S r hr
    cases (show (none : Option (Int32 × zS)) = some r from hr)
  | succ n ih =>
    intro v1 v2 v3 v4 S
    rw [f_X9_wouldFall_17]
    refine d_st (fun _ k => zg_iload dX9_wouldFall_17 rfl (zg_aload_n dX9_wouldFall_19 rfl (zs_getR dX9_wouldFall_20 zf_X9_13 rfl (zq_87 _) (by decide) (by decide) zr_87_9 (zg_iconst 2 dX9_wouldFall_23 (by decide) (zs_iald (j := 2) dX9_wouldFall_24 (by decide) (zq_89 _) (by decide) (by decide) k))))) ?_
    refine d_br (fun _ => zg_icmp_ge 79 dX9_wouldFall_25 rfl) (fun c25 => ?_) (fun c25 => ?_)
    · refine d_st (fun _ k => zg_iinc (ls' := [_, _, _, _, _]) 1 dX9_wouldFall_79 rfl (by decide) (Nat.le_of_ble_eq_true rfl) rfl rfl (zg_goto 4 dX9_wouldFall_82 rfl k)) ?_
      exact d_fg (z_le_s (z_le_s (z_le_s (z_le_s (z_le_0 z_le_n))))) (hK4 _ _ _ _)
    · refine d_st (fun _ k => zg_iload_n dX9_wouldFall_28 rfl k) ?_
      refine d_br (fun _ => zg_if_ne 67 dX9_wouldFall_29 rfl) (fun c29 => ?_) (fun c29 => ?_)
      · refine d_st (fun _ k => zg_aload_n dX9_wouldFall_32 rfl (zs_getR dX9_wouldFall_33 zf_X9_41 rfl (zq_87 _) (by decide) (by decide) zr_87_20 (zg_iload dX9_wouldFall_36 rfl k))) ?_
        refine d_gd (fun g38 => ?_)
        refine d_st (fun _ k => zs_iald dX9_wouldFall_38 (by decide) (zq_98 _) g38 rfl k) ?_
        refine d_st (fun _ k => zg_iload_n dX9_wouldFall_39 rfl k) ?_
        refine d_cSi (As := [_, _]) dX9_wouldFall_40 zk_X9_84 rfl rfl (Nat.le_of_ble_eq_true rfl) (Nat.le_of_ble_eq_true rfl) rfl (zd_X9_has V (d + 1) _ _ _) (fun r40 _ => ?_)
        refine d_br (fun _ => zg_if_eq 71 dX9_wouldFall_43 rfl) (fun c43 => ?_) (fun c43 => ?_)
        · refine d_st (fun _ k => zg_iconst 0 dX9_wouldFall_71 (by decide) (zg_istore_n (ls' := [_, _, _, _, _]) dX9_wouldFall_72 (Nat.le_of_ble_eq_true rfl) rfl rfl (zg_iinc (ls' := [_, _, _, _, _]) 1 dX9_wouldFall_73 rfl (by decide) (Nat.le_of_ble_eq_true rfl) rfl rfl (zg_goto 17 dX9_wouldFall_76 rfl k)))) ?_
          exact d_fg (z_le_s (z_le_s (z_le_s (z_le_s (z_le_s z_le_n))))) (ih _ _ _ _ _)
        · refine d_st (fun _ k => zg_aload_n dX9_wouldFall_46 rfl (zg_iload_n dX9_wouldFall_47 rfl k)) ?_
          refine d_cVi (As := [_]) dX9_wouldFall_48 zk_X9_210 (zq_87 _) (by decide) ⟨_, _, rfl⟩ rfl rfl (Nat.le_of_ble_eq_true rfl) (Nat.le_of_ble_eq_true rfl) rfl (zd_X9_cutsOfPart V d _ _) (fun r48 _ => ?_)
          refine d_st (fun _ k => zg_iload_n dX9_wouldFall_51 rfl (zg_iand dX9_wouldFall_52 k)) ?_
          refine d_br (fun _ => zg_if_ne 71 dX9_wouldFall_53 rfl) (fun c53 => ?_) (fun c53 => ?_)
          · refine d_st (fun _ k => zg_aload_n dX9_wouldFall_56 rfl (zg_iload dX9_wouldFall_57 rfl k)) ?_
            refine d_cVi (As := [_]) dX9_wouldFall_59 zk_X9_210 (zq_87 _) (by decide) ⟨_, _, rfl⟩ rfl rfl (Nat.le_of_ble_eq_true rfl) (Nat.le_of_ble_eq_true rfl) rfl (zd_X9_cutsOfPart V d _ _) (fun r59 _ => ?_)
            refine d_st (fun _ k => zg_iload_n dX9_wouldFall_62 rfl (zg_iand dX9_wouldFall_63 k)) ?_
            refine d_br (fun _ => zg_if_eq 71 dX9_wouldFall_64 rfl) (fun c64 => ?_) (fun c64 => ?_)
            · refine d_st (fun _ k => zg_iconst 0 dX9_wouldFall_71 (by decide) (zg_istore_n (ls' := [_, _, _, _, _]) dX9_wouldFall_72 (Nat.le_of_ble_eq_true rfl) rfl rfl (zg_iinc (ls' := [_, _, _, _, _]) 1 dX9_wouldFall_73 rfl (by decide) (Nat.le_of_ble_eq_true rfl) rfl rfl (zg_goto 17 dX9_wouldFall_76 rfl k)))) ?_
              exact d_fg (z_le_s (z_le_s (z_le_s (z_le_s (z_le_s z_le_n))))) (ih _ _ _ _ _)
            · refine d_st (fun _ k => zg_iconst 1 dX9_wouldFall_67 (by decide) (zg_goto 72 dX9_wouldFall_68 rfl (zg_istore_n (ls' := [_, _, _, _, _]) dX9_wouldFall_72 (Nat.le_of_ble_eq_true rfl) rfl rfl (zg_iinc (ls' := [_, _, _, _, _]) 1 dX9_wouldFall_73 rfl (by decide) (Nat.le_of_ble_eq_true rfl) rfl rfl (zg_goto 17 dX9_wouldFall_76 rfl k))))) ?_
              exact d_fg (z_le_s (z_le_s (z_le_s (z_le_s (z_le_s z_le_n))))) (ih _ _ _ _ _)
          · refine d_st (fun _ k => zg_iconst 0 dX9_wouldFall_71 (by decide) (zg_istore_n (ls' := [_, _, _, _, _]) dX9_wouldFall_72 (Nat.le_of_ble_eq_true rfl) rfl rfl (zg_iinc (ls' := [_, _, _, _, _]) 1 dX9_wouldFall_73 rfl (by decide) (Nat.le_of_ble_eq_true rfl) rfl rfl (zg_goto 17 dX9_wouldFall_76 rfl k)))) ?_
            exact d_fg (z_le_s (z_le_s (z_le_s (z_le_s (z_le_s z_le_n))))) (ih _ _ _ _ _)
      · refine d_st (fun _ k => zg_iconst 1 dX9_wouldFall_67 (by decide) (zg_goto 72 dX9_wouldFall_68 rfl (zg_istore_n (ls' := [_, _, _, _, _]) dX9_wouldFall_72 (Nat.le_of_ble_eq_true rfl) rfl rfl (zg_iinc (ls' := [_, _, _, _, _]) 1 dX9_wouldFall_73 rfl (by decide) (Nat.le_of_ble_eq_true rfl) rfl rfl (zg_goto 17 dX9_wouldFall_76 rfl k))))) ?_
        exact d_fg (z_le_s (z_le_s (z_le_s (z_le_s (z_le_s z_le_n))))) (ih _ _ _ _ _)
def f_X9_wouldFall_4 : Nat → Int32 → Int32 → Int32 → zS → Option (Int32 × zS)
  | 0, _, _, _, _ => none
  | n + 1, v1, v2, v3, S => if (S.1 89 2) ≤ v3 then (if v2 = 0 ∨ v2 = 1 then some (v2, S) else none) else (f_X9_wouldFall_17 (f_X9_wouldFall_4 n) 1000 v1 v2 v3 0 S)
set_option maxRecDepth 100000 in
set_option maxHeartbeats 4000000 in
theorem zd_X9_wouldFall_4 (V : zV) (d : Nat) : ∀ (n : Nat) (v1 : Int32) (v2 : Int32) (v3 : Int32) (S : zS), z_J zeI V mX9_wouldFall (d + 2) (f_X9_wouldFall_4 n v1 v2 v3 S) 4 [.ref 87, .int v1, .int v2, .int v3, .null] [] S := by
  intro n
  induction n with
  | zero =>
    intro v1 v2 v3 S r hr
    cases (show (none : Option (Int32 × zS)) = some r from hr)
  | succ n ih =>
    intro v1 v2 v3 S
    rw [f_X9_wouldFall_4]
    refine d_st (fun _ k => zg_iload_n dX9_wouldFall_4 rfl (zg_aload_n dX9_wouldFall_5 rfl (zs_getR dX9_wouldFall_6 zf_X9_13 rfl (zq_87 _) (by decide) (by decide) zr_87_9 (zg_iconst 2 dX9_wouldFall_9 (by decide) (zs_iald (j := 2) dX9_wouldFall_10 (by decide) (zq_89 _) (by decide) (by decide) k))))) ?_
    refine d_br (fun _ => zg_icmp_ge 85 dX9_wouldFall_11 rfl) (fun c11 => ?_) (fun c11 => ?_)
    · refine d_st (fun _ k => zg_iload_n dX9_wouldFall_85 rfl k) ?_
      refine d_gd (fun g86 => ?_)
      exact d_retZ dX9_wouldFall_86 rfl g86
    · refine d_st (fun _ k => zg_iconst 0 dX9_wouldFall_14 (by decide) (zg_istore (ls' := [_, _, _, _, _]) dX9_wouldFall_15 (Nat.le_of_ble_eq_true rfl) rfl rfl k)) ?_
      exact d_fg (z_le_s (z_le_s (z_le_s (z_le_s (z_le_s z_le_n))))) (zd_X9_wouldFall_17 V d ih 1000 _ _ _ _ _)
def f_X9_wouldFall (a1 : Int32) (S : zS) : Option (Int32 × zS) := f_X9_wouldFall_4 1000 a1 0 0 S
set_option maxRecDepth 100000 in
set_option maxHeartbeats 4000000 in
theorem zd_X9_wouldFall (V : zV) (d : Nat) : ∀ (a1 : Int32) (S : zS), z_J zeI V mX9_wouldFall (d + 2) (f_X9_wouldFall a1 S) 0 (z_ent mX9_wouldFall [.ref 87, .int a1]) [] S := by
  intro a1 S
  show z_J zeI V mX9_wouldFall (d + 2) (f_X9_wouldFall a1 S) 0 [.ref 87, .int a1, .null, .null, .null] [] S
  unfold f_X9_wouldFall
  refine d_st (fun _ k => zg_iconst 0 dX9_wouldFall_0 (by decide) (zg_istore_n (ls' := [_, _, _, _, _]) dX9_wouldFall_1 (Nat.le_of_ble_eq_true rfl) rfl rfl (zg_iconst 0 dX9_wouldFall_2 (by decide) (zg_istore_n (ls' := [_, _, _, _, _]) dX9_wouldFall_3 (Nat.le_of_ble_eq_true rfl) rfl rfl k)))) ?_
  exact d_fg (z_le_s (z_le_s (z_le_s (z_le_s (z_le_0 z_le_n))))) (zd_X9_wouldFall_4 V d 1000 _ _ _ _)
def f_X9_mayBurn (a1 : Int32) (S : zS) : Option (Int32 × zS) := (f_X9_cutOf 89 (S.1 91 1) a1 S).bind (fun r11 => if r11.1 < 0 then (some (0, r11.2)) else ((f_X9_has (r11.2.1 91 0) r11.1 r11.2).bind (fun r26 => if r26.1 = 0 then (some (0, r26.2)) else ((f_X9_wouldFall ((r26.2.1 91 0) &&& (((1 : Int32) <<< (r11.1 &&& 31)) ^^^ (-1))) r26.2).bind (fun r45 => if r45.1 = 0 then (some (1, r45.2)) else (some (0, r45.2)))))))
set_option maxRecDepth 100000 in
set_option maxHeartbeats 4000000 in
theorem zd_X9_mayBurn (V : zV) (d : Nat) : ∀ (a1 : Int32) (S : zS), z_J zeI V mX9_mayBurn (d + 3) (f_X9_mayBurn a1 S) 0 (z_ent mX9_mayBurn [.ref 87, .int a1]) [] S := by
  intro a1 S
  show z_J zeI V mX9_mayBurn (d + 3) (f_X9_mayBurn a1 S) 0 [.ref 87, .int a1, .null] [] S
  unfold f_X9_mayBurn
  refine d_st (fun _ k => zg_aload_n dX9_mayBurn_0 rfl (zs_getR dX9_mayBurn_1 zf_X9_13 rfl (zq_87 _) (by decide) (by decide) zr_87_9 (zg_aload_n dX9_mayBurn_4 rfl (zs_getR dX9_mayBurn_5 zf_X9_19 rfl (zq_87 _) (by decide) (by decide) zr_87_11 (zg_iconst 1 dX9_mayBurn_8 (by decide) (zs_iald (j := 1) dX9_mayBurn_9 (by decide) (zq_91 _) (by decide) (by decide) (zg_iload_n dX9_mayBurn_10 rfl k))))))) ?_
  refine d_cSi (As := [_, _, _]) dX9_mayBurn_11 zk_X9_125 rfl rfl (Nat.le_of_ble_eq_true rfl) (Nat.le_of_ble_eq_true rfl) rfl (zd_X9_cutOf V ⟨(by decide), fun _ => (zq_89 _)⟩ (d + 2) _ _ _) (fun r11 _ => ?_)
  refine d_st (fun _ k => zg_istore_n (ls' := [_, _, _]) dX9_mayBurn_14 (Nat.le_of_ble_eq_true rfl) rfl rfl (zg_iload_n dX9_mayBurn_15 rfl k)) ?_
  refine d_br (fun _ => zg_if_lt 55 dX9_mayBurn_16 rfl) (fun c16 => ?_) (fun c16 => ?_)
  · refine d_st (fun _ k => zg_iconst 0 dX9_mayBurn_55 (by decide) k) ?_
    exact d_retZ dX9_mayBurn_56 rfl (by decide)
  · refine d_st (fun _ k => zg_aload_n dX9_mayBurn_19 rfl (zs_getR dX9_mayBurn_20 zf_X9_19 rfl (zq_87 _) (by decide) (by decide) zr_87_11 (zg_iconst 0 dX9_mayBurn_23 (by decide) (zs_iald (j := 0) dX9_mayBurn_24 (by decide) (zq_91 _) (by decide) (by decide) (zg_iload_n dX9_mayBurn_25 rfl k))))) ?_
    refine d_cSi (As := [_, _]) dX9_mayBurn_26 zk_X9_84 rfl rfl (Nat.le_of_ble_eq_true rfl) (Nat.le_of_ble_eq_true rfl) rfl (zd_X9_has V (d + 2) _ _ _) (fun r26 _ => ?_)
    refine d_br (fun _ => zg_if_eq 55 dX9_mayBurn_29 rfl) (fun c29 => ?_) (fun c29 => ?_)
    · refine d_st (fun _ k => zg_iconst 0 dX9_mayBurn_55 (by decide) k) ?_
      exact d_retZ dX9_mayBurn_56 rfl (by decide)
    · refine d_st (fun _ k => zg_aload_n dX9_mayBurn_32 rfl (zg_aload_n dX9_mayBurn_33 rfl (zs_getR dX9_mayBurn_34 zf_X9_19 rfl (zq_87 _) (by decide) (by decide) zr_87_11 (zg_iconst 0 dX9_mayBurn_37 (by decide) (zs_iald (j := 0) dX9_mayBurn_38 (by decide) (zq_91 _) (by decide) (by decide) (zg_iconst 1 dX9_mayBurn_39 (by decide) (zg_iload_n dX9_mayBurn_40 rfl (zg_ishl dX9_mayBurn_41 (zg_iconst (-1) dX9_mayBurn_42 (by decide) (zg_ixor dX9_mayBurn_43 (zg_iand dX9_mayBurn_44 k))))))))))) ?_
      refine d_cVi (As := [_]) dX9_mayBurn_45 zk_X9_219 (zq_87 _) (by decide) ⟨_, _, rfl⟩ rfl rfl (Nat.le_of_ble_eq_true rfl) (Nat.le_of_ble_eq_true rfl) rfl (zd_X9_wouldFall V d _ _) (fun r45 _ => ?_)
      refine d_br (fun _ => zg_if_ne 55 dX9_mayBurn_48 rfl) (fun c48 => ?_) (fun c48 => ?_)
      · refine d_st (fun _ k => zg_iconst 1 dX9_mayBurn_51 (by decide) (zg_goto 56 dX9_mayBurn_52 rfl k)) ?_
        exact d_retZ dX9_mayBurn_56 rfl (by decide)
      · refine d_st (fun _ k => zg_iconst 0 dX9_mayBurn_55 (by decide) k) ?_
        exact d_retZ dX9_mayBurn_56 rfl (by decide)
def f_X9_notes_46 : Nat → Int32 → zS → Option (Unit × zS)
  | 0, _, _ => none
  | n + 1, v1, S => if 13 ≤ v1 then (some ((), (z_w S 87 13 ((S.1 87 13) + 1)))) else (if z_in v1 13 then (if z_in ((13 * (S.1 87 13)) + v1) 130 then (f_X9_notes_46 n (v1 + 1) (z_w S 92 (((13 * (S.1 87 13)) + v1).toNatClampNeg) (S.1 91 v1.toNatClampNeg))) else none) else none)
set_option maxRecDepth 100000 in
set_option maxHeartbeats 4000000 in
theorem zd_X9_notes_46 (V : zV) (d : Nat) : ∀ (n : Nat) (v1 : Int32) (S : zS), z_J zeV V mX9_notes (d) (f_X9_notes_46 n v1 S) 46 [.ref 87, .int v1] [] S := by
  intro n
  induction n with
  | zero =>
    intro v1 S r hr
    cases (show (none : Option (Unit × zS)) = some r from hr)
  | succ n ih =>
    intro v1 S
    rw [f_X9_notes_46]
    refine d_st (fun _ k => zg_iload_n dX9_notes_46 rfl (zg_bipush 13 dX9_notes_47 (by decide) k)) ?_
    refine d_br (fun _ => zg_icmp_ge 78 dX9_notes_49 rfl) (fun c49 => ?_) (fun c49 => ?_)
    · refine d_st (fun _ k => zg_aload_n dX9_notes_78 rfl (zg_dupr dX9_notes_79 (zs_getI dX9_notes_80 zf_X9_174 rfl (zq_87 _) (by decide) (by decide) (zg_iconst 1 dX9_notes_83 (by decide) (zg_iadd dX9_notes_84 (zs_putI dX9_notes_85 zf_X9_174 rfl (zq_87 _) (by decide) (by decide) k)))))) ?_
      exact d_retV dX9_notes_88 rfl
    · refine d_st (fun _ k => zg_aload_n dX9_notes_52 rfl (zs_getR dX9_notes_53 zf_X9_22 rfl (zq_87 _) (by decide) (by decide) zr_87_12 (zg_bipush 13 dX9_notes_56 (by decide) (zg_aload_n dX9_notes_58 rfl (zs_getI dX9_notes_59 zf_X9_174 rfl (zq_87 _) (by decide) (by decide) (zg_imul dX9_notes_62 (zg_iload_n dX9_notes_63 rfl (zg_iadd dX9_notes_64 (zg_aload_n dX9_notes_65 rfl (zs_getR dX9_notes_66 zf_X9_19 rfl (zq_87 _) (by decide) (by decide) zr_87_11 (zg_iload_n dX9_notes_69 rfl k))))))))))) ?_
      refine d_gd (fun g70 => ?_)
      refine d_st (fun _ k => zs_iald dX9_notes_70 (by decide) (zq_91 _) g70 rfl k) ?_
      refine d_gd (fun g71 => ?_)
      refine d_st (fun _ k => zs_iast dX9_notes_71 (by decide) (zq_92 _) g71 rfl k) ?_
      refine d_st (fun _ k => zg_iinc (ls' := [_, _]) 1 dX9_notes_72 rfl (by decide) (Nat.le_of_ble_eq_true rfl) rfl rfl (zg_goto 46 dX9_notes_75 rfl k)) ?_
      exact d_fg (z_le_s (z_le_s z_le_n)) (ih _ _)
def f_X9_notes_11 : Nat → Int32 → zS → Option (Unit × zS)
  | 0, _, _ => none
  | n + 1, v1, S => if 117 ≤ v1 then (f_X9_notes_46 1000 0 (z_w S 87 13 9)) else (if z_in (v1 + 13) 130 then (if z_in v1 130 then (f_X9_notes_11 n (v1 + 1) (z_w S 92 v1.toNatClampNeg (S.1 92 (v1 + 13).toNatClampNeg))) else none) else none)
set_option maxRecDepth 100000 in
set_option maxHeartbeats 4000000 in
theorem zd_X9_notes_11 (V : zV) (d : Nat) : ∀ (n : Nat) (v1 : Int32) (S : zS), z_J zeV V mX9_notes (d) (f_X9_notes_11 n v1 S) 11 [.ref 87, .int v1] [] S := by
  intro n
  induction n with
  | zero =>
    intro v1 S r hr
    cases (show (none : Option (Unit × zS)) = some r from hr)
  | succ n ih =>
    intro v1 S
    rw [f_X9_notes_11]
    refine d_st (fun _ k => zg_iload_n dX9_notes_11 rfl (zg_bipush 117 dX9_notes_12 (by decide) k)) ?_
    refine d_br (fun _ => zg_icmp_ge 38 dX9_notes_14 rfl) (fun c14 => ?_) (fun c14 => ?_)
    · refine d_st (fun _ k => zg_aload_n dX9_notes_38 rfl (zg_bipush 9 dX9_notes_39 (by decide) (zs_putI dX9_notes_41 zf_X9_174 rfl (zq_87 _) (by decide) (by decide) (zg_iconst 0 dX9_notes_44 (by decide) (zg_istore_n (ls' := [_, _]) dX9_notes_45 (Nat.le_of_ble_eq_true rfl) rfl rfl k))))) ?_
      exact d_fg (z_le_s (z_le_s z_le_n)) (zd_X9_notes_46 V d 1000 _ _)
    · refine d_st (fun _ k => zg_aload_n dX9_notes_17 rfl (zs_getR dX9_notes_18 zf_X9_22 rfl (zq_87 _) (by decide) (by decide) zr_87_12 (zg_iload_n dX9_notes_21 rfl (zg_aload_n dX9_notes_22 rfl (zs_getR dX9_notes_23 zf_X9_22 rfl (zq_87 _) (by decide) (by decide) zr_87_12 (zg_iload_n dX9_notes_26 rfl (zg_bipush 13 dX9_notes_27 (by decide) (zg_iadd dX9_notes_29 k)))))))) ?_
      refine d_gd (fun g30 => ?_)
      refine d_st (fun _ k => zs_iald dX9_notes_30 (by decide) (zq_92 _) g30 rfl k) ?_
      refine d_gd (fun g31 => ?_)
      refine d_st (fun _ k => zs_iast dX9_notes_31 (by decide) (zq_92 _) g31 rfl k) ?_
      refine d_st (fun _ k => zg_iinc (ls' := [_, _]) 1 dX9_notes_32 rfl (by decide) (Nat.le_of_ble_eq_true rfl) rfl rfl (zg_goto 11 dX9_notes_35 rfl k)) ?_
      exact d_fg (z_le_s (z_le_s z_le_n)) (ih _ _)
def f_X9_notes (S : zS) : Option (Unit × zS) := if (S.1 87 13) = 10 then (f_X9_notes_11 1000 0 S) else (f_X9_notes_46 1000 0 S)
set_option maxRecDepth 100000 in
set_option maxHeartbeats 4000000 in
theorem zd_X9_notes (V : zV) (d : Nat) : ∀ (S : zS), z_J zeV V mX9_notes (d) (f_X9_notes  S) 0 (z_ent mX9_notes [.ref 87]) [] S := by
  intro S
  show z_J zeV V mX9_notes (d) (f_X9_notes  S) 0 [.ref 87, .null] [] S
  unfold f_X9_notes
  refine d_st (fun _ k => zg_aload_n dX9_notes_0 rfl (zs_getI dX9_notes_1 zf_X9_174 rfl (zq_87 _) (by decide) (by decide) (zg_bipush 10 dX9_notes_4 (by decide) k))) ?_
  refine d_br (fun _ => zg_icmp_ne 44 dX9_notes_6 rfl) (fun c6 => ?_) (fun c6 => ?_)
  · refine d_st (fun _ k => zg_iconst 0 dX9_notes_9 (by decide) (zg_istore_n (ls' := [_, _]) dX9_notes_10 (Nat.le_of_ble_eq_true rfl) rfl rfl k)) ?_
    exact d_fg (z_le_s (z_le_s z_le_n)) (zd_X9_notes_11 V d 1000 _ _)
  · refine d_st (fun _ k => zg_iconst 0 dX9_notes_44 (by decide) (zg_istore_n (ls' := [_, _]) dX9_notes_45 (Nat.le_of_ble_eq_true rfl) rfl rfl k)) ?_
    exact d_fg (z_le_s (z_le_s z_le_n)) (zd_X9_notes_46 V d 1000 _ _)
def f_X9_isCool (a1 : Int32) (a2 : Int32) (S : zS) : Option (Int32 × zS) := if z_in (4 + a1) 13 then (if (S.1 91 (4 + a1).toNatClampNeg) = (-9) then (some (1, S)) else (if z_in (4 + a1) 13 then (if a2 < ((S.1 91 (4 + a1).toNatClampNeg) + (S.1 89 3)) then (some (0, S)) else (some (1, S))) else none)) else none
set_option maxRecDepth 100000 in
set_option maxHeartbeats 4000000 in
theorem zd_X9_isCool (V : zV) (d : Nat) : ∀ (a1 : Int32) (a2 : Int32) (S : zS), z_J zeI V mX9_isCool (d) (f_X9_isCool a1 a2 S) 0 (z_ent mX9_isCool [.ref 87, .int a1, .int a2]) [] S := by
  intro a1 a2 S
  show z_J zeI V mX9_isCool (d) (f_X9_isCool a1 a2 S) 0 [.ref 87, .int a1, .int a2] [] S
  unfold f_X9_isCool
  refine d_st (fun _ k => zg_aload_n dX9_isCool_0 rfl (zs_getR dX9_isCool_1 zf_X9_19 rfl (zq_87 _) (by decide) (by decide) zr_87_11 (zg_iconst 4 dX9_isCool_4 (by decide) (zg_iload_n dX9_isCool_5 rfl (zg_iadd dX9_isCool_6 k))))) ?_
  refine d_gd (fun g7 => ?_)
  refine d_st (fun _ k => zs_iald dX9_isCool_7 (by decide) (zq_91 _) g7 rfl k) ?_
  refine d_st (fun _ k => zg_bipush (-9) dX9_isCool_8 (by decide) k) ?_
  refine d_br (fun _ => zg_icmp_eq 32 dX9_isCool_10 rfl) (fun c10 => ?_) (fun c10 => ?_)
  · refine d_st (fun _ k => zg_iconst 1 dX9_isCool_32 (by decide) (zg_goto 37 dX9_isCool_33 rfl k)) ?_
    exact d_retZ dX9_isCool_37 rfl (by decide)
  · refine d_st (fun _ k => zg_iload_n dX9_isCool_13 rfl (zg_aload_n dX9_isCool_14 rfl (zs_getR dX9_isCool_15 zf_X9_19 rfl (zq_87 _) (by decide) (by decide) zr_87_11 (zg_iconst 4 dX9_isCool_18 (by decide) (zg_iload_n dX9_isCool_19 rfl (zg_iadd dX9_isCool_20 k)))))) ?_
    refine d_gd (fun g21 => ?_)
    refine d_st (fun _ k => zs_iald dX9_isCool_21 (by decide) (zq_91 _) g21 rfl k) ?_
    refine d_st (fun _ k => zg_aload_n dX9_isCool_22 rfl (zs_getR dX9_isCool_23 zf_X9_13 rfl (zq_87 _) (by decide) (by decide) zr_87_9 (zg_iconst 3 dX9_isCool_26 (by decide) (zs_iald (j := 3) dX9_isCool_27 (by decide) (zq_89 _) (by decide) (by decide) (zg_iadd dX9_isCool_28 k))))) ?_
    refine d_br (fun _ => zg_icmp_lt 36 dX9_isCool_29 rfl) (fun c29 => ?_) (fun c29 => ?_)
    · refine d_st (fun _ k => zg_iconst 0 dX9_isCool_36 (by decide) k) ?_
      exact d_retZ dX9_isCool_37 rfl (by decide)
    · refine d_st (fun _ k => zg_iconst 1 dX9_isCool_32 (by decide) (zg_goto 37 dX9_isCool_33 rfl k)) ?_
      exact d_retZ dX9_isCool_37 rfl (by decide)
def f_X9_beginsAt_136 (v7 : Int32) (t0 : Int32) (S : zS) : Option (Int32 × zS) := if v7 ≤ t0 then (some (t0, S)) else (some (v7, S))
set_option maxRecDepth 100000 in
set_option maxHeartbeats 4000000 in
theorem zd_X9_beginsAt_136 (V : zV) (d : Nat) : ∀ (v7 : Int32) (t0 : Int32) (S : zS), z_J zeI V mX9_beginsAt (d + 1) (f_X9_beginsAt_136 v7 t0 S) 136 [.null, .null, .null, .null, .null, .null, .null, .int v7] [.int t0] S := by
  intro v7 t0 S
  unfold f_X9_beginsAt_136
  refine d_st (fun _ k => zg_istore (ls' := [_, _, _, _, _, _, _, _]) dX9_beginsAt_136 (Nat.le_of_ble_eq_true rfl) rfl rfl (zg_iload dX9_beginsAt_138 rfl (zg_iload dX9_beginsAt_140 rfl k))) ?_
  refine d_br (fun _ => zg_icmp_le 150 dX9_beginsAt_142 rfl) (fun c142 => ?_) (fun c142 => ?_)
  · refine d_st (fun _ k => zg_iload dX9_beginsAt_150 rfl k) ?_
    exact d_retI dX9_beginsAt_152 rfl
  · refine d_st (fun _ k => zg_iload dX9_beginsAt_145 rfl (zg_goto 152 dX9_beginsAt_147 rfl k)) ?_
    exact d_retI dX9_beginsAt_152 rfl
def f_X9_beginsAt_120 (v5 : Int32) (v6 : Int32) (t0 : Int32) (S : zS) : Option (Int32 × zS) := if v6 ≤ v5 then (f_X9_beginsAt_136 t0 v5 S) else (f_X9_beginsAt_136 t0 v6 S)
set_option maxRecDepth 100000 in
set_option maxHeartbeats 4000000 in
theorem zd_X9_beginsAt_120 (V : zV) (d : Nat) : ∀ (v5 : Int32) (v6 : Int32) (t0 : Int32) (S : zS), z_J zeI V mX9_beginsAt (d + 1) (f_X9_beginsAt_120 v5 v6 t0 S) 120 [.null, .null, .null, .null, .null, .int v5, .int v6, .null] [.int t0] S := by
  intro v5 v6 t0 S
  unfold f_X9_beginsAt_120
  refine d_st (fun _ k => zg_istore (ls' := [_, _, _, _, _, _, _, _]) dX9_beginsAt_120 (Nat.le_of_ble_eq_true rfl) rfl rfl (zg_iload dX9_beginsAt_122 rfl (zg_iload dX9_beginsAt_124 rfl k))) ?_
  refine d_br (fun _ => zg_icmp_le 134 dX9_beginsAt_126 rfl) (fun c126 => ?_) (fun c126 => ?_)
  · refine d_st (fun _ k => zg_iload dX9_beginsAt_134 rfl k) ?_
    exact d_fg (z_le_0 (z_le_0 (z_le_0 (z_le_0 (z_le_0 (z_le_0 (z_le_0 (z_le_s z_le_n)))))))) (zd_X9_beginsAt_136 V d _ _ _)
  · refine d_st (fun _ k => zg_iload dX9_beginsAt_129 rfl (zg_goto 136 dX9_beginsAt_131 rfl k)) ?_
    exact d_fg (z_le_0 (z_le_0 (z_le_0 (z_le_0 (z_le_0 (z_le_0 (z_le_0 (z_le_s z_le_n)))))))) (zd_X9_beginsAt_136 V d _ _ _)
def f_X9_beginsAt_83 (v2 : Int32) (v4 : Int32) (v5 : Int32) (t0 : Int32) (S : zS) : Option (Int32 × zS) := if z_in (4 + v2) 13 then (if (S.1 91 (4 + v2).toNatClampNeg) = (-9) then (f_X9_beginsAt_120 v5 t0 0 S) else (if z_in (4 + v2) 13 then (f_X9_beginsAt_120 v5 t0 (((S.1 91 (4 + v2).toNatClampNeg) + (S.1 89 3)) - v4) S) else none)) else none
set_option maxRecDepth 100000 in
set_option maxHeartbeats 4000000 in
theorem zd_X9_beginsAt_83 (V : zV) (d : Nat) : ∀ (v2 : Int32) (v4 : Int32) (v5 : Int32) (t0 : Int32) (S : zS), z_J zeI V mX9_beginsAt (d + 1) (f_X9_beginsAt_83 v2 v4 v5 t0 S) 83 [.ref 87, .null, .int v2, .null, .int v4, .int v5, .null, .null] [.int t0] S := by
  intro v2 v4 v5 t0 S
  unfold f_X9_beginsAt_83
  refine d_st (fun _ k => zg_istore (ls' := [_, _, _, _, _, _, _, _]) dX9_beginsAt_83 (Nat.le_of_ble_eq_true rfl) rfl rfl (zg_aload_n dX9_beginsAt_85 rfl (zs_getR dX9_beginsAt_86 zf_X9_19 rfl (zq_87 _) (by decide) (by decide) zr_87_11 (zg_iconst 4 dX9_beginsAt_89 (by decide) (zg_iload_n dX9_beginsAt_90 rfl (zg_iadd dX9_beginsAt_91 k)))))) ?_
  refine d_gd (fun g92 => ?_)
  refine d_st (fun _ k => zs_iald dX9_beginsAt_92 (by decide) (zq_91 _) g92 rfl k) ?_
  refine d_st (fun _ k => zg_bipush (-9) dX9_beginsAt_93 (by decide) k) ?_
  refine d_br (fun _ => zg_icmp_ne 102 dX9_beginsAt_95 rfl) (fun c95 => ?_) (fun c95 => ?_)
  · refine d_st (fun _ k => zg_iconst 0 dX9_beginsAt_98 (by decide) (zg_goto 120 dX9_beginsAt_99 rfl k)) ?_
    exact d_fg (z_le_0 (z_le_0 (z_le_0 (z_le_0 (z_le_0 (z_le_s (z_le_s (z_le_0 z_le_n)))))))) (zd_X9_beginsAt_120 V d _ _ _ _)
  · refine d_st (fun _ k => zg_aload_n dX9_beginsAt_102 rfl (zs_getR dX9_beginsAt_103 zf_X9_19 rfl (zq_87 _) (by decide) (by decide) zr_87_11 (zg_iconst 4 dX9_beginsAt_106 (by decide) (zg_iload_n dX9_beginsAt_107 rfl (zg_iadd dX9_beginsAt_108 k))))) ?_
    refine d_gd (fun g109 => ?_)
    refine d_st (fun _ k => zs_iald dX9_beginsAt_109 (by decide) (zq_91 _) g109 rfl k) ?_
    refine d_st (fun _ k => zg_aload_n dX9_beginsAt_110 rfl (zs_getR dX9_beginsAt_111 zf_X9_13 rfl (zq_87 _) (by decide) (by decide) zr_87_9 (zg_iconst 3 dX9_beginsAt_114 (by decide) (zs_iald (j := 3) dX9_beginsAt_115 (by decide) (zq_89 _) (by decide) (by decide) (zg_iadd dX9_beginsAt_116 (zg_iload dX9_beginsAt_117 rfl (zg_isub dX9_beginsAt_119 k))))))) ?_
    exact d_fg (z_le_0 (z_le_0 (z_le_0 (z_le_0 (z_le_0 (z_le_s (z_le_s (z_le_0 z_le_n)))))))) (zd_X9_beginsAt_120 V d _ _ _ _)
def f_X9_beginsAt_48 (v1 : Int32) (v2 : Int32) (v3 : Int32) (v4 : Int32) (S : zS) : Option (Int32 × zS) := if z_in (4 + v1) 13 then (if (S.1 91 (4 + v1).toNatClampNeg) = (-9) then (f_X9_beginsAt_83 v2 v4 v3 0 S) else (if z_in (4 + v1) 13 then (f_X9_beginsAt_83 v2 v4 v3 ((S.1 91 (4 + v1).toNatClampNeg) + (S.1 89 3)) S) else none)) else none
set_option maxRecDepth 100000 in
set_option maxHeartbeats 4000000 in
theorem zd_X9_beginsAt_48 (V : zV) (d : Nat) : ∀ (v1 : Int32) (v2 : Int32) (v3 : Int32) (v4 : Int32) (S : zS), z_J zeI V mX9_beginsAt (d + 1) (f_X9_beginsAt_48 v1 v2 v3 v4 S) 48 [.ref 87, .int v1, .int v2, .int v3, .int v4, .null, .null, .null] [] S := by
  intro v1 v2 v3 v4 S
  unfold f_X9_beginsAt_48
  refine d_st (fun _ k => zg_iload_n dX9_beginsAt_48 rfl (zg_istore (ls' := [_, _, _, _, _, _, _, _]) dX9_beginsAt_49 (Nat.le_of_ble_eq_true rfl) rfl rfl (zg_aload_n dX9_beginsAt_51 rfl (zs_getR dX9_beginsAt_52 zf_X9_19 rfl (zq_87 _) (by decide) (by decide) zr_87_11 (zg_iconst 4 dX9_beginsAt_55 (by decide) (zg_iload_n dX9_beginsAt_56 rfl (zg_iadd dX9_beginsAt_57 k))))))) ?_
  refine d_gd (fun g58 => ?_)
  refine d_st (fun _ k => zs_iald dX9_beginsAt_58 (by decide) (zq_91 _) g58 rfl k) ?_
  refine d_st (fun _ k => zg_bipush (-9) dX9_beginsAt_59 (by decide) k) ?_
  refine d_br (fun _ => zg_icmp_ne 68 dX9_beginsAt_61 rfl) (fun c61 => ?_) (fun c61 => ?_)
  · refine d_st (fun _ k => zg_iconst 0 dX9_beginsAt_64 (by decide) (zg_goto 83 dX9_beginsAt_65 rfl k)) ?_
    exact d_fg (z_le_s (z_le_0 (z_le_s (z_le_0 (z_le_s (z_le_s (z_le_0 (z_le_0 z_le_n)))))))) (zd_X9_beginsAt_83 V d _ _ _ _ _)
  · refine d_st (fun _ k => zg_aload_n dX9_beginsAt_68 rfl (zs_getR dX9_beginsAt_69 zf_X9_19 rfl (zq_87 _) (by decide) (by decide) zr_87_11 (zg_iconst 4 dX9_beginsAt_72 (by decide) (zg_iload_n dX9_beginsAt_73 rfl (zg_iadd dX9_beginsAt_74 k))))) ?_
    refine d_gd (fun g75 => ?_)
    refine d_st (fun _ k => zs_iald dX9_beginsAt_75 (by decide) (zq_91 _) g75 rfl k) ?_
    refine d_st (fun _ k => zg_aload_n dX9_beginsAt_76 rfl (zs_getR dX9_beginsAt_77 zf_X9_13 rfl (zq_87 _) (by decide) (by decide) zr_87_9 (zg_iconst 3 dX9_beginsAt_80 (by decide) (zs_iald (j := 3) dX9_beginsAt_81 (by decide) (zq_89 _) (by decide) (by decide) (zg_iadd dX9_beginsAt_82 k))))) ?_
    exact d_fg (z_le_s (z_le_0 (z_le_s (z_le_0 (z_le_s (z_le_s (z_le_0 (z_le_0 z_le_n)))))))) (zd_X9_beginsAt_83 V d _ _ _ _ _)
def f_X9_beginsAt_34 (v1 : Int32) (v2 : Int32) (v3 : Int32) (v4 : Int32) (S : zS) : Option (Int32 × zS) := (f_X9_isCool v2 (v3 + v4) S).bind (fun r40 => if r40.1 = 0 then (f_X9_beginsAt_48 v1 v2 v3 v4 r40.2) else (some (v3, r40.2)))
set_option maxRecDepth 100000 in
set_option maxHeartbeats 4000000 in
theorem zd_X9_beginsAt_34 (V : zV) (d : Nat) : ∀ (v1 : Int32) (v2 : Int32) (v3 : Int32) (v4 : Int32) (S : zS), z_J zeI V mX9_beginsAt (d + 1) (f_X9_beginsAt_34 v1 v2 v3 v4 S) 34 [.ref 87, .int v1, .int v2, .int v3, .int v4, .null, .null, .null] [] S := by
  intro v1 v2 v3 v4 S
  unfold f_X9_beginsAt_34
  refine d_st (fun _ k => zg_aload_n dX9_beginsAt_34 rfl (zg_iload_n dX9_beginsAt_35 rfl (zg_iload_n dX9_beginsAt_36 rfl (zg_iload dX9_beginsAt_37 rfl (zg_iadd dX9_beginsAt_39 k))))) ?_
  refine d_cVi (As := [_, _]) dX9_beginsAt_40 zk_X9_216 (zq_87 _) (by decide) ⟨_, _, rfl⟩ rfl rfl (Nat.le_of_ble_eq_true rfl) (Nat.le_of_ble_eq_true rfl) rfl (zd_X9_isCool V d _ _ _) (fun r40 _ => ?_)
  refine d_br (fun _ => zg_if_eq 48 dX9_beginsAt_43 rfl) (fun c43 => ?_) (fun c43 => ?_)
  · exact d_fg (z_le_s (z_le_s (z_le_s (z_le_s (z_le_s (z_le_0 (z_le_0 (z_le_0 z_le_n)))))))) (zd_X9_beginsAt_48 V d _ _ _ _ _)
  · refine d_st (fun _ k => zg_iload_n dX9_beginsAt_46 rfl k) ?_
    exact d_retI dX9_beginsAt_47 rfl
def f_X9_beginsAt (a1 : Int32) (a2 : Int32) (S : zS) : Option (Int32 × zS) := (f_X9_way a1 a2 S).bind (fun r10 => if (r10.2.1 91 3) = 1 then (f_X9_beginsAt_34 a1 a2 (S.1 91 2) r10.1 r10.2) else ((f_X9_isCool a1 (S.1 91 2) r10.2).bind (fun r28 => if r28.1 = 0 then (f_X9_beginsAt_48 a1 a2 (S.1 91 2) r10.1 r28.2) else (f_X9_beginsAt_34 a1 a2 (S.1 91 2) r10.1 r28.2))))
set_option maxRecDepth 100000 in
set_option maxHeartbeats 4000000 in
theorem zd_X9_beginsAt (V : zV) (d : Nat) : ∀ (a1 : Int32) (a2 : Int32) (S : zS), z_J zeI V mX9_beginsAt (d + 1) (f_X9_beginsAt a1 a2 S) 0 (z_ent mX9_beginsAt [.ref 87, .int a1, .int a2]) [] S := by
  intro a1 a2 S
  show z_J zeI V mX9_beginsAt (d + 1) (f_X9_beginsAt a1 a2 S) 0 [.ref 87, .int a1, .int a2, .null, .null, .null, .null, .null] [] S
  unfold f_X9_beginsAt
  refine d_st (fun _ k => zg_aload_n dX9_beginsAt_0 rfl (zs_getR dX9_beginsAt_1 zf_X9_19 rfl (zq_87 _) (by decide) (by decide) zr_87_11 (zg_iconst 2 dX9_beginsAt_4 (by decide) (zs_iald (j := 2) dX9_beginsAt_5 (by decide) (zq_91 _) (by decide) (by decide) (zg_istore_n (ls' := [_, _, _, _, _, _, _, _]) dX9_beginsAt_6 (Nat.le_of_ble_eq_true rfl) rfl rfl (zg_aload_n dX9_beginsAt_7 rfl (zg_iload_n dX9_beginsAt_8 rfl (zg_iload_n dX9_beginsAt_9 rfl k)))))))) ?_
  refine d_cVi (As := [_, _]) dX9_beginsAt_10 zk_X9_204 (zq_87 _) (by decide) ⟨_, _, rfl⟩ rfl rfl (Nat.le_of_ble_eq_true rfl) (Nat.le_of_ble_eq_true rfl) rfl (zd_X9_way V d _ _ _) (fun r10 _ => ?_)
  refine d_st (fun _ k => zg_istore (ls' := [_, _, _, _, _, _, _, _]) dX9_beginsAt_13 (Nat.le_of_ble_eq_true rfl) rfl rfl (zg_aload_n dX9_beginsAt_15 rfl (zs_getR dX9_beginsAt_16 zf_X9_19 rfl (zq_87 _) (by decide) (by decide) zr_87_11 (zg_iconst 3 dX9_beginsAt_19 (by decide) (zs_iald (j := 3) dX9_beginsAt_20 (by decide) (zq_91 _) (by decide) (by decide) (zg_iconst 1 dX9_beginsAt_21 (by decide) k)))))) ?_
  refine d_br (fun _ => zg_icmp_eq 34 dX9_beginsAt_22 rfl) (fun c22 => ?_) (fun c22 => ?_)
  · exact d_fg (z_le_s (z_le_s (z_le_s (z_le_s (z_le_s (z_le_0 (z_le_0 (z_le_0 z_le_n)))))))) (zd_X9_beginsAt_34 V d _ _ _ _ _)
  · refine d_st (fun _ k => zg_aload_n dX9_beginsAt_25 rfl (zg_iload_n dX9_beginsAt_26 rfl (zg_iload_n dX9_beginsAt_27 rfl k))) ?_
    refine d_cVi (As := [_, _]) dX9_beginsAt_28 zk_X9_216 (zq_87 _) (by decide) ⟨_, _, rfl⟩ rfl rfl (Nat.le_of_ble_eq_true rfl) (Nat.le_of_ble_eq_true rfl) rfl (zd_X9_isCool V d _ _ _) (fun r28 _ => ?_)
    refine d_br (fun _ => zg_if_eq 48 dX9_beginsAt_31 rfl) (fun c31 => ?_) (fun c31 => ?_)
    · exact d_fg (z_le_s (z_le_s (z_le_s (z_le_s (z_le_s (z_le_0 (z_le_0 (z_le_0 z_le_n)))))))) (zd_X9_beginsAt_48 V d _ _ _ _ _)
    · exact d_fg (z_le_s (z_le_s (z_le_s (z_le_s (z_le_s (z_le_0 (z_le_0 (z_le_0 z_le_n)))))))) (zd_X9_beginsAt_34 V d _ _ _ _ _)
