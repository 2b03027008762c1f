def f_X9_burn (a1 : Int32) (S : zS) : Option (Int32 × zS) := (f_X9_notes  S).bind (fun r1 => (f_X9_beginsAt (r1.2.1 91 1) a1 r1.2).bind (fun r14 => (f_X9_cutOf 89 (r1.2.1 91 1) a1 r14.2).bind (fun r32 => if z_in (4 + (r1.2.1 91 1)) 13 then ((f_X9_way (r1.2.1 91 1) a1 (z_w (z_w r32.2 91 0 ((r14.2.1 91 0) &&& (((1 : Int32) <<< (r32.1 &&& 31)) ^^^ (-1)))) 91 ((4 + (r1.2.1 91 1)).toNatClampNeg) r14.1)).bind (fun r58 => if z_in (4 + a1) 13 then (some ((z_w (z_w (z_w (z_w r58.2 91 2 (r14.1 + r58.1)) 91 ((4 + a1).toNatClampNeg) ((z_w r58.2 91 2 (r14.1 + r58.1)).1 91 2)) 91 1 a1) 91 3 1).1 91 2, (z_w (z_w (z_w (z_w r58.2 91 2 (r14.1 + r58.1)) 91 ((4 + a1).toNatClampNeg) ((z_w r58.2 91 2 (r14.1 + r58.1)).1 91 2)) 91 1 a1) 91 3 1))) else none)) else none)))
set_option maxRecDepth 100000 in
set_option maxHeartbeats 4000000 in
theorem zd_X9_burn (V : zV) (d : Nat) : ∀ (a1 : Int32) (S : zS), z_J zeI V mX9_burn (d + 2) (f_X9_burn a1 S) 0 (z_ent mX9_burn [.ref 87, .int a1]) [] S := by
  intro a1 S
  show z_J zeI V mX9_burn (d + 2) (f_X9_burn a1 S) 0 [.ref 87, .int a1, .null, .null] [] S
  unfold f_X9_burn
  refine d_st (fun _ k => zg_aload_n dX9_burn_0 rfl k) ?_
  refine d_cVv (As := []) dX9_burn_1 zk_X9_222 (zq_87 _) (by decide) ⟨_, _, rfl⟩ rfl rfl (Nat.le_of_ble_eq_true rfl) (Nat.le_of_ble_eq_true rfl) rfl (zd_X9_notes V (d + 1) _) (fun r1 _ => ?_)
  refine d_st (fun _ k => zg_aload_n dX9_burn_4 rfl (zs_getR dX9_burn_5 zf_X9_19 rfl (zq_87 _) (by decide) (by decide) zr_87_11 (zg_iconst 1 dX9_burn_8 (by decide) (zs_iald (j := 1) dX9_burn_9 (by decide) (zq_91 _) (by decide) (by decide) (zg_istore_n (ls' := [_, _, _, _]) dX9_burn_10 (Nat.le_of_ble_eq_true rfl) rfl rfl (zg_aload_n dX9_burn_11 rfl (zg_iload_n dX9_burn_12 rfl (zg_iload_n dX9_burn_13 rfl k)))))))) ?_
  refine d_cVi (As := [_, _]) dX9_burn_14 zk_X9_225 (zq_87 _) (by decide) ⟨_, _, rfl⟩ rfl rfl (Nat.le_of_ble_eq_true rfl) (Nat.le_of_ble_eq_true rfl) rfl (zd_X9_beginsAt V d _ _ _) (fun r14 _ => ?_)
  refine d_st (fun _ k => zg_istore_n (ls' := [_, _, _, _]) dX9_burn_17 (Nat.le_of_ble_eq_true rfl) rfl rfl (zg_aload_n dX9_burn_18 rfl (zs_getR dX9_burn_19 zf_X9_19 rfl (zq_87 _) (by decide) (by decide) zr_87_11 (zg_iconst 0 dX9_burn_22 (by decide) (zg_dup2 dX9_burn_23 (zs_iald (j := 0) dX9_burn_24 (by decide) (zq_91 _) (by decide) (by decide) (zg_iconst 1 dX9_burn_25 (by decide) (zg_aload_n dX9_burn_26 rfl (zs_getR dX9_burn_27 zf_X9_13 rfl (zq_87 _) (by decide) (by decide) zr_87_9 (zg_iload_n dX9_burn_30 rfl (zg_iload_n dX9_burn_31 rfl k))))))))))) ?_
  refine d_cSi (As := [_, _, _]) dX9_burn_32 zk_X9_125 rfl rfl (Nat.le_of_ble_eq_true rfl) (Nat.le_of_ble_eq_true rfl) rfl (zd_X9_cutOf V ⟨(by decide), fun _ => (zq_89 _)⟩ (d + 1) _ _ _) (fun r32 _ => ?_)
  refine d_st (fun _ k => zg_ishl dX9_burn_35 (zg_iconst (-1) dX9_burn_36 (by decide) (zg_ixor dX9_burn_37 (zg_iand dX9_burn_38 (zs_iast (j := 0) dX9_burn_39 (by decide) (zq_91 _) (by decide) (by decide) (zg_aload_n dX9_burn_40 rfl (zs_getR dX9_burn_41 zf_X9_19 rfl (zq_87 _) (by decide) (by decide) zr_87_11 (zg_iconst 4 dX9_burn_44 (by decide) (zg_iload_n dX9_burn_45 rfl (zg_iadd dX9_burn_46 (zg_iload_n dX9_burn_47 rfl k))))))))))) ?_
  refine d_gd (fun g48 => ?_)
  refine d_st (fun _ k => zs_iast dX9_burn_48 (by decide) (zq_91 _) g48 rfl k) ?_
  refine d_st (fun _ k => zg_aload_n dX9_burn_49 rfl (zs_getR dX9_burn_50 zf_X9_19 rfl (zq_87 _) (by decide) (by decide) zr_87_11 (zg_iconst 2 dX9_burn_53 (by decide) (zg_iload_n dX9_burn_54 rfl (zg_aload_n dX9_burn_55 rfl (zg_iload_n dX9_burn_56 rfl (zg_iload_n dX9_burn_57 rfl k))))))) ?_
  refine d_cVi (As := [_, _]) dX9_burn_58 zk_X9_204 (zq_87 _) (by decide) ⟨_, _, rfl⟩ rfl rfl (Nat.le_of_ble_eq_true rfl) (Nat.le_of_ble_eq_true rfl) rfl (zd_X9_way V (d + 1) _ _ _) (fun r58 _ => ?_)
  refine d_st (fun _ k => zg_iadd dX9_burn_61 (zs_iast (j := 2) dX9_burn_62 (by decide) (zq_91 _) (by decide) (by decide) (zg_aload_n dX9_burn_63 rfl (zs_getR dX9_burn_64 zf_X9_19 rfl (zq_87 _) (by decide) (by decide) zr_87_11 (zg_iconst 4 dX9_burn_67 (by decide) (zg_iload_n dX9_burn_68 rfl (zg_iadd dX9_burn_69 (zg_aload_n dX9_burn_70 rfl (zs_getR dX9_burn_71 zf_X9_19 rfl (zq_87 _) (by decide) (by decide) zr_87_11 (zg_iconst 2 dX9_burn_74 (by decide) (zs_iald (j := 2) dX9_burn_75 (by decide) (zq_91 _) (by decide) (by decide) k))))))))))) ?_
  refine d_gd (fun g76 => ?_)
  refine d_st (fun _ k => zs_iast dX9_burn_76 (by decide) (zq_91 _) g76 rfl k) ?_
  refine d_st (fun _ k => zg_aload_n dX9_burn_77 rfl (zs_getR dX9_burn_78 zf_X9_19 rfl (zq_87 _) (by decide) (by decide) zr_87_11 (zg_iconst 1 dX9_burn_81 (by decide) (zg_iload_n dX9_burn_82 rfl (zs_iast (j := 1) dX9_burn_83 (by decide) (zq_91 _) (by decide) (by decide) (zg_aload_n dX9_burn_84 rfl (zs_getR dX9_burn_85 zf_X9_19 rfl (zq_87 _) (by decide) (by decide) zr_87_11 (zg_iconst 3 dX9_burn_88 (by decide) (zg_iconst 1 dX9_burn_89 (by decide) (zs_iast (j := 3) dX9_burn_90 (by decide) (zq_91 _) (by decide) (by decide) (zg_aload_n dX9_burn_91 rfl (zs_getR dX9_burn_92 zf_X9_19 rfl (zq_87 _) (by decide) (by decide) zr_87_11 (zg_iconst 2 dX9_burn_95 (by decide) (zs_iald (j := 2) dX9_burn_96 (by decide) (zq_91 _) (by decide) (by decide) k)))))))))))))) ?_
  exact d_retI dX9_burn_97 rfl
def f_X9_burns (a1 : Int32) (S : zS) : Option (Int32 × zS) := (f_X9_isCornerNow a1 (z_w S 87 0 0)).bind (fun r7 => if r7.1 = 0 then (some ((-1), r7.2)) else (if a1 = (r7.2.1 91 1) then (some ((-1), r7.2)) else ((f_X9_mayBurn a1 r7.2).bind (fun r27 => if r27.1 = 0 then (some ((-2), r27.2)) else ((f_X9_burn a1 r27.2).bind (fun r35 => some (r35.1, r35.2)))))))
set_option maxRecDepth 100000 in
set_option maxHeartbeats 4000000 in
theorem zd_X9_burns (V : zV) (d : Nat) : ∀ (a1 : Int32) (S : zS), z_J zeI V mX9_burns (d + 4) (f_X9_burns a1 S) 0 (z_ent mX9_burns [.ref 87, .int a1]) [] S := by
  intro a1 S
  show z_J zeI V mX9_burns (d + 4) (f_X9_burns a1 S) 0 [.ref 87, .int a1] [] S
  unfold f_X9_burns
  refine d_st (fun _ k => zg_aload_n dX9_burns_0 rfl (zg_iconst 0 dX9_burns_1 (by decide) (zs_putI dX9_burns_2 zf_X9_80 rfl (zq_87 _) (by decide) (by decide) (zg_aload_n dX9_burns_5 rfl (zg_iload_n dX9_burns_6 rfl k))))) ?_
  refine d_cVi (As := [_]) dX9_burns_7 zk_X9_188 (zq_87 _) (by decide) ⟨_, _, rfl⟩ rfl rfl (Nat.le_of_ble_eq_true rfl) (Nat.le_of_ble_eq_true rfl) rfl (zd_X9_isCornerNow V (d + 2) _ _) (fun r7 _ => ?_)
  refine d_br (fun _ => zg_if_eq 23 dX9_burns_10 rfl) (fun c10 => ?_) (fun c10 => ?_)
  · refine d_st (fun _ k => zg_iconst (-1) dX9_burns_23 (by decide) k) ?_
    exact d_retI dX9_burns_24 rfl
  · refine d_st (fun _ k => zg_iload_n dX9_burns_13 rfl (zg_aload_n dX9_burns_14 rfl (zs_getR dX9_burns_15 zf_X9_19 rfl (zq_87 _) (by decide) (by decide) zr_87_11 (zg_iconst 1 dX9_burns_18 (by decide) (zs_iald (j := 1) dX9_burns_19 (by decide) (zq_91 _) (by decide) (by decide) k))))) ?_
    refine d_br (fun _ => zg_icmp_ne 25 dX9_burns_20 rfl) (fun c20 => ?_) (fun c20 => ?_)
    · refine d_st (fun _ k => zg_iconst (-1) dX9_burns_23 (by decide) k) ?_
      exact d_retI dX9_burns_24 rfl
    · refine d_st (fun _ k => zg_aload_n dX9_burns_25 rfl (zg_iload_n dX9_burns_26 rfl k)) ?_
      refine d_cVi (As := [_]) dX9_burns_27 zk_X9_228 (zq_87 _) (by decide) ⟨_, _, rfl⟩ rfl rfl (Nat.le_of_ble_eq_true rfl) (Nat.le_of_ble_eq_true rfl) rfl (zd_X9_mayBurn V d _ _) (fun r27 _ => ?_)
      refine d_br (fun _ => zg_if_eq 41 dX9_burns_30 rfl) (fun c30 => ?_) (fun c30 => ?_)
      · refine d_st (fun _ k => zg_bipush (-2) dX9_burns_41 (by decide) k) ?_
        exact d_retI dX9_burns_43 rfl
      · refine d_st (fun _ k => zg_aload_n dX9_burns_33 rfl (zg_iload_n dX9_burns_34 rfl k)) ?_
        refine d_cVi (As := [_]) dX9_burns_35 zk_X9_231 (zq_87 _) (by decide) ⟨_, _, rfl⟩ rfl rfl (Nat.le_of_ble_eq_true rfl) (Nat.le_of_ble_eq_true rfl) rfl (zd_X9_burn V (d + 1) _ _) (fun r35 _ => ?_)
        refine d_st (fun _ k => zg_goto 43 dX9_burns_38 rfl k) ?_
        exact d_retI dX9_burns_43 rfl
def f_X2_move (p0 : Nat) (a1 : Int32) (p2 : Nat) (S : zS) : Option (Unit × zS) := (f_X1_way p2 (S.1 p0 1) a1 S).bind (fun r11 => some ((), (z_w (z_w (z_w r11.2 p0 2 ((S.1 p0 2) + r11.1)) p0 1 a1) p0 3 0)))
set_option maxRecDepth 100000 in
set_option maxHeartbeats 4000000 in
theorem zd_X2_move (V : zV) {p0 : Nat} {p2 : Nat} (h0 : z_isQ p0) (h2 : z_isP p2) (d : Nat) : ∀ (a1 : Int32) (S : zS), z_J zeV V mX2_move (d + 2) (f_X2_move p0 a1 p2 S) 0 (z_ent mX2_move [.ref p0, .int a1, .ref p2]) [] S := by
  intro a1 S
  show z_J zeV V mX2_move (d + 2) (f_X2_move p0 a1 p2 S) 0 [.ref p0, .int a1, .ref p2] [] S
  unfold f_X2_move
  refine d_st (fun _ k => zg_aload_n dX2_move_0 rfl (zg_dupr dX2_move_1 (zs_getI dX2_move_2 zf_X2_18 rfl (zl_o h0 _).1 (by decide) (by decide) (zg_aload_n dX2_move_5 rfl (zg_aload_n dX2_move_6 rfl (zs_getI dX2_move_7 zf_X2_15 rfl (zl_o h0 _).1 (by decide) (by decide) (zg_iload_n dX2_move_10 rfl k))))))) ?_
  refine d_cVi (As := [_, _]) dX2_move_11 zk_X2_49 (zp_o h2 _) (by decide) ⟨_, _, rfl⟩ rfl rfl (Nat.le_of_ble_eq_true rfl) (Nat.le_of_ble_eq_true rfl) rfl (zd_X1_way V h2 d _ _ _) (fun r11 _ => ?_)
  refine d_st (fun _ k => zg_iadd dX2_move_14 (zs_putI dX2_move_15 zf_X2_18 rfl (zl_o h0 _).1 (by decide) (by decide) (zg_aload_n dX2_move_18 rfl (zg_iload_n dX2_move_19 rfl (zs_putI dX2_move_20 zf_X2_15 rfl (zl_o h0 _).1 (by decide) (by decide) (zg_aload_n dX2_move_23 rfl (zg_iconst 0 dX2_move_24 (by decide) (zs_putZ dX2_move_25 zf_X2_21 rfl (by decide) (zl_o h0 _).1 (by decide) (by decide) k)))))))) ?_
  exact d_retV dX2_move_28 rfl
def f_X8_moveTo (a1 : Int32) (S : zS) : Option (Unit × zS) := (f_X0_remember 32 S).bind (fun r8 => if z_isP r8.2.2.1 then ((f_X2_move 32 a1 r8.2.2.1 r8.2).bind (fun r20 => (f_X8_outdate  r20.2).bind (fun r24 => some ((), r24.2)))) else none)
set_option maxRecDepth 100000 in
set_option maxHeartbeats 4000000 in
theorem zd_X8_moveTo (V : zV) (d : Nat) : ∀ (a1 : Int32) (S : zS), z_J zeV V mX8_moveTo (d + 3) (f_X8_moveTo a1 S) 0 (z_ent mX8_moveTo [.ref 1, .int a1]) [] S := by
  intro a1 S
  show z_J zeV V mX8_moveTo (d + 3) (f_X8_moveTo a1 S) 0 [.ref 1, .int a1] [] S
  unfold f_X8_moveTo
  refine d_st (fun _ k => zg_aload_n dX8_moveTo_0 rfl (zs_getR dX8_moveTo_1 zf_X8_44 rfl (zq_1 _) (by decide) (by decide) zr_1_6 (zg_aload_n dX8_moveTo_4 rfl (zs_getR dX8_moveTo_5 zf_X8_37 rfl (zq_1 _) (by decide) (by decide) zr_1_5 k)))) ?_
  refine d_cVv (As := [_]) dX8_moveTo_8 zk_X8_254 (zq_34 _) (by decide) ⟨_, _, rfl⟩ rfl rfl (Nat.le_of_ble_eq_true rfl) (Nat.le_of_ble_eq_true rfl) rfl (zd_X0_remember V (by decide) d _) (fun r8 _ => ?_)
  refine d_st (fun _ k => zg_aload_n dX8_moveTo_11 rfl (zs_getR dX8_moveTo_12 zf_X8_37 rfl (zq_1 _) (by decide) (by decide) zr_1_5 (zg_iload_n dX8_moveTo_15 rfl (zg_aload_n dX8_moveTo_16 rfl k)))) ?_
  refine d_gd (fun g17 => ?_)
  refine d_st (fun _ k => zs_getR dX8_moveTo_17 zf_X8_20 rfl (zq_1 _) (by decide) (by decide) zr_pl k) ?_
  refine d_cVv (As := [_, _]) dX8_moveTo_20 zk_X8_261 (zq_32 _) (by decide) ⟨_, _, rfl⟩ rfl rfl (Nat.le_of_ble_eq_true rfl) (Nat.le_of_ble_eq_true rfl) rfl (zd_X2_move V (by decide) g17 d _ _) (fun r20 _ => ?_)
  refine d_st (fun _ k => zg_aload_n dX8_moveTo_23 rfl k) ?_
  refine d_cVv (As := []) dX8_moveTo_24 zk_X8_88 (zq_1 _) (by decide) ⟨_, _, rfl⟩ rfl rfl (Nat.le_of_ble_eq_true rfl) (Nat.le_of_ble_eq_true rfl) rfl (zd_X8_outdate V (d + 2) _) (fun r24 _ => ?_)
  exact d_retV dX8_moveTo_27 rfl
def f_X8_moves (a1 : Int32) (S : zS) : Option (Int32 × zS) := if z_isP S.2.1 then ((f_X1_hasCorner S.2.1 a1 S).bind (fun r5 => if r5.1 = 0 then (some ((-1), r5.2)) else (if a1 = (r5.2.1 32 1) then (some ((-1), r5.2)) else ((f_X8_moveTo a1 r5.2).bind (fun r26 => some (r26.2.1 32 2, r26.2)))))) else none
set_option maxRecDepth 100000 in
set_option maxHeartbeats 4000000 in
theorem zd_X8_moves (V : zV) (d : Nat) : ∀ (a1 : Int32) (S : zS), z_J zeI V mX8_moves (d + 4) (f_X8_moves a1 S) 0 (z_ent mX8_moves [.ref 1, .int a1]) [] S := by
  intro a1 S
  show z_J zeI V mX8_moves (d + 4) (f_X8_moves a1 S) 0 [.ref 1, .int a1] [] S
  unfold f_X8_moves
  refine d_st (fun _ k => zg_aload_n dX8_moves_0 rfl k) ?_
  refine d_gd (fun g1 => ?_)
  refine d_st (fun _ k => zs_getR dX8_moves_1 zf_X8_20 rfl (zq_1 _) (by decide) (by decide) zr_pl k) ?_
  refine d_st (fun _ k => zg_iload_n dX8_moves_4 rfl k) ?_
  refine d_cVi (As := [_]) dX8_moves_5 zk_X8_94 (zp_o g1 _) (by decide) ⟨_, _, rfl⟩ rfl rfl (Nat.le_of_ble_eq_true rfl) (Nat.le_of_ble_eq_true rfl) rfl (zd_X1_hasCorner V g1 (d + 3) _ _) (fun r5 _ => ?_)
  refine d_br (fun _ => zg_if_eq 22 dX8_moves_8 rfl) (fun c8 => ?_) (fun c8 => ?_)
  · refine d_st (fun _ k => zg_iconst (-1) dX8_moves_22 (by decide) k) ?_
    exact d_retI dX8_moves_23 rfl
  · refine d_st (fun _ k => zg_iload_n dX8_moves_11 rfl (zg_aload_n dX8_moves_12 rfl (zs_getR dX8_moves_13 zf_X8_37 rfl (zq_1 _) (by decide) (by decide) zr_1_5 (zs_getI dX8_moves_16 zf_X8_155 rfl (zq_32 _) (by decide) (by decide) k)))) ?_
    refine d_br (fun _ => zg_icmp_ne 24 dX8_moves_19 rfl) (fun c19 => ?_) (fun c19 => ?_)
    · refine d_st (fun _ k => zg_iconst (-1) dX8_moves_22 (by decide) k) ?_
      exact d_retI dX8_moves_23 rfl
    · refine d_st (fun _ k => zg_aload_n dX8_moves_24 rfl (zg_iload_n dX8_moves_25 rfl k)) ?_
      refine d_cVv (As := [_]) dX8_moves_26 zk_X8_164 (zq_1 _) (by decide) ⟨_, _, rfl⟩ rfl rfl (Nat.le_of_ble_eq_true rfl) (Nat.le_of_ble_eq_true rfl) rfl (zd_X8_moveTo V d _ _) (fun r26 _ => ?_)
      refine d_st (fun _ k => zg_aload_n dX8_moves_29 rfl (zs_getR dX8_moves_30 zf_X8_37 rfl (zq_1 _) (by decide) (by decide) zr_1_5 (zs_getI dX8_moves_33 zf_X8_161 rfl (zq_32 _) (by decide) (by decide) k))) ?_
      exact d_retI dX8_moves_36 rfl
def f_X9_move (a1 : Int32) (S : zS) : Option (Int32 × zS) := (f_X9_notes  S).bind (fun r1 => (f_X9_way (r1.2.1 91 1) a1 r1.2).bind (fun r19 => some ((z_w (z_w (z_w r19.2 91 2 ((r1.2.1 91 2) + r19.1)) 91 1 a1) 91 3 0).1 91 2, (z_w (z_w (z_w r19.2 91 2 ((r1.2.1 91 2) + r19.1)) 91 1 a1) 91 3 0))))
set_option maxRecDepth 100000 in
set_option maxHeartbeats 4000000 in
theorem zd_X9_move (V : zV) (d : Nat) : ∀ (a1 : Int32) (S : zS), z_J zeI V mX9_move (d + 1) (f_X9_move a1 S) 0 (z_ent mX9_move [.ref 87, .int a1]) [] S := by
  intro a1 S
  show z_J zeI V mX9_move (d + 1) (f_X9_move a1 S) 0 [.ref 87, .int a1] [] S
  unfold f_X9_move
  refine d_st (fun _ k => zg_aload_n dX9_move_0 rfl k) ?_
  refine d_cVv (As := []) dX9_move_1 zk_X9_222 (zq_87 _) (by decide) ⟨_, _, rfl⟩ rfl rfl (Nat.le_of_ble_eq_true rfl) (Nat.le_of_ble_eq_true rfl) rfl (zd_X9_notes V d _) (fun r1 _ => ?_)
  refine d_st (fun _ k => zg_aload_n dX9_move_4 rfl (zs_getR dX9_move_5 zf_X9_19 rfl (zq_87 _) (by decide) (by decide) zr_87_11 (zg_iconst 2 dX9_move_8 (by decide) (zg_dup2 dX9_move_9 (zs_iald (j := 2) dX9_move_10 (by decide) (zq_91 _) (by decide) (by decide) (zg_aload_n dX9_move_11 rfl (zg_aload_n dX9_move_12 rfl (zs_getR dX9_move_13 zf_X9_19 rfl (zq_87 _) (by decide) (by decide) zr_87_11 (zg_iconst 1 dX9_move_16 (by decide) (zs_iald (j := 1) dX9_move_17 (by decide) (zq_91 _) (by decide) (by decide) (zg_iload_n dX9_move_18 rfl k))))))))))) ?_
  refine d_cVi (As := [_, _]) dX9_move_19 zk_X9_204 (zq_87 _) (by decide) ⟨_, _, rfl⟩ rfl rfl (Nat.le_of_ble_eq_true rfl) (Nat.le_of_ble_eq_true rfl) rfl (zd_X9_way V d _ _ _) (fun r19 _ => ?_)
  refine d_st (fun _ k => zg_iadd dX9_move_22 (zs_iast (j := 2) dX9_move_23 (by decide) (zq_91 _) (by decide) (by decide) (zg_aload_n dX9_move_24 rfl (zs_getR dX9_move_25 zf_X9_19 rfl (zq_87 _) (by decide) (by decide) zr_87_11 (zg_iconst 1 dX9_move_28 (by decide) (zg_iload_n dX9_move_29 rfl (zs_iast (j := 1) dX9_move_30 (by decide) (zq_91 _) (by decide) (by decide) (zg_aload_n dX9_move_31 rfl (zs_getR dX9_move_32 zf_X9_19 rfl (zq_87 _) (by decide) (by decide) zr_87_11 (zg_iconst 3 dX9_move_35 (by decide) (zg_iconst 0 dX9_move_36 (by decide) (zs_iast (j := 3) dX9_move_37 (by decide) (zq_91 _) (by decide) (by decide) (zg_aload_n dX9_move_38 rfl (zs_getR dX9_move_39 zf_X9_19 rfl (zq_87 _) (by decide) (by decide) zr_87_11 (zg_iconst 2 dX9_move_42 (by decide) (zs_iald (j := 2) dX9_move_43 (by decide) (zq_91 _) (by decide) (by decide) k)))))))))))))))) ?_
  exact d_retI dX9_move_44 rfl
def f_X9_moves (a1 : Int32) (S : zS) : Option (Int32 × zS) := (f_X9_isCornerNow a1 (z_w S 87 0 0)).bind (fun r7 => if r7.1 = 0 then (some ((-1), r7.2)) else (if a1 = (r7.2.1 91 1) then (some ((-1), r7.2)) else ((f_X9_move a1 r7.2).bind (fun r29 => some (r29.1, r29.2)))))
set_option maxRecDepth 100000 in
set_option maxHeartbeats 4000000 in
theorem zd_X9_moves (V : zV) (d : Nat) : ∀ (a1 : Int32) (S : zS), z_J zeI V mX9_moves (d + 2) (f_X9_moves a1 S) 0 (z_ent mX9_moves [.ref 87, .int a1]) [] S := by
  intro a1 S
  show z_J zeI V mX9_moves (d + 2) (f_X9_moves a1 S) 0 [.ref 87, .int a1] [] S
  unfold f_X9_moves
  refine d_st (fun _ k => zg_aload_n dX9_moves_0 rfl (zg_iconst 0 dX9_moves_1 (by decide) (zs_putI dX9_moves_2 zf_X9_80 rfl (zq_87 _) (by decide) (by decide) (zg_aload_n dX9_moves_5 rfl (zg_iload_n dX9_moves_6 rfl k))))) ?_
  refine d_cVi (As := [_]) dX9_moves_7 zk_X9_188 (zq_87 _) (by decide) ⟨_, _, rfl⟩ rfl rfl (Nat.le_of_ble_eq_true rfl) (Nat.le_of_ble_eq_true rfl) rfl (zd_X9_isCornerNow V d _ _) (fun r7 _ => ?_)
  refine d_br (fun _ => zg_if_eq 23 dX9_moves_10 rfl) (fun c10 => ?_) (fun c10 => ?_)
  · refine d_st (fun _ k => zg_iconst (-1) dX9_moves_23 (by decide) (zg_goto 32 dX9_moves_24 rfl k)) ?_
    exact d_retI dX9_moves_32 rfl
  · refine d_st (fun _ k => zg_iload_n dX9_moves_13 rfl (zg_aload_n dX9_moves_14 rfl (zs_getR dX9_moves_15 zf_X9_19 rfl (zq_87 _) (by decide) (by decide) zr_87_11 (zg_iconst 1 dX9_moves_18 (by decide) (zs_iald (j := 1) dX9_moves_19 (by decide) (zq_91 _) (by decide) (by decide) k))))) ?_
    refine d_br (fun _ => zg_icmp_ne 27 dX9_moves_20 rfl) (fun c20 => ?_) (fun c20 => ?_)
    · refine d_st (fun _ k => zg_iconst (-1) dX9_moves_23 (by decide) (zg_goto 32 dX9_moves_24 rfl k)) ?_
      exact d_retI dX9_moves_32 rfl
    · refine d_st (fun _ k => zg_aload_n dX9_moves_27 rfl (zg_iload_n dX9_moves_28 rfl k)) ?_
      refine d_cVi (As := [_]) dX9_moves_29 zk_X9_234 (zq_87 _) (by decide) ⟨_, _, rfl⟩ rfl rfl (Nat.le_of_ble_eq_true rfl) (Nat.le_of_ble_eq_true rfl) rfl (zd_X9_move V d _ _) (fun r29 _ => ?_)
      exact d_retI dX9_moves_32 rfl
def f_X4_hasPiece (a1 : Int32) (S : zS) : Option (Int32 × zS) := if a1 < 0 then (some (0, S)) else (if (S.1 57 1) ≤ a1 then (some (0, S)) else (if 4 ≤ a1 then (some (0, S)) else (some (1, S))))
set_option maxRecDepth 100000 in
set_option maxHeartbeats 4000000 in
theorem zd_X4_hasPiece (V : zV) (d : Nat) : ∀ (a1 : Int32) (S : zS), z_J zeI V mX4_hasPiece (d) (f_X4_hasPiece a1 S) 0 (z_ent mX4_hasPiece [.ref 57, .int a1]) [] S := by
  intro a1 S
  show z_J zeI V mX4_hasPiece (d) (f_X4_hasPiece a1 S) 0 [.ref 57, .int a1] [] S
  unfold f_X4_hasPiece
  refine d_st (fun _ k => zg_iload_n dX4_hasPiece_0 rfl k) ?_
  refine d_br (fun _ => zg_if_lt 21 dX4_hasPiece_1 rfl) (fun c1 => ?_) (fun c1 => ?_)
  · refine d_st (fun _ k => zg_iconst 0 dX4_hasPiece_21 (by decide) k) ?_
    exact d_retZ dX4_hasPiece_22 rfl (by decide)
  · refine d_st (fun _ k => zg_iload_n dX4_hasPiece_4 rfl (zg_aload_n dX4_hasPiece_5 rfl (zs_getI dX4_hasPiece_6 zf_X4_15 rfl (zq_57 _) (by decide) (by decide) k))) ?_
    refine d_br (fun _ => zg_icmp_ge 21 dX4_hasPiece_9 rfl) (fun c9 => ?_) (fun c9 => ?_)
    · refine d_st (fun _ k => zg_iconst 0 dX4_hasPiece_21 (by decide) k) ?_
      exact d_retZ dX4_hasPiece_22 rfl (by decide)
    · refine d_st (fun _ k => zg_iload_n dX4_hasPiece_12 rfl (zg_iconst 4 dX4_hasPiece_13 (by decide) k)) ?_
      refine d_br (fun _ => zg_icmp_ge 21 dX4_hasPiece_14 rfl) (fun c14 => ?_) (fun c14 => ?_)
      · refine d_st (fun _ k => zg_iconst 0 dX4_hasPiece_21 (by decide) k) ?_
        exact d_retZ dX4_hasPiece_22 rfl (by decide)
      · refine d_st (fun _ k => zg_iconst 1 dX4_hasPiece_17 (by decide) (zg_goto 22 dX4_hasPiece_18 rfl k)) ?_
        exact d_retZ dX4_hasPiece_22 rfl (by decide)
def f_X4_startOf (a1 : Int32) (S : zS) : Option (Int32 × zS) := (f_X4_hasPiece a1 S).bind (fun r2 => if r2.1 = 0 then (some ((-9), r2.2)) else (if z_in a1 4 then (some (r2.2.1 61 a1.toNatClampNeg, r2.2)) else none))
set_option maxRecDepth 100000 in
set_option maxHeartbeats 4000000 in
theorem zd_X4_startOf (V : zV) (d : Nat) : ∀ (a1 : Int32) (S : zS), z_J zeI V mX4_startOf (d + 1) (f_X4_startOf a1 S) 0 (z_ent mX4_startOf [.ref 57, .int a1]) [] S := by
  intro a1 S
  show z_J zeI V mX4_startOf (d + 1) (f_X4_startOf a1 S) 0 [.ref 57, .int a1] [] S
  unfold f_X4_startOf
  refine d_st (fun _ k => zg_aload_n dX4_startOf_0 rfl (zg_iload_n dX4_startOf_1 rfl k)) ?_
  refine d_cVi (As := [_]) dX4_startOf_2 zk_X4_85 (zq_57 _) (by decide) ⟨_, _, rfl⟩ rfl rfl (Nat.le_of_ble_eq_true rfl) (Nat.le_of_ble_eq_true rfl) rfl (zd_X4_hasPiece V d _ _) (fun r2 _ => ?_)
  refine d_br (fun _ => zg_if_eq 17 dX4_startOf_5 rfl) (fun c5 => ?_) (fun c5 => ?_)
  · refine d_st (fun _ k => zg_bipush (-9) dX4_startOf_17 (by decide) k) ?_
    exact d_retI dX4_startOf_19 rfl
  · refine d_st (fun _ k => zg_aload_n dX4_startOf_8 rfl (zs_getR dX4_startOf_9 zf_X4_29 rfl (zq_57 _) (by decide) (by decide) zr_57_5 (zg_iload_n dX4_startOf_12 rfl k))) ?_
    refine d_gd (fun g13 => ?_)
    refine d_st (fun _ k => zs_iald dX4_startOf_13 (by decide) (zq_61 _) g13 rfl k) ?_
    refine d_st (fun _ k => zg_goto 19 dX4_startOf_14 rfl k) ?_
    exact d_retI dX4_startOf_19 rfl
def f_X5_layOut_17 (p1 : Nat) : Nat → Int32 → Int32 → zS → Option (Unit × zS)
  | 0, _, _, _ => none
  | n + 1, v3, v4, S => if 9 ≤ v4 then (some ((), S)) else (if z_in v3 4 then ((f_X8_has (S.1 60 v3.toNatClampNeg) v4 S).bind (fun r32 => if r32.1 = 0 then (f_X5_layOut_17 p1 n v3 (v4 + 1) r32.2) else (if z_in v4 9 then (if (r32.2.1 64 v4.toNatClampNeg) ≤ v4 then (f_X5_layOut_17 p1 n v3 (v4 + 1) r32.2) else (if z_in v4 9 then ((f_X6_turn 74 v4 (r32.2.1 64 v4.toNatClampNeg) r32.2).bind (fun r66 => f_X5_layOut_17 p1 n v3 (v4 + 1) r66.2)) else none)) else none))) else none)
set_option maxRecDepth 100000 in
set_option maxHeartbeats 4000000 in
theorem zd_X5_layOut_17 (V : zV) {p1 : Nat} (h1 : z_isP p1) (d : Nat) : ∀ (n : Nat) (v3 : Int32) (v4 : Int32) (S : zS), z_J zeV V mX5_layOut (d + 2) (f_X5_layOut_17 p1 n v3 v4 S) 17 [.ref 69, .null, .ref 57, .int v3, .int v4] [] S := by
  intro n
  induction n with
  | zero =>
    intro v3 v4 S r hr
    cases (show (none : Option (Unit × zS)) = some r from hr)
  | succ n ih =>
    intro v3 v4 S
    rw [f_X5_layOut_17]
    refine d_st (fun _ k => zg_iload dX5_layOut_17 rfl (zg_bipush 9 dX5_layOut_19 (by decide) k)) ?_
    refine d_br (fun _ => zg_icmp_ge 75 dX5_layOut_21 rfl) (fun c21 => ?_) (fun c21 => ?_)
    · exact d_retV dX5_layOut_75 rfl
    · refine d_st (fun _ k => zg_aload_n dX5_layOut_24 rfl (zs_getR dX5_layOut_25 zf_X5_65 rfl (zq_57 _) (by decide) (by decide) zr_57_4 (zg_iload_n dX5_layOut_28 rfl k))) ?_
      refine d_gd (fun g29 => ?_)
      refine d_st (fun _ k => zs_iald dX5_layOut_29 (by decide) (zq_60 _) g29 rfl k) ?_
      refine d_st (fun _ k => zg_iload dX5_layOut_30 rfl k) ?_
      refine d_cTi (As := [_, _]) dX5_layOut_32 zk_X5_68 rfl rfl (Nat.le_of_ble_eq_true rfl) (Nat.le_of_ble_eq_true rfl) rfl (zd_X8_has V (d + 1) _ _ _) (fun r32 _ => ?_)
      refine d_br (fun _ => zg_if_eq 69 dX5_layOut_35 rfl) (fun c35 => ?_) (fun c35 => ?_)
      · refine d_st (fun _ k => zg_iinc (ls' := [_, _, _, _, _]) 1 dX5_layOut_69 rfl (by decide) (Nat.le_of_ble_eq_true rfl) rfl rfl (zg_goto 17 dX5_layOut_72 rfl k)) ?_
        exact d_fg (z_le_s (z_le_0 (z_le_s (z_le_s (z_le_s z_le_n))))) (ih _ _ _)
      · refine d_st (fun _ k => zg_aload_n dX5_layOut_38 rfl (zs_getR dX5_layOut_39 zf_X5_72 rfl (zq_57 _) (by decide) (by decide) zr_57_8 (zg_iload dX5_layOut_42 rfl k))) ?_
        refine d_gd (fun g44 => ?_)
        refine d_st (fun _ k => zs_iald dX5_layOut_44 (by decide) (zq_64 _) g44 rfl k) ?_
        refine d_st (fun _ k => zg_iload dX5_layOut_45 rfl k) ?_
        refine d_br (fun _ => zg_icmp_le 69 dX5_layOut_47 rfl) (fun c47 => ?_) (fun c47 => ?_)
        · refine d_st (fun _ k => zg_iinc (ls' := [_, _, _, _, _]) 1 dX5_layOut_69 rfl (by decide) (Nat.le_of_ble_eq_true rfl) rfl rfl (zg_goto 17 dX5_layOut_72 rfl k)) ?_
          exact d_fg (z_le_s (z_le_0 (z_le_s (z_le_s (z_le_s z_le_n))))) (ih _ _ _)
        · refine d_st (fun _ k => zg_aload_n dX5_layOut_50 rfl (zs_getR dX5_layOut_51 zf_X5_28 rfl (zq_69 _) (by decide) (by decide) zr_69_4 (zs_getR dX5_layOut_54 zf_X5_75 rfl (zq_72 _) (by decide) (by decide) zr_72_1 (zg_iload dX5_layOut_57 rfl (zg_aload_n dX5_layOut_59 rfl (zs_getR dX5_layOut_60 zf_X5_72 rfl (zq_57 _) (by decide) (by decide) zr_57_8 (zg_iload dX5_layOut_63 rfl k))))))) ?_
          refine d_gd (fun g65 => ?_)
          refine d_st (fun _ k => zs_iald dX5_layOut_65 (by decide) (zq_64 _) g65 rfl k) ?_
          refine d_cSv (As := [_, _, _]) dX5_layOut_66 zk_X5_78 rfl rfl (Nat.le_of_ble_eq_true rfl) (Nat.le_of_ble_eq_true rfl) rfl (zd_X6_turn V ⟨(by decide), fun _ => (zq_74 _)⟩ (d + 1) _ _ _) (fun r66 _ => ?_)
          refine d_st (fun _ k => zg_iinc (ls' := [_, _, _, _, _]) 1 dX5_layOut_69 rfl (by decide) (Nat.le_of_ble_eq_true rfl) rfl rfl (zg_goto 17 dX5_layOut_72 rfl k)) ?_
          exact d_fg (z_le_s (z_le_0 (z_le_s (z_le_s (z_le_s z_le_n))))) (ih _ _ _)
def f_X5_layOut (p1 : Nat) (a3 : Int32) (S : zS) : Option (Unit × zS) := if z_in a3 4 then ((f_X6_lay 72 p1 (S.1 58 a3.toNatClampNeg) S).bind (fun r11 => f_X5_layOut_17 p1 1000 a3 0 r11.2)) else none
set_option maxRecDepth 100000 in
set_option maxHeartbeats 4000000 in
theorem zd_X5_layOut (V : zV) {p1 : Nat} (h1 : z_isP p1) (d : Nat) : ∀ (a3 : Int32) (S : zS), z_J zeV V mX5_layOut (d + 2) (f_X5_layOut p1 a3 S) 0 (z_ent mX5_layOut [.ref 69, .ref p1, .ref 57, .int a3]) [] S := by
  intro a3 S
  show z_J zeV V mX5_layOut (d + 2) (f_X5_layOut p1 a3 S) 0 [.ref 69, .ref p1, .ref 57, .int a3, .null] [] S
  unfold f_X5_layOut
  refine d_st (fun _ k => zg_aload_n dX5_layOut_0 rfl (zs_getR dX5_layOut_1 zf_X5_28 rfl (zq_69 _) (by decide) (by decide) zr_69_4 (zg_aload_n dX5_layOut_4 rfl (zg_aload_n dX5_layOut_5 rfl (zs_getR dX5_layOut_6 zf_X5_58 rfl (zq_57 _) (by decide) (by decide) zr_57_2 (zg_iload_n dX5_layOut_9 rfl k)))))) ?_
  refine d_gd (fun g10 => ?_)
  refine d_st (fun _ k => zs_iald dX5_layOut_10 (by decide) (zq_58 _) g10 rfl k) ?_
  refine d_cVv (As := [_, _]) dX5_layOut_11 zk_X5_61 (zq_72 _) (by decide) ⟨_, _, rfl⟩ rfl rfl (Nat.le_of_ble_eq_true rfl) (Nat.le_of_ble_eq_true rfl) rfl (zd_X6_lay V (by decide) h1 d _ _) (fun r11 _ => ?_)
  refine d_st (fun _ k => zg_iconst 0 dX5_layOut_14 (by decide) (zg_istore (ls' := [_, _, _, _, _]) dX5_layOut_15 (Nat.le_of_ble_eq_true rfl) rfl rfl k)) ?_
  exact d_fg (z_le_s (z_le_0 (z_le_s (z_le_s (z_le_s z_le_n))))) (zd_X5_layOut_17 V h1 d 1000 _ _ _)
def f_X4_stepsOf (a1 : Int32) (S : zS) : Option (Int32 × zS) := (f_X4_hasPiece a1 S).bind (fun r2 => if r2.1 = 0 then (some (0, r2.2)) else (if z_in a1 4 then ((f_J6_bitCount_0f7a4 (r2.2.1 58 a1.toNatClampNeg) r2.2).bind (fun r14 => if z_in a1 4 then ((f_J6_bitCount_0f7a4 (r14.2.1 60 a1.toNatClampNeg) r14.2).bind (fun r23 => some (r14.1 + (r23.1 / 2), r23.2))) else none)) else none))
set_option maxRecDepth 100000 in
set_option maxHeartbeats 4000000 in
theorem zd_X4_stepsOf (V : zV) (d : Nat) : ∀ (a1 : Int32) (S : zS), z_J zeI V mX4_stepsOf (d + 1) (f_X4_stepsOf a1 S) 0 (z_ent mX4_stepsOf [.ref 57, .int a1]) [] S := by
  intro a1 S
  show z_J zeI V mX4_stepsOf (d + 1) (f_X4_stepsOf a1 S) 0 [.ref 57, .int a1] [] S
  unfold f_X4_stepsOf
  refine d_st (fun _ k => zg_aload_n dX4_stepsOf_0 rfl (zg_iload_n dX4_stepsOf_1 rfl k)) ?_
  refine d_cVi (As := [_]) dX4_stepsOf_2 zk_X4_85 (zq_57 _) (by decide) ⟨_, _, rfl⟩ rfl rfl (Nat.le_of_ble_eq_true rfl) (Nat.le_of_ble_eq_true rfl) rfl (zd_X4_hasPiece V d _ _) (fun r2 _ => ?_)
  refine d_br (fun _ => zg_if_eq 32 dX4_stepsOf_5 rfl) (fun c5 => ?_) (fun c5 => ?_)
  · refine d_st (fun _ k => zg_iconst 0 dX4_stepsOf_32 (by decide) k) ?_
    exact d_retI dX4_stepsOf_33 rfl
  · refine d_st (fun _ k => zg_aload_n dX4_stepsOf_8 rfl (zs_getR dX4_stepsOf_9 zf_X4_19 rfl (zq_57 _) (by decide) (by decide) zr_57_2 (zg_iload_n dX4_stepsOf_12 rfl k))) ?_
    refine d_gd (fun g13 => ?_)
    refine d_st (fun _ k => zs_iald dX4_stepsOf_13 (by decide) (zq_58 _) g13 rfl k) ?_
    refine d_cSi (As := [_]) dX4_stepsOf_14 zk_X4_89 rfl rfl (Nat.le_of_ble_eq_true rfl) (Nat.le_of_ble_eq_true rfl) rfl (zd_J6_bitCount_0f7a4 V d _ _) (fun r14 _ => ?_)
    refine d_st (fun _ k => zg_aload_n dX4_stepsOf_17 rfl (zs_getR dX4_stepsOf_18 zf_X4_26 rfl (zq_57 _) (by decide) (by decide) zr_57_4 (zg_iload_n dX4_stepsOf_21 rfl k))) ?_
    refine d_gd (fun g22 => ?_)
    refine d_st (fun _ k => zs_iald dX4_stepsOf_22 (by decide) (zq_60 _) g22 rfl k) ?_
    refine d_cSi (As := [_]) dX4_stepsOf_23 zk_X4_89 rfl rfl (Nat.le_of_ble_eq_true rfl) (Nat.le_of_ble_eq_true rfl) rfl (zd_J6_bitCount_0f7a4 V d _ _) (fun r23 _ => ?_)
    refine d_st (fun _ k => zg_iconst 2 dX4_stepsOf_26 (by decide) (zg_idiv dX4_stepsOf_27 (by decide) (zg_iadd dX4_stepsOf_28 (zg_goto 33 dX4_stepsOf_29 rfl k)))) ?_
    exact d_retI dX4_stepsOf_33 rfl
def f_X6_allReachedFrom_8 (p0 : Nat) : Nat → Int32 → Int32 → zS → Option (Int32 × zS)
  | 0, _, _, _ => none
  | n + 1, v2, v3, S => if 9 ≤ v3 then (some (1, S)) else (if z_in v3 9 then (if z_in v3 9 then (if ((S.1 (p0 + 1) v3.toNatClampNeg) ||| (S.1 (p0 + 2) v3.toNatClampNeg)) = 0 then (f_X6_allReachedFrom_8 p0 n v2 (v3 + 1) S) else ((f_X8_has v2 v3 S).bind (fun r32 => if r32.1 = 0 then (some (0, r32.2)) else (f_X6_allReachedFrom_8 p0 n v2 (v3 + 1) r32.2)))) else none) else none)
set_option maxRecDepth 100000 in
set_option maxHeartbeats 4000000 in
theorem zd_X6_allReachedFrom_8 (V : zV) {p0 : Nat} (h0 : z_isW p0) (d : Nat) : ∀ (n : Nat) (v2 : Int32) (v3 : Int32) (S : zS), z_J zeI V mX6_allReachedFrom (d + 2) (f_X6_allReachedFrom_8 p0 n v2 v3 S) 8 [.ref p0, .null, .int v2, .int v3] [] S := by
  intro n
  induction n with
  | zero =>
    intro v2 v3 S r hr
    cases (show (none : Option (Int32 × zS)) = some r from hr)
  | succ n ih =>
    intro v2 v3 S
    rw [f_X6_allReachedFrom_8]
    refine d_st (fun _ k => zg_iload_n dX6_allReachedFrom_8 rfl (zg_bipush 9 dX6_allReachedFrom_9 (by decide) k)) ?_
    refine d_br (fun _ => zg_icmp_ge 46 dX6_allReachedFrom_11 rfl) (fun c11 => ?_) (fun c11 => ?_)
    · refine d_st (fun _ k => zg_iconst 1 dX6_allReachedFrom_46 (by decide) k) ?_
      exact d_retZ dX6_allReachedFrom_47 rfl (by decide)
    · refine d_st (fun _ k => zg_aload_n dX6_allReachedFrom_14 rfl (zs_getR dX6_allReachedFrom_15 zf_X6_9 rfl (zw_o h0 _) (by decide) (by decide) (zw_r0 h0) (zg_iload_n dX6_allReachedFrom_18 rfl k))) ?_
      refine d_gd (fun g19 => ?_)
      refine d_st (fun _ k => zs_iald dX6_allReachedFrom_19 (zw_p1 h0) (zw_1 h0 _) g19 rfl k) ?_
      refine d_st (fun _ k => zg_aload_n dX6_allReachedFrom_20 rfl (zs_getR dX6_allReachedFrom_21 zf_X6_15 rfl (zw_o h0 _) (by decide) (by decide) (zw_r1 h0) (zg_iload_n dX6_allReachedFrom_24 rfl k))) ?_
      refine d_gd (fun g25 => ?_)
      refine d_st (fun _ k => zs_iald dX6_allReachedFrom_25 (zw_p2 h0) (zw_2 h0 _) g25 rfl k) ?_
      refine d_st (fun _ k => zg_ior dX6_allReachedFrom_26 k) ?_
      refine d_br (fun _ => zg_if_eq 40 dX6_allReachedFrom_27 rfl) (fun c27 => ?_) (fun c27 => ?_)
      · refine d_st (fun _ k => zg_iinc (ls' := [_, _, _, _]) 1 dX6_allReachedFrom_40 rfl (by decide) (Nat.le_of_ble_eq_true rfl) rfl rfl (zg_goto 8 dX6_allReachedFrom_43 rfl k)) ?_
        exact d_fg (z_le_s (z_le_0 (z_le_s (z_le_s z_le_n)))) (ih _ _ _)
      · refine d_st (fun _ k => zg_iload_n dX6_allReachedFrom_30 rfl (zg_iload_n dX6_allReachedFrom_31 rfl k)) ?_
        refine d_cTi (As := [_, _]) dX6_allReachedFrom_32 zk_X6_29 rfl rfl (Nat.le_of_ble_eq_true rfl) (Nat.le_of_ble_eq_true rfl) rfl (zd_X8_has V (d + 1) _ _ _) (fun r32 _ => ?_)
        refine d_br (fun _ => zg_if_ne 40 dX6_allReachedFrom_35 rfl) (fun c35 => ?_) (fun c35 => ?_)
        · refine d_st (fun _ k => zg_iconst 0 dX6_allReachedFrom_38 (by decide) k) ?_
          exact d_retZ dX6_allReachedFrom_39 rfl (by decide)
        · refine d_st (fun _ k => zg_iinc (ls' := [_, _, _, _]) 1 dX6_allReachedFrom_40 rfl (by decide) (Nat.le_of_ble_eq_true rfl) rfl rfl (zg_goto 8 dX6_allReachedFrom_43 rfl k)) ?_
          exact d_fg (z_le_s (z_le_0 (z_le_s (z_le_s z_le_n)))) (ih _ _ _)
def f_X6_allReachedFrom (p0 : Nat) (a1 : Int32) (S : zS) : Option (Int32 × zS) := (f_X6_reach p0 a1 S).bind (fun r2 => f_X6_allReachedFrom_8 p0 1000 r2.1 0 r2.2)
set_option maxRecDepth 100000 in
set_option maxHeartbeats 4000000 in
theorem zd_X6_allReachedFrom (V : zV) {p0 : Nat} (h0 : z_isW p0) (d : Nat) : ∀ (a1 : Int32) (S : zS), z_J zeI V mX6_allReachedFrom (d + 2) (f_X6_allReachedFrom p0 a1 S) 0 (z_ent mX6_allReachedFrom [.ref p0, .int a1]) [] S := by
  intro a1 S
  show z_J zeI V mX6_allReachedFrom (d + 2) (f_X6_allReachedFrom p0 a1 S) 0 [.ref p0, .int a1, .null, .null] [] S
  unfold f_X6_allReachedFrom
  refine d_st (fun _ k => zg_aload_n dX6_allReachedFrom_0 rfl (zg_iload_n dX6_allReachedFrom_1 rfl k)) ?_
  refine d_cVi (As := [_]) dX6_allReachedFrom_2 zk_X6_43 (zw_o h0 _) (by decide) ⟨_, _, rfl⟩ rfl rfl (Nat.le_of_ble_eq_true rfl) (Nat.le_of_ble_eq_true rfl) rfl (zd_X6_reach V h0 d _ _) (fun r2 _ => ?_)
  refine d_st (fun _ k => zg_istore_n (ls' := [_, _, _, _]) dX6_allReachedFrom_5 (Nat.le_of_ble_eq_true rfl) rfl rfl (zg_iconst 0 dX6_allReachedFrom_6 (by decide) (zg_istore_n (ls' := [_, _, _, _]) dX6_allReachedFrom_7 (Nat.le_of_ble_eq_true rfl) rfl rfl k))) ?_
  exact d_fg (z_le_s (z_le_0 (z_le_s (z_le_s z_le_n)))) (zd_X6_allReachedFrom_8 V h0 d 1000 _ _ _)
def f_X5_takesTie (p1 : Nat) (a2 : Int32) (a3 : Int32) (S : zS) : Option (Int32 × zS) := if z_in a2 9 then ((f_X8_has (S.1 p1 a2.toNatClampNeg) a3 S).bind (fun r4 => if r4.1 = 0 then (some (0, r4.2)) else ((f_X6_turn p1 a2 a3 r4.2).bind (fun r15 => (f_X6_allReachedFrom 72 a3 r15.2).bind (fun r23 => if r23.1 = 0 then ((f_X6_turn p1 a2 a3 r23.2).bind (fun r34 => some (0, r34.2))) else (some (1, r23.2))))))) else none
set_option maxRecDepth 100000 in
set_option maxHeartbeats 4000000 in
theorem zd_X5_takesTie (V : zV) {p1 : Nat} (h1 : z_isA p1 9) (d : Nat) : ∀ (a2 : Int32) (a3 : Int32) (S : zS), z_J zeI V mX5_takesTie (d + 3) (f_X5_takesTie p1 a2 a3 S) 0 (z_ent mX5_takesTie [.ref 69, .ref p1, .int a2, .int a3]) [] S := by
  intro a2 a3 S
  show z_J zeI V mX5_takesTie (d + 3) (f_X5_takesTie p1 a2 a3 S) 0 [.ref 69, .ref p1, .int a2, .int a3] [] S
  unfold f_X5_takesTie
  refine d_st (fun _ k => zg_aload_n dX5_takesTie_0 rfl (zg_iload_n dX5_takesTie_1 rfl k)) ?_
  refine d_gd (fun g2 => ?_)
  refine d_st (fun _ k => zs_iald dX5_takesTie_2 h1.1 (h1.2 _) g2 rfl k) ?_
  refine d_st (fun _ k => zg_iload_n dX5_takesTie_3 rfl k) ?_
  refine d_cTi (As := [_, _]) dX5_takesTie_4 zk_X5_68 rfl rfl (Nat.le_of_ble_eq_true rfl) (Nat.le_of_ble_eq_true rfl) rfl (zd_X8_has V (d + 2) _ _ _) (fun r4 _ => ?_)
  refine d_br (fun _ => zg_if_ne 12 dX5_takesTie_7 rfl) (fun c7 => ?_) (fun c7 => ?_)
  · refine d_st (fun _ k => zg_iconst 0 dX5_takesTie_10 (by decide) k) ?_
    exact d_retZ dX5_takesTie_11 rfl (by decide)
  · refine d_st (fun _ k => zg_aload_n dX5_takesTie_12 rfl (zg_iload_n dX5_takesTie_13 rfl (zg_iload_n dX5_takesTie_14 rfl k))) ?_
    refine d_cSv (As := [_, _, _]) dX5_takesTie_15 zk_X5_78 rfl rfl (Nat.le_of_ble_eq_true rfl) (Nat.le_of_ble_eq_true rfl) rfl (zd_X6_turn V h1 (d + 2) _ _ _) (fun r15 _ => ?_)
    refine d_st (fun _ k => zg_aload_n dX5_takesTie_18 rfl (zs_getR dX5_takesTie_19 zf_X5_28 rfl (zq_69 _) (by decide) (by decide) zr_69_4 (zg_iload_n dX5_takesTie_22 rfl k))) ?_
    refine d_cVi (As := [_]) dX5_takesTie_23 zk_X5_90 (zq_72 _) (by decide) ⟨_, _, rfl⟩ rfl rfl (Nat.le_of_ble_eq_true rfl) (Nat.le_of_ble_eq_true rfl) rfl (zd_X6_allReachedFrom V (by decide) d _ _) (fun r23 _ => ?_)
    refine d_br (fun _ => zg_if_eq 31 dX5_takesTie_26 rfl) (fun c26 => ?_) (fun c26 => ?_)
    · refine d_st (fun _ k => zg_aload_n dX5_takesTie_31 rfl (zg_iload_n dX5_takesTie_32 rfl (zg_iload_n dX5_takesTie_33 rfl k))) ?_
      refine d_cSv (As := [_, _, _]) dX5_takesTie_34 zk_X5_78 rfl rfl (Nat.le_of_ble_eq_true rfl) (Nat.le_of_ble_eq_true rfl) rfl (zd_X6_turn V h1 (d + 2) _ _ _) (fun r34 _ => ?_)
      refine d_st (fun _ k => zg_iconst 0 dX5_takesTie_37 (by decide) k) ?_
      exact d_retZ dX5_takesTie_38 rfl (by decide)
    · refine d_st (fun _ k => zg_iconst 1 dX5_takesTie_29 (by decide) k) ?_
      exact d_retZ dX5_takesTie_30 rfl (by decide)
def f_X5_notes (a1 : Int32) (a2 : Int32) (S : zS) : Option (Int32 × zS) := if z_in (S.1 69 1) 18 then (if z_in ((z_w S 70 ((S.1 69 1).toNatClampNeg) a1).1 69 1) 18 then (some (1, (z_w (z_w S 70 ((S.1 69 1).toNatClampNeg) a1) 71 (((z_w S 70 ((S.1 69 1).toNatClampNeg) a1).1 69 1).toNatClampNeg) a2))) else none) else none
set_option maxRecDepth 100000 in
set_option maxHeartbeats 4000000 in
theorem zd_X5_notes (V : zV) (d : Nat) : ∀ (a1 : Int32) (a2 : Int32) (S : zS), z_J zeI V mX5_notes (d) (f_X5_notes a1 a2 S) 0 (z_ent mX5_notes [.ref 69, .int a1, .int a2]) [] S := by
  intro a1 a2 S
  show z_J zeI V mX5_notes (d) (f_X5_notes a1 a2 S) 0 [.ref 69, .int a1, .int a2] [] S
  unfold f_X5_notes
  refine d_st (fun _ k => zg_aload_n dX5_notes_0 rfl (zs_getR dX5_notes_1 zf_X5_18 rfl (zq_69 _) (by decide) (by decide) zr_69_2 (zg_aload_n dX5_notes_4 rfl (zs_getI dX5_notes_5 zf_X5_15 rfl (zq_69 _) (by decide) (by decide) (zg_iload_n dX5_notes_8 rfl k))))) ?_
  refine d_gd (fun g9 => ?_)
  refine d_st (fun _ k => zs_iast dX5_notes_9 (by decide) (zq_70 _) g9 rfl k) ?_
  refine d_st (fun _ k => zg_aload_n dX5_notes_10 rfl (zs_getR dX5_notes_11 zf_X5_22 rfl (zq_69 _) (by decide) (by decide) zr_69_3 (zg_aload_n dX5_notes_14 rfl (zs_getI dX5_notes_15 zf_X5_15 rfl (zq_69 _) (by decide) (by decide) (zg_iload_n dX5_notes_18 rfl k))))) ?_
  refine d_gd (fun g19 => ?_)
  refine d_st (fun _ k => zs_iast dX5_notes_19 (by decide) (zq_71 _) g19 rfl k) ?_
  refine d_st (fun _ k => zg_iconst 1 dX5_notes_20 (by decide) k) ?_
  exact d_retZ dX5_notes_21 rfl (by decide)
def f_X5_takesStep_23 : Nat → Int32 → Int32 → zS → Option (Int32 × zS)
  | 0, _, _, _ => none
  | n + 1, v1, v2, S => if 9 ≤ v2 then (some (0, S)) else ((f_X5_takesTie 73 v1 v2 S).bind (fun r39 => if r39.1 = 0 then (if (r39.2.1 69 1) ≤ 0 then (f_X5_takesStep_23 n v1 (v2 + 1) r39.2) else ((f_X5_takesTie 74 v1 v2 r39.2).bind (fun r69 => if r69.1 = 0 then (f_X5_takesStep_23 n v1 (v2 + 1) r69.2) else ((f_X5_notes v2 0 r69.2).bind (fun r78 => if r78.1 = 0 ∨ r78.1 = 1 then some (r78.1, r78.2) else none))))) else ((f_X5_notes v2 1 r39.2).bind (fun r48 => if r48.1 = 0 ∨ r48.1 = 1 then some (r48.1, r48.2) else none))))
set_option maxRecDepth 100000 in
set_option maxHeartbeats 4000000 in
theorem zd_X5_takesStep_23 (V : zV) (d : Nat) : ∀ (n : Nat) (v1 : Int32) (v2 : Int32) (S : zS), z_J zeI V mX5_takesStep (d + 4) (f_X5_takesStep_23 n v1 v2 S) 23 [.ref 69, .int v1, .int v2] [] S := by
  intro n
  induction n with
  | zero =>
    intro v1 v2 S r hr
    cases (show (none : Option (Int32 × zS)) = some r from hr)
  | succ n ih =>
    intro v1 v2 S
    rw [f_X5_takesStep_23]
    refine d_st (fun _ k => zg_iload_n dX5_takesStep_23 rfl (zg_bipush 9 dX5_takesStep_24 (by decide) k)) ?_
    refine d_br (fun _ => zg_icmp_ge 88 dX5_takesStep_26 rfl) (fun c26 => ?_) (fun c26 => ?_)
    · refine d_st (fun _ k => zg_iconst 0 dX5_takesStep_88 (by decide) k) ?_
      exact d_retZ dX5_takesStep_89 rfl (by decide)
    · refine d_st (fun _ k => zg_aload_n dX5_takesStep_29 rfl (zg_aload_n dX5_takesStep_30 rfl (zs_getR dX5_takesStep_31 zf_X5_28 rfl (zq_69 _) (by decide) (by decide) zr_69_4 (zs_getR dX5_takesStep_34 zf_X5_82 rfl (zq_72 _) (by decide) (by decide) zr_72_0 (zg_iload_n dX5_takesStep_37 rfl (zg_iload_n dX5_takesStep_38 rfl k)))))) ?_
      refine d_cVi (As := [_, _, _]) dX5_takesStep_39 zk_X5_83 (zq_69 _) (by decide) ⟨_, _, rfl⟩ rfl rfl (Nat.le_of_ble_eq_true rfl) (Nat.le_of_ble_eq_true rfl) rfl (zd_X5_takesTie V ⟨(by decide), fun _ => (zq_73 _)⟩ d _ _ _) (fun r39 _ => ?_)
      refine d_br (fun _ => zg_if_eq 52 dX5_takesStep_42 rfl) (fun c42 => ?_) (fun c42 => ?_)
      · refine d_st (fun _ k => zg_aload_n dX5_takesStep_52 rfl (zs_getI dX5_takesStep_53 zf_X5_15 rfl (zq_69 _) (by decide) (by decide) k)) ?_
        refine d_br (fun _ => zg_if_le 82 dX5_takesStep_56 rfl) (fun c56 => ?_) (fun c56 => ?_)
        · refine d_st (fun _ k => zg_iinc (ls' := [_, _, _]) 1 dX5_takesStep_82 rfl (by decide) (Nat.le_of_ble_eq_true rfl) rfl rfl (zg_goto 23 dX5_takesStep_85 rfl k)) ?_
          exact d_fg (z_le_s (z_le_s (z_le_s z_le_n))) (ih _ _ _)
        · refine d_st (fun _ k => zg_aload_n dX5_takesStep_59 rfl (zg_aload_n dX5_takesStep_60 rfl (zs_getR dX5_takesStep_61 zf_X5_28 rfl (zq_69 _) (by decide) (by decide) zr_69_4 (zs_getR dX5_takesStep_64 zf_X5_75 rfl (zq_72 _) (by decide) (by decide) zr_72_1 (zg_iload_n dX5_takesStep_67 rfl (zg_iload_n dX5_takesStep_68 rfl k)))))) ?_
          refine d_cVi (As := [_, _, _]) dX5_takesStep_69 zk_X5_83 (zq_69 _) (by decide) ⟨_, _, rfl⟩ rfl rfl (Nat.le_of_ble_eq_true rfl) (Nat.le_of_ble_eq_true rfl) rfl (zd_X5_takesTie V ⟨(by decide), fun _ => (zq_74 _)⟩ d _ _ _) (fun r69 _ => ?_)
          refine d_br (fun _ => zg_if_eq 82 dX5_takesStep_72 rfl) (fun c72 => ?_) (fun c72 => ?_)
          · refine d_st (fun _ k => zg_iinc (ls' := [_, _, _]) 1 dX5_takesStep_82 rfl (by decide) (Nat.le_of_ble_eq_true rfl) rfl rfl (zg_goto 23 dX5_takesStep_85 rfl k)) ?_
            exact d_fg (z_le_s (z_le_s (z_le_s z_le_n))) (ih _ _ _)
          · refine d_st (fun _ k => zg_aload_n dX5_takesStep_75 rfl (zg_iload_n dX5_takesStep_76 rfl (zg_iconst 0 dX5_takesStep_77 (by decide) k))) ?_
            refine d_cVi (As := [_, _]) dX5_takesStep_78 zk_X5_87 (zq_69 _) (by decide) ⟨_, _, rfl⟩ rfl rfl (Nat.le_of_ble_eq_true rfl) (Nat.le_of_ble_eq_true rfl) rfl (zd_X5_notes V (d + 3) _ _ _) (fun r78 _ => ?_)
            refine d_gd (fun g81 => ?_)
            exact d_retZ dX5_takesStep_81 rfl g81
      · refine d_st (fun _ k => zg_aload_n dX5_takesStep_45 rfl (zg_iload_n dX5_takesStep_46 rfl (zg_iconst 1 dX5_takesStep_47 (by decide) k))) ?_
        refine d_cVi (As := [_, _]) dX5_takesStep_48 zk_X5_87 (zq_69 _) (by decide) ⟨_, _, rfl⟩ rfl rfl (Nat.le_of_ble_eq_true rfl) (Nat.le_of_ble_eq_true rfl) rfl (zd_X5_notes V (d + 3) _ _ _) (fun r48 _ => ?_)
        refine d_gd (fun g51 => ?_)
        exact d_retZ dX5_takesStep_51 rfl g51
def f_X5_takesStep (a1 : Int32) (S : zS) : Option (Int32 × zS) := if a1 < 0 then (some (0, S)) else (if 9 ≤ a1 then (some (0, S)) else (if (S.1 69 1) < 18 then (f_X5_takesStep_23 1000 a1 0 S) else (some (0, S))))
set_option maxRecDepth 100000 in
set_option maxHeartbeats 4000000 in
theorem zd_X5_takesStep (V : zV) (d : Nat) : ∀ (a1 : Int32) (S : zS), z_J zeI V mX5_takesStep (d + 4) (f_X5_takesStep a1 S) 0 (z_ent mX5_takesStep [.ref 69, .int a1]) [] S := by
  intro a1 S
  show z_J zeI V mX5_takesStep (d + 4) (f_X5_takesStep a1 S) 0 [.ref 69, .int a1, .null] [] S
  unfold f_X5_takesStep
  refine d_st (fun _ k => zg_iload_n dX5_takesStep_0 rfl k) ?_
  refine d_br (fun _ => zg_if_lt 19 dX5_takesStep_1 rfl) (fun c1 => ?_) (fun c1 => ?_)
  · refine d_st (fun _ k => zg_iconst 0 dX5_takesStep_19 (by decide) k) ?_
    exact d_retZ dX5_takesStep_20 rfl (by decide)
  · refine d_st (fun _ k => zg_iload_n dX5_takesStep_4 rfl (zg_bipush 9 dX5_takesStep_5 (by decide) k)) ?_
    refine d_br (fun _ => zg_icmp_ge 19 dX5_takesStep_7 rfl) (fun c7 => ?_) (fun c7 => ?_)
    · refine d_st (fun _ k => zg_iconst 0 dX5_takesStep_19 (by decide) k) ?_
      exact d_retZ dX5_takesStep_20 rfl (by decide)
    · refine d_st (fun _ k => zg_aload_n dX5_takesStep_10 rfl (zs_getI dX5_takesStep_11 zf_X5_15 rfl (zq_69 _) (by decide) (by decide) (zg_bipush 18 dX5_takesStep_14 (by decide) k))) ?_
      refine d_br (fun _ => zg_icmp_lt 21 dX5_takesStep_16 rfl) (fun c16 => ?_) (fun c16 => ?_)
      · refine d_st (fun _ k => zg_iconst 0 dX5_takesStep_21 (by decide) (zg_istore_n (ls' := [_, _, _]) dX5_takesStep_22 (Nat.le_of_ble_eq_true rfl) rfl rfl k)) ?_
        exact d_fg (z_le_s (z_le_s (z_le_s z_le_n))) (zd_X5_takesStep_23 V d 1000 _ _ _)
      · refine d_st (fun _ k => zg_iconst 0 dX5_takesStep_19 (by decide) k) ?_
        exact d_retZ dX5_takesStep_20 rfl (by decide)
def f_X5_go_48 (p1 : Nat) : Nat → Int32 → Int32 → Int32 → zS → Option (Unit × zS)
  | 0, _, _, _, _ => none
  | n + 1, v3, v4, v5, S => if v4 ≤ (S.1 69 1) then (some ((), (z_w S 69 0 v3))) else ((f_X5_takesStep v5 S).bind (fun r60 => if r60.1 = 0 then (some ((), (z_w r60.2 69 0 v3))) else (if z_in (r60.2.1 69 1) 18 then (f_X5_go_48 p1 n v3 v4 (r60.2.1 70 (r60.2.1 69 1).toNatClampNeg) (z_w r60.2 69 1 ((r60.2.1 69 1) + 1))) else none)))
set_option maxRecDepth 100000 in
set_option maxHeartbeats 4000000 in
theorem zd_X5_go_48 (V : zV) {p1 : Nat} (h1 : z_isP p1) (d : Nat) : ∀ (n : Nat) (v3 : Int32) (v4 : Int32) (v5 : Int32) (S : zS), z_J zeV V mX5_go (d + 5) (f_X5_go_48 p1 n v3 v4 v5 S) 48 [.ref 69, .null, .null, .int v3, .int v4, .int v5] [] S := by
  intro n
  induction n with
  | zero =>
    intro v3 v4 v5 S r hr
    cases (show (none : Option (Unit × zS)) = some r from hr)
  | succ n ih =>
    intro v3 v4 v5 S
    rw [f_X5_go_48]
    refine d_st (fun _ k => zg_aload_n dX5_go_48 rfl (zs_getI dX5_go_49 zf_X5_15 rfl (zq_69 _) (by decide) (by decide) (zg_iload dX5_go_52 rfl k))) ?_
    refine d_br (fun _ => zg_icmp_ge 90 dX5_go_54 rfl) (fun c54 => ?_) (fun c54 => ?_)
    · refine d_st (fun _ k => zg_aload_n dX5_go_90 rfl (zg_iload_n dX5_go_91 rfl (zs_putI dX5_go_92 zf_X5_9 rfl (zq_69 _) (by decide) (by decide) k))) ?_
      exact d_retV dX5_go_95 rfl
    · refine d_st (fun _ k => zg_aload_n dX5_go_57 rfl (zg_iload dX5_go_58 rfl k)) ?_
      refine d_cVi (As := [_]) dX5_go_60 zk_X5_55 (zq_69 _) (by decide) ⟨_, _, rfl⟩ rfl rfl (Nat.le_of_ble_eq_true rfl) (Nat.le_of_ble_eq_true rfl) rfl (zd_X5_takesStep V d _ _) (fun r60 _ => ?_)
      refine d_br (fun _ => zg_if_eq 90 dX5_go_63 rfl) (fun c63 => ?_) (fun c63 => ?_)
      · refine d_st (fun _ k => zg_aload_n dX5_go_90 rfl (zg_iload_n dX5_go_91 rfl (zs_putI dX5_go_92 zf_X5_9 rfl (zq_69 _) (by decide) (by decide) k))) ?_
        exact d_retV dX5_go_95 rfl
      · refine d_st (fun _ k => zg_aload_n dX5_go_66 rfl (zs_getR dX5_go_67 zf_X5_18 rfl (zq_69 _) (by decide) (by decide) zr_69_2 (zg_aload_n dX5_go_70 rfl (zs_getI dX5_go_71 zf_X5_15 rfl (zq_69 _) (by decide) (by decide) k)))) ?_
        refine d_gd (fun g74 => ?_)
        refine d_st (fun _ k => zs_iald dX5_go_74 (by decide) (zq_70 _) g74 rfl k) ?_
        refine d_st (fun _ k => zg_istore (ls' := [_, _, _, _, _, _]) dX5_go_75 (Nat.le_of_ble_eq_true rfl) rfl rfl (zg_aload_n dX5_go_77 rfl (zg_dupr dX5_go_78 (zs_getI dX5_go_79 zf_X5_15 rfl (zq_69 _) (by decide) (by decide) (zg_iconst 1 dX5_go_82 (by decide) (zg_iadd dX5_go_83 (zs_putI dX5_go_84 zf_X5_15 rfl (zq_69 _) (by decide) (by decide) (zg_goto 48 dX5_go_87 rfl k)))))))) ?_
        exact d_fg (z_le_s (z_le_0 (z_le_0 (z_le_s (z_le_s (z_le_s z_le_n)))))) (ih _ _ _ _)
def f_X5_go (p1 : Nat) (a3 : Int32) (S : zS) : Option (Unit × zS) := if (S.1 69 0) = a3 then (some ((), S)) else ((f_X4_hasPiece a3 S).bind (fun r10 => if r10.1 = 0 then (some ((), r10.2)) else ((f_X5_layOut p1 a3 r10.2).bind (fun r21 => (f_X4_stepsOf a3 r21.2).bind (fun r26 => (f_X4_startOf a3 r26.2).bind (fun r38 => f_X5_go_48 p1 1000 a3 (if 18 < r26.1 then 18 else r26.1) r38.1 (z_w r38.2 69 1 0)))))))
set_option maxRecDepth 100000 in
set_option maxHeartbeats 4000000 in
theorem zd_X5_go (V : zV) {p1 : Nat} (h1 : z_isP p1) (d : Nat) : ∀ (a3 : Int32) (S : zS), z_J zeV V mX5_go (d + 5) (f_X5_go p1 a3 S) 0 (z_ent mX5_go [.ref 69, .ref p1, .ref 57, .int a3]) [] S := by
  intro a3 S
  show z_J zeV V mX5_go (d + 5) (f_X5_go p1 a3 S) 0 [.ref 69, .ref p1, .ref 57, .int a3, .null, .null] [] S
  unfold f_X5_go
  refine d_st (fun _ k => zg_aload_n dX5_go_0 rfl (zs_getI dX5_go_1 zf_X5_9 rfl (zq_69 _) (by decide) (by decide) (zg_iload_n dX5_go_4 rfl k))) ?_
  refine d_br (fun _ => zg_icmp_eq 16 dX5_go_5 rfl) (fun c5 => ?_) (fun c5 => ?_)
  · exact d_retV dX5_go_16 rfl
  · refine d_st (fun _ k => zg_aload_n dX5_go_8 rfl (zg_iload_n dX5_go_9 rfl k)) ?_
    refine d_cVi (As := [_]) dX5_go_10 zk_X5_32 (zq_57 _) (by decide) ⟨_, _, rfl⟩ rfl rfl (Nat.le_of_ble_eq_true rfl) (Nat.le_of_ble_eq_true rfl) rfl (zd_X4_hasPiece V (d + 4) _ _) (fun r10 _ => ?_)
    refine d_br (fun _ => zg_if_ne 17 dX5_go_13 rfl) (fun c13 => ?_) (fun c13 => ?_)
    · exact d_retV dX5_go_16 rfl
    · refine d_st (fun _ k => zg_aload_n dX5_go_17 rfl (zg_aload_n dX5_go_18 rfl (zg_aload_n dX5_go_19 rfl (zg_iload_n dX5_go_20 rfl k)))) ?_
      refine d_cVv (As := [_, _, _]) dX5_go_21 zk_X5_38 (zq_69 _) (by decide) ⟨_, _, rfl⟩ rfl rfl (Nat.le_of_ble_eq_true rfl) (Nat.le_of_ble_eq_true rfl) rfl (zd_X5_layOut V h1 (d + 2) _ _) (fun r21 _ => ?_)
      refine d_st (fun _ k => zg_aload_n dX5_go_24 rfl (zg_iload_n dX5_go_25 rfl k)) ?_
      refine d_cVi (As := [_]) dX5_go_26 zk_X5_42 (zq_57 _) (by decide) ⟨_, _, rfl⟩ rfl rfl (Nat.le_of_ble_eq_true rfl) (Nat.le_of_ble_eq_true rfl) rfl (zd_X4_stepsOf V (d + 3) _ _) (fun r26 _ => ?_)
      refine d_st (fun _ k => zg_bipush 18 dX5_go_29 (by decide) (zg_mmin dX5_go_31 zt_3_214 zt_2_149 zt_1_12 zt_2_150 (Nat.le_of_ble_eq_true rfl) (zg_istore (ls' := [_, _, _, _, _, _]) dX5_go_34 (Nat.le_of_ble_eq_true rfl) rfl rfl (zg_aload_n dX5_go_36 rfl (zg_iload_n dX5_go_37 rfl k))))) ?_
      refine d_cVi (As := [_]) dX5_go_38 zk_X5_52 (zq_57 _) (by decide) ⟨_, _, rfl⟩ rfl rfl (Nat.le_of_ble_eq_true rfl) (Nat.le_of_ble_eq_true rfl) rfl (zd_X4_startOf V (d + 3) _ _) (fun r38 _ => ?_)
      refine d_st (fun _ k => zg_istore (ls' := [_, _, _, _, _, _]) dX5_go_41 (Nat.le_of_ble_eq_true rfl) rfl rfl (zg_aload_n dX5_go_43 rfl (zg_iconst 0 dX5_go_44 (by decide) (zs_putI dX5_go_45 zf_X5_15 rfl (zq_69 _) (by decide) (by decide) k)))) ?_
      exact d_fg (z_le_s (z_le_0 (z_le_0 (z_le_s (z_le_s (z_le_s z_le_n)))))) (zd_X5_go_48 V h1 d 1000 _ _ _ _)
def f_X8_follows (S : zS) : Option (Int32 × zS) := if (S.1 32 0) = 0 then (some ((-2), S)) else ((f_X8_surveyed  S).bind (fun r14 => if (r14.2.1 57 10) < 1000000 then ((f_X4_startOf (r14.2.1 65 0) r14.2).bind (fun r39 => if r39.1 = (r39.2.1 32 1) then (if z_isP r39.2.2.1 then ((f_X5_go r39.2.2.1 (r14.2.1 65 0) r39.2).bind (fun r77 => (f_X8_burnTo (r77.2.1 70 0) r77.2).bind (fun r90 => if r90.1 = 0 then (some ((-2), r90.2)) else (some (r90.2.1 32 1, r90.2))))) else none) else ((f_X8_moveTo r39.1 r39.2).bind (fun r56 => some (r56.2.1 32 1, r56.2))))) else (some ((-2), r14.2))))
set_option maxRecDepth 100000 in
set_option maxHeartbeats 4000000 in
theorem zd_X8_follows (V : zV) (d : Nat) : ∀ (S : zS), z_J zeI V mX8_follows (d + 12) (f_X8_follows  S) 0 (z_ent mX8_follows [.ref 1]) [] S := by
  intro S
  show z_J zeI V mX8_follows (d + 12) (f_X8_follows  S) 0 [.ref 1, .null, .null, .null] [] S
  unfold f_X8_follows
  refine d_st (fun _ k => zg_aload_n dX8_follows_0 rfl (zs_getR dX8_follows_1 zf_X8_37 rfl (zq_1 _) (by decide) (by decide) zr_1_5 (zs_getI dX8_follows_4 zf_X8_104 rfl (zq_32 _) (by decide) (by decide) k))) ?_
  refine d_br (fun _ => zg_if_ne 13 dX8_follows_7 rfl) (fun c7 => ?_) (fun c7 => ?_)
  · refine d_st (fun _ k => zg_bipush (-2) dX8_follows_10 (by decide) k) ?_
    exact d_retI dX8_follows_12 rfl
  · refine d_st (fun _ k => zg_aload_n dX8_follows_13 rfl k) ?_
    refine d_cVs (As := []) dX8_follows_14 zk_X8_127 (zq_1 _) (by decide) ⟨_, _, rfl⟩ rfl rfl (Nat.le_of_ble_eq_true rfl) (Nat.le_of_ble_eq_true rfl) rfl (zd_X8_surveyed V d _) (fun r14 _ => ?_)
    refine d_st (fun _ k => zg_astore_n (ls' := [_, _, _, _]) dX8_follows_17 (Nat.le_of_ble_eq_true rfl) rfl rfl (zg_aload_n dX8_follows_18 rfl (zs_getI dX8_follows_19 zf_X8_168 rfl (zq_57 _) (by decide) (by decide) (zg_ldc 1000000 dX8_follows_22 zt_3_189 k)))) ?_
    refine d_br (fun _ => zg_icmp_lt 30 dX8_follows_24 rfl) (fun c24 => ?_) (fun c24 => ?_)
    · refine d_st (fun _ k => zg_aload_n dX8_follows_30 rfl (zs_getR dX8_follows_31 zf_X8_172 rfl (zq_57 _) (by decide) (by decide) zr_57_9 (zg_iconst 0 dX8_follows_34 (by decide) (zs_iald (j := 0) dX8_follows_35 (by decide) (zq_65 _) (by decide) (by decide) (zg_istore_n (ls' := [_, _, _, _]) dX8_follows_36 (Nat.le_of_ble_eq_true rfl) rfl rfl (zg_aload_n dX8_follows_37 rfl (zg_iload_n dX8_follows_38 rfl k))))))) ?_
      refine d_cVi (As := [_]) dX8_follows_39 zk_X8_175 (zq_57 _) (by decide) ⟨_, _, rfl⟩ rfl rfl (Nat.le_of_ble_eq_true rfl) (Nat.le_of_ble_eq_true rfl) rfl (zd_X4_startOf V (d + 10) _ _) (fun r39 _ => ?_)
      refine d_st (fun _ k => zg_istore_n (ls' := [_, _, _, _]) dX8_follows_42 (Nat.le_of_ble_eq_true rfl) rfl rfl (zg_iload_n dX8_follows_43 rfl (zg_aload_n dX8_follows_44 rfl (zs_getR dX8_follows_45 zf_X8_37 rfl (zq_1 _) (by decide) (by decide) zr_1_5 (zs_getI dX8_follows_48 zf_X8_155 rfl (zq_32 _) (by decide) (by decide) k))))) ?_
      refine d_br (fun _ => zg_icmp_eq 67 dX8_follows_51 rfl) (fun c51 => ?_) (fun c51 => ?_)
      · refine d_st (fun _ k => zg_aload_n dX8_follows_67 rfl (zs_getR dX8_follows_68 zf_X8_65 rfl (zq_1 _) (by decide) (by decide) zr_1_10 (zg_aload_n dX8_follows_71 rfl k))) ?_
        refine d_gd (fun g72 => ?_)
        refine d_st (fun _ k => zs_getR dX8_follows_72 zf_X8_20 rfl (zq_1 _) (by decide) (by decide) zr_pl k) ?_
        refine d_st (fun _ k => zg_aload_n dX8_follows_75 rfl (zg_iload_n dX8_follows_76 rfl k)) ?_
        refine d_cVv (As := [_, _, _]) dX8_follows_77 zk_X8_178 (zq_69 _) (by decide) ⟨_, _, rfl⟩ rfl rfl (Nat.le_of_ble_eq_true rfl) (Nat.le_of_ble_eq_true rfl) rfl (zd_X5_go V g72 (d + 6) _ _) (fun r77 _ => ?_)
        refine d_st (fun _ k => zg_aload_n dX8_follows_80 rfl (zg_aload_n dX8_follows_81 rfl (zs_getR dX8_follows_82 zf_X8_65 rfl (zq_1 _) (by decide) (by decide) zr_1_10 (zs_getR dX8_follows_85 zf_X8_182 rfl (zq_69 _) (by decide) (by decide) zr_69_2 (zg_iconst 0 dX8_follows_88 (by decide) (zs_iald (j := 0) dX8_follows_89 (by decide) (zq_70 _) (by decide) (by decide) k)))))) ?_
        refine d_cVi (As := [_]) dX8_follows_90 zk_X8_158 (zq_1 _) (by decide) ⟨_, _, rfl⟩ rfl rfl (Nat.le_of_ble_eq_true rfl) (Nat.le_of_ble_eq_true rfl) rfl (zd_X8_burnTo V (d + 7) _ _) (fun r90 _ => ?_)
        refine d_br (fun _ => zg_if_eq 106 dX8_follows_93 rfl) (fun c93 => ?_) (fun c93 => ?_)
        · refine d_st (fun _ k => zg_bipush (-2) dX8_follows_106 (by decide) k) ?_
          exact d_retI dX8_follows_108 rfl
        · refine d_st (fun _ k => zg_aload_n dX8_follows_96 rfl (zs_getR dX8_follows_97 zf_X8_37 rfl (zq_1 _) (by decide) (by decide) zr_1_5 (zs_getI dX8_follows_100 zf_X8_155 rfl (zq_32 _) (by decide) (by decide) (zg_goto 108 dX8_follows_103 rfl k)))) ?_
          exact d_retI dX8_follows_108 rfl
      · refine d_st (fun _ k => zg_aload_n dX8_follows_54 rfl (zg_iload_n dX8_follows_55 rfl k)) ?_
        refine d_cVv (As := [_]) dX8_follows_56 zk_X8_164 (zq_1 _) (by decide) ⟨_, _, rfl⟩ rfl rfl (Nat.le_of_ble_eq_true rfl) (Nat.le_of_ble_eq_true rfl) rfl (zd_X8_moveTo V (d + 8) _ _) (fun r56 _ => ?_)
        refine d_st (fun _ k => zg_aload_n dX8_follows_59 rfl (zs_getR dX8_follows_60 zf_X8_37 rfl (zq_1 _) (by decide) (by decide) zr_1_5 (zs_getI dX8_follows_63 zf_X8_155 rfl (zq_32 _) (by decide) (by decide) k))) ?_
        exact d_retI dX8_follows_66 rfl
    · refine d_st (fun _ k => zg_bipush (-2) dX8_follows_27 (by decide) k) ?_
      exact d_retI dX8_follows_29 rfl
def f_X9_cutsOf_4 : Nat → Int32 → Int32 → Int32 → zS → Option (Int32 × zS)
  | 0, _, _, _, _ => none
  | n + 1, v1, v2, v3, S => if (S.1 89 1) ≤ v3 then (some (v2, S)) else ((f_X9_has (S.1 91 0) v3 S).bind (fun r22 => if r22.1 = 0 then (f_X9_cutsOf_4 n v1 (v2 ||| 0) (v3 + 1) r22.2) else (if z_in (22 + v3) 74 then (if z_in (r22.2.1 89 (22 + v3).toNatClampNeg) 9 then (if z_in v1 9 then (if (r22.2.1 99 (r22.2.1 89 (22 + v3).toNatClampNeg).toNatClampNeg) = (r22.2.1 100 v1.toNatClampNeg) then (f_X9_cutsOf_4 n v1 (v2 ||| ((1 : Int32) <<< (v3 &&& 31))) (v3 + 1) r22.2) else (f_X9_cutsOf_4 n v1 (v2 ||| 0) (v3 + 1) r22.2)) else none) else none) else none)))
set_option maxRecDepth 100000 in
set_option maxHeartbeats 4000000 in
theorem zd_X9_cutsOf_4 (V : zV) (d : Nat) : ∀ (n : Nat) (v1 : Int32) (v2 : Int32) (v3 : Int32) (S : zS), z_J zeI V mX9_cutsOf (d + 1) (f_X9_cutsOf_4 n v1 v2 v3 S) 4 [.ref 87, .int v1, .int v2, .int v3] [] S := by
  intro n
  induction n with
  | zero =>
    intro v1 v2 v3 S r hr
    cases (show (none : Option (Int32 × zS)) = some r from hr)
  | succ n ih =>
    intro v1 v2 v3 S
    rw [f_X9_cutsOf_4]
    refine d_st (fun _ k => zg_iload_n dX9_cutsOf_4 rfl (zg_aload_n dX9_cutsOf_5 rfl (zs_getR dX9_cutsOf_6 zf_X9_13 rfl (zq_87 _) (by decide) (by decide) zr_87_9 (zg_iconst 1 dX9_cutsOf_9 (by decide) (zs_iald (j := 1) dX9_cutsOf_10 (by decide) (zq_89 _) (by decide) (by decide) k))))) ?_
    refine d_br (fun _ => zg_icmp_ge 66 dX9_cutsOf_11 rfl) (fun c11 => ?_) (fun c11 => ?_)
    · refine d_st (fun _ k => zg_iload_n dX9_cutsOf_66 rfl k) ?_
      exact d_retI dX9_cutsOf_67 rfl
    · refine d_st (fun _ k => zg_iload_n dX9_cutsOf_14 rfl (zg_aload_n dX9_cutsOf_15 rfl (zs_getR dX9_cutsOf_16 zf_X9_19 rfl (zq_87 _) (by decide) (by decide) zr_87_11 (zg_iconst 0 dX9_cutsOf_19 (by decide) (zs_iald (j := 0) dX9_cutsOf_20 (by decide) (zq_91 _) (by decide) (by decide) (zg_iload_n dX9_cutsOf_21 rfl k)))))) ?_
      refine d_cSi (As := [_, _]) dX9_cutsOf_22 zk_X9_84 rfl rfl (Nat.le_of_ble_eq_true rfl) (Nat.le_of_ble_eq_true rfl) rfl (zd_X9_has V d _ _ _) (fun r22 _ => ?_)
      refine d_br (fun _ => zg_if_eq 57 dX9_cutsOf_25 rfl) (fun c25 => ?_) (fun c25 => ?_)
      · refine d_st (fun _ k => zg_iconst 0 dX9_cutsOf_57 (by decide) (zg_ior dX9_cutsOf_58 (zg_istore_n (ls' := [_, _, _, _]) dX9_cutsOf_59 (Nat.le_of_ble_eq_true rfl) rfl rfl (zg_iinc (ls' := [_, _, _, _]) 1 dX9_cutsOf_60 rfl (by decide) (Nat.le_of_ble_eq_true rfl) rfl rfl (zg_goto 4 dX9_cutsOf_63 rfl k))))) ?_
        exact d_fg (z_le_s (z_le_s (z_le_s (z_le_s z_le_n)))) (ih _ _ _ _)
      · refine d_st (fun _ k => zg_aload_n dX9_cutsOf_28 rfl (zs_getR dX9_cutsOf_29 zf_X9_44 rfl (zq_87 _) (by decide) (by decide) zr_87_21 (zg_aload_n dX9_cutsOf_32 rfl (zs_getR dX9_cutsOf_33 zf_X9_13 rfl (zq_87 _) (by decide) (by decide) zr_87_9 (zg_bipush 22 dX9_cutsOf_36 (by decide) (zg_iload_n dX9_cutsOf_38 rfl (zg_iadd dX9_cutsOf_39 k))))))) ?_
        refine d_gd (fun g40 => ?_)
        refine d_st (fun _ k => zs_iald dX9_cutsOf_40 (by decide) (zq_89 _) g40 rfl k) ?_
        refine d_gd (fun g41 => ?_)
        refine d_st (fun _ k => zs_iald dX9_cutsOf_41 (by decide) (zq_99 _) g41 rfl k) ?_
        refine d_st (fun _ k => zg_aload_n dX9_cutsOf_42 rfl (zs_getR dX9_cutsOf_43 zf_X9_47 rfl (zq_87 _) (by decide) (by decide) zr_87_22 (zg_iload_n dX9_cutsOf_46 rfl k))) ?_
        refine d_gd (fun g47 => ?_)
        refine d_st (fun _ k => zs_iald dX9_cutsOf_47 (by decide) (zq_100 _) g47 rfl k) ?_
        refine d_br (fun _ => zg_icmp_ne 57 dX9_cutsOf_48 rfl) (fun c48 => ?_) (fun c48 => ?_)
        · refine d_st (fun _ k => zg_iconst 1 dX9_cutsOf_51 (by decide) (zg_iload_n dX9_cutsOf_52 rfl (zg_ishl dX9_cutsOf_53 (zg_goto 58 dX9_cutsOf_54 rfl (zg_ior dX9_cutsOf_58 (zg_istore_n (ls' := [_, _, _, _]) dX9_cutsOf_59 (Nat.le_of_ble_eq_true rfl) rfl rfl (zg_iinc (ls' := [_, _, _, _]) 1 dX9_cutsOf_60 rfl (by decide) (Nat.le_of_ble_eq_true rfl) rfl rfl (zg_goto 4 dX9_cutsOf_63 rfl k)))))))) ?_
          exact d_fg (z_le_s (z_le_s (z_le_s (z_le_s z_le_n)))) (ih _ _ _ _)
        · refine d_st (fun _ k => zg_iconst 0 dX9_cutsOf_57 (by decide) (zg_ior dX9_cutsOf_58 (zg_istore_n (ls' := [_, _, _, _]) dX9_cutsOf_59 (Nat.le_of_ble_eq_true rfl) rfl rfl (zg_iinc (ls' := [_, _, _, _]) 1 dX9_cutsOf_60 rfl (by decide) (Nat.le_of_ble_eq_true rfl) rfl rfl (zg_goto 4 dX9_cutsOf_63 rfl k))))) ?_
          exact d_fg (z_le_s (z_le_s (z_le_s (z_le_s z_le_n)))) (ih _ _ _ _)
def f_X9_cutsOf (a1 : Int32) (S : zS) : Option (Int32 × zS) := f_X9_cutsOf_4 1000 a1 0 0 S
set_option maxRecDepth 100000 in
set_option maxHeartbeats 4000000 in
theorem zd_X9_cutsOf (V : zV) (d : Nat) : ∀ (a1 : Int32) (S : zS), z_J zeI V mX9_cutsOf (d + 1) (f_X9_cutsOf a1 S) 0 (z_ent mX9_cutsOf [.ref 87, .int a1]) [] S := by
  intro a1 S
  show z_J zeI V mX9_cutsOf (d + 1) (f_X9_cutsOf a1 S) 0 [.ref 87, .int a1, .null, .null] [] S
  unfold f_X9_cutsOf
  refine d_st (fun _ k => zg_iconst 0 dX9_cutsOf_0 (by decide) (zg_istore_n (ls' := [_, _, _, _]) dX9_cutsOf_1 (Nat.le_of_ble_eq_true rfl) rfl rfl (zg_iconst 0 dX9_cutsOf_2 (by decide) (zg_istore_n (ls' := [_, _, _, _]) dX9_cutsOf_3 (Nat.le_of_ble_eq_true rfl) rfl rfl k)))) ?_
  exact d_fg (z_le_s (z_le_s (z_le_s (z_le_s z_le_n)))) (zd_X9_cutsOf_4 V d 1000 _ _ _ _)
def f_X9_aheadOf_59 (K4 : Int32 → Int32 → Int32 → zS → Option (Int32 × zS)) (K17 : Int32 → Int32 → Int32 → Int32 → zS → Option (Int32 × zS)) : Nat → Int32 → Int32 → Int32 → Int32 → Int32 → zS → Option (Int32 × zS)
  | 0, _, _, _, _, _, _ => none
  | n + 1, v1, v2, v3, v4, v5, S => if (S.1 87 23) ≤ v5 then (K17 v1 v2 v3 (v4 + 1) S) else (if v5 = v1 then (f_X9_aheadOf_59 K4 K17 n v1 (v2 ||| 0) v3 v4 (v5 + 1) S) else ((f_X9_cutsOfPart v4 S).bind (fun r78 => (f_X9_cutsOf v5 r78.2).bind (fun r84 => if (r78.1 &&& r84.1) = 0 then (f_X9_aheadOf_59 K4 K17 n v1 (v2 ||| 0) v3 v4 (v5 + 1) r84.2) else (f_X9_aheadOf_59 K4 K17 n v1 (v2 ||| ((1 : Int32) <<< (v5 &&& 31))) v3 v4 (v5 + 1) r84.2)))))
set_option maxRecDepth 100000 in
set_option maxHeartbeats 4000000 in
theorem zd_X9_aheadOf_59 (V : zV) (d : Nat) {K4 : Int32 → Int32 → Int32 → zS → Option (Int32 × zS)} (hK4 : ∀ (v1 : Int32) (v2 : Int32) (v3 : Int32) (S : zS), z_J zeI V mX9_aheadOf (d + 2) (K4 v1 v2 v3 S) 4 [.ref 87, .int v1, .int v2, .int v3, .null, .null] [] S) {K17 : Int32 → Int32 → Int32 → Int32 → zS → Option (Int32 × zS)} (hK17 : ∀ (v1 : Int32) (v2 : Int32) (v3 : Int32) (v4 : Int32) (S : zS), z_J zeI V mX9_aheadOf (d + 2) (K17 v1 v2 v3 v4 S) 17 [.ref 87, .int v1, .int v2, .int v3, .int v4, .null] [] S) : ∀ (n : Nat) (v1 : Int32) (v2 : Int32) (v3 : Int32) (v4 : Int32) (v5 : Int32) (S : zS), z_J zeI V mX9_aheadOf (d + 2) (f_X9_aheadOf_59 K4 K17 n v1 v2 v3 v4 v5 S) 59 [.ref 87, .int v1, .int v2, .int v3, .int v4, .int v5] [] S := by
  intro n
  induction n with
  | zero =>
    intro v1 v2 v3 v4 v5 S r hr
    cases (show (none : Option (Int32 × zS)) = some r from hr)
  | succ n ih =>
    intro v1 v2 v3 v4 v5 S
    rw [f_X9_aheadOf_59]
    refine d_st (fun _ k => zg_iload dX9_aheadOf_59 rfl (zg_aload_n dX9_aheadOf_61 rfl (zs_getI dX9_aheadOf_62 zf_X9_198 rfl (zq_87 _) (by decide) (by decide) k))) ?_
    refine d_br (fun _ => zg_icmp_ge 107 dX9_aheadOf_65 rfl) (fun c65 => ?_) (fun c65 => ?_)
    · refine d_st (fun _ k => zg_iinc (ls' := [_, _, _, _, _, _]) 1 dX9_aheadOf_107 rfl (by decide) (Nat.le_of_ble_eq_true rfl) rfl rfl (zg_goto 17 dX9_aheadOf_110 rfl k)) ?_
      exact d_fg (z_le_s (z_le_s (z_le_s (z_le_s (z_le_s (z_le_0 z_le_n)))))) (hK17 _ _ _ _ _)
    · refine d_st (fun _ k => zg_iload_n dX9_aheadOf_68 rfl (zg_iload dX9_aheadOf_69 rfl (zg_iload_n dX9_aheadOf_71 rfl k))) ?_
      refine d_br (fun _ => zg_icmp_eq 98 dX9_aheadOf_72 rfl) (fun c72 => ?_) (fun c72 => ?_)
      · refine d_st (fun _ k => zg_iconst 0 dX9_aheadOf_98 (by decide) (zg_ior dX9_aheadOf_99 (zg_istore_n (ls' := [_, _, _, _, _, _]) dX9_aheadOf_100 (Nat.le_of_ble_eq_true rfl) rfl rfl (zg_iinc (ls' := [_, _, _, _, _, _]) 1 dX9_aheadOf_101 rfl (by decide) (Nat.le_of_ble_eq_true rfl) rfl rfl (zg_goto 59 dX9_aheadOf_104 rfl k))))) ?_
        exact d_fg (z_le_s (z_le_s (z_le_s (z_le_s (z_le_s (z_le_s z_le_n)))))) (ih _ _ _ _ _ _)
      · refine d_st (fun _ k => zg_aload_n dX9_aheadOf_75 rfl (zg_iload dX9_aheadOf_76 rfl k)) ?_
        refine d_cVi (As := [_]) dX9_aheadOf_78 zk_X9_210 (zq_87 _) (by decide) ⟨_, _, rfl⟩ rfl rfl (Nat.le_of_ble_eq_true rfl) (Nat.le_of_ble_eq_true rfl) rfl (zd_X9_cutsOfPart V d _ _) (fun r78 _ => ?_)
        refine d_st (fun _ k => zg_aload_n dX9_aheadOf_81 rfl (zg_iload dX9_aheadOf_82 rfl k)) ?_
        refine d_cVi (As := [_]) dX9_aheadOf_84 zk_X9_275 (zq_87 _) (by decide) ⟨_, _, rfl⟩ rfl rfl (Nat.le_of_ble_eq_true rfl) (Nat.le_of_ble_eq_true rfl) rfl (zd_X9_cutsOf V d _ _) (fun r84 _ => ?_)
        refine d_st (fun _ k => zg_iand dX9_aheadOf_87 k) ?_
        refine d_br (fun _ => zg_if_eq 98 dX9_aheadOf_88 rfl) (fun c88 => ?_) (fun c88 => ?_)
        · refine d_st (fun _ k => zg_iconst 0 dX9_aheadOf_98 (by decide) (zg_ior dX9_aheadOf_99 (zg_istore_n (ls' := [_, _, _, _, _, _]) dX9_aheadOf_100 (Nat.le_of_ble_eq_true rfl) rfl rfl (zg_iinc (ls' := [_, _, _, _, _, _]) 1 dX9_aheadOf_101 rfl (by decide) (Nat.le_of_ble_eq_true rfl) rfl rfl (zg_goto 59 dX9_aheadOf_104 rfl k))))) ?_
          exact d_fg (z_le_s (z_le_s (z_le_s (z_le_s (z_le_s (z_le_s z_le_n)))))) (ih _ _ _ _ _ _)
        · refine d_st (fun _ k => zg_iconst 1 dX9_aheadOf_91 (by decide) (zg_iload dX9_aheadOf_92 rfl (zg_ishl dX9_aheadOf_94 (zg_goto 99 dX9_aheadOf_95 rfl (zg_ior dX9_aheadOf_99 (zg_istore_n (ls' := [_, _, _, _, _, _]) dX9_aheadOf_100 (Nat.le_of_ble_eq_true rfl) rfl rfl (zg_iinc (ls' := [_, _, _, _, _, _]) 1 dX9_aheadOf_101 rfl (by decide) (Nat.le_of_ble_eq_true rfl) rfl rfl (zg_goto 59 dX9_aheadOf_104 rfl k)))))))) ?_
          exact d_fg (z_le_s (z_le_s (z_le_s (z_le_s (z_le_s (z_le_s z_le_n)))))) (ih _ _ _ _ _ _)
def f_X9_aheadOf_17 (K4 : Int32 → Int32 → Int32 → zS → Option (Int32 × zS)) : Nat → Int32 → Int32 → Int32 → Int32 → zS → Option (Int32 × zS)
  | 0, _, _, _, _, _ => none
  | n + 1, v1, v2, v3, v4, S => if (S.1 89 2) ≤ v4 then (K4 v1 v2 (v3 + 1) S) else (if z_in v4 4 then ((f_X9_has (S.1 98 v4.toNatClampNeg) v3 S).bind (fun r36 => if r36.1 = 0 then (f_X9_aheadOf_17 K4 n v1 v2 v3 (v4 + 1) r36.2) else ((f_X9_cutsOfPart v3 r36.2).bind (fun r44 => (f_X9_cutsOf v1 r44.2).bind (fun r49 => if (r44.1 &&& r49.1) = 0 then (f_X9_aheadOf_17 K4 n v1 v2 v3 (v4 + 1) r49.2) else (f_X9_aheadOf_59 K4 (f_X9_aheadOf_17 K4 n) 1000 v1 v2 v3 v4 0 r49.2)))))) else none)
set_option maxRecDepth 100000 in
set_option maxHeartbeats 4000000 in
theorem zd_X9_aheadOf_17 (V : zV) (d : Nat) {K4 : Int32 → Int32 → Int32 → zS → Option (Int32 × zS)} (hK4 : ∀ (v1 : Int32) (v2 : Int32) (v3 : Int32) (S : zS), z_J zeI V mX9_aheadOf (d + 2) (K4 v1 v2 v3 S) 4 [.ref 87, .int v1, .int v2, .int v3, .null, .null] [] S) : ∀ (n : Nat) (v1 : Int32) (v2 : Int32) (v3 : Int32) (v4 : Int32) (S : zS), z_J zeI V mX9_aheadOf (d + 2) (f_X9_aheadOf_17 K4 n v1 v2 v3 v4 S) 17 [.ref 87, .int v1, .int v2, .int v3, .int v4, .null] [] S := by
  intro n
  induction n with
  | zero =>
    intro v1 v2 v3 v4 S r hr
    cases (show (none : Option (Int32 × zS)) = some r from hr)
  | succ n ih =>
    intro v1 v2 v3 v4 S
    rw [f_X9_aheadOf_17]
    refine d_st (fun _ k => zg_iload dX9_aheadOf_17 rfl (zg_aload_n dX9_aheadOf_19 rfl (zs_getR dX9_aheadOf_20 zf_X9_13 rfl (zq_87 _) (by decide) (by decide) zr_87_9 (zg_iconst 2 dX9_aheadOf_23 (by decide) (zs_iald (j := 2) dX9_aheadOf_24 (by decide) (zq_89 _) (by decide) (by decide) k))))) ?_
    refine d_br (fun _ => zg_icmp_ge 113 dX9_aheadOf_25 rfl) (fun c25 => ?_) (fun c25 => ?_)
    · refine d_st (fun _ k => zg_iinc (ls' := [_, _, _, _, _, _]) 1 dX9_aheadOf_113 rfl (by decide) (Nat.le_of_ble_eq_true rfl) rfl rfl (zg_goto 4 dX9_aheadOf_116 rfl k)) ?_
      exact d_fg (z_le_s (z_le_s (z_le_s (z_le_s (z_le_0 (z_le_0 z_le_n)))))) (hK4 _ _ _ _)
    · refine d_st (fun _ k => zg_aload_n dX9_aheadOf_28 rfl (zs_getR dX9_aheadOf_29 zf_X9_41 rfl (zq_87 _) (by decide) (by decide) zr_87_20 (zg_iload dX9_aheadOf_32 rfl k))) ?_
      refine d_gd (fun g34 => ?_)
      refine d_st (fun _ k => zs_iald dX9_aheadOf_34 (by decide) (zq_98 _) g34 rfl k) ?_
      refine d_st (fun _ k => zg_iload_n dX9_aheadOf_35 rfl k) ?_
      refine d_cSi (As := [_, _]) dX9_aheadOf_36 zk_X9_84 rfl rfl (Nat.le_of_ble_eq_true rfl) (Nat.le_of_ble_eq_true rfl) rfl (zd_X9_has V (d + 1) _ _ _) (fun r36 _ => ?_)
      refine d_br (fun _ => zg_if_eq 107 dX9_aheadOf_39 rfl) (fun c39 => ?_) (fun c39 => ?_)
      · refine d_st (fun _ k => zg_iinc (ls' := [_, _, _, _, _, _]) 1 dX9_aheadOf_107 rfl (by decide) (Nat.le_of_ble_eq_true rfl) rfl rfl (zg_goto 17 dX9_aheadOf_110 rfl k)) ?_
        exact d_fg (z_le_s (z_le_s (z_le_s (z_le_s (z_le_s (z_le_0 z_le_n)))))) (ih _ _ _ _ _)
      · refine d_st (fun _ k => zg_aload_n dX9_aheadOf_42 rfl (zg_iload_n dX9_aheadOf_43 rfl k)) ?_
        refine d_cVi (As := [_]) dX9_aheadOf_44 zk_X9_210 (zq_87 _) (by decide) ⟨_, _, rfl⟩ rfl rfl (Nat.le_of_ble_eq_true rfl) (Nat.le_of_ble_eq_true rfl) rfl (zd_X9_cutsOfPart V d _ _) (fun r44 _ => ?_)
        refine d_st (fun _ k => zg_aload_n dX9_aheadOf_47 rfl (zg_iload_n dX9_aheadOf_48 rfl k)) ?_
        refine d_cVi (As := [_]) dX9_aheadOf_49 zk_X9_275 (zq_87 _) (by decide) ⟨_, _, rfl⟩ rfl rfl (Nat.le_of_ble_eq_true rfl) (Nat.le_of_ble_eq_true rfl) rfl (zd_X9_cutsOf V d _ _) (fun r49 _ => ?_)
        refine d_st (fun _ k => zg_iand dX9_aheadOf_52 k) ?_
        refine d_br (fun _ => zg_if_eq 107 dX9_aheadOf_53 rfl) (fun c53 => ?_) (fun c53 => ?_)
        · refine d_st (fun _ k => zg_iinc (ls' := [_, _, _, _, _, _]) 1 dX9_aheadOf_107 rfl (by decide) (Nat.le_of_ble_eq_true rfl) rfl rfl (zg_goto 17 dX9_aheadOf_110 rfl k)) ?_
          exact d_fg (z_le_s (z_le_s (z_le_s (z_le_s (z_le_s (z_le_0 z_le_n)))))) (ih _ _ _ _ _)
        · refine d_st (fun _ k => zg_iconst 0 dX9_aheadOf_56 (by decide) (zg_istore (ls' := [_, _, _, _, _, _]) dX9_aheadOf_57 (Nat.le_of_ble_eq_true rfl) rfl rfl k)) ?_
          exact d_fg (z_le_s (z_le_s (z_le_s (z_le_s (z_le_s (z_le_s z_le_n)))))) (zd_X9_aheadOf_59 V d hK4 ih 1000 _ _ _ _ _ _)
def f_X9_aheadOf_4 : Nat → Int32 → Int32 → Int32 → zS → Option (Int32 × zS)
  | 0, _, _, _, _ => none
  | n + 1, v1, v2, v3, S => if (S.1 89 2) ≤ v3 then (some (v2, S)) else (f_X9_aheadOf_17 (f_X9_aheadOf_4 n) 1000 v1 v2 v3 0 S)
set_option maxRecDepth 100000 in
set_option maxHeartbeats 4000000 in
theorem zd_X9_aheadOf_4 (V : zV) (d : Nat) : ∀ (n : Nat) (v1 : Int32) (v2 : Int32) (v3 : Int32) (S : zS), z_J zeI V mX9_aheadOf (d + 2) (f_X9_aheadOf_4 n v1 v2 v3 S) 4 [.ref 87, .int v1, .int v2, .int v3, .null, .null] [] S := by
  intro n
  induction n with
  | zero =>
    intro v1 v2 v3 S r hr
    cases (show (none : Option (Int32 × zS)) = some r from hr)
  | succ n ih =>
    intro v1 v2 v3 S
    rw [f_X9_aheadOf_4]
    refine d_st (fun _ k => zg_iload_n dX9_aheadOf_4 rfl (zg_aload_n dX9_aheadOf_5 rfl (zs_getR dX9_aheadOf_6 zf_X9_13 rfl (zq_87 _) (by decide) (by decide) zr_87_9 (zg_iconst 2 dX9_aheadOf_9 (by decide) (zs_iald (j := 2) dX9_aheadOf_10 (by decide) (zq_89 _) (by decide) (by decide) k))))) ?_
    refine d_br (fun _ => zg_icmp_ge 119 dX9_aheadOf_11 rfl) (fun c11 => ?_) (fun c11 => ?_)
    · refine d_st (fun _ k => zg_iload_n dX9_aheadOf_119 rfl k) ?_
      exact d_retI dX9_aheadOf_120 rfl
    · refine d_st (fun _ k => zg_iconst 0 dX9_aheadOf_14 (by decide) (zg_istore (ls' := [_, _, _, _, _, _]) dX9_aheadOf_15 (Nat.le_of_ble_eq_true rfl) rfl rfl k)) ?_
      exact d_fg (z_le_s (z_le_s (z_le_s (z_le_s (z_le_s (z_le_0 z_le_n)))))) (zd_X9_aheadOf_17 V d ih 1000 _ _ _ _ _)
def f_X9_aheadOf (a1 : Int32) (S : zS) : Option (Int32 × zS) := f_X9_aheadOf_4 1000 a1 0 0 S
set_option maxRecDepth 100000 in
set_option maxHeartbeats 4000000 in
theorem zd_X9_aheadOf (V : zV) (d : Nat) : ∀ (a1 : Int32) (S : zS), z_J zeI V mX9_aheadOf (d + 2) (f_X9_aheadOf a1 S) 0 (z_ent mX9_aheadOf [.ref 87, .int a1]) [] S := by
  intro a1 S
  show z_J zeI V mX9_aheadOf (d + 2) (f_X9_aheadOf a1 S) 0 [.ref 87, .int a1, .null, .null, .null, .null] [] S
  unfold f_X9_aheadOf
  refine d_st (fun _ k => zg_iconst 0 dX9_aheadOf_0 (by decide) (zg_istore_n (ls' := [_, _, _, _, _, _]) dX9_aheadOf_1 (Nat.le_of_ble_eq_true rfl) rfl rfl (zg_iconst 0 dX9_aheadOf_2 (by decide) (zg_istore_n (ls' := [_, _, _, _, _, _]) dX9_aheadOf_3 (Nat.le_of_ble_eq_true rfl) rfl rfl k)))) ?_
  exact d_fg (z_le_s (z_le_s (z_le_s (z_le_s (z_le_0 (z_le_0 z_le_n)))))) (zd_X9_aheadOf_4 V d 1000 _ _ _ _)
def f_X9_startOf_43 (v1 : Int32) (S : zS) : Option (Int32 × zS) := if z_in v1 9 then (some (S.1 100 v1.toNatClampNeg, S)) else none
set_option maxRecDepth 100000 in
set_option maxHeartbeats 4000000 in
theorem zd_X9_startOf_43 (V : zV) (d : Nat) : ∀ (v1 : Int32) (S : zS), z_J zeI V mX9_startOf (d + 2) (f_X9_startOf_43 v1 S) 43 [.ref 87, .int v1, .null] [] S := by
  intro v1 S
  unfold f_X9_startOf_43
  refine d_st (fun _ k => zg_aload_n dX9_startOf_43 rfl (zs_getR dX9_startOf_44 zf_X9_47 rfl (zq_87 _) (by decide) (by decide) zr_87_22 (zg_iload_n dX9_startOf_47 rfl k))) ?_
  refine d_gd (fun g48 => ?_)
  refine d_st (fun _ k => zs_iald dX9_startOf_48 (by decide) (zq_100 _) g48 rfl k) ?_
  exact d_retI dX9_startOf_49 rfl
def f_X9_startOf (a1 : Int32) (S : zS) : Option (Int32 × zS) := if z_in (S.1 91 1) 9 then (if z_in a1 9 then (if (S.1 99 (S.1 91 1).toNatClampNeg) = (S.1 100 a1.toNatClampNeg) then ((f_X9_endsAt 89 (S.1 91 1) (S.1 91 0) S).bind (fun r33 => if r33.1 ≤ 0 then (f_X9_startOf_43 a1 r33.2) else (some (S.1 91 1, r33.2)))) else (f_X9_startOf_43 a1 S)) else none) else none
set_option maxRecDepth 100000 in
set_option maxHeartbeats 4000000 in
theorem zd_X9_startOf (V : zV) (d : Nat) : ∀ (a1 : Int32) (S : zS), z_J zeI V mX9_startOf (d + 2) (f_X9_startOf a1 S) 0 (z_ent mX9_startOf [.ref 87, .int a1]) [] S := by
  intro a1 S
  show z_J zeI V mX9_startOf (d + 2) (f_X9_startOf a1 S) 0 [.ref 87, .int a1, .null] [] S
  unfold f_X9_startOf
  refine d_st (fun _ k => zg_aload_n dX9_startOf_0 rfl (zs_getR dX9_startOf_1 zf_X9_19 rfl (zq_87 _) (by decide) (by decide) zr_87_11 (zg_iconst 1 dX9_startOf_4 (by decide) (zs_iald (j := 1) dX9_startOf_5 (by decide) (zq_91 _) (by decide) (by decide) (zg_istore_n (ls' := [_, _, _]) dX9_startOf_6 (Nat.le_of_ble_eq_true rfl) rfl rfl (zg_aload_n dX9_startOf_7 rfl (zs_getR dX9_startOf_8 zf_X9_44 rfl (zq_87 _) (by decide) (by decide) zr_87_21 (zg_iload_n dX9_startOf_11 rfl k)))))))) ?_
  refine d_gd (fun g12 => ?_)
  refine d_st (fun _ k => zs_iald dX9_startOf_12 (by decide) (zq_99 _) g12 rfl k) ?_
  refine d_st (fun _ k => zg_aload_n dX9_startOf_13 rfl (zs_getR dX9_startOf_14 zf_X9_47 rfl (zq_87 _) (by decide) (by decide) zr_87_22 (zg_iload_n dX9_startOf_17 rfl k))) ?_
  refine d_gd (fun g18 => ?_)
  refine d_st (fun _ k => zs_iald dX9_startOf_18 (by decide) (zq_100 _) g18 rfl k) ?_
  refine d_br (fun _ => zg_icmp_ne 43 dX9_startOf_19 rfl) (fun c19 => ?_) (fun c19 => ?_)
  · refine d_st (fun _ k => zg_aload_n dX9_startOf_22 rfl (zs_getR dX9_startOf_23 zf_X9_13 rfl (zq_87 _) (by decide) (by decide) zr_87_9 (zg_iload_n dX9_startOf_26 rfl (zg_aload_n dX9_startOf_27 rfl (zs_getR dX9_startOf_28 zf_X9_19 rfl (zq_87 _) (by decide) (by decide) zr_87_11 (zg_iconst 0 dX9_startOf_31 (by decide) (zs_iald (j := 0) dX9_startOf_32 (by decide) (zq_91 _) (by decide) (by decide) k))))))) ?_
    refine d_cSi (As := [_, _, _]) dX9_startOf_33 zk_X9_192 rfl rfl (Nat.le_of_ble_eq_true rfl) (Nat.le_of_ble_eq_true rfl) rfl (zd_X9_endsAt V ⟨(by decide), fun _ => (zq_89 _)⟩ d _ _ _) (fun r33 _ => ?_)
    refine d_br (fun _ => zg_if_le 43 dX9_startOf_36 rfl) (fun c36 => ?_) (fun c36 => ?_)
    · exact d_fg (z_le_s (z_le_s (z_le_0 z_le_n))) (zd_X9_startOf_43 V d _ _)
    · refine d_st (fun _ k => zg_iload_n dX9_startOf_39 rfl (zg_goto 49 dX9_startOf_40 rfl k)) ?_
      exact d_retI dX9_startOf_49 rfl
  · exact d_fg (z_le_s (z_le_s (z_le_0 z_le_n))) (zd_X9_startOf_43 V d _ _)
def f_X9_tours_204 (K37 : Int32 → Int32 → zS → Option (Int32 × zS)) : Nat → Int32 → Int32 → Int32 → zS → Option (Int32 × zS)
  | 0, _, _, _, _ => none
  | n + 1, v1, v2, v9, S => if (S.1 87 23) ≤ v9 then (K37 v1 (v2 + 1) S) else (if z_in v9 4 then (if z_in v9 4 then (f_X9_tours_204 K37 n v1 v2 (v9 + 1) (z_w S 107 v9.toNatClampNeg (S.1 106 v9.toNatClampNeg))) else none) else none)
set_option maxRecDepth 100000 in
set_option maxHeartbeats 4000000 in
theorem zd_X9_tours_204 (V : zV) (d : Nat) {K37 : Int32 → Int32 → zS → Option (Int32 × zS)} (hK37 : ∀ (v1 : Int32) (v2 : Int32) (S : zS), z_J zeI V mX9_tours (d + 3) (K37 v1 v2 S) 37 [.ref 87, .int v1, .int v2, .null, .null, .null, .null, .null, .null, .null, .null] [] S) : ∀ (n : Nat) (v1 : Int32) (v2 : Int32) (v9 : Int32) (S : zS), z_J zeI V mX9_tours (d + 3) (f_X9_tours_204 K37 n v1 v2 v9 S) 204 [.ref 87, .int v1, .int v2, .null, .null, .null, .null, .null, .null, .int v9, .null] [] S := by
  intro n
  induction n with
  | zero =>
    intro v1 v2 v9 S r hr
    cases (show (none : Option (Int32 × zS)) = some r from hr)
  | succ n ih =>
    intro v1 v2 v9 S
    rw [f_X9_tours_204]
    refine d_st (fun _ k => zg_iload dX9_tours_204 rfl (zg_aload_n dX9_tours_206 rfl (zs_getI dX9_tours_207 zf_X9_198 rfl (zq_87 _) (by decide) (by decide) k))) ?_
    refine d_br (fun _ => zg_icmp_ge 233 dX9_tours_210 rfl) (fun c210 => ?_) (fun c210 => ?_)
    · refine d_st (fun _ k => zg_iinc (ls' := [_, _, _, _, _, _, _, _, _, _, _]) 1 dX9_tours_233 rfl (by decide) (Nat.le_of_ble_eq_true rfl) rfl rfl (zg_goto 37 dX9_tours_236 rfl k)) ?_
      exact d_fg (z_le_s (z_le_s (z_le_s (z_le_0 (z_le_0 (z_le_0 (z_le_0 (z_le_0 (z_le_0 (z_le_0 (z_le_0 z_le_n))))))))))) (hK37 _ _ _)
    · refine d_st (fun _ k => zg_aload_n dX9_tours_213 rfl (zs_getR dX9_tours_214 zf_X9_68 rfl (zq_87 _) (by decide) (by decide) zr_87_31 (zg_iload dX9_tours_217 rfl (zg_aload_n dX9_tours_219 rfl (zs_getR dX9_tours_220 zf_X9_65 rfl (zq_87 _) (by decide) (by decide) zr_87_30 (zg_iload dX9_tours_223 rfl k)))))) ?_
      refine d_gd (fun g225 => ?_)
      refine d_st (fun _ k => zs_iald dX9_tours_225 (by decide) (zq_106 _) g225 rfl k) ?_
      refine d_gd (fun g226 => ?_)
      refine d_st (fun _ k => zs_iast dX9_tours_226 (by decide) (zq_107 _) g226 rfl k) ?_
      refine d_st (fun _ k => zg_iinc (ls' := [_, _, _, _, _, _, _, _, _, _, _]) 1 dX9_tours_227 rfl (by decide) (Nat.le_of_ble_eq_true rfl) rfl rfl (zg_goto 204 dX9_tours_230 rfl k)) ?_
      exact d_fg (z_le_s (z_le_s (z_le_s (z_le_0 (z_le_0 (z_le_0 (z_le_0 (z_le_0 (z_le_0 (z_le_s (z_le_0 z_le_n))))))))))) (ih _ _ _ _)
def f_X9_tours_130 (K37 : Int32 → Int32 → zS → Option (Int32 × zS)) (K67 : Int32 → Int32 → Int32 → Int32 → Int32 → Int32 → Int32 → Int32 → Int32 → zS → Option (Int32 × zS)) (v1 : Int32) (v2 : Int32) (v3 : Int32) (v4 : Int32) (v5 : Int32) (v6 : Int32) (v7 : Int32) (v9 : Int32) (v10 : Int32) (t0 : Int32) (S : zS) : Option (Int32 × zS) := if z_in v9 4 then ((f_X9_startOf v10 (z_w S 106 v9.toNatClampNeg v10)).bind (fun r158 => (f_X9_way v6 r158.1 r158.2).bind (fun r161 => (f_X9_startOf v10 r161.2).bind (fun r170 => K67 v1 v2 v3 v4 (v5 ||| ((1 : Int32) <<< (v10 &&& 31))) r170.1 (v7 + r161.1) t0 (v9 + 1) r170.2)))) else none
set_option maxRecDepth 100000 in
set_option maxHeartbeats 4000000 in
theorem zd_X9_tours_130 (V : zV) (d : Nat) {K37 : Int32 → Int32 → zS → Option (Int32 × zS)} (hK37 : ∀ (v1 : Int32) (v2 : Int32) (S : zS), z_J zeI V mX9_tours (d + 3) (K37 v1 v2 S) 37 [.ref 87, .int v1, .int v2, .null, .null, .null, .null, .null, .null, .null, .null] [] S) {K67 : Int32 → Int32 → Int32 → Int32 → Int32 → Int32 → Int32 → Int32 → Int32 → zS → Option (Int32 × zS)} (hK67 : ∀ (v1 : Int32) (v2 : Int32) (v3 : Int32) (v4 : Int32) (v5 : Int32) (v6 : Int32) (v7 : Int32) (v8 : Int32) (v9 : Int32) (S : zS), z_J zeI V mX9_tours (d + 3) (K67 v1 v2 v3 v4 v5 v6 v7 v8 v9 S) 67 [.ref 87, .int v1, .int v2, .int v3, .int v4, .int v5, .int v6, .int v7, .int v8, .int v9, .null] [] S) : ∀ (v1 : Int32) (v2 : Int32) (v3 : Int32) (v4 : Int32) (v5 : Int32) (v6 : Int32) (v7 : Int32) (v9 : Int32) (v10 : Int32) (t0 : Int32) (S : zS), z_J zeI V mX9_tours (d + 3) (f_X9_tours_130 K37 K67 v1 v2 v3 v4 v5 v6 v7 v9 v10 t0 S) 130 [.ref 87, .int v1, .int v2, .int v3, .int v4, .int v5, .int v6, .int v7, .null, .int v9, .int v10] [.int t0] S := by
  intro v1 v2 v3 v4 v5 v6 v7 v9 v10 t0 S
  unfold f_X9_tours_130
  refine d_st (fun _ k => zg_istore (ls' := [_, _, _, _, _, _, _, _, _, _, _]) dX9_tours_130 (Nat.le_of_ble_eq_true rfl) rfl rfl (zg_iload dX9_tours_132 rfl (zg_iconst 1 dX9_tours_134 (by decide) (zg_iload dX9_tours_135 rfl (zg_ishl dX9_tours_137 (zg_ior dX9_tours_138 (zg_istore (ls' := [_, _, _, _, _, _, _, _, _, _, _]) dX9_tours_139 (Nat.le_of_ble_eq_true rfl) rfl rfl (zg_aload_n dX9_tours_141 rfl (zs_getR dX9_tours_142 zf_X9_65 rfl (zq_87 _) (by decide) (by decide) zr_87_30 (zg_iload dX9_tours_145 rfl (zg_iload dX9_tours_147 rfl k))))))))))) ?_
  refine d_gd (fun g149 => ?_)
  refine d_st (fun _ k => zs_iast dX9_tours_149 (by decide) (zq_106 _) g149 rfl k) ?_
  refine d_st (fun _ k => zg_iload dX9_tours_150 rfl (zg_aload_n dX9_tours_152 rfl (zg_iload dX9_tours_153 rfl (zg_aload_n dX9_tours_155 rfl (zg_iload dX9_tours_156 rfl k))))) ?_
  refine d_cVi (As := [_]) dX9_tours_158 zk_X9_240 (zq_87 _) (by decide) ⟨_, _, rfl⟩ rfl rfl (Nat.le_of_ble_eq_true rfl) (Nat.le_of_ble_eq_true rfl) rfl (zd_X9_startOf V d _ _) (fun r158 _ => ?_)
  refine d_cVi (As := [_, _]) dX9_tours_161 zk_X9_204 (zq_87 _) (by decide) ⟨_, _, rfl⟩ rfl rfl (Nat.le_of_ble_eq_true rfl) (Nat.le_of_ble_eq_true rfl) rfl (zd_X9_way V (d + 2) _ _ _) (fun r161 _ => ?_)
  refine d_st (fun _ k => zg_iadd dX9_tours_164 (zg_istore (ls' := [_, _, _, _, _, _, _, _, _, _, _]) dX9_tours_165 (Nat.le_of_ble_eq_true rfl) rfl rfl (zg_aload_n dX9_tours_167 rfl (zg_iload dX9_tours_168 rfl k)))) ?_
  refine d_cVi (As := [_]) dX9_tours_170 zk_X9_240 (zq_87 _) (by decide) ⟨_, _, rfl⟩ rfl rfl (Nat.le_of_ble_eq_true rfl) (Nat.le_of_ble_eq_true rfl) rfl (zd_X9_startOf V d _ _) (fun r170 _ => ?_)
  refine d_st (fun _ k => zg_istore (ls' := [_, _, _, _, _, _, _, _, _, _, _]) dX9_tours_173 (Nat.le_of_ble_eq_true rfl) rfl rfl (zg_iinc (ls' := [_, _, _, _, _, _, _, _, _, _, _]) 1 dX9_tours_175 rfl (by decide) (Nat.le_of_ble_eq_true rfl) rfl rfl (zg_goto 67 dX9_tours_178 rfl k))) ?_
  exact d_fg (z_le_s (z_le_s (z_le_s (z_le_s (z_le_s (z_le_s (z_le_s (z_le_s (z_le_s (z_le_s (z_le_0 z_le_n))))))))))) (hK67 _ _ _ _ _ _ _ _ _ _)
def f_X9_tours_67 (K37 : Int32 → Int32 → zS → Option (Int32 × zS)) : Nat → Int32 → Int32 → Int32 → Int32 → Int32 → Int32 → Int32 → Int32 → Int32 → zS → Option (Int32 × zS)
  | 0, _, _, _, _, _, _, _, _, _, _ => none
  | n + 1, v1, v2, v3, v4, v5, v6, v7, v8, v9, S => if (S.1 87 23) ≤ v9 then (if v8 = 0 then (K37 v1 (v2 + 1) S) else (if (S.1 87 32) ≤ v7 then (K37 v1 (v2 + 1) S) else (f_X9_tours_204 K37 1000 v1 v2 0 (z_w S 87 32 v7)))) else (if S.1 87 23 = 0 then none else if v4 / (S.1 87 23) = 0 then none else if v4 / (S.1 87 23) = 0 then none else if v8 = 0 then (f_X9_tours_130 K37 (f_X9_tours_67 K37 n) v1 v2 (v3 - v3 / (v4 / (S.1 87 23)) * (v4 / (S.1 87 23))) (v4 / (S.1 87 23)) v5 v6 v7 v9 (v3 / (v4 / (S.1 87 23))) 0 S) else ((f_X9_has v5 (v3 / (v4 / (S.1 87 23))) S).bind (fun r105 => if r105.1 = 0 then ((f_X9_aheadOf (v3 / (v4 / (S.1 87 23))) r105.2).bind (fun r114 => if (r114.1 &&& (v5 ^^^ (-1))) = 0 then (f_X9_tours_130 K37 (f_X9_tours_67 K37 n) v1 v2 (v3 - v3 / (v4 / (S.1 87 23)) * (v4 / (S.1 87 23))) (v4 / (S.1 87 23)) v5 v6 v7 v9 (v3 / (v4 / (S.1 87 23))) 1 r114.2) else (f_X9_tours_130 K37 (f_X9_tours_67 K37 n) v1 v2 (v3 - v3 / (v4 / (S.1 87 23)) * (v4 / (S.1 87 23))) (v4 / (S.1 87 23)) v5 v6 v7 v9 (v3 / (v4 / (S.1 87 23))) 0 r114.2))) else (f_X9_tours_130 K37 (f_X9_tours_67 K37 n) v1 v2 (v3 - v3 / (v4 / (S.1 87 23)) * (v4 / (S.1 87 23))) (v4 / (S.1 87 23)) v5 v6 v7 v9 (v3 / (v4 / (S.1 87 23))) 0 r105.2))))
set_option maxRecDepth 100000 in
set_option maxHeartbeats 4000000 in
theorem zd_X9_tours_67 (V : zV) (d : Nat) {K37 : Int32 → Int32 → zS → Option (Int32 × zS)} (hK37 : ∀ (v1 : Int32) (v2 : Int32) (S : zS), z_J zeI V mX9_tours (d + 3) (K37 v1 v2 S) 37 [.ref 87, .int v1, .int v2, .null, .null, .null, .null, .null, .null, .null, .null] [] S) : ∀ (n : Nat) (v1 : Int32) (v2 : Int32) (v3 : Int32) (v4 : Int32) (v5 : Int32) (v6 : Int32) (v7 : Int32) (v8 : Int32) (v9 : Int32) (S : zS), z_J zeI V mX9_tours (d + 3) (f_X9_tours_67 K37 n v1 v2 v3 v4 v5 v6 v7 v8 v9 S) 67 [.ref 87, .int v1, .int v2, .int v3, .int v4, .int v5, .int v6, .int v7, .int v8, .int v9, .null] [] S := by
  intro n
  induction n with
  | zero =>
    intro v1 v2 v3 v4 v5 v6 v7 v8 v9 S r hr
    cases (show (none : Option (Int32 × zS)) = some r from hr)
  | succ n ih =>
    intro v1 v2 v3 v4 v5 v6 v7 v8 v9 S
    rw [f_X9_tours_67]
    refine d_st (fun _ k => zg_iload dX9_tours_67 rfl (zg_aload_n dX9_tours_69 rfl (zs_getI dX9_tours_70 zf_X9_198 rfl (zq_87 _) (by decide) (by decide) k))) ?_
    refine d_br (fun _ => zg_icmp_ge 181 dX9_tours_73 rfl) (fun c73 => ?_) (fun c73 => ?_)
    · refine d_st (fun _ k => zg_iload dX9_tours_181 rfl k) ?_
      refine d_br (fun _ => zg_if_eq 233 dX9_tours_183 rfl) (fun c183 => ?_) (fun c183 => ?_)
      · refine d_st (fun _ k => zg_iinc (ls' := [_, _, _, _, _, _, _, _, _, _, _]) 1 dX9_tours_233 rfl (by decide) (Nat.le_of_ble_eq_true rfl) rfl rfl (zg_goto 37 dX9_tours_236 rfl k)) ?_
        exact d_fg (z_le_s (z_le_s (z_le_s (z_le_0 (z_le_0 (z_le_0 (z_le_0 (z_le_0 (z_le_0 (z_le_0 (z_le_0 z_le_n))))))))))) (hK37 _ _ _)
      · refine d_st (fun _ k => zg_iload dX9_tours_186 rfl (zg_aload_n dX9_tours_188 rfl (zs_getI dX9_tours_189 zf_X9_281 rfl (zq_87 _) (by decide) (by decide) k))) ?_
        refine d_br (fun _ => zg_icmp_ge 233 dX9_tours_192 rfl) (fun c192 => ?_) (fun c192 => ?_)
        · refine d_st (fun _ k => zg_iinc (ls' := [_, _, _, _, _, _, _, _, _, _, _]) 1 dX9_tours_233 rfl (by decide) (Nat.le_of_ble_eq_true rfl) rfl rfl (zg_goto 37 dX9_tours_236 rfl k)) ?_
          exact d_fg (z_le_s (z_le_s (z_le_s (z_le_0 (z_le_0 (z_le_0 (z_le_0 (z_le_0 (z_le_0 (z_le_0 (z_le_0 z_le_n))))))))))) (hK37 _ _ _)
        · refine d_st (fun _ k => zg_aload_n dX9_tours_195 rfl (zg_iload dX9_tours_196 rfl (zs_putI dX9_tours_198 zf_X9_281 rfl (zq_87 _) (by decide) (by decide) (zg_iconst 0 dX9_tours_201 (by decide) (zg_istore (ls' := [_, _, _, _, _, _, _, _, _, _, _]) dX9_tours_202 (Nat.le_of_ble_eq_true rfl) rfl rfl k))))) ?_
          exact d_fg (z_le_s (z_le_s (z_le_s (z_le_0 (z_le_0 (z_le_0 (z_le_0 (z_le_0 (z_le_0 (z_le_s (z_le_0 z_le_n))))))))))) (zd_X9_tours_204 V d hK37 1000 _ _ _ _)
    · refine d_st (fun _ k => zg_iload dX9_tours_76 rfl (zg_aload_n dX9_tours_78 rfl (zs_getI dX9_tours_79 zf_X9_198 rfl (zq_87 _) (by decide) (by decide) k))) ?_
      refine d_no (fun g82 => ?_)
      refine d_st (fun _ k => zg_idiv dX9_tours_82 g82 k) ?_
      refine d_st (fun _ k => zg_istore (ls' := [_, _, _, _, _, _, _, _, _, _, _]) dX9_tours_83 (Nat.le_of_ble_eq_true rfl) rfl rfl (zg_iload_n dX9_tours_85 rfl (zg_iload dX9_tours_86 rfl k))) ?_
      refine d_no (fun g88 => ?_)
      refine d_st (fun _ k => zg_idiv dX9_tours_88 g88 k) ?_
      refine d_st (fun _ k => zg_istore (ls' := [_, _, _, _, _, _, _, _, _, _, _]) dX9_tours_89 (Nat.le_of_ble_eq_true rfl) rfl rfl (zg_iload_n dX9_tours_91 rfl (zg_iload dX9_tours_92 rfl k))) ?_
      refine d_no (fun g94 => ?_)
      refine d_st (fun _ k => zg_irem dX9_tours_94 g94 k) ?_
      refine d_st (fun _ k => zg_istore_n (ls' := [_, _, _, _, _, _, _, _, _, _, _]) dX9_tours_95 (Nat.le_of_ble_eq_true rfl) rfl rfl (zg_iload dX9_tours_96 rfl k)) ?_
      refine d_br (fun _ => zg_if_eq 129 dX9_tours_98 rfl) (fun c98 => ?_) (fun c98 => ?_)
      · refine d_st (fun _ k => zg_iconst 0 dX9_tours_129 (by decide) k) ?_
        exact d_fg (z_le_s (z_le_s (z_le_s (z_le_s (z_le_s (z_le_s (z_le_s (z_le_s (z_le_0 (z_le_s (z_le_s z_le_n))))))))))) (zd_X9_tours_130 V d hK37 ih _ _ _ _ _ _ _ _ _ _ _)
      · refine d_st (fun _ k => zg_iload dX9_tours_101 rfl (zg_iload dX9_tours_103 rfl k)) ?_
        refine d_cSi (As := [_, _]) dX9_tours_105 zk_X9_84 rfl rfl (Nat.le_of_ble_eq_true rfl) (Nat.le_of_ble_eq_true rfl) rfl (zd_X9_has V (d + 2) _ _ _) (fun r105 _ => ?_)
        refine d_br (fun _ => zg_if_ne 129 dX9_tours_108 rfl) (fun c108 => ?_) (fun c108 => ?_)
        · refine d_st (fun _ k => zg_aload_n dX9_tours_111 rfl (zg_iload dX9_tours_112 rfl k)) ?_
          refine d_cVi (As := [_]) dX9_tours_114 zk_X9_284 (zq_87 _) (by decide) ⟨_, _, rfl⟩ rfl rfl (Nat.le_of_ble_eq_true rfl) (Nat.le_of_ble_eq_true rfl) rfl (zd_X9_aheadOf V d _ _) (fun r114 _ => ?_)
          refine d_st (fun _ k => zg_iload dX9_tours_117 rfl (zg_iconst (-1) dX9_tours_119 (by decide) (zg_ixor dX9_tours_120 (zg_iand dX9_tours_121 k)))) ?_
          refine d_br (fun _ => zg_if_ne 129 dX9_tours_122 rfl) (fun c122 => ?_) (fun c122 => ?_)
          · refine d_st (fun _ k => zg_iconst 1 dX9_tours_125 (by decide) (zg_goto 130 dX9_tours_126 rfl k)) ?_
            exact d_fg (z_le_s (z_le_s (z_le_s (z_le_s (z_le_s (z_le_s (z_le_s (z_le_s (z_le_0 (z_le_s (z_le_s z_le_n))))))))))) (zd_X9_tours_130 V d hK37 ih _ _ _ _ _ _ _ _ _ _ _)
          · refine d_st (fun _ k => zg_iconst 0 dX9_tours_129 (by decide) k) ?_
            exact d_fg (z_le_s (z_le_s (z_le_s (z_le_s (z_le_s (z_le_s (z_le_s (z_le_s (z_le_0 (z_le_s (z_le_s z_le_n))))))))))) (zd_X9_tours_130 V d hK37 ih _ _ _ _ _ _ _ _ _ _ _)
        · refine d_st (fun _ k => zg_iconst 0 dX9_tours_129 (by decide) k) ?_
          exact d_fg (z_le_s (z_le_s (z_le_s (z_le_s (z_le_s (z_le_s (z_le_s (z_le_s (z_le_0 (z_le_s (z_le_s z_le_n))))))))))) (zd_X9_tours_130 V d hK37 ih _ _ _ _ _ _ _ _ _ _ _)
def f_X9_tours_37 : Nat → Int32 → Int32 → zS → Option (Int32 × zS)
  | 0, _, _, _ => none
  | n + 1, v1, v2, S => if v1 ≤ v2 then (if 99999 ≤ (S.1 87 32) then (some (0, S)) else (some (1, S))) else (f_X9_tours_67 (f_X9_tours_37 n) 1000 v1 v2 v2 v1 0 (S.1 91 1) 0 1 0 S)
set_option maxRecDepth 100000 in
set_option maxHeartbeats 4000000 in
theorem zd_X9_tours_37 (V : zV) (d : Nat) : ∀ (n : Nat) (v1 : Int32) (v2 : Int32) (S : zS), z_J zeI V mX9_tours (d + 3) (f_X9_tours_37 n v1 v2 S) 37 [.ref 87, .int v1, .int v2, .null, .null, .null, .null, .null, .null, .null, .null] [] S := by
  intro n
  induction n with
  | zero =>
    intro v1 v2 S r hr
    cases (show (none : Option (Int32 × zS)) = some r from hr)
  | succ n ih =>
    intro v1 v2 S
    rw [f_X9_tours_37]
    refine d_st (fun _ k => zg_iload_n dX9_tours_37 rfl (zg_iload_n dX9_tours_38 rfl k)) ?_
    refine d_br (fun _ => zg_icmp_ge 239 dX9_tours_39 rfl) (fun c39 => ?_) (fun c39 => ?_)
    · refine d_st (fun _ k => zg_aload_n dX9_tours_239 rfl (zs_getI dX9_tours_240 zf_X9_281 rfl (zq_87 _) (by decide) (by decide) (zg_ldc 99999 dX9_tours_243 zt_5_145 k))) ?_
      refine d_br (fun _ => zg_icmp_ge 252 dX9_tours_245 rfl) (fun c245 => ?_) (fun c245 => ?_)
      · refine d_st (fun _ k => zg_iconst 0 dX9_tours_252 (by decide) k) ?_
        exact d_retZ dX9_tours_253 rfl (by decide)
      · refine d_st (fun _ k => zg_iconst 1 dX9_tours_248 (by decide) (zg_goto 253 dX9_tours_249 rfl k)) ?_
        exact d_retZ dX9_tours_253 rfl (by decide)
    · refine d_st (fun _ k => zg_iload_n dX9_tours_42 rfl (zg_istore_n (ls' := [_, _, _, _, _, _, _, _, _, _, _]) dX9_tours_43 (Nat.le_of_ble_eq_true rfl) rfl rfl (zg_iload_n dX9_tours_44 rfl (zg_istore (ls' := [_, _, _, _, _, _, _, _, _, _, _]) dX9_tours_45 (Nat.le_of_ble_eq_true rfl) rfl rfl (zg_iconst 0 dX9_tours_47 (by decide) (zg_istore (ls' := [_, _, _, _, _, _, _, _, _, _, _]) dX9_tours_48 (Nat.le_of_ble_eq_true rfl) rfl rfl (zg_aload_n dX9_tours_50 rfl (zs_getR dX9_tours_51 zf_X9_19 rfl (zq_87 _) (by decide) (by decide) zr_87_11 (zg_iconst 1 dX9_tours_54 (by decide) (zs_iald (j := 1) dX9_tours_55 (by decide) (zq_91 _) (by decide) (by decide) (zg_istore (ls' := [_, _, _, _, _, _, _, _, _, _, _]) dX9_tours_56 (Nat.le_of_ble_eq_true rfl) rfl rfl (zg_iconst 0 dX9_tours_58 (by decide) (zg_istore (ls' := [_, _, _, _, _, _, _, _, _, _, _]) dX9_tours_59 (Nat.le_of_ble_eq_true rfl) rfl rfl (zg_iconst 1 dX9_tours_61 (by decide) (zg_istore (ls' := [_, _, _, _, _, _, _, _, _, _, _]) dX9_tours_62 (Nat.le_of_ble_eq_true rfl) rfl rfl (zg_iconst 0 dX9_tours_64 (by decide) (zg_istore (ls' := [_, _, _, _, _, _, _, _, _, _, _]) dX9_tours_65 (Nat.le_of_ble_eq_true rfl) rfl rfl k))))))))))))))))) ?_
      exact d_fg (z_le_s (z_le_s (z_le_s (z_le_s (z_le_s (z_le_s (z_le_s (z_le_s (z_le_s (z_le_s (z_le_0 z_le_n))))))))))) (zd_X9_tours_67 V d ih 1000 _ _ _ _ _ _ _ _ _ _)
def f_X9_tours_8 : Nat → Int32 → Int32 → zS → Option (Int32 × zS)
  | 0, _, _, _ => none
  | n + 1, v1, v2, S => if (S.1 87 23) ≤ v2 then (f_X9_tours_37 1000 v1 0 (z_w S 87 32 99999)) else (f_X9_tours_8 n (v1 * (S.1 87 23)) (v2 + 1) S)
set_option maxRecDepth 100000 in
set_option maxHeartbeats 4000000 in
theorem zd_X9_tours_8 (V : zV) (d : Nat) : ∀ (n : Nat) (v1 : Int32) (v2 : Int32) (S : zS), z_J zeI V mX9_tours (d + 3) (f_X9_tours_8 n v1 v2 S) 8 [.ref 87, .int v1, .int v2, .null, .null, .null, .null, .null, .null, .null, .null] [] S := by
  intro n
  induction n with
  | zero =>
    intro v1 v2 S r hr
    cases (show (none : Option (Int32 × zS)) = some r from hr)
  | succ n ih =>
    intro v1 v2 S
    rw [f_X9_tours_8]
    refine d_st (fun _ k => zg_iload_n dX9_tours_8 rfl (zg_aload_n dX9_tours_9 rfl (zs_getI dX9_tours_10 zf_X9_198 rfl (zq_87 _) (by decide) (by decide) k))) ?_
    refine d_br (fun _ => zg_icmp_ge 29 dX9_tours_13 rfl) (fun c13 => ?_) (fun c13 => ?_)
    · refine d_st (fun _ k => zg_aload_n dX9_tours_29 rfl (zg_ldc 99999 dX9_tours_30 zt_5_145 (zs_putI dX9_tours_32 zf_X9_281 rfl (zq_87 _) (by decide) (by decide) (zg_iconst 0 dX9_tours_35 (by decide) (zg_istore_n (ls' := [_, _, _, _, _, _, _, _, _, _, _]) dX9_tours_36 (Nat.le_of_ble_eq_true rfl) rfl rfl k))))) ?_
      exact d_fg (z_le_s (z_le_s (z_le_s (z_le_0 (z_le_0 (z_le_0 (z_le_0 (z_le_0 (z_le_0 (z_le_0 (z_le_0 z_le_n))))))))))) (zd_X9_tours_37 V d 1000 _ _ _)
    · refine d_st (fun _ k => zg_iload_n dX9_tours_16 rfl (zg_aload_n dX9_tours_17 rfl (zs_getI dX9_tours_18 zf_X9_198 rfl (zq_87 _) (by decide) (by decide) (zg_imul dX9_tours_21 (zg_istore_n (ls' := [_, _, _, _, _, _, _, _, _, _, _]) dX9_tours_22 (Nat.le_of_ble_eq_true rfl) rfl rfl (zg_iinc (ls' := [_, _, _, _, _, _, _, _, _, _, _]) 1 dX9_tours_23 rfl (by decide) (Nat.le_of_ble_eq_true rfl) rfl rfl (zg_goto 8 dX9_tours_26 rfl k))))))) ?_
      exact d_fg (z_le_s (z_le_s (z_le_s (z_le_0 (z_le_0 (z_le_0 (z_le_0 (z_le_0 (z_le_0 (z_le_0 (z_le_0 z_le_n))))))))))) (ih _ _ _)
def f_X9_tours (S : zS) : Option (Int32 × zS) := (f_X9_pieces  S).bind (fun r1 => f_X9_tours_8 1000 1 0 r1.2)
set_option maxRecDepth 100000 in
set_option maxHeartbeats 4000000 in
theorem zd_X9_tours (V : zV) (d : Nat) : ∀ (S : zS), z_J zeI V mX9_tours (d + 3) (f_X9_tours  S) 0 (z_ent mX9_tours [.ref 87]) [] S := by
  intro S
  show z_J zeI V mX9_tours (d + 3) (f_X9_tours  S) 0 [.ref 87, .null, .null, .null, .null, .null, .null, .null, .null, .null, .null] [] S
  unfold f_X9_tours
  refine d_st (fun _ k => zg_aload_n dX9_tours_0 rfl k) ?_
  refine d_cVv (As := []) dX9_tours_1 zk_X9_201 (zq_87 _) (by decide) ⟨_, _, rfl⟩ rfl rfl (Nat.le_of_ble_eq_true rfl) (Nat.le_of_ble_eq_true rfl) rfl (zd_X9_pieces V d _) (fun r1 _ => ?_)
  refine d_st (fun _ k => zg_iconst 1 dX9_tours_4 (by decide) (zg_istore_n (ls' := [_, _, _, _, _, _, _, _, _, _, _]) dX9_tours_5 (Nat.le_of_ble_eq_true rfl) rfl rfl (zg_iconst 0 dX9_tours_6 (by decide) (zg_istore_n (ls' := [_, _, _, _, _, _, _, _, _, _, _]) dX9_tours_7 (Nat.le_of_ble_eq_true rfl) rfl rfl k)))) ?_
  exact d_fg (z_le_s (z_le_s (z_le_s (z_le_0 (z_le_0 (z_le_0 (z_le_0 (z_le_0 (z_le_0 (z_le_0 (z_le_0 z_le_n))))))))))) (zd_X9_tours_8 V d 1000 _ _ _)
