def f_X9_piece (a1 : Int32) (a2 : Int32) (S : zS) : Option (Int32 × zS) := (f_X9_pieces  (z_w S 87 0 0)).bind (fun r6 => (f_X9_in a1 0 ((r6.2.1 87 23) - 1) r6.2).bind (fun r17 => if r17.1 = 0 then (some ((-1), r17.2)) else ((f_X9_in a2 0 4 r17.2).bind (fun r26 => if r26.1 = 0 then (some ((-1), r26.2)) else (if 2 ≤ a2 then (if a2 = 2 then ((f_X9_links a1 r26.2).bind (fun r64 => some (r64.1, r64.2))) else (if a2 = 3 then ((f_X9_cutsOf a1 r26.2).bind (fun r77 => (f_X9_ones r77.1 r77.2).bind (fun r80 => (f_X9_oddOf a1 r80.2).bind (fun r85 => (f_X9_ones r85.1 r85.2).bind (fun r88 => some (r80.1 + (r88.1 / 2), r88.2)))))) else ((f_X9_aheadOf a1 r26.2).bind (fun r99 => some (r99.1, r99.2))))) else (if a2 = 0 then ((f_X9_cutsOf a1 r26.2).bind (fun r45 => some (r45.1, r45.2))) else ((f_X9_oddOf a1 r26.2).bind (fun r53 => some (r53.1, r53.2)))))))))
set_option maxRecDepth 100000 in
set_option maxHeartbeats 4000000 in
theorem zd_X9_piece (V : zV) (d : Nat) : ∀ (a1 : Int32) (a2 : Int32) (S : zS), z_J zeI V mX9_piece (d + 4) (f_X9_piece a1 a2 S) 0 (z_ent mX9_piece [.ref 87, .int a1, .int a2]) [] S := by
  intro a1 a2 S
  show z_J zeI V mX9_piece (d + 4) (f_X9_piece a1 a2 S) 0 [.ref 87, .int a1, .int a2] [] S
  unfold f_X9_piece
  refine d_st (fun _ k => zg_aload_n dX9_piece_0 rfl (zg_iconst 0 dX9_piece_1 (by decide) (zs_putI dX9_piece_2 zf_X9_80 rfl (zq_87 _) (by decide) (by decide) (zg_aload_n dX9_piece_5 rfl k)))) ?_
  refine d_cVv (As := []) dX9_piece_6 zk_X9_201 (zq_87 _) (by decide) ⟨_, _, rfl⟩ rfl rfl (Nat.le_of_ble_eq_true rfl) (Nat.le_of_ble_eq_true rfl) rfl (zd_X9_pieces V (d + 1) _) (fun r6 _ => ?_)
  refine d_st (fun _ k => zg_iload_n dX9_piece_9 rfl (zg_iconst 0 dX9_piece_10 (by decide) (zg_aload_n dX9_piece_11 rfl (zs_getI dX9_piece_12 zf_X9_198 rfl (zq_87 _) (by decide) (by decide) (zg_iconst 1 dX9_piece_15 (by decide) (zg_isub dX9_piece_16 k)))))) ?_
  refine d_cSi (As := [_, _, _]) dX9_piece_17 zk_X9_88 rfl rfl (Nat.le_of_ble_eq_true rfl) (Nat.le_of_ble_eq_true rfl) rfl (zd_X9_in V (d + 3) _ _ _ _) (fun r17 _ => ?_)
  refine d_br (fun _ => zg_if_eq 32 dX9_piece_20 rfl) (fun c20 => ?_) (fun c20 => ?_)
  · refine d_st (fun _ k => zg_iconst (-1) dX9_piece_32 (by decide) k) ?_
    exact d_retI dX9_piece_33 rfl
  · refine d_st (fun _ k => zg_iload_n dX9_piece_23 rfl (zg_iconst 0 dX9_piece_24 (by decide) (zg_iconst 4 dX9_piece_25 (by decide) k))) ?_
    refine d_cSi (As := [_, _, _]) dX9_piece_26 zk_X9_88 rfl rfl (Nat.le_of_ble_eq_true rfl) (Nat.le_of_ble_eq_true rfl) rfl (zd_X9_in V (d + 3) _ _ _ _) (fun r26 _ => ?_)
    refine d_br (fun _ => zg_if_ne 34 dX9_piece_29 rfl) (fun c29 => ?_) (fun c29 => ?_)
    · refine d_st (fun _ k => zg_iconst (-1) dX9_piece_32 (by decide) k) ?_
      exact d_retI dX9_piece_33 rfl
    · refine d_st (fun _ k => zg_iload_n dX9_piece_34 rfl (zg_iconst 2 dX9_piece_35 (by decide) k)) ?_
      refine d_br (fun _ => zg_icmp_ge 57 dX9_piece_36 rfl) (fun c36 => ?_) (fun c36 => ?_)
      · refine d_st (fun _ k => zg_iload_n dX9_piece_57 rfl (zg_iconst 2 dX9_piece_58 (by decide) k)) ?_
        refine d_br (fun _ => zg_icmp_ne 70 dX9_piece_59 rfl) (fun c59 => ?_) (fun c59 => ?_)
        · refine d_st (fun _ k => zg_aload_n dX9_piece_62 rfl (zg_iload_n dX9_piece_63 rfl k)) ?_
          refine d_cVi (As := [_]) dX9_piece_64 zk_X9_256 (zq_87 _) (by decide) ⟨_, _, rfl⟩ rfl rfl (Nat.le_of_ble_eq_true rfl) (Nat.le_of_ble_eq_true rfl) rfl (zd_X9_links V d _ _) (fun r64 _ => ?_)
          refine d_st (fun _ k => zg_goto 102 dX9_piece_67 rfl k) ?_
          exact d_retI dX9_piece_102 rfl
        · refine d_st (fun _ k => zg_iload_n dX9_piece_70 rfl (zg_iconst 3 dX9_piece_71 (by decide) k)) ?_
          refine d_br (fun _ => zg_icmp_ne 97 dX9_piece_72 rfl) (fun c72 => ?_) (fun c72 => ?_)
          · refine d_st (fun _ k => zg_aload_n dX9_piece_75 rfl (zg_iload_n dX9_piece_76 rfl k)) ?_
            refine d_cVi (As := [_]) dX9_piece_77 zk_X9_275 (zq_87 _) (by decide) ⟨_, _, rfl⟩ rfl rfl (Nat.le_of_ble_eq_true rfl) (Nat.le_of_ble_eq_true rfl) rfl (zd_X9_cutsOf V (d + 2) _ _) (fun r77 _ => ?_)
            refine d_cSi (As := [_]) dX9_piece_80 zk_X9_213 rfl rfl (Nat.le_of_ble_eq_true rfl) (Nat.le_of_ble_eq_true rfl) rfl (zd_X9_ones V (d + 3) _ _) (fun r80 _ => ?_)
            refine d_st (fun _ k => zg_aload_n dX9_piece_83 rfl (zg_iload_n dX9_piece_84 rfl k)) ?_
            refine d_cVi (As := [_]) dX9_piece_85 zk_X9_250 (zq_87 _) (by decide) ⟨_, _, rfl⟩ rfl rfl (Nat.le_of_ble_eq_true rfl) (Nat.le_of_ble_eq_true rfl) rfl (zd_X9_oddOf V (d + 1) _ _) (fun r85 _ => ?_)
            refine d_cSi (As := [_]) dX9_piece_88 zk_X9_213 rfl rfl (Nat.le_of_ble_eq_true rfl) (Nat.le_of_ble_eq_true rfl) rfl (zd_X9_ones V (d + 3) _ _) (fun r88 _ => ?_)
            refine d_st (fun _ k => zg_iconst 2 dX9_piece_91 (by decide) (zg_idiv dX9_piece_92 (by decide) (zg_iadd dX9_piece_93 (zg_goto 102 dX9_piece_94 rfl k)))) ?_
            exact d_retI dX9_piece_102 rfl
          · refine d_st (fun _ k => zg_aload_n dX9_piece_97 rfl (zg_iload_n dX9_piece_98 rfl k)) ?_
            refine d_cVi (As := [_]) dX9_piece_99 zk_X9_284 (zq_87 _) (by decide) ⟨_, _, rfl⟩ rfl rfl (Nat.le_of_ble_eq_true rfl) (Nat.le_of_ble_eq_true rfl) rfl (zd_X9_aheadOf V (d + 1) _ _) (fun r99 _ => ?_)
            exact d_retI dX9_piece_102 rfl
      · refine d_st (fun _ k => zg_iload_n dX9_piece_39 rfl k) ?_
        refine d_br (fun _ => zg_if_ne 51 dX9_piece_40 rfl) (fun c40 => ?_) (fun c40 => ?_)
        · refine d_st (fun _ k => zg_aload_n dX9_piece_43 rfl (zg_iload_n dX9_piece_44 rfl k)) ?_
          refine d_cVi (As := [_]) dX9_piece_45 zk_X9_275 (zq_87 _) (by decide) ⟨_, _, rfl⟩ rfl rfl (Nat.le_of_ble_eq_true rfl) (Nat.le_of_ble_eq_true rfl) rfl (zd_X9_cutsOf V (d + 2) _ _) (fun r45 _ => ?_)
          refine d_st (fun _ k => zg_goto 56 dX9_piece_48 rfl k) ?_
          exact d_retI dX9_piece_56 rfl
        · refine d_st (fun _ k => zg_aload_n dX9_piece_51 rfl (zg_iload_n dX9_piece_52 rfl k)) ?_
          refine d_cVi (As := [_]) dX9_piece_53 zk_X9_250 (zq_87 _) (by decide) ⟨_, _, rfl⟩ rfl rfl (Nat.le_of_ble_eq_true rfl) (Nat.le_of_ble_eq_true rfl) rfl (zd_X9_oddOf V (d + 1) _ _) (fun r53 _ => ?_)
          exact d_retI dX9_piece_56 rfl
def f_X8_link (a1 : Int32) (S : zS) : Option (Int32 × zS) := if z_isP S.2.1 then ((f_X1_hasCorner S.2.1 a1 S).bind (fun r5 => if r5.1 = 0 then (some ((-1), r5.2)) else ((f_X8_surveyed  r5.2).bind (fun r12 => if z_in a1 9 then (some (r12.2.1 64 a1.toNatClampNeg, r12.2)) else none)))) else none
set_option maxRecDepth 100000 in
set_option maxHeartbeats 4000000 in
theorem zd_X8_link (V : zV) (d : Nat) : ∀ (a1 : Int32) (S : zS), z_J zeI V mX8_link (d + 12) (f_X8_link a1 S) 0 (z_ent mX8_link [.ref 1, .int a1]) [] S := by
  intro a1 S
  show z_J zeI V mX8_link (d + 12) (f_X8_link a1 S) 0 [.ref 1, .int a1] [] S
  unfold f_X8_link
  refine d_st (fun _ k => zg_aload_n dX8_link_0 rfl k) ?_
  refine d_gd (fun g1 => ?_)
  refine d_st (fun _ k => zs_getR dX8_link_1 zf_X8_20 rfl (zq_1 _) (by decide) (by decide) zr_pl k) ?_
  refine d_st (fun _ k => zg_iload_n dX8_link_4 rfl k) ?_
  refine d_cVi (As := [_]) dX8_link_5 zk_X8_94 (zp_o g1 _) (by decide) ⟨_, _, rfl⟩ rfl rfl (Nat.le_of_ble_eq_true rfl) (Nat.le_of_ble_eq_true rfl) rfl (zd_X1_hasCorner V g1 (d + 11) _ _) (fun r5 _ => ?_)
  refine d_br (fun _ => zg_if_eq 23 dX8_link_8 rfl) (fun c8 => ?_) (fun c8 => ?_)
  · refine d_st (fun _ k => zg_iconst (-1) dX8_link_23 (by decide) k) ?_
    exact d_retI dX8_link_24 rfl
  · refine d_st (fun _ k => zg_aload_n dX8_link_11 rfl k) ?_
    refine d_cVs (As := []) dX8_link_12 zk_X8_127 (zq_1 _) (by decide) ⟨_, _, rfl⟩ rfl rfl (Nat.le_of_ble_eq_true rfl) (Nat.le_of_ble_eq_true rfl) rfl (zd_X8_surveyed V d _) (fun r12 _ => ?_)
    refine d_st (fun _ k => zs_getR dX8_link_15 zf_X8_209 rfl (zq_57 _) (by decide) (by decide) zr_57_8 (zg_iload_n dX8_link_18 rfl k)) ?_
    refine d_gd (fun g19 => ?_)
    refine d_st (fun _ k => zs_iald dX8_link_19 (by decide) (zq_64 _) g19 rfl k) ?_
    refine d_st (fun _ k => zg_goto 24 dX8_link_20 rfl k) ?_
    exact d_retI dX8_link_24 rfl
def f_X9_link_24 : Nat → Int32 → Int32 → Int32 → zS → Option (Int32 × zS)
  | 0, _, _, _, _ => none
  | n + 1, v1, v2, v3, S => if (S.1 87 23) ≤ v3 then (some (v2, S)) else ((f_X9_links v3 S).bind (fun r34 => if z_in v1 9 then (if (r34.2.1 101 v1.toNatClampNeg) = (-9) then (f_X9_link_24 n v1 v2 (v3 + 1) r34.2) else (if z_in v1 9 then (f_X9_link_24 n v1 (r34.2.1 101 v1.toNatClampNeg) (v3 + 1) r34.2) else none)) else none))
set_option maxRecDepth 100000 in
set_option maxHeartbeats 4000000 in
theorem zd_X9_link_24 (V : zV) (d : Nat) : ∀ (n : Nat) (v1 : Int32) (v2 : Int32) (v3 : Int32) (S : zS), z_J zeI V mX9_link (d + 4) (f_X9_link_24 n v1 v2 v3 S) 24 [.ref 87, .int v1, .int v2, .int v3] [] S := by
  intro n
  induction n with
  | zero =>
    intro v1 v2 v3 S r hr
    cases (show (none : Option (Int32 × zS)) = some r from hr)
  | succ n ih =>
    intro v1 v2 v3 S
    rw [f_X9_link_24]
    refine d_st (fun _ k => zg_iload_n dX9_link_24 rfl (zg_aload_n dX9_link_25 rfl (zs_getI dX9_link_26 zf_X9_198 rfl (zq_87 _) (by decide) (by decide) k))) ?_
    refine d_br (fun _ => zg_icmp_ge 66 dX9_link_29 rfl) (fun c29 => ?_) (fun c29 => ?_)
    · refine d_st (fun _ k => zg_iload_n dX9_link_66 rfl k) ?_
      exact d_retI dX9_link_67 rfl
    · refine d_st (fun _ k => zg_aload_n dX9_link_32 rfl (zg_iload_n dX9_link_33 rfl k)) ?_
      refine d_cVi (As := [_]) dX9_link_34 zk_X9_256 (zq_87 _) (by decide) ⟨_, _, rfl⟩ rfl rfl (Nat.le_of_ble_eq_true rfl) (Nat.le_of_ble_eq_true rfl) rfl (zd_X9_links V d _ _) (fun r34 _ => ?_)
      refine d_st (fun _ k => zg_popi dX9_link_37 (zg_aload_n dX9_link_38 rfl (zs_getR dX9_link_39 zf_X9_50 rfl (zq_87 _) (by decide) (by decide) zr_87_24 (zg_iload_n dX9_link_42 rfl k)))) ?_
      refine d_gd (fun g43 => ?_)
      refine d_st (fun _ k => zs_iald dX9_link_43 (by decide) (zq_101 _) g43 rfl k) ?_
      refine d_st (fun _ k => zg_bipush (-9) dX9_link_44 (by decide) k) ?_
      refine d_br (fun _ => zg_icmp_eq 58 dX9_link_46 rfl) (fun c46 => ?_) (fun c46 => ?_)
      · refine d_st (fun _ k => zg_iload_n dX9_link_58 rfl (zg_istore_n (ls' := [_, _, _, _]) dX9_link_59 (Nat.le_of_ble_eq_true rfl) rfl rfl (zg_iinc (ls' := [_, _, _, _]) 1 dX9_link_60 rfl (by decide) (Nat.le_of_ble_eq_true rfl) rfl rfl (zg_goto 24 dX9_link_63 rfl k)))) ?_
        exact d_fg (z_le_s (z_le_s (z_le_s (z_le_s z_le_n)))) (ih _ _ _ _)
      · refine d_st (fun _ k => zg_aload_n dX9_link_49 rfl (zs_getR dX9_link_50 zf_X9_50 rfl (zq_87 _) (by decide) (by decide) zr_87_24 (zg_iload_n dX9_link_53 rfl k))) ?_
        refine d_gd (fun g54 => ?_)
        refine d_st (fun _ k => zs_iald dX9_link_54 (by decide) (zq_101 _) g54 rfl k) ?_
        refine d_st (fun _ k => zg_goto 59 dX9_link_55 rfl (zg_istore_n (ls' := [_, _, _, _]) dX9_link_59 (Nat.le_of_ble_eq_true rfl) rfl rfl (zg_iinc (ls' := [_, _, _, _]) 1 dX9_link_60 rfl (by decide) (Nat.le_of_ble_eq_true rfl) rfl rfl (zg_goto 24 dX9_link_63 rfl k)))) ?_
        exact d_fg (z_le_s (z_le_s (z_le_s (z_le_s z_le_n)))) (ih _ _ _ _)
def f_X9_link (a1 : Int32) (S : zS) : Option (Int32 × zS) := (f_X9_isCornerNow a1 (z_w S 87 0 0)).bind (fun r7 => if r7.1 = 0 then (some ((-1), r7.2)) else ((f_X9_pieces  r7.2).bind (fun r16 => f_X9_link_24 1000 a1 (-9) 0 r16.2)))
set_option maxRecDepth 100000 in
set_option maxHeartbeats 4000000 in
theorem zd_X9_link (V : zV) (d : Nat) : ∀ (a1 : Int32) (S : zS), z_J zeI V mX9_link (d + 4) (f_X9_link a1 S) 0 (z_ent mX9_link [.ref 87, .int a1]) [] S := by
  intro a1 S
  show z_J zeI V mX9_link (d + 4) (f_X9_link a1 S) 0 [.ref 87, .int a1, .null, .null] [] S
  unfold f_X9_link
  refine d_st (fun _ k => zg_aload_n dX9_link_0 rfl (zg_iconst 0 dX9_link_1 (by decide) (zs_putI dX9_link_2 zf_X9_80 rfl (zq_87 _) (by decide) (by decide) (zg_aload_n dX9_link_5 rfl (zg_iload_n dX9_link_6 rfl k))))) ?_
  refine d_cVi (As := [_]) dX9_link_7 zk_X9_188 (zq_87 _) (by decide) ⟨_, _, rfl⟩ rfl rfl (Nat.le_of_ble_eq_true rfl) (Nat.le_of_ble_eq_true rfl) rfl (zd_X9_isCornerNow V (d + 2) _ _) (fun r7 _ => ?_)
  refine d_br (fun _ => zg_if_ne 15 dX9_link_10 rfl) (fun c10 => ?_) (fun c10 => ?_)
  · refine d_st (fun _ k => zg_iconst (-1) dX9_link_13 (by decide) k) ?_
    exact d_retI dX9_link_14 rfl
  · refine d_st (fun _ k => zg_aload_n dX9_link_15 rfl k) ?_
    refine d_cVv (As := []) dX9_link_16 zk_X9_201 (zq_87 _) (by decide) ⟨_, _, rfl⟩ rfl rfl (Nat.le_of_ble_eq_true rfl) (Nat.le_of_ble_eq_true rfl) rfl (zd_X9_pieces V (d + 1) _) (fun r16 _ => ?_)
    refine d_st (fun _ k => zg_bipush (-9) dX9_link_19 (by decide) (zg_istore_n (ls' := [_, _, _, _]) dX9_link_21 (Nat.le_of_ble_eq_true rfl) rfl rfl (zg_iconst 0 dX9_link_22 (by decide) (zg_istore_n (ls' := [_, _, _, _]) dX9_link_23 (Nat.le_of_ble_eq_true rfl) rfl rfl k)))) ?_
    exact d_fg (z_le_s (z_le_s (z_le_s (z_le_s z_le_n)))) (zd_X9_link_24 V d 1000 _ _ _ _)
def f_X8_round (a1 : Int32) (a2 : Int32) (a3 : Int32) (S : zS) : Option (Int32 × zS) := (f_X8_surveyed  S).bind (fun r1 => (f_X4_hasPiece a1 r1.2).bind (fun r9 => if r9.1 = 0 then (some ((-1), r9.2)) else (if a2 < 0 then (some ((-1), r9.2)) else (if a3 < 0 then (some ((-1), r9.2)) else (if a3 ≤ 1 then (if z_isP r9.2.2.1 then ((f_X5_go r9.2.2.1 a1 r9.2).bind (fun r41 => if a2 < (r41.2.1 69 1) then (if a3 = 0 then (if z_in a2 18 then (some (r41.2.1 70 a2.toNatClampNeg, r41.2)) else none) else (if z_in a2 18 then (some (r41.2.1 71 a2.toNatClampNeg, r41.2)) else none)) else (some ((-9), r41.2)))) else none) else (some ((-1), r9.2)))))))
set_option maxRecDepth 100000 in
set_option maxHeartbeats 4000000 in
theorem zd_X8_round (V : zV) (d : Nat) : ∀ (a1 : Int32) (a2 : Int32) (a3 : Int32) (S : zS), z_J zeI V mX8_round (d + 12) (f_X8_round a1 a2 a3 S) 0 (z_ent mX8_round [.ref 1, .int a1, .int a2, .int a3]) [] S := by
  intro a1 a2 a3 S
  show z_J zeI V mX8_round (d + 12) (f_X8_round a1 a2 a3 S) 0 [.ref 1, .int a1, .int a2, .int a3, .null] [] S
  unfold f_X8_round
  refine d_st (fun _ k => zg_aload_n dX8_round_0 rfl k) ?_
  refine d_cVs (As := []) dX8_round_1 zk_X8_127 (zq_1 _) (by decide) ⟨_, _, rfl⟩ rfl rfl (Nat.le_of_ble_eq_true rfl) (Nat.le_of_ble_eq_true rfl) rfl (zd_X8_surveyed V d _) (fun r1 _ => ?_)
  refine d_st (fun _ k => zg_astore (ls' := [_, _, _, _, _]) dX8_round_4 (Nat.le_of_ble_eq_true rfl) rfl rfl (zg_aload dX8_round_6 rfl (zg_iload_n dX8_round_8 rfl k))) ?_
  refine d_cVi (As := [_]) dX8_round_9 zk_X8_192 (zq_57 _) (by decide) ⟨_, _, rfl⟩ rfl rfl (Nat.le_of_ble_eq_true rfl) (Nat.le_of_ble_eq_true rfl) rfl (zd_X4_hasPiece V (d + 11) _ _) (fun r9 _ => ?_)
  refine d_br (fun _ => zg_if_eq 28 dX8_round_12 rfl) (fun c12 => ?_) (fun c12 => ?_)
  · refine d_st (fun _ k => zg_iconst (-1) dX8_round_28 (by decide) k) ?_
    exact d_retI dX8_round_29 rfl
  · refine d_st (fun _ k => zg_iload_n dX8_round_15 rfl k) ?_
    refine d_br (fun _ => zg_if_lt 28 dX8_round_16 rfl) (fun c16 => ?_) (fun c16 => ?_)
    · refine d_st (fun _ k => zg_iconst (-1) dX8_round_28 (by decide) k) ?_
      exact d_retI dX8_round_29 rfl
    · refine d_st (fun _ k => zg_iload_n dX8_round_19 rfl k) ?_
      refine d_br (fun _ => zg_if_lt 28 dX8_round_20 rfl) (fun c20 => ?_) (fun c20 => ?_)
      · refine d_st (fun _ k => zg_iconst (-1) dX8_round_28 (by decide) k) ?_
        exact d_retI dX8_round_29 rfl
      · refine d_st (fun _ k => zg_iload_n dX8_round_23 rfl (zg_iconst 1 dX8_round_24 (by decide) k)) ?_
        refine d_br (fun _ => zg_icmp_le 30 dX8_round_25 rfl) (fun c25 => ?_) (fun c25 => ?_)
        · refine d_st (fun _ k => zg_aload_n dX8_round_30 rfl (zs_getR dX8_round_31 zf_X8_65 rfl (zq_1 _) (by decide) (by decide) zr_1_10 (zg_aload_n dX8_round_34 rfl k))) ?_
          refine d_gd (fun g35 => ?_)
          refine d_st (fun _ k => zs_getR dX8_round_35 zf_X8_20 rfl (zq_1 _) (by decide) (by decide) zr_pl k) ?_
          refine d_st (fun _ k => zg_aload dX8_round_38 rfl (zg_iload_n dX8_round_40 rfl k)) ?_
          refine d_cVv (As := [_, _, _]) dX8_round_41 zk_X8_178 (zq_69 _) (by decide) ⟨_, _, rfl⟩ rfl rfl (Nat.le_of_ble_eq_true rfl) (Nat.le_of_ble_eq_true rfl) rfl (zd_X5_go V g35 (d + 6) _ _) (fun r41 _ => ?_)
          refine d_st (fun _ k => zg_iload_n dX8_round_44 rfl (zg_aload_n dX8_round_45 rfl (zs_getR dX8_round_46 zf_X8_65 rfl (zq_1 _) (by decide) (by decide) zr_1_10 (zs_getI dX8_round_49 zf_X8_212 rfl (zq_69 _) (by decide) (by decide) k)))) ?_
          refine d_br (fun _ => zg_icmp_lt 58 dX8_round_52 rfl) (fun c52 => ?_) (fun c52 => ?_)
          · refine d_st (fun _ k => zg_iload_n dX8_round_58 rfl k) ?_
            refine d_br (fun _ => zg_if_ne 74 dX8_round_59 rfl) (fun c59 => ?_) (fun c59 => ?_)
            · refine d_st (fun _ k => zg_aload_n dX8_round_62 rfl (zs_getR dX8_round_63 zf_X8_65 rfl (zq_1 _) (by decide) (by decide) zr_1_10 (zs_getR dX8_round_66 zf_X8_182 rfl (zq_69 _) (by decide) (by decide) zr_69_2 (zg_iload_n dX8_round_69 rfl k)))) ?_
              refine d_gd (fun g70 => ?_)
              refine d_st (fun _ k => zs_iald dX8_round_70 (by decide) (zq_70 _) g70 rfl k) ?_
              refine d_st (fun _ k => zg_goto 83 dX8_round_71 rfl k) ?_
              exact d_retI dX8_round_83 rfl
            · refine d_st (fun _ k => zg_aload_n dX8_round_74 rfl (zs_getR dX8_round_75 zf_X8_65 rfl (zq_1 _) (by decide) (by decide) zr_1_10 (zs_getR dX8_round_78 zf_X8_215 rfl (zq_69 _) (by decide) (by decide) zr_69_3 (zg_iload_n dX8_round_81 rfl k)))) ?_
              refine d_gd (fun g82 => ?_)
              refine d_st (fun _ k => zs_iald dX8_round_82 (by decide) (zq_71 _) g82 rfl k) ?_
              exact d_retI dX8_round_83 rfl
          · refine d_st (fun _ k => zg_bipush (-9) dX8_round_55 (by decide) k) ?_
            exact d_retI dX8_round_57 rfl
        · refine d_st (fun _ k => zg_iconst (-1) dX8_round_28 (by decide) k) ?_
          exact d_retI dX8_round_29 rfl
def f_X9_round (a1 : Int32) (a2 : Int32) (a3 : Int32) (S : zS) : Option (Int32 × zS) := (f_X9_pieces  (z_w S 87 0 0)).bind (fun r6 => (f_X9_in a1 0 ((r6.2.1 87 23) - 1) r6.2).bind (fun r17 => if r17.1 = 0 then (some ((-1), r17.2)) else (if a2 < 0 then (some ((-1), r17.2)) else ((f_X9_in a3 0 1 r17.2).bind (fun r30 => if r30.1 = 0 then (some ((-1), r30.2)) else ((f_X9_rounds a1 r30.2).bind (fun r40 => if a2 < (r40.2.1 87 28) then (if a3 = 0 then (if z_in a2 20 then (some (r40.2.1 103 a2.toNatClampNeg, r40.2)) else none) else (if z_in a2 20 then (if (r40.2.1 104 a2.toNatClampNeg) = 0 then (some (0, r40.2)) else (some (1, r40.2))) else none)) else (some ((-9), r40.2)))))))))
set_option maxRecDepth 100000 in
set_option maxHeartbeats 4000000 in
theorem zd_X9_round (V : zV) (d : Nat) : ∀ (a1 : Int32) (a2 : Int32) (a3 : Int32) (S : zS), z_J zeI V mX9_round (d + 5) (f_X9_round a1 a2 a3 S) 0 (z_ent mX9_round [.ref 87, .int a1, .int a2, .int a3]) [] S := by
  intro a1 a2 a3 S
  show z_J zeI V mX9_round (d + 5) (f_X9_round a1 a2 a3 S) 0 [.ref 87, .int a1, .int a2, .int a3] [] S
  unfold f_X9_round
  refine d_st (fun _ k => zg_aload_n dX9_round_0 rfl (zg_iconst 0 dX9_round_1 (by decide) (zs_putI dX9_round_2 zf_X9_80 rfl (zq_87 _) (by decide) (by decide) (zg_aload_n dX9_round_5 rfl k)))) ?_
  refine d_cVv (As := []) dX9_round_6 zk_X9_201 (zq_87 _) (by decide) ⟨_, _, rfl⟩ rfl rfl (Nat.le_of_ble_eq_true rfl) (Nat.le_of_ble_eq_true rfl) rfl (zd_X9_pieces V (d + 2) _) (fun r6 _ => ?_)
  refine d_st (fun _ k => zg_iload_n dX9_round_9 rfl (zg_iconst 0 dX9_round_10 (by decide) (zg_aload_n dX9_round_11 rfl (zs_getI dX9_round_12 zf_X9_198 rfl (zq_87 _) (by decide) (by decide) (zg_iconst 1 dX9_round_15 (by decide) (zg_isub dX9_round_16 k)))))) ?_
  refine d_cSi (As := [_, _, _]) dX9_round_17 zk_X9_88 rfl rfl (Nat.le_of_ble_eq_true rfl) (Nat.le_of_ble_eq_true rfl) rfl (zd_X9_in V (d + 4) _ _ _ _) (fun r17 _ => ?_)
  refine d_br (fun _ => zg_if_eq 36 dX9_round_20 rfl) (fun c20 => ?_) (fun c20 => ?_)
  · refine d_st (fun _ k => zg_iconst (-1) dX9_round_36 (by decide) k) ?_
    exact d_retI dX9_round_37 rfl
  · refine d_st (fun _ k => zg_iload_n dX9_round_23 rfl k) ?_
    refine d_br (fun _ => zg_if_lt 36 dX9_round_24 rfl) (fun c24 => ?_) (fun c24 => ?_)
    · refine d_st (fun _ k => zg_iconst (-1) dX9_round_36 (by decide) k) ?_
      exact d_retI dX9_round_37 rfl
    · refine d_st (fun _ k => zg_iload_n dX9_round_27 rfl (zg_iconst 0 dX9_round_28 (by decide) (zg_iconst 1 dX9_round_29 (by decide) k))) ?_
      refine d_cSi (As := [_, _, _]) dX9_round_30 zk_X9_88 rfl rfl (Nat.le_of_ble_eq_true rfl) (Nat.le_of_ble_eq_true rfl) rfl (zd_X9_in V (d + 4) _ _ _ _) (fun r30 _ => ?_)
      refine d_br (fun _ => zg_if_ne 38 dX9_round_33 rfl) (fun c33 => ?_) (fun c33 => ?_)
      · refine d_st (fun _ k => zg_iconst (-1) dX9_round_36 (by decide) k) ?_
        exact d_retI dX9_round_37 rfl
      · refine d_st (fun _ k => zg_aload_n dX9_round_38 rfl (zg_iload_n dX9_round_39 rfl k)) ?_
        refine d_cVi (As := [_]) dX9_round_40 zk_X9_243 (zq_87 _) (by decide) ⟨_, _, rfl⟩ rfl rfl (Nat.le_of_ble_eq_true rfl) (Nat.le_of_ble_eq_true rfl) rfl (zd_X9_rounds V d _ _) (fun r40 _ => ?_)
        refine d_st (fun _ k => zg_popi dX9_round_43 (zg_iload_n dX9_round_44 rfl (zg_aload_n dX9_round_45 rfl (zs_getI dX9_round_46 zf_X9_272 rfl (zq_87 _) (by decide) (by decide) k)))) ?_
        refine d_br (fun _ => zg_icmp_lt 55 dX9_round_49 rfl) (fun c49 => ?_) (fun c49 => ?_)
        · refine d_st (fun _ k => zg_iload_n dX9_round_55 rfl k) ?_
          refine d_br (fun _ => zg_if_ne 68 dX9_round_56 rfl) (fun c56 => ?_) (fun c56 => ?_)
          · refine d_st (fun _ k => zg_aload_n dX9_round_59 rfl (zs_getR dX9_round_60 zf_X9_56 rfl (zq_87 _) (by decide) (by decide) zr_87_26 (zg_iload_n dX9_round_63 rfl k))) ?_
            refine d_gd (fun g64 => ?_)
            refine d_st (fun _ k => zs_iald dX9_round_64 (by decide) (zq_103 _) g64 rfl k) ?_
            refine d_st (fun _ k => zg_goto 82 dX9_round_65 rfl k) ?_
            exact d_retI dX9_round_82 rfl
          · refine d_st (fun _ k => zg_aload_n dX9_round_68 rfl (zs_getR dX9_round_69 zf_X9_59 rfl (zq_87 _) (by decide) (by decide) zr_87_27 (zg_iload_n dX9_round_72 rfl k))) ?_
            refine d_gd (fun g73 => ?_)
            refine d_st (fun _ k => zs_zald dX9_round_73 (by decide) (zq_104 _) g73 rfl k) ?_
            refine d_br (fun _ => zg_if_eq 81 dX9_round_74 rfl) (fun c74 => ?_) (fun c74 => ?_)
            · refine d_st (fun _ k => zg_iconst 0 dX9_round_81 (by decide) k) ?_
              exact d_retI dX9_round_82 rfl
            · refine d_st (fun _ k => zg_iconst 1 dX9_round_77 (by decide) (zg_goto 82 dX9_round_78 rfl k)) ?_
              exact d_retI dX9_round_82 rfl
        · refine d_st (fun _ k => zg_bipush (-9) dX9_round_52 (by decide) k) ?_
          exact d_retI dX9_round_54 rfl
def f_X4_idle_7 : Nat → Int32 → Int32 → zS → Option (Int32 × zS)
  | 0, _, _, _ => none
  | n + 1, v1, v2, S => if (S.1 57 1) ≤ v2 then (some (v1, S)) else (if z_in v2 4 then (f_X4_idle_7 n (v1 + (S.1 62 v2.toNatClampNeg)) (v2 + 1) S) else none)
set_option maxRecDepth 100000 in
set_option maxHeartbeats 4000000 in
theorem zd_X4_idle_7 (V : zV) (d : Nat) : ∀ (n : Nat) (v1 : Int32) (v2 : Int32) (S : zS), z_J zeI V mX4_idle (d) (f_X4_idle_7 n v1 v2 S) 7 [.ref 57, .int v1, .int v2] [] S := by
  intro n
  induction n with
  | zero =>
    intro v1 v2 S r hr
    cases (show (none : Option (Int32 × zS)) = some r from hr)
  | succ n ih =>
    intro v1 v2 S
    rw [f_X4_idle_7]
    refine d_st (fun _ k => zg_iload_n dX4_idle_7 rfl (zg_aload_n dX4_idle_8 rfl (zs_getI dX4_idle_9 zf_X4_15 rfl (zq_57 _) (by decide) (by decide) k))) ?_
    refine d_br (fun _ => zg_icmp_ge 30 dX4_idle_12 rfl) (fun c12 => ?_) (fun c12 => ?_)
    · refine d_st (fun _ k => zg_iload_n dX4_idle_30 rfl k) ?_
      exact d_retI dX4_idle_31 rfl
    · refine d_st (fun _ k => zg_iload_n dX4_idle_15 rfl (zg_aload_n dX4_idle_16 rfl (zs_getR dX4_idle_17 zf_X4_32 rfl (zq_57 _) (by decide) (by decide) zr_57_6 (zg_iload_n dX4_idle_20 rfl k)))) ?_
      refine d_gd (fun g21 => ?_)
      refine d_st (fun _ k => zs_iald dX4_idle_21 (by decide) (zq_62 _) g21 rfl k) ?_
      refine d_st (fun _ k => zg_iadd dX4_idle_22 (zg_istore_n (ls' := [_, _, _]) dX4_idle_23 (Nat.le_of_ble_eq_true rfl) rfl rfl (zg_iinc (ls' := [_, _, _]) 1 dX4_idle_24 rfl (by decide) (Nat.le_of_ble_eq_true rfl) rfl rfl (zg_goto 7 dX4_idle_27 rfl k)))) ?_
      exact d_fg (z_le_s (z_le_s (z_le_s z_le_n))) (ih _ _ _)
def f_X4_idle (S : zS) : Option (Int32 × zS) := f_X4_idle_7 1000 (S.1 57 10) 0 S
set_option maxRecDepth 100000 in
set_option maxHeartbeats 4000000 in
theorem zd_X4_idle (V : zV) (d : Nat) : ∀ (S : zS), z_J zeI V mX4_idle (d) (f_X4_idle  S) 0 (z_ent mX4_idle [.ref 57]) [] S := by
  intro S
  show z_J zeI V mX4_idle (d) (f_X4_idle  S) 0 [.ref 57, .null, .null] [] S
  unfold f_X4_idle
  refine d_st (fun _ k => zg_aload_n dX4_idle_0 rfl (zs_getI dX4_idle_1 zf_X4_44 rfl (zq_57 _) (by decide) (by decide) (zg_istore_n (ls' := [_, _, _]) dX4_idle_4 (Nat.le_of_ble_eq_true rfl) rfl rfl (zg_iconst 0 dX4_idle_5 (by decide) (zg_istore_n (ls' := [_, _, _]) dX4_idle_6 (Nat.le_of_ble_eq_true rfl) rfl rfl k))))) ?_
  exact d_fg (z_le_s (z_le_s (z_le_s z_le_n))) (zd_X4_idle_7 V d 1000 _ _ _)
def f_X8_tour (a1 : Int32) (S : zS) : Option (Int32 × zS) := if (-1) ≤ a1 then ((f_X8_surveyed  S).bind (fun r8 => if (r8.2.1 57 10) < 1000000 then (if a1 = (-1) then ((f_X4_idle  r8.2).bind (fun r30 => some (r30.1, r30.2))) else ((f_X4_hasPiece a1 r8.2).bind (fun r36 => if r36.1 = 0 then (some ((-9), r36.2)) else (if z_in a1 4 then (some (r36.2.1 65 a1.toNatClampNeg, r36.2)) else none)))) else (some ((-9), r8.2)))) else (some ((-1), S))
set_option maxRecDepth 100000 in
set_option maxHeartbeats 4000000 in
theorem zd_X8_tour (V : zV) (d : Nat) : ∀ (a1 : Int32) (S : zS), z_J zeI V mX8_tour (d + 12) (f_X8_tour a1 S) 0 (z_ent mX8_tour [.ref 1, .int a1]) [] S := by
  intro a1 S
  show z_J zeI V mX8_tour (d + 12) (f_X8_tour a1 S) 0 [.ref 1, .int a1, .null] [] S
  unfold f_X8_tour
  refine d_st (fun _ k => zg_iload_n dX8_tour_0 rfl (zg_iconst (-1) dX8_tour_1 (by decide) k)) ?_
  refine d_br (fun _ => zg_icmp_ge 7 dX8_tour_2 rfl) (fun c2 => ?_) (fun c2 => ?_)
  · refine d_st (fun _ k => zg_aload_n dX8_tour_7 rfl k) ?_
    refine d_cVs (As := []) dX8_tour_8 zk_X8_127 (zq_1 _) (by decide) ⟨_, _, rfl⟩ rfl rfl (Nat.le_of_ble_eq_true rfl) (Nat.le_of_ble_eq_true rfl) rfl (zd_X8_surveyed V d _) (fun r8 _ => ?_)
    refine d_st (fun _ k => zg_astore_n (ls' := [_, _, _]) dX8_tour_11 (Nat.le_of_ble_eq_true rfl) rfl rfl (zg_aload_n dX8_tour_12 rfl (zs_getI dX8_tour_13 zf_X8_168 rfl (zq_57 _) (by decide) (by decide) (zg_ldc 1000000 dX8_tour_16 zt_3_189 k)))) ?_
    refine d_br (fun _ => zg_icmp_lt 24 dX8_tour_18 rfl) (fun c18 => ?_) (fun c18 => ?_)
    · refine d_st (fun _ k => zg_iload_n dX8_tour_24 rfl (zg_iconst (-1) dX8_tour_25 (by decide) k)) ?_
      refine d_br (fun _ => zg_icmp_ne 34 dX8_tour_26 rfl) (fun c26 => ?_) (fun c26 => ?_)
      · refine d_st (fun _ k => zg_aload_n dX8_tour_29 rfl k) ?_
        refine d_cVi (As := []) dX8_tour_30 zk_X8_218 (zq_57 _) (by decide) ⟨_, _, rfl⟩ rfl rfl (Nat.le_of_ble_eq_true rfl) (Nat.le_of_ble_eq_true rfl) rfl (zd_X4_idle V (d + 11) _) (fun r30 _ => ?_)
        exact d_retI dX8_tour_33 rfl
      · refine d_st (fun _ k => zg_aload_n dX8_tour_34 rfl (zg_iload_n dX8_tour_35 rfl k)) ?_
        refine d_cVi (As := [_]) dX8_tour_36 zk_X8_192 (zq_57 _) (by decide) ⟨_, _, rfl⟩ rfl rfl (Nat.le_of_ble_eq_true rfl) (Nat.le_of_ble_eq_true rfl) rfl (zd_X4_hasPiece V (d + 11) _ _) (fun r36 _ => ?_)
        refine d_br (fun _ => zg_if_eq 51 dX8_tour_39 rfl) (fun c39 => ?_) (fun c39 => ?_)
        · refine d_st (fun _ k => zg_bipush (-9) dX8_tour_51 (by decide) k) ?_
          exact d_retI dX8_tour_53 rfl
        · refine d_st (fun _ k => zg_aload_n dX8_tour_42 rfl (zs_getR dX8_tour_43 zf_X8_172 rfl (zq_57 _) (by decide) (by decide) zr_57_9 (zg_iload_n dX8_tour_46 rfl k))) ?_
          refine d_gd (fun g47 => ?_)
          refine d_st (fun _ k => zs_iald dX8_tour_47 (by decide) (zq_65 _) g47 rfl k) ?_
          refine d_st (fun _ k => zg_goto 53 dX8_tour_48 rfl k) ?_
          exact d_retI dX8_tour_53 rfl
    · refine d_st (fun _ k => zg_bipush (-9) dX8_tour_21 (by decide) k) ?_
      exact d_retI dX8_tour_23 rfl
  · refine d_st (fun _ k => zg_iconst (-1) dX8_tour_5 (by decide) k) ?_
    exact d_retI dX8_tour_6 rfl
def f_X9_tour_49 : Nat → Int32 → Int32 → Int32 → zS → Option (Int32 × zS)
  | 0, _, _, _, _ => none
  | n + 1, v1, v2, v3, S => if (S.1 87 23) ≤ v3 then (if 0 ≤ v1 then (if (S.1 87 23) ≤ v1 then (some ((-9), S)) else (if z_in v1 4 then (some (S.1 107 v1.toNatClampNeg, S)) else none)) else (some (v2, S))) else ((f_X9_links v3 S).bind (fun r60 => f_X9_tour_49 n v1 (v2 + r60.1) (v3 + 1) r60.2))
set_option maxRecDepth 100000 in
set_option maxHeartbeats 4000000 in
theorem zd_X9_tour_49 (V : zV) (d : Nat) : ∀ (n : Nat) (v1 : Int32) (v2 : Int32) (v3 : Int32) (S : zS), z_J zeI V mX9_tour (d + 4) (f_X9_tour_49 n v1 v2 v3 S) 49 [.ref 87, .int v1, .int v2, .int v3] [] S := by
  intro n
  induction n with
  | zero =>
    intro v1 v2 v3 S r hr
    cases (show (none : Option (Int32 × zS)) = some r from hr)
  | succ n ih =>
    intro v1 v2 v3 S
    rw [f_X9_tour_49]
    refine d_st (fun _ k => zg_iload_n dX9_tour_49 rfl (zg_aload_n dX9_tour_50 rfl (zs_getI dX9_tour_51 zf_X9_198 rfl (zq_87 _) (by decide) (by decide) k))) ?_
    refine d_br (fun _ => zg_icmp_ge 71 dX9_tour_54 rfl) (fun c54 => ?_) (fun c54 => ?_)
    · refine d_st (fun _ k => zg_iload_n dX9_tour_71 rfl k) ?_
      refine d_br (fun _ => zg_if_ge 79 dX9_tour_72 rfl) (fun c72 => ?_) (fun c72 => ?_)
      · refine d_st (fun _ k => zg_iload_n dX9_tour_79 rfl (zg_aload_n dX9_tour_80 rfl (zs_getI dX9_tour_81 zf_X9_198 rfl (zq_87 _) (by decide) (by decide) k))) ?_
        refine d_br (fun _ => zg_icmp_ge 96 dX9_tour_84 rfl) (fun c84 => ?_) (fun c84 => ?_)
        · refine d_st (fun _ k => zg_bipush (-9) dX9_tour_96 (by decide) k) ?_
          exact d_retI dX9_tour_98 rfl
        · refine d_st (fun _ k => zg_aload_n dX9_tour_87 rfl (zs_getR dX9_tour_88 zf_X9_68 rfl (zq_87 _) (by decide) (by decide) zr_87_31 (zg_iload_n dX9_tour_91 rfl k))) ?_
          refine d_gd (fun g92 => ?_)
          refine d_st (fun _ k => zs_iald dX9_tour_92 (by decide) (zq_107 _) g92 rfl k) ?_
          refine d_st (fun _ k => zg_goto 98 dX9_tour_93 rfl k) ?_
          exact d_retI dX9_tour_98 rfl
      · refine d_st (fun _ k => zg_iload_n dX9_tour_75 rfl (zg_goto 98 dX9_tour_76 rfl k)) ?_
        exact d_retI dX9_tour_98 rfl
    · refine d_st (fun _ k => zg_iload_n dX9_tour_57 rfl (zg_aload_n dX9_tour_58 rfl (zg_iload_n dX9_tour_59 rfl k))) ?_
      refine d_cVi (As := [_]) dX9_tour_60 zk_X9_256 (zq_87 _) (by decide) ⟨_, _, rfl⟩ rfl rfl (Nat.le_of_ble_eq_true rfl) (Nat.le_of_ble_eq_true rfl) rfl (zd_X9_links V d _ _) (fun r60 _ => ?_)
      refine d_st (fun _ k => zg_iadd dX9_tour_63 (zg_istore_n (ls' := [_, _, _, _]) dX9_tour_64 (Nat.le_of_ble_eq_true rfl) rfl rfl (zg_iinc (ls' := [_, _, _, _]) 1 dX9_tour_65 rfl (by decide) (Nat.le_of_ble_eq_true rfl) rfl rfl (zg_goto 49 dX9_tour_68 rfl k)))) ?_
      exact d_fg (z_le_s (z_le_s (z_le_s (z_le_s z_le_n)))) (ih _ _ _ _)
def f_X9_tour (a1 : Int32) (S : zS) : Option (Int32 × zS) := if (-1) ≤ a1 then (if ((z_w S 87 0 0).1 89 0) = 0 then (if 0 ≤ a1 then (some ((-9), (z_w S 87 0 0))) else (some (0, (z_w S 87 0 0)))) else ((f_X9_tours  (z_w S 87 0 0)).bind (fun r33 => if r33.1 = 0 then (some ((-9), r33.2)) else (f_X9_tour_49 1000 a1 (r33.2.1 87 32) 0 r33.2)))) else (some ((-1), (z_w S 87 0 0)))
set_option maxRecDepth 100000 in
set_option maxHeartbeats 4000000 in
theorem zd_X9_tour (V : zV) (d : Nat) : ∀ (a1 : Int32) (S : zS), z_J zeI V mX9_tour (d + 4) (f_X9_tour a1 S) 0 (z_ent mX9_tour [.ref 87, .int a1]) [] S := by
  intro a1 S
  show z_J zeI V mX9_tour (d + 4) (f_X9_tour a1 S) 0 [.ref 87, .int a1, .null, .null] [] S
  unfold f_X9_tour
  refine d_st (fun _ k => zg_aload_n dX9_tour_0 rfl (zg_iconst 0 dX9_tour_1 (by decide) (zs_putI dX9_tour_2 zf_X9_80 rfl (zq_87 _) (by decide) (by decide) (zg_iload_n dX9_tour_5 rfl (zg_iconst (-1) dX9_tour_6 (by decide) k))))) ?_
  refine d_br (fun _ => zg_icmp_ge 12 dX9_tour_7 rfl) (fun c7 => ?_) (fun c7 => ?_)
  · refine d_st (fun _ k => zg_aload_n dX9_tour_12 rfl (zs_getR dX9_tour_13 zf_X9_13 rfl (zq_87 _) (by decide) (by decide) zr_87_9 (zg_iconst 0 dX9_tour_16 (by decide) (zs_iald (j := 0) dX9_tour_17 (by decide) (zq_89 _) (by decide) (by decide) k)))) ?_
    refine d_br (fun _ => zg_if_ne 32 dX9_tour_18 rfl) (fun c18 => ?_) (fun c18 => ?_)
    · refine d_st (fun _ k => zg_iload_n dX9_tour_21 rfl k) ?_
      refine d_br (fun _ => zg_if_ge 29 dX9_tour_22 rfl) (fun c22 => ?_) (fun c22 => ?_)
      · refine d_st (fun _ k => zg_bipush (-9) dX9_tour_29 (by decide) k) ?_
        exact d_retI dX9_tour_31 rfl
      · refine d_st (fun _ k => zg_iconst 0 dX9_tour_25 (by decide) (zg_goto 31 dX9_tour_26 rfl k)) ?_
        exact d_retI dX9_tour_31 rfl
    · refine d_st (fun _ k => zg_aload_n dX9_tour_32 rfl k) ?_
      refine d_cVi (As := []) dX9_tour_33 zk_X9_237 (zq_87 _) (by decide) ⟨_, _, rfl⟩ rfl rfl (Nat.le_of_ble_eq_true rfl) (Nat.le_of_ble_eq_true rfl) rfl (zd_X9_tours V d _) (fun r33 _ => ?_)
      refine d_br (fun _ => zg_if_ne 42 dX9_tour_36 rfl) (fun c36 => ?_) (fun c36 => ?_)
      · refine d_st (fun _ k => zg_bipush (-9) dX9_tour_39 (by decide) k) ?_
        exact d_retI dX9_tour_41 rfl
      · refine d_st (fun _ k => zg_aload_n dX9_tour_42 rfl (zs_getI dX9_tour_43 zf_X9_281 rfl (zq_87 _) (by decide) (by decide) (zg_istore_n (ls' := [_, _, _, _]) dX9_tour_46 (Nat.le_of_ble_eq_true rfl) rfl rfl (zg_iconst 0 dX9_tour_47 (by decide) (zg_istore_n (ls' := [_, _, _, _]) dX9_tour_48 (Nat.le_of_ble_eq_true rfl) rfl rfl k))))) ?_
        exact d_fg (z_le_s (z_le_s (z_le_s (z_le_s z_le_n)))) (zd_X9_tour_49 V d 1000 _ _ _ _)
  · refine d_st (fun _ k => zg_iconst (-1) dX9_tour_10 (by decide) k) ?_
    exact d_retI dX9_tour_11 rfl
def f_X7_add (a1 : Int32) (a2 : Int32) (a3 : Int32) (S : zS) : Option (Int32 × zS) := if (S.1 75 0) < 0 then (some (0, S)) else (if (S.1 75 0) < 6 then (if z_in (S.1 75 0) 6 then (if z_in ((z_w S 76 ((S.1 75 0).toNatClampNeg) a1).1 75 0) 6 then (if z_in ((z_w (z_w S 76 ((S.1 75 0).toNatClampNeg) a1) 77 (((z_w S 76 ((S.1 75 0).toNatClampNeg) a1).1 75 0).toNatClampNeg) a2).1 75 0) 6 then (some (1, (z_w (z_w (z_w (z_w S 76 ((S.1 75 0).toNatClampNeg) a1) 77 (((z_w S 76 ((S.1 75 0).toNatClampNeg) a1).1 75 0).toNatClampNeg) a2) 78 (((z_w (z_w S 76 ((S.1 75 0).toNatClampNeg) a1) 77 (((z_w S 76 ((S.1 75 0).toNatClampNeg) a1).1 75 0).toNatClampNeg) a2).1 75 0).toNatClampNeg) a3) 75 0 (((z_w (z_w (z_w S 76 ((S.1 75 0).toNatClampNeg) a1) 77 (((z_w S 76 ((S.1 75 0).toNatClampNeg) a1).1 75 0).toNatClampNeg) a2) 78 (((z_w (z_w S 76 ((S.1 75 0).toNatClampNeg) a1) 77 (((z_w S 76 ((S.1 75 0).toNatClampNeg) a1).1 75 0).toNatClampNeg) a2).1 75 0).toNatClampNeg) a3).1 75 0) + 1)))) else none) else none) else none) else (some (0, S)))
set_option maxRecDepth 100000 in
set_option maxHeartbeats 4000000 in
theorem zd_X7_add (V : zV) (d : Nat) : ∀ (a1 : Int32) (a2 : Int32) (a3 : Int32) (S : zS), z_J zeI V mX7_add (d) (f_X7_add a1 a2 a3 S) 0 (z_ent mX7_add [.ref 75, .int a1, .int a2, .int a3]) [] S := by
  intro a1 a2 a3 S
  show z_J zeI V mX7_add (d) (f_X7_add a1 a2 a3 S) 0 [.ref 75, .int a1, .int a2, .int a3] [] S
  unfold f_X7_add
  refine d_st (fun _ k => zg_aload_n dX7_add_0 rfl (zs_getI dX7_add_1 zf_X7_9 rfl (zq_75 _) (by decide) (by decide) k)) ?_
  refine d_br (fun _ => zg_if_lt 16 dX7_add_4 rfl) (fun c4 => ?_) (fun c4 => ?_)
  · refine d_st (fun _ k => zg_iconst 0 dX7_add_16 (by decide) k) ?_
    exact d_retZ dX7_add_17 rfl (by decide)
  · refine d_st (fun _ k => zg_aload_n dX7_add_7 rfl (zs_getI dX7_add_8 zf_X7_9 rfl (zq_75 _) (by decide) (by decide) (zg_bipush 6 dX7_add_11 (by decide) k))) ?_
    refine d_br (fun _ => zg_icmp_lt 18 dX7_add_13 rfl) (fun c13 => ?_) (fun c13 => ?_)
    · refine d_st (fun _ k => zg_aload_n dX7_add_18 rfl (zs_getR dX7_add_19 zf_X7_15 rfl (zq_75 _) (by decide) (by decide) zr_75_1 (zg_aload_n dX7_add_22 rfl (zs_getI dX7_add_23 zf_X7_9 rfl (zq_75 _) (by decide) (by decide) (zg_iload_n dX7_add_26 rfl k))))) ?_
      refine d_gd (fun g27 => ?_)
      refine d_st (fun _ k => zs_iast dX7_add_27 (by decide) (zq_76 _) g27 rfl k) ?_
      refine d_st (fun _ k => zg_aload_n dX7_add_28 rfl (zs_getR dX7_add_29 zf_X7_19 rfl (zq_75 _) (by decide) (by decide) zr_75_2 (zg_aload_n dX7_add_32 rfl (zs_getI dX7_add_33 zf_X7_9 rfl (zq_75 _) (by decide) (by decide) (zg_iload_n dX7_add_36 rfl k))))) ?_
      refine d_gd (fun g37 => ?_)
      refine d_st (fun _ k => zs_iast dX7_add_37 (by decide) (zq_77 _) g37 rfl k) ?_
      refine d_st (fun _ k => zg_aload_n dX7_add_38 rfl (zs_getR dX7_add_39 zf_X7_22 rfl (zq_75 _) (by decide) (by decide) zr_75_3 (zg_aload_n dX7_add_42 rfl (zs_getI dX7_add_43 zf_X7_9 rfl (zq_75 _) (by decide) (by decide) (zg_iload_n dX7_add_46 rfl k))))) ?_
      refine d_gd (fun g47 => ?_)
      refine d_st (fun _ k => zs_iast dX7_add_47 (by decide) (zq_78 _) g47 rfl k) ?_
      refine d_st (fun _ k => zg_aload_n dX7_add_48 rfl (zg_dupr dX7_add_49 (zs_getI dX7_add_50 zf_X7_9 rfl (zq_75 _) (by decide) (by decide) (zg_iconst 1 dX7_add_53 (by decide) (zg_iadd dX7_add_54 (zs_putI dX7_add_55 zf_X7_9 rfl (zq_75 _) (by decide) (by decide) (zg_iconst 1 dX7_add_58 (by decide) k))))))) ?_
      exact d_retZ dX7_add_59 rfl (by decide)
    · refine d_st (fun _ k => zg_iconst 0 dX7_add_16 (by decide) k) ?_
      exact d_retZ dX7_add_17 rfl (by decide)
def f_X8_sees (a1 : Int32) (a2 : Int32) (a3 : Int32) (S : zS) : Option (Int32 × zS) := if z_isP S.2.1 then ((f_X1_hasCorner S.2.1 a1 S).bind (fun r5 => if r5.1 = 0 then (some ((-1), r5.2)) else (if z_isP r5.2.2.1 then ((f_X1_hasCorner r5.2.2.1 a2 r5.2).bind (fun r16 => if r16.1 = 0 then (some ((-1), r16.2)) else (if a3 < 0 then (some ((-1), r16.2)) else (if a3 ≤ 1 then ((f_X7_add a1 a2 a3 r16.2).bind (fun r40 => if r40.1 = 0 then (some ((-3), r40.2)) else (some (r40.2.1 75 0, r40.2)))) else (some ((-1), r16.2)))))) else none))) else none
set_option maxRecDepth 100000 in
set_option maxHeartbeats 4000000 in
theorem zd_X8_sees (V : zV) (d : Nat) : ∀ (a1 : Int32) (a2 : Int32) (a3 : Int32) (S : zS), z_J zeI V mX8_sees (d + 1) (f_X8_sees a1 a2 a3 S) 0 (z_ent mX8_sees [.ref 1, .int a1, .int a2, .int a3]) [] S := by
  intro a1 a2 a3 S
  show z_J zeI V mX8_sees (d + 1) (f_X8_sees a1 a2 a3 S) 0 [.ref 1, .int a1, .int a2, .int a3] [] S
  unfold f_X8_sees
  refine d_st (fun _ k => zg_aload_n dX8_sees_0 rfl k) ?_
  refine d_gd (fun g1 => ?_)
  refine d_st (fun _ k => zs_getR dX8_sees_1 zf_X8_20 rfl (zq_1 _) (by decide) (by decide) zr_pl k) ?_
  refine d_st (fun _ k => zg_iload_n dX8_sees_4 rfl k) ?_
  refine d_cVi (As := [_]) dX8_sees_5 zk_X8_94 (zp_o g1 _) (by decide) ⟨_, _, rfl⟩ rfl rfl (Nat.le_of_ble_eq_true rfl) (Nat.le_of_ble_eq_true rfl) rfl (zd_X1_hasCorner V g1 d _ _) (fun r5 _ => ?_)
  refine d_br (fun _ => zg_if_eq 31 dX8_sees_8 rfl) (fun c8 => ?_) (fun c8 => ?_)
  · refine d_st (fun _ k => zg_iconst (-1) dX8_sees_31 (by decide) k) ?_
    exact d_retI dX8_sees_32 rfl
  · refine d_st (fun _ k => zg_aload_n dX8_sees_11 rfl k) ?_
    refine d_gd (fun g12 => ?_)
    refine d_st (fun _ k => zs_getR dX8_sees_12 zf_X8_20 rfl (zq_1 _) (by decide) (by decide) zr_pl k) ?_
    refine d_st (fun _ k => zg_iload_n dX8_sees_15 rfl k) ?_
    refine d_cVi (As := [_]) dX8_sees_16 zk_X8_94 (zp_o g12 _) (by decide) ⟨_, _, rfl⟩ rfl rfl (Nat.le_of_ble_eq_true rfl) (Nat.le_of_ble_eq_true rfl) rfl (zd_X1_hasCorner V g12 d _ _) (fun r16 _ => ?_)
    refine d_br (fun _ => zg_if_eq 31 dX8_sees_19 rfl) (fun c19 => ?_) (fun c19 => ?_)
    · refine d_st (fun _ k => zg_iconst (-1) dX8_sees_31 (by decide) k) ?_
      exact d_retI dX8_sees_32 rfl
    · refine d_st (fun _ k => zg_iload_n dX8_sees_22 rfl k) ?_
      refine d_br (fun _ => zg_if_lt 31 dX8_sees_23 rfl) (fun c23 => ?_) (fun c23 => ?_)
      · refine d_st (fun _ k => zg_iconst (-1) dX8_sees_31 (by decide) k) ?_
        exact d_retI dX8_sees_32 rfl
      · refine d_st (fun _ k => zg_iload_n dX8_sees_26 rfl (zg_iconst 1 dX8_sees_27 (by decide) k)) ?_
        refine d_br (fun _ => zg_icmp_le 33 dX8_sees_28 rfl) (fun c28 => ?_) (fun c28 => ?_)
        · refine d_st (fun _ k => zg_aload_n dX8_sees_33 rfl (zs_getR dX8_sees_34 zf_X8_72 rfl (zq_1 _) (by decide) (by decide) zr_1_11 (zg_iload_n dX8_sees_37 rfl (zg_iload_n dX8_sees_38 rfl (zg_iload_n dX8_sees_39 rfl k))))) ?_
          refine d_cVi (As := [_, _, _]) dX8_sees_40 zk_X8_222 (zq_75 _) (by decide) ⟨_, _, rfl⟩ rfl rfl (Nat.le_of_ble_eq_true rfl) (Nat.le_of_ble_eq_true rfl) rfl (zd_X7_add V d _ _ _ _) (fun r40 _ => ?_)
          refine d_br (fun _ => zg_if_eq 56 dX8_sees_43 rfl) (fun c43 => ?_) (fun c43 => ?_)
          · refine d_st (fun _ k => zg_bipush (-3) dX8_sees_56 (by decide) k) ?_
            exact d_retI dX8_sees_58 rfl
          · refine d_st (fun _ k => zg_aload_n dX8_sees_46 rfl (zs_getR dX8_sees_47 zf_X8_72 rfl (zq_1 _) (by decide) (by decide) zr_1_11 (zs_getI dX8_sees_50 zf_X8_226 rfl (zq_75 _) (by decide) (by decide) (zg_goto 58 dX8_sees_53 rfl k)))) ?_
            exact d_retI dX8_sees_58 rfl
        · refine d_st (fun _ k => zg_iconst (-1) dX8_sees_31 (by decide) k) ?_
          exact d_retI dX8_sees_32 rfl
def f_X9_sees (a1 : Int32) (a2 : Int32) (a3 : Int32) (S : zS) : Option (Int32 × zS) := (f_X9_isCornerNow a1 (z_w S 87 0 0)).bind (fun r7 => if r7.1 = 0 then (some ((-1), r7.2)) else ((f_X9_isCornerNow a2 r7.2).bind (fun r15 => if r15.1 = 0 then (some ((-1), r15.2)) else ((f_X9_in a3 0 1 r15.2).bind (fun r24 => if r24.1 = 0 then (some ((-1), r24.2)) else (if (r24.2.1 87 19) = 6 then (some ((-3), r24.2)) else (if z_in (r24.2.1 87 19) 6 then (if z_in ((z_w r24.2 95 ((r24.2.1 87 19).toNatClampNeg) a1).1 87 19) 6 then (if z_in ((z_w (z_w r24.2 95 ((r24.2.1 87 19).toNatClampNeg) a1) 96 (((z_w r24.2 95 ((r24.2.1 87 19).toNatClampNeg) a1).1 87 19).toNatClampNeg) a2).1 87 19) 6 then (some ((z_w (z_w (z_w (z_w r24.2 95 ((r24.2.1 87 19).toNatClampNeg) a1) 96 (((z_w r24.2 95 ((r24.2.1 87 19).toNatClampNeg) a1).1 87 19).toNatClampNeg) a2) 97 (((z_w (z_w r24.2 95 ((r24.2.1 87 19).toNatClampNeg) a1) 96 (((z_w r24.2 95 ((r24.2.1 87 19).toNatClampNeg) a1).1 87 19).toNatClampNeg) a2).1 87 19).toNatClampNeg) a3) 87 19 (((z_w (z_w (z_w r24.2 95 ((r24.2.1 87 19).toNatClampNeg) a1) 96 (((z_w r24.2 95 ((r24.2.1 87 19).toNatClampNeg) a1).1 87 19).toNatClampNeg) a2) 97 (((z_w (z_w r24.2 95 ((r24.2.1 87 19).toNatClampNeg) a1) 96 (((z_w r24.2 95 ((r24.2.1 87 19).toNatClampNeg) a1).1 87 19).toNatClampNeg) a2).1 87 19).toNatClampNeg) a3).1 87 19) + 1)).1 87 19, (z_w (z_w (z_w (z_w r24.2 95 ((r24.2.1 87 19).toNatClampNeg) a1) 96 (((z_w r24.2 95 ((r24.2.1 87 19).toNatClampNeg) a1).1 87 19).toNatClampNeg) a2) 97 (((z_w (z_w r24.2 95 ((r24.2.1 87 19).toNatClampNeg) a1) 96 (((z_w r24.2 95 ((r24.2.1 87 19).toNatClampNeg) a1).1 87 19).toNatClampNeg) a2).1 87 19).toNatClampNeg) a3) 87 19 (((z_w (z_w (z_w r24.2 95 ((r24.2.1 87 19).toNatClampNeg) a1) 96 (((z_w r24.2 95 ((r24.2.1 87 19).toNatClampNeg) a1).1 87 19).toNatClampNeg) a2) 97 (((z_w (z_w r24.2 95 ((r24.2.1 87 19).toNatClampNeg) a1) 96 (((z_w r24.2 95 ((r24.2.1 87 19).toNatClampNeg) a1).1 87 19).toNatClampNeg) a2).1 87 19).toNatClampNeg) a3).1 87 19) + 1)))) else none) else none) else none)))))))
set_option maxRecDepth 100000 in
set_option maxHeartbeats 4000000 in
theorem zd_X9_sees (V : zV) (d : Nat) : ∀ (a1 : Int32) (a2 : Int32) (a3 : Int32) (S : zS), z_J zeI V mX9_sees (d + 2) (f_X9_sees a1 a2 a3 S) 0 (z_ent mX9_sees [.ref 87, .int a1, .int a2, .int a3]) [] S := by
  intro a1 a2 a3 S
  show z_J zeI V mX9_sees (d + 2) (f_X9_sees a1 a2 a3 S) 0 [.ref 87, .int a1, .int a2, .int a3] [] S
  unfold f_X9_sees
  refine d_st (fun _ k => zg_aload_n dX9_sees_0 rfl (zg_iconst 0 dX9_sees_1 (by decide) (zs_putI dX9_sees_2 zf_X9_80 rfl (zq_87 _) (by decide) (by decide) (zg_aload_n dX9_sees_5 rfl (zg_iload_n dX9_sees_6 rfl k))))) ?_
  refine d_cVi (As := [_]) dX9_sees_7 zk_X9_188 (zq_87 _) (by decide) ⟨_, _, rfl⟩ rfl rfl (Nat.le_of_ble_eq_true rfl) (Nat.le_of_ble_eq_true rfl) rfl (zd_X9_isCornerNow V d _ _) (fun r7 _ => ?_)
  refine d_br (fun _ => zg_if_eq 30 dX9_sees_10 rfl) (fun c10 => ?_) (fun c10 => ?_)
  · refine d_st (fun _ k => zg_iconst (-1) dX9_sees_30 (by decide) k) ?_
    exact d_retI dX9_sees_31 rfl
  · refine d_st (fun _ k => zg_aload_n dX9_sees_13 rfl (zg_iload_n dX9_sees_14 rfl k)) ?_
    refine d_cVi (As := [_]) dX9_sees_15 zk_X9_188 (zq_87 _) (by decide) ⟨_, _, rfl⟩ rfl rfl (Nat.le_of_ble_eq_true rfl) (Nat.le_of_ble_eq_true rfl) rfl (zd_X9_isCornerNow V d _ _) (fun r15 _ => ?_)
    refine d_br (fun _ => zg_if_eq 30 dX9_sees_18 rfl) (fun c18 => ?_) (fun c18 => ?_)
    · refine d_st (fun _ k => zg_iconst (-1) dX9_sees_30 (by decide) k) ?_
      exact d_retI dX9_sees_31 rfl
    · refine d_st (fun _ k => zg_iload_n dX9_sees_21 rfl (zg_iconst 0 dX9_sees_22 (by decide) (zg_iconst 1 dX9_sees_23 (by decide) k))) ?_
      refine d_cSi (As := [_, _, _]) dX9_sees_24 zk_X9_88 rfl rfl (Nat.le_of_ble_eq_true rfl) (Nat.le_of_ble_eq_true rfl) rfl (zd_X9_in V (d + 1) _ _ _ _) (fun r24 _ => ?_)
      refine d_br (fun _ => zg_if_ne 32 dX9_sees_27 rfl) (fun c27 => ?_) (fun c27 => ?_)
      · refine d_st (fun _ k => zg_iconst (-1) dX9_sees_30 (by decide) k) ?_
        exact d_retI dX9_sees_31 rfl
      · refine d_st (fun _ k => zg_aload_n dX9_sees_32 rfl (zs_getI dX9_sees_33 zf_X9_171 rfl (zq_87 _) (by decide) (by decide) (zg_bipush 6 dX9_sees_36 (by decide) k))) ?_
        refine d_br (fun _ => zg_icmp_ne 44 dX9_sees_38 rfl) (fun c38 => ?_) (fun c38 => ?_)
        · refine d_st (fun _ k => zg_bipush (-3) dX9_sees_41 (by decide) k) ?_
          exact d_retI dX9_sees_43 rfl
        · refine d_st (fun _ k => zg_aload_n dX9_sees_44 rfl (zs_getR dX9_sees_45 zf_X9_32 rfl (zq_87 _) (by decide) (by decide) zr_87_16 (zg_aload_n dX9_sees_48 rfl (zs_getI dX9_sees_49 zf_X9_171 rfl (zq_87 _) (by decide) (by decide) (zg_iload_n dX9_sees_52 rfl k))))) ?_
          refine d_gd (fun g53 => ?_)
          refine d_st (fun _ k => zs_iast dX9_sees_53 (by decide) (zq_95 _) g53 rfl k) ?_
          refine d_st (fun _ k => zg_aload_n dX9_sees_54 rfl (zs_getR dX9_sees_55 zf_X9_35 rfl (zq_87 _) (by decide) (by decide) zr_87_17 (zg_aload_n dX9_sees_58 rfl (zs_getI dX9_sees_59 zf_X9_171 rfl (zq_87 _) (by decide) (by decide) (zg_iload_n dX9_sees_62 rfl k))))) ?_
          refine d_gd (fun g63 => ?_)
          refine d_st (fun _ k => zs_iast dX9_sees_63 (by decide) (zq_96 _) g63 rfl k) ?_
          refine d_st (fun _ k => zg_aload_n dX9_sees_64 rfl (zs_getR dX9_sees_65 zf_X9_38 rfl (zq_87 _) (by decide) (by decide) zr_87_18 (zg_aload_n dX9_sees_68 rfl (zs_getI dX9_sees_69 zf_X9_171 rfl (zq_87 _) (by decide) (by decide) (zg_iload_n dX9_sees_72 rfl k))))) ?_
          refine d_gd (fun g73 => ?_)
          refine d_st (fun _ k => zs_iast dX9_sees_73 (by decide) (zq_97 _) g73 rfl k) ?_
          refine d_st (fun _ k => zg_aload_n dX9_sees_74 rfl (zg_dupr dX9_sees_75 (zs_getI dX9_sees_76 zf_X9_171 rfl (zq_87 _) (by decide) (by decide) (zg_iconst 1 dX9_sees_79 (by decide) (zg_iadd dX9_sees_80 (zs_putI dX9_sees_81 zf_X9_171 rfl (zq_87 _) (by decide) (by decide) (zg_aload_n dX9_sees_84 rfl (zs_getI dX9_sees_85 zf_X9_171 rfl (zq_87 _) (by decide) (by decide) k)))))))) ?_
          exact d_retI dX9_sees_88 rfl
def f_X8_forget (S : zS) : Option (Int32 × zS) := (f_X7_lose  S).bind (fun r12 => some (S.1 75 0, r12.2))
set_option maxRecDepth 100000 in
set_option maxHeartbeats 4000000 in
theorem zd_X8_forget (V : zV) (d : Nat) : ∀ (S : zS), z_J zeI V mX8_forget (d + 1) (f_X8_forget  S) 0 (z_ent mX8_forget [.ref 1]) [] S := by
  intro S
  show z_J zeI V mX8_forget (d + 1) (f_X8_forget  S) 0 [.ref 1, .null] [] S
  unfold f_X8_forget
  refine d_st (fun _ k => zg_aload_n dX8_forget_0 rfl (zs_getR dX8_forget_1 zf_X8_72 rfl (zq_1 _) (by decide) (by decide) zr_1_11 (zs_getI dX8_forget_4 zf_X8_226 rfl (zq_75 _) (by decide) (by decide) (zg_istore_n (ls' := [_, _]) dX8_forget_7 (Nat.le_of_ble_eq_true rfl) rfl rfl (zg_aload_n dX8_forget_8 rfl (zs_getR dX8_forget_9 zf_X8_72 rfl (zq_1 _) (by decide) (by decide) zr_1_11 k)))))) ?_
  refine d_cVv (As := []) dX8_forget_12 zk_X8_87 (zq_75 _) (by decide) ⟨_, _, rfl⟩ rfl rfl (Nat.le_of_ble_eq_true rfl) (Nat.le_of_ble_eq_true rfl) rfl (zd_X7_lose V d _) (fun r12 _ => ?_)
  refine d_st (fun _ k => zg_iload_n dX8_forget_15 rfl k) ?_
  exact d_retI dX8_forget_16 rfl
def f_X9_forget (S : zS) : Option (Int32 × zS) := some ((z_w S 87 0 0).1 87 19, (z_w (z_w S 87 0 0) 87 19 0))
set_option maxRecDepth 100000 in
set_option maxHeartbeats 4000000 in
theorem zd_X9_forget (V : zV) (d : Nat) : ∀ (S : zS), z_J zeI V mX9_forget (d) (f_X9_forget  S) 0 (z_ent mX9_forget [.ref 87]) [] S := by
  intro S
  show z_J zeI V mX9_forget (d) (f_X9_forget  S) 0 [.ref 87, .null] [] S
  unfold f_X9_forget
  refine d_st (fun _ k => zg_aload_n dX9_forget_0 rfl (zg_iconst 0 dX9_forget_1 (by decide) (zs_putI dX9_forget_2 zf_X9_80 rfl (zq_87 _) (by decide) (by decide) (zg_aload_n dX9_forget_5 rfl (zs_getI dX9_forget_6 zf_X9_171 rfl (zq_87 _) (by decide) (by decide) (zg_istore_n (ls' := [_, _]) dX9_forget_9 (Nat.le_of_ble_eq_true rfl) rfl rfl (zg_aload_n dX9_forget_10 rfl (zg_iconst 0 dX9_forget_11 (by decide) (zs_putI dX9_forget_12 zf_X9_171 rfl (zq_87 _) (by decide) (by decide) (zg_iload_n dX9_forget_15 rfl k)))))))))) ?_
  exact d_retI dX9_forget_16 rfl
def f_X7_allIsAsSeen_40 (K2 : Int32 → zS → Option (Int32 × zS)) (v1 : Int32) (t0 : Int32) (S : zS) : Option (Int32 × zS) := if z_in v1 6 then (if t0 = (S.1 78 v1.toNatClampNeg) then (K2 (v1 + 1) S) else (some (0, S))) else none
set_option maxRecDepth 100000 in
set_option maxHeartbeats 4000000 in
theorem zd_X7_allIsAsSeen_40 (V : zV) (d : Nat) {K2 : Int32 → zS → Option (Int32 × zS)} (hK2 : ∀ (v1 : Int32) (S : zS), z_J zeI V mX7_allIsAsSeen (d + 2) (K2 v1 S) 2 [.ref 75, .int v1, .null] [] S) : ∀ (v1 : Int32) (t0 : Int32) (S : zS), z_J zeI V mX7_allIsAsSeen (d + 2) (f_X7_allIsAsSeen_40 K2 v1 t0 S) 40 [.ref 75, .int v1, .null] [.int t0] S := by
  intro v1 t0 S
  unfold f_X7_allIsAsSeen_40
  refine d_st (fun _ k => zg_istore_n (ls' := [_, _, _]) dX7_allIsAsSeen_40 (Nat.le_of_ble_eq_true rfl) rfl rfl (zg_iload_n dX7_allIsAsSeen_41 rfl (zg_aload_n dX7_allIsAsSeen_42 rfl (zs_getR dX7_allIsAsSeen_43 zf_X7_22 rfl (zq_75 _) (by decide) (by decide) zr_75_3 (zg_iload_n dX7_allIsAsSeen_46 rfl k))))) ?_
  refine d_gd (fun g47 => ?_)
  refine d_st (fun _ k => zs_iald dX7_allIsAsSeen_47 (by decide) (zq_78 _) g47 rfl k) ?_
  refine d_br (fun _ => zg_icmp_eq 53 dX7_allIsAsSeen_48 rfl) (fun c48 => ?_) (fun c48 => ?_)
  · refine d_st (fun _ k => zg_iinc (ls' := [_, _, _]) 1 dX7_allIsAsSeen_53 rfl (by decide) (Nat.le_of_ble_eq_true rfl) rfl rfl (zg_goto 2 dX7_allIsAsSeen_56 rfl k)) ?_
    exact d_fg (z_le_s (z_le_s (z_le_0 z_le_n))) (hK2 _ _)
  · refine d_st (fun _ k => zg_iconst 0 dX7_allIsAsSeen_51 (by decide) k) ?_
    exact d_retZ dX7_allIsAsSeen_52 rfl (by decide)
def f_X7_allIsAsSeen_2 : Nat → Int32 → zS → Option (Int32 × zS)
  | 0, _, _ => none
  | n + 1, v1, S => if (S.1 75 0) ≤ v1 then (some (1, S)) else (if z_in v1 6 then ((f_X6_reach 80 (S.1 76 v1.toNatClampNeg) S).bind (fun r20 => if z_in v1 6 then ((f_X8_has r20.1 (r20.2.1 77 v1.toNatClampNeg) r20.2).bind (fun r29 => if r29.1 = 0 then (f_X7_allIsAsSeen_40 (f_X7_allIsAsSeen_2 n) v1 0 r29.2) else (f_X7_allIsAsSeen_40 (f_X7_allIsAsSeen_2 n) v1 1 r29.2))) else none)) else none)
set_option maxRecDepth 100000 in
set_option maxHeartbeats 4000000 in
theorem zd_X7_allIsAsSeen_2 (V : zV) (d : Nat) : ∀ (n : Nat) (v1 : Int32) (S : zS), z_J zeI V mX7_allIsAsSeen (d + 2) (f_X7_allIsAsSeen_2 n v1 S) 2 [.ref 75, .int v1, .null] [] S := by
  intro n
  induction n with
  | zero =>
    intro v1 S r hr
    cases (show (none : Option (Int32 × zS)) = some r from hr)
  | succ n ih =>
    intro v1 S
    rw [f_X7_allIsAsSeen_2]
    refine d_st (fun _ k => zg_iload_n dX7_allIsAsSeen_2 rfl (zg_aload_n dX7_allIsAsSeen_3 rfl (zs_getI dX7_allIsAsSeen_4 zf_X7_9 rfl (zq_75 _) (by decide) (by decide) k))) ?_
    refine d_br (fun _ => zg_icmp_ge 59 dX7_allIsAsSeen_7 rfl) (fun c7 => ?_) (fun c7 => ?_)
    · refine d_st (fun _ k => zg_iconst 1 dX7_allIsAsSeen_59 (by decide) k) ?_
      exact d_retZ dX7_allIsAsSeen_60 rfl (by decide)
    · refine d_st (fun _ k => zg_aload_n dX7_allIsAsSeen_10 rfl (zs_getR dX7_allIsAsSeen_11 zf_X7_31 rfl (zq_75 _) (by decide) (by decide) zr_75_5 (zg_aload_n dX7_allIsAsSeen_14 rfl (zs_getR dX7_allIsAsSeen_15 zf_X7_15 rfl (zq_75 _) (by decide) (by decide) zr_75_1 (zg_iload_n dX7_allIsAsSeen_18 rfl k))))) ?_
      refine d_gd (fun g19 => ?_)
      refine d_st (fun _ k => zs_iald dX7_allIsAsSeen_19 (by decide) (zq_76 _) g19 rfl k) ?_
      refine d_cVi (As := [_]) dX7_allIsAsSeen_20 zk_X7_52 (zq_80 _) (by decide) ⟨_, _, rfl⟩ rfl rfl (Nat.le_of_ble_eq_true rfl) (Nat.le_of_ble_eq_true rfl) rfl (zd_X6_reach V (by decide) d _ _) (fun r20 _ => ?_)
      refine d_st (fun _ k => zg_aload_n dX7_allIsAsSeen_23 rfl (zs_getR dX7_allIsAsSeen_24 zf_X7_19 rfl (zq_75 _) (by decide) (by decide) zr_75_2 (zg_iload_n dX7_allIsAsSeen_27 rfl k))) ?_
      refine d_gd (fun g28 => ?_)
      refine d_st (fun _ k => zs_iald dX7_allIsAsSeen_28 (by decide) (zq_77 _) g28 rfl k) ?_
      refine d_cTi (As := [_, _]) dX7_allIsAsSeen_29 zk_X7_40 rfl rfl (Nat.le_of_ble_eq_true rfl) (Nat.le_of_ble_eq_true rfl) rfl (zd_X8_has V (d + 1) _ _ _) (fun r29 _ => ?_)
      refine d_br (fun _ => zg_if_eq 39 dX7_allIsAsSeen_32 rfl) (fun c32 => ?_) (fun c32 => ?_)
      · refine d_st (fun _ k => zg_iconst 0 dX7_allIsAsSeen_39 (by decide) k) ?_
        exact d_fg (z_le_s (z_le_s (z_le_0 z_le_n))) (zd_X7_allIsAsSeen_40 V d ih _ _ _)
      · refine d_st (fun _ k => zg_iconst 1 dX7_allIsAsSeen_35 (by decide) (zg_goto 40 dX7_allIsAsSeen_36 rfl k)) ?_
        exact d_fg (z_le_s (z_le_s (z_le_0 z_le_n))) (zd_X7_allIsAsSeen_40 V d ih _ _ _)
def f_X7_allIsAsSeen (S : zS) : Option (Int32 × zS) := f_X7_allIsAsSeen_2 1000 0 S
set_option maxRecDepth 100000 in
set_option maxHeartbeats 4000000 in
theorem zd_X7_allIsAsSeen (V : zV) (d : Nat) : ∀ (S : zS), z_J zeI V mX7_allIsAsSeen (d + 2) (f_X7_allIsAsSeen  S) 0 (z_ent mX7_allIsAsSeen [.ref 75]) [] S := by
  intro S
  show z_J zeI V mX7_allIsAsSeen (d + 2) (f_X7_allIsAsSeen  S) 0 [.ref 75, .null, .null] [] S
  unfold f_X7_allIsAsSeen
  refine d_st (fun _ k => zg_iconst 0 dX7_allIsAsSeen_0 (by decide) (zg_istore_n (ls' := [_, _, _]) dX7_allIsAsSeen_1 (Nat.le_of_ble_eq_true rfl) rfl rfl k)) ?_
  exact d_fg (z_le_s (z_le_s (z_le_0 z_le_n))) (zd_X7_allIsAsSeen_2 V d 1000 _ _)
def f_X7_suspects_5 (p1 : Nat) : Nat → Int32 → Int32 → Int32 → zS → Option (Int32 × zS)
  | 0, _, _, _, _ => none
  | n + 1, v2, v3, v4, S => if (S.1 p1 4) ≤ v4 then (some (v3, S)) else ((f_X8_has v2 v4 S).bind (fun r17 => if r17.1 = 0 then (f_X7_suspects_5 p1 n v2 v3 (v4 + 1) r17.2) else ((f_X6_lay 80 p1 (v2 &&& (((1 : Int32) <<< (v4 &&& 31)) ^^^ (-1))) r17.2).bind (fun r36 => (f_X7_allIsAsSeen  r36.2).bind (fun r40 => if r40.1 = 0 then (f_X7_suspects_5 p1 n v2 v3 (v4 + 1) r40.2) else (f_X7_suspects_5 p1 n v2 (v3 ||| ((1 : Int32) <<< (v4 &&& 31))) (v4 + 1) r40.2))))))
set_option maxRecDepth 100000 in
set_option maxHeartbeats 4000000 in
theorem zd_X7_suspects_5 (V : zV) {p1 : Nat} (h1 : z_isP p1) (d : Nat) : ∀ (n : Nat) (v2 : Int32) (v3 : Int32) (v4 : Int32) (S : zS), z_J zeI V mX7_suspects (d + 3) (f_X7_suspects_5 p1 n v2 v3 v4 S) 5 [.ref 75, .ref p1, .int v2, .int v3, .int v4] [] S := by
  intro n
  induction n with
  | zero =>
    intro v2 v3 v4 S r hr
    cases (show (none : Option (Int32 × zS)) = some r from hr)
  | succ n ih =>
    intro v2 v3 v4 S
    rw [f_X7_suspects_5]
    refine d_st (fun _ k => zg_iload dX7_suspects_5 rfl (zg_aload_n dX7_suspects_7 rfl (zs_getI dX7_suspects_8 zf_X7_35 rfl (zp_o h1 _) (by decide) (by decide) k))) ?_
    refine d_br (fun _ => zg_icmp_ge 59 dX7_suspects_11 rfl) (fun c11 => ?_) (fun c11 => ?_)
    · refine d_st (fun _ k => zg_iload_n dX7_suspects_59 rfl k) ?_
      exact d_retI dX7_suspects_60 rfl
    · refine d_st (fun _ k => zg_iload_n dX7_suspects_14 rfl (zg_iload dX7_suspects_15 rfl k)) ?_
      refine d_cTi (As := [_, _]) dX7_suspects_17 zk_X7_40 rfl rfl (Nat.le_of_ble_eq_true rfl) (Nat.le_of_ble_eq_true rfl) rfl (zd_X8_has V (d + 2) _ _ _) (fun r17 _ => ?_)
      refine d_br (fun _ => zg_if_eq 53 dX7_suspects_20 rfl) (fun c20 => ?_) (fun c20 => ?_)
      · refine d_st (fun _ k => zg_iinc (ls' := [_, _, _, _, _]) 1 dX7_suspects_53 rfl (by decide) (Nat.le_of_ble_eq_true rfl) rfl rfl (zg_goto 5 dX7_suspects_56 rfl k)) ?_
        exact d_fg (z_le_s (z_le_s (z_le_s (z_le_s (z_le_s z_le_n))))) (ih _ _ _ _)
      · refine d_st (fun _ k => zg_aload_n dX7_suspects_23 rfl (zs_getR dX7_suspects_24 zf_X7_31 rfl (zq_75 _) (by decide) (by decide) zr_75_5 (zg_aload_n dX7_suspects_27 rfl (zg_iload_n dX7_suspects_28 rfl (zg_iconst 1 dX7_suspects_29 (by decide) (zg_iload dX7_suspects_30 rfl (zg_ishl dX7_suspects_32 (zg_iconst (-1) dX7_suspects_33 (by decide) (zg_ixor dX7_suspects_34 (zg_iand dX7_suspects_35 k)))))))))) ?_
        refine d_cVv (As := [_, _]) dX7_suspects_36 zk_X7_44 (zq_80 _) (by decide) ⟨_, _, rfl⟩ rfl rfl (Nat.le_of_ble_eq_true rfl) (Nat.le_of_ble_eq_true rfl) rfl (zd_X6_lay V (by decide) h1 (d + 1) _ _) (fun r36 _ => ?_)
        refine d_st (fun _ k => zg_aload_n dX7_suspects_39 rfl k) ?_
        refine d_cVi (As := []) dX7_suspects_40 zk_X7_48 (zq_75 _) (by decide) ⟨_, _, rfl⟩ rfl rfl (Nat.le_of_ble_eq_true rfl) (Nat.le_of_ble_eq_true rfl) rfl (zd_X7_allIsAsSeen V d _) (fun r40 _ => ?_)
        refine d_br (fun _ => zg_if_eq 53 dX7_suspects_43 rfl) (fun c43 => ?_) (fun c43 => ?_)
        · refine d_st (fun _ k => zg_iinc (ls' := [_, _, _, _, _]) 1 dX7_suspects_53 rfl (by decide) (Nat.le_of_ble_eq_true rfl) rfl rfl (zg_goto 5 dX7_suspects_56 rfl k)) ?_
          exact d_fg (z_le_s (z_le_s (z_le_s (z_le_s (z_le_s z_le_n))))) (ih _ _ _ _)
        · refine d_st (fun _ k => zg_iload_n dX7_suspects_46 rfl (zg_iconst 1 dX7_suspects_47 (by decide) (zg_iload dX7_suspects_48 rfl (zg_ishl dX7_suspects_50 (zg_ior dX7_suspects_51 (zg_istore_n (ls' := [_, _, _, _, _]) dX7_suspects_52 (Nat.le_of_ble_eq_true rfl) rfl rfl (zg_iinc (ls' := [_, _, _, _, _]) 1 dX7_suspects_53 rfl (by decide) (Nat.le_of_ble_eq_true rfl) rfl rfl (zg_goto 5 dX7_suspects_56 rfl k)))))))) ?_
          exact d_fg (z_le_s (z_le_s (z_le_s (z_le_s (z_le_s z_le_n))))) (ih _ _ _ _)
def f_X7_suspects (p1 : Nat) (a2 : Int32) (S : zS) : Option (Int32 × zS) := f_X7_suspects_5 p1 1000 a2 0 0 S
set_option maxRecDepth 100000 in
set_option maxHeartbeats 4000000 in
theorem zd_X7_suspects (V : zV) {p1 : Nat} (h1 : z_isP p1) (d : Nat) : ∀ (a2 : Int32) (S : zS), z_J zeI V mX7_suspects (d + 3) (f_X7_suspects p1 a2 S) 0 (z_ent mX7_suspects [.ref 75, .ref p1, .int a2]) [] S := by
  intro a2 S
  show z_J zeI V mX7_suspects (d + 3) (f_X7_suspects p1 a2 S) 0 [.ref 75, .ref p1, .int a2, .null, .null] [] S
  unfold f_X7_suspects
  refine d_st (fun _ k => zg_iconst 0 dX7_suspects_0 (by decide) (zg_istore_n (ls' := [_, _, _, _, _]) dX7_suspects_1 (Nat.le_of_ble_eq_true rfl) rfl rfl (zg_iconst 0 dX7_suspects_2 (by decide) (zg_istore (ls' := [_, _, _, _, _]) dX7_suspects_3 (Nat.le_of_ble_eq_true rfl) rfl rfl k)))) ?_
  exact d_fg (z_le_s (z_le_s (z_le_s (z_le_s (z_le_s z_le_n))))) (zd_X7_suspects_5 V h1 d 1000 _ _ _ _)
def f_X8_unseen (S : zS) : Option (Int32 × zS) := if z_isP S.2.1 then ((f_X7_suspects S.2.1 (S.1 32 0) S).bind (fun r15 => some (r15.1, r15.2))) else none
set_option maxRecDepth 100000 in
set_option maxHeartbeats 4000000 in
theorem zd_X8_unseen (V : zV) (d : Nat) : ∀ (S : zS), z_J zeI V mX8_unseen (d + 4) (f_X8_unseen  S) 0 (z_ent mX8_unseen [.ref 1]) [] S := by
  intro S
  show z_J zeI V mX8_unseen (d + 4) (f_X8_unseen  S) 0 [.ref 1] [] S
  unfold f_X8_unseen
  refine d_st (fun _ k => zg_aload_n dX8_unseen_0 rfl (zs_getR dX8_unseen_1 zf_X8_72 rfl (zq_1 _) (by decide) (by decide) zr_1_11 (zg_aload_n dX8_unseen_4 rfl k))) ?_
  refine d_gd (fun g5 => ?_)
  refine d_st (fun _ k => zs_getR dX8_unseen_5 zf_X8_20 rfl (zq_1 _) (by decide) (by decide) zr_pl k) ?_
  refine d_st (fun _ k => zg_aload_n dX8_unseen_8 rfl (zs_getR dX8_unseen_9 zf_X8_37 rfl (zq_1 _) (by decide) (by decide) zr_1_5 (zs_getI dX8_unseen_12 zf_X8_104 rfl (zq_32 _) (by decide) (by decide) k))) ?_
  refine d_cVi (As := [_, _]) dX8_unseen_15 zk_X8_227 (zq_75 _) (by decide) ⟨_, _, rfl⟩ rfl rfl (Nat.le_of_ble_eq_true rfl) (Nat.le_of_ble_eq_true rfl) rfl (zd_X7_suspects V g5 d _ _) (fun r15 _ => ?_)
  exact d_retI dX8_unseen_18 rfl
def f_X9_unseenSet_109 (K4 : Int32 → Int32 → zS → Option (Int32 × zS)) (K48 : Int32 → Int32 → Int32 → Int32 → zS → Option (Int32 × zS)) (v1 : Int32) (v2 : Int32) (v4 : Int32) (t0 : Int32) (t1 : Int32) (S : zS) : Option (Int32 × zS) := if t1 = t0 then (K48 v1 v2 1 (v4 + 1) S) else (K48 v1 v2 0 (v4 + 1) S)
set_option maxRecDepth 100000 in
set_option maxHeartbeats 4000000 in
theorem zd_X9_unseenSet_109 (V : zV) (d : Nat) {K4 : Int32 → Int32 → zS → Option (Int32 × zS)} (hK4 : ∀ (v1 : Int32) (v2 : Int32) (S : zS), z_J zeI V mX9_unseenSet (d + 2) (K4 v1 v2 S) 4 [.ref 87, .int v1, .int v2, .null, .null] [] S) {K48 : Int32 → Int32 → Int32 → Int32 → zS → Option (Int32 × zS)} (hK48 : ∀ (v1 : Int32) (v2 : Int32) (v3 : Int32) (v4 : Int32) (S : zS), z_J zeI V mX9_unseenSet (d + 2) (K48 v1 v2 v3 v4 S) 48 [.ref 87, .int v1, .int v2, .int v3, .int v4] [] S) : ∀ (v1 : Int32) (v2 : Int32) (v4 : Int32) (t0 : Int32) (t1 : Int32) (S : zS), z_J zeI V mX9_unseenSet (d + 2) (f_X9_unseenSet_109 K4 K48 v1 v2 v4 t0 t1 S) 109 [.ref 87, .int v1, .int v2, .null, .int v4] [.int t0, .int t1] S := by
  intro v1 v2 v4 t0 t1 S
  unfold f_X9_unseenSet_109
  refine d_br (fun _ => zg_icmp_ne 116 dX9_unseenSet_109 rfl) (fun c109 => ?_) (fun c109 => ?_)
  · refine d_st (fun _ k => zg_iconst 1 dX9_unseenSet_112 (by decide) (zg_goto 117 dX9_unseenSet_113 rfl (zg_istore_n (ls' := [_, _, _, _, _]) dX9_unseenSet_117 (Nat.le_of_ble_eq_true rfl) rfl rfl (zg_iinc (ls' := [_, _, _, _, _]) 1 dX9_unseenSet_118 rfl (by decide) (Nat.le_of_ble_eq_true rfl) rfl rfl (zg_goto 48 dX9_unseenSet_121 rfl k))))) ?_
    exact d_fg (z_le_s (z_le_s (z_le_s (z_le_s (z_le_s z_le_n))))) (hK48 _ _ _ _ _)
  · refine d_st (fun _ k => zg_iconst 0 dX9_unseenSet_116 (by decide) (zg_istore_n (ls' := [_, _, _, _, _]) dX9_unseenSet_117 (Nat.le_of_ble_eq_true rfl) rfl rfl (zg_iinc (ls' := [_, _, _, _, _]) 1 dX9_unseenSet_118 rfl (by decide) (Nat.le_of_ble_eq_true rfl) rfl rfl (zg_goto 48 dX9_unseenSet_121 rfl k)))) ?_
    exact d_fg (z_le_s (z_le_s (z_le_s (z_le_s (z_le_s z_le_n))))) (hK48 _ _ _ _ _)
def f_X9_unseenSet_93 (K4 : Int32 → Int32 → zS → Option (Int32 × zS)) (K48 : Int32 → Int32 → Int32 → Int32 → zS → Option (Int32 × zS)) (v1 : Int32) (v2 : Int32) (v4 : Int32) (t0 : Int32) (S : zS) : Option (Int32 × zS) := if z_in v4 6 then (if (S.1 97 v4.toNatClampNeg) = 1 then (f_X9_unseenSet_109 K4 K48 v1 v2 v4 1 t0 S) else (f_X9_unseenSet_109 K4 K48 v1 v2 v4 0 t0 S)) else none
set_option maxRecDepth 100000 in
set_option maxHeartbeats 4000000 in
theorem zd_X9_unseenSet_93 (V : zV) (d : Nat) {K4 : Int32 → Int32 → zS → Option (Int32 × zS)} (hK4 : ∀ (v1 : Int32) (v2 : Int32) (S : zS), z_J zeI V mX9_unseenSet (d + 2) (K4 v1 v2 S) 4 [.ref 87, .int v1, .int v2, .null, .null] [] S) {K48 : Int32 → Int32 → Int32 → Int32 → zS → Option (Int32 × zS)} (hK48 : ∀ (v1 : Int32) (v2 : Int32) (v3 : Int32) (v4 : Int32) (S : zS), z_J zeI V mX9_unseenSet (d + 2) (K48 v1 v2 v3 v4 S) 48 [.ref 87, .int v1, .int v2, .int v3, .int v4] [] S) : ∀ (v1 : Int32) (v2 : Int32) (v4 : Int32) (t0 : Int32) (S : zS), z_J zeI V mX9_unseenSet (d + 2) (f_X9_unseenSet_93 K4 K48 v1 v2 v4 t0 S) 93 [.ref 87, .int v1, .int v2, .null, .int v4] [.int t0] S := by
  intro v1 v2 v4 t0 S
  unfold f_X9_unseenSet_93
  refine d_st (fun _ k => zg_aload_n dX9_unseenSet_93 rfl (zs_getR dX9_unseenSet_94 zf_X9_38 rfl (zq_87 _) (by decide) (by decide) zr_87_18 (zg_iload dX9_unseenSet_97 rfl k))) ?_
  refine d_gd (fun g99 => ?_)
  refine d_st (fun _ k => zs_iald dX9_unseenSet_99 (by decide) (zq_97 _) g99 rfl k) ?_
  refine d_st (fun _ k => zg_iconst 1 dX9_unseenSet_100 (by decide) k) ?_
  refine d_br (fun _ => zg_icmp_ne 108 dX9_unseenSet_101 rfl) (fun c101 => ?_) (fun c101 => ?_)
  · refine d_st (fun _ k => zg_iconst 1 dX9_unseenSet_104 (by decide) (zg_goto 109 dX9_unseenSet_105 rfl k)) ?_
    exact d_fg (z_le_s (z_le_s (z_le_s (z_le_0 (z_le_s z_le_n))))) (zd_X9_unseenSet_109 V d hK4 hK48 _ _ _ _ _ _)
  · refine d_st (fun _ k => zg_iconst 0 dX9_unseenSet_108 (by decide) k) ?_
    exact d_fg (z_le_s (z_le_s (z_le_s (z_le_0 (z_le_s z_le_n))))) (zd_X9_unseenSet_109 V d hK4 hK48 _ _ _ _ _ _)
def f_X9_unseenSet_48 (K4 : Int32 → Int32 → zS → Option (Int32 × zS)) : Nat → Int32 → Int32 → Int32 → Int32 → zS → Option (Int32 × zS)
  | 0, _, _, _, _, _ => none
  | n + 1, v1, v2, v3, v4, S => if (S.1 87 19) ≤ v4 then (if v3 = 0 then (K4 (v1 ||| 0) (v2 + 1) S) else (K4 (v1 ||| ((1 : Int32) <<< (v2 &&& 31))) (v2 + 1) S)) else (if v3 = 0 then (f_X9_unseenSet_48 K4 n v1 v2 0 (v4 + 1) S) else (if z_in v4 6 then (if z_in (S.1 95 v4.toNatClampNeg) 9 then (if z_in v4 6 then (if z_in (S.1 96 v4.toNatClampNeg) 9 then (if (S.1 99 (S.1 95 v4.toNatClampNeg).toNatClampNeg) = (S.1 99 (S.1 96 v4.toNatClampNeg).toNatClampNeg) then (f_X9_unseenSet_93 K4 (f_X9_unseenSet_48 K4 n) v1 v2 v4 1 S) else (f_X9_unseenSet_93 K4 (f_X9_unseenSet_48 K4 n) v1 v2 v4 0 S)) else none) else none) else none) else none))
set_option maxRecDepth 100000 in
set_option maxHeartbeats 4000000 in
theorem zd_X9_unseenSet_48 (V : zV) (d : Nat) {K4 : Int32 → Int32 → zS → Option (Int32 × zS)} (hK4 : ∀ (v1 : Int32) (v2 : Int32) (S : zS), z_J zeI V mX9_unseenSet (d + 2) (K4 v1 v2 S) 4 [.ref 87, .int v1, .int v2, .null, .null] [] S) : ∀ (n : Nat) (v1 : Int32) (v2 : Int32) (v3 : Int32) (v4 : Int32) (S : zS), z_J zeI V mX9_unseenSet (d + 2) (f_X9_unseenSet_48 K4 n v1 v2 v3 v4 S) 48 [.ref 87, .int v1, .int v2, .int v3, .int v4] [] S := by
  intro n
  induction n with
  | zero =>
    intro v1 v2 v3 v4 S r hr
    cases (show (none : Option (Int32 × zS)) = some r from hr)
  | succ n ih =>
    intro v1 v2 v3 v4 S
    rw [f_X9_unseenSet_48]
    refine d_st (fun _ k => zg_iload dX9_unseenSet_48 rfl (zg_aload_n dX9_unseenSet_50 rfl (zs_getI dX9_unseenSet_51 zf_X9_171 rfl (zq_87 _) (by decide) (by decide) k))) ?_
    refine d_br (fun _ => zg_icmp_ge 124 dX9_unseenSet_54 rfl) (fun c54 => ?_) (fun c54 => ?_)
    · refine d_st (fun _ k => zg_iload_n dX9_unseenSet_124 rfl (zg_iload_n dX9_unseenSet_125 rfl k)) ?_
      refine d_br (fun _ => zg_if_eq 135 dX9_unseenSet_126 rfl) (fun c126 => ?_) (fun c126 => ?_)
      · refine d_st (fun _ k => zg_iconst 0 dX9_unseenSet_135 (by decide) (zg_ior dX9_unseenSet_136 (zg_istore_n (ls' := [_, _, _, _, _]) dX9_unseenSet_137 (Nat.le_of_ble_eq_true rfl) rfl rfl (zg_iinc (ls' := [_, _, _, _, _]) 1 dX9_unseenSet_138 rfl (by decide) (Nat.le_of_ble_eq_true rfl) rfl rfl (zg_goto 4 dX9_unseenSet_141 rfl k))))) ?_
        exact d_fg (z_le_s (z_le_s (z_le_s (z_le_0 (z_le_0 z_le_n))))) (hK4 _ _ _)
      · refine d_st (fun _ k => zg_iconst 1 dX9_unseenSet_129 (by decide) (zg_iload_n dX9_unseenSet_130 rfl (zg_ishl dX9_unseenSet_131 (zg_goto 136 dX9_unseenSet_132 rfl (zg_ior dX9_unseenSet_136 (zg_istore_n (ls' := [_, _, _, _, _]) dX9_unseenSet_137 (Nat.le_of_ble_eq_true rfl) rfl rfl (zg_iinc (ls' := [_, _, _, _, _]) 1 dX9_unseenSet_138 rfl (by decide) (Nat.le_of_ble_eq_true rfl) rfl rfl (zg_goto 4 dX9_unseenSet_141 rfl k)))))))) ?_
        exact d_fg (z_le_s (z_le_s (z_le_s (z_le_0 (z_le_0 z_le_n))))) (hK4 _ _ _)
    · refine d_st (fun _ k => zg_iload_n dX9_unseenSet_57 rfl k) ?_
      refine d_br (fun _ => zg_if_eq 116 dX9_unseenSet_58 rfl) (fun c58 => ?_) (fun c58 => ?_)
      · refine d_st (fun _ k => zg_iconst 0 dX9_unseenSet_116 (by decide) (zg_istore_n (ls' := [_, _, _, _, _]) dX9_unseenSet_117 (Nat.le_of_ble_eq_true rfl) rfl rfl (zg_iinc (ls' := [_, _, _, _, _]) 1 dX9_unseenSet_118 rfl (by decide) (Nat.le_of_ble_eq_true rfl) rfl rfl (zg_goto 48 dX9_unseenSet_121 rfl k)))) ?_
        exact d_fg (z_le_s (z_le_s (z_le_s (z_le_s (z_le_s z_le_n))))) (ih _ _ _ _ _)
      · refine d_st (fun _ k => zg_aload_n dX9_unseenSet_61 rfl (zs_getR dX9_unseenSet_62 zf_X9_44 rfl (zq_87 _) (by decide) (by decide) zr_87_21 (zg_aload_n dX9_unseenSet_65 rfl (zs_getR dX9_unseenSet_66 zf_X9_32 rfl (zq_87 _) (by decide) (by decide) zr_87_16 (zg_iload dX9_unseenSet_69 rfl k))))) ?_
        refine d_gd (fun g71 => ?_)
        refine d_st (fun _ k => zs_iald dX9_unseenSet_71 (by decide) (zq_95 _) g71 rfl k) ?_
        refine d_gd (fun g72 => ?_)
        refine d_st (fun _ k => zs_iald dX9_unseenSet_72 (by decide) (zq_99 _) g72 rfl k) ?_
        refine d_st (fun _ k => zg_aload_n dX9_unseenSet_73 rfl (zs_getR dX9_unseenSet_74 zf_X9_44 rfl (zq_87 _) (by decide) (by decide) zr_87_21 (zg_aload_n dX9_unseenSet_77 rfl (zs_getR dX9_unseenSet_78 zf_X9_35 rfl (zq_87 _) (by decide) (by decide) zr_87_17 (zg_iload dX9_unseenSet_81 rfl k))))) ?_
        refine d_gd (fun g83 => ?_)
        refine d_st (fun _ k => zs_iald dX9_unseenSet_83 (by decide) (zq_96 _) g83 rfl k) ?_
        refine d_gd (fun g84 => ?_)
        refine d_st (fun _ k => zs_iald dX9_unseenSet_84 (by decide) (zq_99 _) g84 rfl k) ?_
        refine d_br (fun _ => zg_icmp_ne 92 dX9_unseenSet_85 rfl) (fun c85 => ?_) (fun c85 => ?_)
        · refine d_st (fun _ k => zg_iconst 1 dX9_unseenSet_88 (by decide) (zg_goto 93 dX9_unseenSet_89 rfl k)) ?_
          exact d_fg (z_le_s (z_le_s (z_le_s (z_le_0 (z_le_s z_le_n))))) (zd_X9_unseenSet_93 V d hK4 ih _ _ _ _ _)
        · refine d_st (fun _ k => zg_iconst 0 dX9_unseenSet_92 (by decide) k) ?_
          exact d_fg (z_le_s (z_le_s (z_le_s (z_le_0 (z_le_s z_le_n))))) (zd_X9_unseenSet_93 V d hK4 ih _ _ _ _ _)
def f_X9_unseenSet_4 : Nat → Int32 → Int32 → zS → Option (Int32 × zS)
  | 0, _, _, _ => none
  | n + 1, v1, v2, S => if (S.1 89 1) ≤ v2 then (some (v1, S)) else ((f_X9_has (S.1 91 0) v2 S).bind (fun r21 => if r21.1 = 0 then (f_X9_unseenSet_4 n v1 (v2 + 1) r21.2) else ((f_X9_roots ((r21.2.1 91 0) &&& (((1 : Int32) <<< (v2 &&& 31)) ^^^ (-1))) r21.2).bind (fun r40 => f_X9_unseenSet_48 (f_X9_unseenSet_4 n) 1000 v1 v2 1 0 r40.2))))
set_option maxRecDepth 100000 in
set_option maxHeartbeats 4000000 in
theorem zd_X9_unseenSet_4 (V : zV) (d : Nat) : ∀ (n : Nat) (v1 : Int32) (v2 : Int32) (S : zS), z_J zeI V mX9_unseenSet (d + 2) (f_X9_unseenSet_4 n v1 v2 S) 4 [.ref 87, .int v1, .int v2, .null, .null] [] S := by
  intro n
  induction n with
  | zero =>
    intro v1 v2 S r hr
    cases (show (none : Option (Int32 × zS)) = some r from hr)
  | succ n ih =>
    intro v1 v2 S
    rw [f_X9_unseenSet_4]
    refine d_st (fun _ k => zg_iload_n dX9_unseenSet_4 rfl (zg_aload_n dX9_unseenSet_5 rfl (zs_getR dX9_unseenSet_6 zf_X9_13 rfl (zq_87 _) (by decide) (by decide) zr_87_9 (zg_iconst 1 dX9_unseenSet_9 (by decide) (zs_iald (j := 1) dX9_unseenSet_10 (by decide) (zq_89 _) (by decide) (by decide) k))))) ?_
    refine d_br (fun _ => zg_icmp_ge 144 dX9_unseenSet_11 rfl) (fun c11 => ?_) (fun c11 => ?_)
    · refine d_st (fun _ k => zg_iload_n dX9_unseenSet_144 rfl k) ?_
      exact d_retI dX9_unseenSet_145 rfl
    · refine d_st (fun _ k => zg_aload_n dX9_unseenSet_14 rfl (zs_getR dX9_unseenSet_15 zf_X9_19 rfl (zq_87 _) (by decide) (by decide) zr_87_11 (zg_iconst 0 dX9_unseenSet_18 (by decide) (zs_iald (j := 0) dX9_unseenSet_19 (by decide) (zq_91 _) (by decide) (by decide) (zg_iload_n dX9_unseenSet_20 rfl k))))) ?_
      refine d_cSi (As := [_, _]) dX9_unseenSet_21 zk_X9_84 rfl rfl (Nat.le_of_ble_eq_true rfl) (Nat.le_of_ble_eq_true rfl) rfl (zd_X9_has V (d + 1) _ _ _) (fun r21 _ => ?_)
      refine d_br (fun _ => zg_if_eq 138 dX9_unseenSet_24 rfl) (fun c24 => ?_) (fun c24 => ?_)
      · refine d_st (fun _ k => zg_iinc (ls' := [_, _, _, _, _]) 1 dX9_unseenSet_138 rfl (by decide) (Nat.le_of_ble_eq_true rfl) rfl rfl (zg_goto 4 dX9_unseenSet_141 rfl k)) ?_
        exact d_fg (z_le_s (z_le_s (z_le_s (z_le_0 (z_le_0 z_le_n))))) (ih _ _ _)
      · refine d_st (fun _ k => zg_aload_n dX9_unseenSet_27 rfl (zg_aload_n dX9_unseenSet_28 rfl (zs_getR dX9_unseenSet_29 zf_X9_19 rfl (zq_87 _) (by decide) (by decide) zr_87_11 (zg_iconst 0 dX9_unseenSet_32 (by decide) (zs_iald (j := 0) dX9_unseenSet_33 (by decide) (zq_91 _) (by decide) (by decide) (zg_iconst 1 dX9_unseenSet_34 (by decide) (zg_iload_n dX9_unseenSet_35 rfl (zg_ishl dX9_unseenSet_36 (zg_iconst (-1) dX9_unseenSet_37 (by decide) (zg_ixor dX9_unseenSet_38 (zg_iand dX9_unseenSet_39 k))))))))))) ?_
        refine d_cVv (As := [_]) dX9_unseenSet_40 zk_X9_195 (zq_87 _) (by decide) ⟨_, _, rfl⟩ rfl rfl (Nat.le_of_ble_eq_true rfl) (Nat.le_of_ble_eq_true rfl) rfl (zd_X9_roots V d _ _) (fun r40 _ => ?_)
        refine d_st (fun _ k => zg_iconst 1 dX9_unseenSet_43 (by decide) (zg_istore_n (ls' := [_, _, _, _, _]) dX9_unseenSet_44 (Nat.le_of_ble_eq_true rfl) rfl rfl (zg_iconst 0 dX9_unseenSet_45 (by decide) (zg_istore (ls' := [_, _, _, _, _]) dX9_unseenSet_46 (Nat.le_of_ble_eq_true rfl) rfl rfl k)))) ?_
        exact d_fg (z_le_s (z_le_s (z_le_s (z_le_s (z_le_s z_le_n))))) (zd_X9_unseenSet_48 V d ih 1000 _ _ _ _ _)
def f_X9_unseenSet (S : zS) : Option (Int32 × zS) := f_X9_unseenSet_4 1000 0 0 S
set_option maxRecDepth 100000 in
set_option maxHeartbeats 4000000 in
theorem zd_X9_unseenSet (V : zV) (d : Nat) : ∀ (S : zS), z_J zeI V mX9_unseenSet (d + 2) (f_X9_unseenSet  S) 0 (z_ent mX9_unseenSet [.ref 87]) [] S := by
  intro S
  show z_J zeI V mX9_unseenSet (d + 2) (f_X9_unseenSet  S) 0 [.ref 87, .null, .null, .null, .null] [] S
  unfold f_X9_unseenSet
  refine d_st (fun _ k => zg_iconst 0 dX9_unseenSet_0 (by decide) (zg_istore_n (ls' := [_, _, _, _, _]) dX9_unseenSet_1 (Nat.le_of_ble_eq_true rfl) rfl rfl (zg_iconst 0 dX9_unseenSet_2 (by decide) (zg_istore_n (ls' := [_, _, _, _, _]) dX9_unseenSet_3 (Nat.le_of_ble_eq_true rfl) rfl rfl k)))) ?_
  exact d_fg (z_le_s (z_le_s (z_le_s (z_le_0 (z_le_0 z_le_n))))) (zd_X9_unseenSet_4 V d 1000 _ _ _)
def f_X9_unseen (S : zS) : Option (Int32 × zS) := (f_X9_unseenSet  (z_w S 87 0 0)).bind (fun r6 => some (r6.1, r6.2))
set_option maxRecDepth 100000 in
set_option maxHeartbeats 4000000 in
theorem zd_X9_unseen (V : zV) (d : Nat) : ∀ (S : zS), z_J zeI V mX9_unseen (d + 3) (f_X9_unseen  S) 0 (z_ent mX9_unseen [.ref 87]) [] S := by
  intro S
  show z_J zeI V mX9_unseen (d + 3) (f_X9_unseen  S) 0 [.ref 87] [] S
  unfold f_X9_unseen
  refine d_st (fun _ k => zg_aload_n dX9_unseen_0 rfl (zg_iconst 0 dX9_unseen_1 (by decide) (zs_putI dX9_unseen_2 zf_X9_80 rfl (zq_87 _) (by decide) (by decide) (zg_aload_n dX9_unseen_5 rfl k)))) ?_
  refine d_cVi (As := []) dX9_unseen_6 zk_X9_287 (zq_87 _) (by decide) ⟨_, _, rfl⟩ rfl rfl (Nat.le_of_ble_eq_true rfl) (Nat.le_of_ble_eq_true rfl) rfl (zd_X9_unseenSet V d _) (fun r6 _ => ?_)
  exact d_retI dX9_unseen_9 rfl
def f_X7_countReached_14 : Nat → Int32 → Int32 → Int32 → Int32 → zS → Option (Unit × zS)
  | 0, _, _, _, _, _ => none
  | n + 1, v1, v2, v3, v4, S => if v2 ≤ v4 then (some ((), S)) else ((f_X8_has v3 v4 S).bind (fun r23 => if r23.1 = 0 then (f_X7_countReached_14 n v1 v2 v3 (v4 + 1) r23.2) else (if z_in ((v1 * 9) + v4) 81 then (if z_in ((v1 * 9) + v4) 81 then (f_X7_countReached_14 n v1 v2 v3 (v4 + 1) (z_w r23.2 79 (((v1 * 9) + v4).toNatClampNeg) ((r23.2.1 79 ((v1 * 9) + v4).toNatClampNeg) + 1))) else none) else none)))
set_option maxRecDepth 100000 in
set_option maxHeartbeats 4000000 in
theorem zd_X7_countReached_14 (V : zV) (d : Nat) : ∀ (n : Nat) (v1 : Int32) (v2 : Int32) (v3 : Int32) (v4 : Int32) (S : zS), z_J zeV V mX7_countReached (d + 2) (f_X7_countReached_14 n v1 v2 v3 v4 S) 14 [.ref 75, .int v1, .int v2, .int v3, .int v4] [] S := by
  intro n
  induction n with
  | zero =>
    intro v1 v2 v3 v4 S r hr
    cases (show (none : Option (Unit × zS)) = some r from hr)
  | succ n ih =>
    intro v1 v2 v3 v4 S
    rw [f_X7_countReached_14]
    refine d_st (fun _ k => zg_iload dX7_countReached_14 rfl (zg_iload_n dX7_countReached_16 rfl k)) ?_
    refine d_br (fun _ => zg_icmp_ge 51 dX7_countReached_17 rfl) (fun c17 => ?_) (fun c17 => ?_)
    · exact d_retV dX7_countReached_51 rfl
    · refine d_st (fun _ k => zg_iload_n dX7_countReached_20 rfl (zg_iload dX7_countReached_21 rfl k)) ?_
      refine d_cTi (As := [_, _]) dX7_countReached_23 zk_X7_40 rfl rfl (Nat.le_of_ble_eq_true rfl) (Nat.le_of_ble_eq_true rfl) rfl (zd_X8_has V (d + 1) _ _ _) (fun r23 _ => ?_)
      refine d_br (fun _ => zg_if_eq 45 dX7_countReached_26 rfl) (fun c26 => ?_) (fun c26 => ?_)
      · refine d_st (fun _ k => zg_iinc (ls' := [_, _, _, _, _]) 1 dX7_countReached_45 rfl (by decide) (Nat.le_of_ble_eq_true rfl) rfl rfl (zg_goto 14 dX7_countReached_48 rfl k)) ?_
        exact d_fg (z_le_s (z_le_s (z_le_s (z_le_s (z_le_s z_le_n))))) (ih _ _ _ _ _)
      · refine d_st (fun _ k => zg_aload_n dX7_countReached_29 rfl (zs_getR dX7_countReached_30 zf_X7_25 rfl (zq_75 _) (by decide) (by decide) zr_75_4 (zg_iload_n dX7_countReached_33 rfl (zg_bipush 9 dX7_countReached_34 (by decide) (zg_imul dX7_countReached_36 (zg_iload dX7_countReached_37 rfl (zg_iadd dX7_countReached_39 (zg_dup2 dX7_countReached_40 k)))))))) ?_
        refine d_gd (fun g41 => ?_)
        refine d_st (fun _ k => zs_iald dX7_countReached_41 (by decide) (zq_79 _) g41 rfl k) ?_
        refine d_st (fun _ k => zg_iconst 1 dX7_countReached_42 (by decide) (zg_iadd dX7_countReached_43 k)) ?_
        refine d_gd (fun g44 => ?_)
        refine d_st (fun _ k => zs_iast dX7_countReached_44 (by decide) (zq_79 _) g44 rfl k) ?_
        refine d_st (fun _ k => zg_iinc (ls' := [_, _, _, _, _]) 1 dX7_countReached_45 rfl (by decide) (Nat.le_of_ble_eq_true rfl) rfl rfl (zg_goto 14 dX7_countReached_48 rfl k)) ?_
        exact d_fg (z_le_s (z_le_s (z_le_s (z_le_s (z_le_s z_le_n))))) (ih _ _ _ _ _)
def f_X7_countReached (a1 : Int32) (a2 : Int32) (S : zS) : Option (Unit × zS) := (f_X6_reach 80 a1 S).bind (fun r5 => f_X7_countReached_14 1000 a1 a2 r5.1 (a1 + 1) r5.2)
set_option maxRecDepth 100000 in
set_option maxHeartbeats 4000000 in
theorem zd_X7_countReached (V : zV) (d : Nat) : ∀ (a1 : Int32) (a2 : Int32) (S : zS), z_J zeV V mX7_countReached (d + 2) (f_X7_countReached a1 a2 S) 0 (z_ent mX7_countReached [.ref 75, .int a1, .int a2]) [] S := by
  intro a1 a2 S
  show z_J zeV V mX7_countReached (d + 2) (f_X7_countReached a1 a2 S) 0 [.ref 75, .int a1, .int a2, .null, .null] [] S
  unfold f_X7_countReached
  refine d_st (fun _ k => zg_aload_n dX7_countReached_0 rfl (zs_getR dX7_countReached_1 zf_X7_31 rfl (zq_75 _) (by decide) (by decide) zr_75_5 (zg_iload_n dX7_countReached_4 rfl k))) ?_
  refine d_cVi (As := [_]) dX7_countReached_5 zk_X7_52 (zq_80 _) (by decide) ⟨_, _, rfl⟩ rfl rfl (Nat.le_of_ble_eq_true rfl) (Nat.le_of_ble_eq_true rfl) rfl (zd_X6_reach V (by decide) d _ _) (fun r5 _ => ?_)
  refine d_st (fun _ k => zg_istore_n (ls' := [_, _, _, _, _]) dX7_countReached_8 (Nat.le_of_ble_eq_true rfl) rfl rfl (zg_iload_n dX7_countReached_9 rfl (zg_iconst 1 dX7_countReached_10 (by decide) (zg_iadd dX7_countReached_11 (zg_istore (ls' := [_, _, _, _, _]) dX7_countReached_12 (Nat.le_of_ble_eq_true rfl) rfl rfl k))))) ?_
  exact d_fg (z_le_s (z_le_s (z_le_s (z_le_s (z_le_s z_le_n))))) (zd_X7_countReached_14 V d 1000 _ _ _ _ _)
def f_X7_tallyPairs_48 (p1 : Nat) (K11 : Int32 → Int32 → Int32 → zS → Option (Unit × zS)) : Nat → Int32 → Int32 → Int32 → Int32 → zS → Option (Unit × zS)
  | 0, _, _, _, _, _ => none
  | n + 1, v2, v3, v4, v5, S => if (S.1 p1 0) ≤ v5 then (K11 v2 v3 (v4 + 1) S) else ((f_X7_countReached v5 (S.1 p1 0) S).bind (fun r64 => f_X7_tallyPairs_48 p1 K11 n v2 v3 v4 (v5 + 1) r64.2))
set_option maxRecDepth 100000 in
set_option maxHeartbeats 4000000 in
theorem zd_X7_tallyPairs_48 (V : zV) {p1 : Nat} (h1 : z_isP p1) (d : Nat) {K11 : Int32 → Int32 → Int32 → zS → Option (Unit × zS)} (hK11 : ∀ (v2 : Int32) (v3 : Int32) (v4 : Int32) (S : zS), z_J zeV V mX7_tallyPairs (d + 3) (K11 v2 v3 v4 S) 11 [.ref 75, .ref p1, .int v2, .int v3, .int v4, .null] [] S) : ∀ (n : Nat) (v2 : Int32) (v3 : Int32) (v4 : Int32) (v5 : Int32) (S : zS), z_J zeV V mX7_tallyPairs (d + 3) (f_X7_tallyPairs_48 p1 K11 n v2 v3 v4 v5 S) 48 [.ref 75, .ref p1, .int v2, .int v3, .int v4, .int v5] [] S := by
  intro n
  induction n with
  | zero =>
    intro v2 v3 v4 v5 S r hr
    cases (show (none : Option (Unit × zS)) = some r from hr)
  | succ n ih =>
    intro v2 v3 v4 v5 S
    rw [f_X7_tallyPairs_48]
    refine d_st (fun _ k => zg_iload dX7_tallyPairs_48 rfl (zg_aload_n dX7_tallyPairs_50 rfl (zs_getI dX7_tallyPairs_51 zf_X7_70 rfl (zp_o h1 _) (by decide) (by decide) k))) ?_
    refine d_br (fun _ => zg_icmp_ge 73 dX7_tallyPairs_54 rfl) (fun c54 => ?_) (fun c54 => ?_)
    · refine d_st (fun _ k => zg_iinc (ls' := [_, _, _, _, _, _]) 1 dX7_tallyPairs_73 rfl (by decide) (Nat.le_of_ble_eq_true rfl) rfl rfl (zg_goto 11 dX7_tallyPairs_76 rfl k)) ?_
      exact d_fg (z_le_s (z_le_s (z_le_s (z_le_s (z_le_s (z_le_0 z_le_n)))))) (hK11 _ _ _ _)
    · refine d_st (fun _ k => zg_aload_n dX7_tallyPairs_57 rfl (zg_iload dX7_tallyPairs_58 rfl (zg_aload_n dX7_tallyPairs_60 rfl (zs_getI dX7_tallyPairs_61 zf_X7_70 rfl (zp_o h1 _) (by decide) (by decide) k)))) ?_
      refine d_cVv (As := [_, _]) dX7_tallyPairs_64 zk_X7_85 (zq_75 _) (by decide) ⟨_, _, rfl⟩ rfl rfl (Nat.le_of_ble_eq_true rfl) (Nat.le_of_ble_eq_true rfl) rfl (zd_X7_countReached V d _ _ _) (fun r64 _ => ?_)
      refine d_st (fun _ k => zg_iinc (ls' := [_, _, _, _, _, _]) 1 dX7_tallyPairs_67 rfl (by decide) (Nat.le_of_ble_eq_true rfl) rfl rfl (zg_goto 48 dX7_tallyPairs_70 rfl k)) ?_
      exact d_fg (z_le_s (z_le_s (z_le_s (z_le_s (z_le_s (z_le_s z_le_n)))))) (ih _ _ _ _ _)
def f_X7_tallyPairs_11 (p1 : Nat) : Nat → Int32 → Int32 → Int32 → zS → Option (Unit × zS)
  | 0, _, _, _, _ => none
  | n + 1, v2, v3, v4, S => if (S.1 p1 4) ≤ v4 then (some ((), S)) else ((f_X8_has v3 v4 S).bind (fun r23 => if r23.1 = 0 then (f_X7_tallyPairs_11 p1 n v2 v3 (v4 + 1) r23.2) else ((f_X6_lay 80 p1 (v2 &&& (((1 : Int32) <<< (v4 &&& 31)) ^^^ (-1))) r23.2).bind (fun r42 => f_X7_tallyPairs_48 p1 (f_X7_tallyPairs_11 p1 n) 1000 v2 v3 v4 0 r42.2))))
set_option maxRecDepth 100000 in
set_option maxHeartbeats 4000000 in
theorem zd_X7_tallyPairs_11 (V : zV) {p1 : Nat} (h1 : z_isP p1) (d : Nat) : ∀ (n : Nat) (v2 : Int32) (v3 : Int32) (v4 : Int32) (S : zS), z_J zeV V mX7_tallyPairs (d + 3) (f_X7_tallyPairs_11 p1 n v2 v3 v4 S) 11 [.ref 75, .ref p1, .int v2, .int v3, .int v4, .null] [] S := by
  intro n
  induction n with
  | zero =>
    intro v2 v3 v4 S r hr
    cases (show (none : Option (Unit × zS)) = some r from hr)
  | succ n ih =>
    intro v2 v3 v4 S
    rw [f_X7_tallyPairs_11]
    refine d_st (fun _ k => zg_iload dX7_tallyPairs_11 rfl (zg_aload_n dX7_tallyPairs_13 rfl (zs_getI dX7_tallyPairs_14 zf_X7_35 rfl (zp_o h1 _) (by decide) (by decide) k))) ?_
    refine d_br (fun _ => zg_icmp_ge 79 dX7_tallyPairs_17 rfl) (fun c17 => ?_) (fun c17 => ?_)
    · exact d_retV dX7_tallyPairs_79 rfl
    · refine d_st (fun _ k => zg_iload_n dX7_tallyPairs_20 rfl (zg_iload dX7_tallyPairs_21 rfl k)) ?_
      refine d_cTi (As := [_, _]) dX7_tallyPairs_23 zk_X7_40 rfl rfl (Nat.le_of_ble_eq_true rfl) (Nat.le_of_ble_eq_true rfl) rfl (zd_X8_has V (d + 2) _ _ _) (fun r23 _ => ?_)
      refine d_br (fun _ => zg_if_eq 73 dX7_tallyPairs_26 rfl) (fun c26 => ?_) (fun c26 => ?_)
      · refine d_st (fun _ k => zg_iinc (ls' := [_, _, _, _, _, _]) 1 dX7_tallyPairs_73 rfl (by decide) (Nat.le_of_ble_eq_true rfl) rfl rfl (zg_goto 11 dX7_tallyPairs_76 rfl k)) ?_
        exact d_fg (z_le_s (z_le_s (z_le_s (z_le_s (z_le_s (z_le_0 z_le_n)))))) (ih _ _ _ _)
      · refine d_st (fun _ k => zg_aload_n dX7_tallyPairs_29 rfl (zs_getR dX7_tallyPairs_30 zf_X7_31 rfl (zq_75 _) (by decide) (by decide) zr_75_5 (zg_aload_n dX7_tallyPairs_33 rfl (zg_iload_n dX7_tallyPairs_34 rfl (zg_iconst 1 dX7_tallyPairs_35 (by decide) (zg_iload dX7_tallyPairs_36 rfl (zg_ishl dX7_tallyPairs_38 (zg_iconst (-1) dX7_tallyPairs_39 (by decide) (zg_ixor dX7_tallyPairs_40 (zg_iand dX7_tallyPairs_41 k)))))))))) ?_
        refine d_cVv (As := [_, _]) dX7_tallyPairs_42 zk_X7_44 (zq_80 _) (by decide) ⟨_, _, rfl⟩ rfl rfl (Nat.le_of_ble_eq_true rfl) (Nat.le_of_ble_eq_true rfl) rfl (zd_X6_lay V (by decide) h1 (d + 1) _ _) (fun r42 _ => ?_)
        refine d_st (fun _ k => zg_iconst 0 dX7_tallyPairs_45 (by decide) (zg_istore (ls' := [_, _, _, _, _, _]) dX7_tallyPairs_46 (Nat.le_of_ble_eq_true rfl) rfl rfl k)) ?_
        exact d_fg (z_le_s (z_le_s (z_le_s (z_le_s (z_le_s (z_le_s z_le_n)))))) (zd_X7_tallyPairs_48 V h1 d ih 1000 _ _ _ _ _)
def f_X7_tallyPairs (p1 : Nat) (a2 : Int32) (a3 : Int32) (S : zS) : Option (Unit × zS) := (f_J7_fill_53178 79 81 0 S).bind (fun r5 => f_X7_tallyPairs_11 p1 1000 a2 a3 0 r5.2)
set_option maxRecDepth 100000 in
set_option maxHeartbeats 4000000 in
theorem zd_X7_tallyPairs (V : zV) {p1 : Nat} (h1 : z_isP p1) (d : Nat) : ∀ (a2 : Int32) (a3 : Int32) (S : zS), z_J zeV V mX7_tallyPairs (d + 3) (f_X7_tallyPairs p1 a2 a3 S) 0 (z_ent mX7_tallyPairs [.ref 75, .ref p1, .int a2, .int a3]) [] S := by
  intro a2 a3 S
  show z_J zeV V mX7_tallyPairs (d + 3) (f_X7_tallyPairs p1 a2 a3 S) 0 [.ref 75, .ref p1, .int a2, .int a3, .null, .null] [] S
  unfold f_X7_tallyPairs
  refine d_st (fun _ k => zg_aload_n dX7_tallyPairs_0 rfl (zs_getR dX7_tallyPairs_1 zf_X7_25 rfl (zq_75 _) (by decide) (by decide) zr_75_4 (zg_iconst 0 dX7_tallyPairs_4 (by decide) k))) ?_
  refine d_cSv (As := [_, _]) dX7_tallyPairs_5 zk_X7_79 rfl rfl (Nat.le_of_ble_eq_true rfl) (Nat.le_of_ble_eq_true rfl) rfl (zd_J7_fill_53178 V ⟨(by decide), fun _ => (zq_79 _)⟩ (d + 2) _ _) (fun r5 _ => ?_)
  refine d_st (fun _ k => zg_iconst 0 dX7_tallyPairs_8 (by decide) (zg_istore (ls' := [_, _, _, _, _, _]) dX7_tallyPairs_9 (Nat.le_of_ble_eq_true rfl) rfl rfl k)) ?_
  exact d_fg (z_le_s (z_le_s (z_le_s (z_le_s (z_le_s (z_le_0 z_le_n)))))) (zd_X7_tallyPairs_11 V h1 d 1000 _ _ _ _)
def f_X7_bestQuestion_55 (p1 : Nat) (K40 : Int32 → Int32 → Int32 → Int32 → zS → Option (Int32 × zS)) : Nat → Int32 → Int32 → Int32 → Int32 → Int32 → zS → Option (Int32 × zS)
  | 0, _, _, _, _, _, _ => none
  | n + 1, v4, v5, v6, v7, v8, S => if (S.1 p1 0) ≤ v8 then (K40 v4 v5 v6 (v7 + 1) S) else (if z_in ((v7 * 9) + v8) 81 then (if v6 ≤ (if (S.1 79 ((v7 * 9) + v8).toNatClampNeg) < (v4 - (S.1 79 ((v7 * 9) + v8).toNatClampNeg)) then v4 - (S.1 79 ((v7 * 9) + v8).toNatClampNeg) else S.1 79 ((v7 * 9) + v8).toNatClampNeg) then (f_X7_bestQuestion_55 p1 K40 n v4 v5 v6 v7 (v8 + 1) S) else (f_X7_bestQuestion_55 p1 K40 n v4 ((16 * v7) + v8) (if (S.1 79 ((v7 * 9) + v8).toNatClampNeg) < (v4 - (S.1 79 ((v7 * 9) + v8).toNatClampNeg)) then v4 - (S.1 79 ((v7 * 9) + v8).toNatClampNeg) else S.1 79 ((v7 * 9) + v8).toNatClampNeg) v7 (v8 + 1) S)) else none)
set_option maxRecDepth 100000 in
set_option maxHeartbeats 4000000 in
theorem zd_X7_bestQuestion_55 (V : zV) {p1 : Nat} (h1 : z_isP p1) (d : Nat) {K40 : Int32 → Int32 → Int32 → Int32 → zS → Option (Int32 × zS)} (hK40 : ∀ (v4 : Int32) (v5 : Int32) (v6 : Int32) (v7 : Int32) (S : zS), z_J zeI V mX7_bestQuestion (d + 4) (K40 v4 v5 v6 v7 S) 40 [.ref 75, .ref p1, .null, .null, .int v4, .int v5, .int v6, .int v7, .null, .null, .null] [] S) : ∀ (n : Nat) (v4 : Int32) (v5 : Int32) (v6 : Int32) (v7 : Int32) (v8 : Int32) (S : zS), z_J zeI V mX7_bestQuestion (d + 4) (f_X7_bestQuestion_55 p1 K40 n v4 v5 v6 v7 v8 S) 55 [.ref 75, .ref p1, .null, .null, .int v4, .int v5, .int v6, .int v7, .int v8, .null, .null] [] S := by
  intro n
  induction n with
  | zero =>
    intro v4 v5 v6 v7 v8 S r hr
    cases (show (none : Option (Int32 × zS)) = some r from hr)
  | succ n ih =>
    intro v4 v5 v6 v7 v8 S
    rw [f_X7_bestQuestion_55]
    refine d_st (fun _ k => zg_iload dX7_bestQuestion_55 rfl (zg_aload_n dX7_bestQuestion_57 rfl (zs_getI dX7_bestQuestion_58 zf_X7_70 rfl (zp_o h1 _) (by decide) (by decide) k))) ?_
    refine d_br (fun _ => zg_icmp_ge 118 dX7_bestQuestion_61 rfl) (fun c61 => ?_) (fun c61 => ?_)
    · refine d_st (fun _ k => zg_iinc (ls' := [_, _, _, _, _, _, _, _, _, _, _]) 1 dX7_bestQuestion_118 rfl (by decide) (Nat.le_of_ble_eq_true rfl) rfl rfl (zg_goto 40 dX7_bestQuestion_121 rfl k)) ?_
      exact d_fg (z_le_s (z_le_s (z_le_0 (z_le_0 (z_le_s (z_le_s (z_le_s (z_le_s (z_le_0 (z_le_0 (z_le_0 z_le_n))))))))))) (hK40 _ _ _ _ _)
    · refine d_st (fun _ k => zg_aload_n dX7_bestQuestion_64 rfl (zs_getR dX7_bestQuestion_65 zf_X7_25 rfl (zq_75 _) (by decide) (by decide) zr_75_4 (zg_iload dX7_bestQuestion_68 rfl (zg_bipush 9 dX7_bestQuestion_70 (by decide) (zg_imul dX7_bestQuestion_72 (zg_iload dX7_bestQuestion_73 rfl (zg_iadd dX7_bestQuestion_75 k))))))) ?_
      refine d_gd (fun g76 => ?_)
      refine d_st (fun _ k => zs_iald dX7_bestQuestion_76 (by decide) (zq_79 _) g76 rfl k) ?_
      refine d_st (fun _ k => zg_istore (ls' := [_, _, _, _, _, _, _, _, _, _, _]) dX7_bestQuestion_77 (Nat.le_of_ble_eq_true rfl) rfl rfl (zg_iload dX7_bestQuestion_79 rfl (zg_iload dX7_bestQuestion_81 rfl (zg_iload dX7_bestQuestion_83 rfl (zg_isub dX7_bestQuestion_85 (zg_mmax dX7_bestQuestion_86 zt_4_70 zt_2_232 zt_1_12 zt_2_233 (Nat.le_of_ble_eq_true rfl) (zg_istore (ls' := [_, _, _, _, _, _, _, _, _, _, _]) dX7_bestQuestion_89 (Nat.le_of_ble_eq_true rfl) rfl rfl (zg_iload dX7_bestQuestion_91 rfl (zg_iload dX7_bestQuestion_93 rfl k))))))))) ?_
      refine d_br (fun _ => zg_icmp_ge 112 dX7_bestQuestion_95 rfl) (fun c95 => ?_) (fun c95 => ?_)
      · refine d_st (fun _ k => zg_iinc (ls' := [_, _, _, _, _, _, _, _, _, _, _]) 1 dX7_bestQuestion_112 rfl (by decide) (Nat.le_of_ble_eq_true rfl) rfl rfl (zg_goto 55 dX7_bestQuestion_115 rfl k)) ?_
        exact d_fg (z_le_s (z_le_s (z_le_0 (z_le_0 (z_le_s (z_le_s (z_le_s (z_le_s (z_le_s (z_le_0 (z_le_0 z_le_n))))))))))) (ih _ _ _ _ _ _)
      · refine d_st (fun _ k => zg_iload dX7_bestQuestion_98 rfl (zg_istore (ls' := [_, _, _, _, _, _, _, _, _, _, _]) dX7_bestQuestion_100 (Nat.le_of_ble_eq_true rfl) rfl rfl (zg_bipush 16 dX7_bestQuestion_102 (by decide) (zg_iload dX7_bestQuestion_104 rfl (zg_imul dX7_bestQuestion_106 (zg_iload dX7_bestQuestion_107 rfl (zg_iadd dX7_bestQuestion_109 (zg_istore (ls' := [_, _, _, _, _, _, _, _, _, _, _]) dX7_bestQuestion_110 (Nat.le_of_ble_eq_true rfl) rfl rfl (zg_iinc (ls' := [_, _, _, _, _, _, _, _, _, _, _]) 1 dX7_bestQuestion_112 rfl (by decide) (Nat.le_of_ble_eq_true rfl) rfl rfl (zg_goto 55 dX7_bestQuestion_115 rfl k)))))))))) ?_
        exact d_fg (z_le_s (z_le_s (z_le_0 (z_le_0 (z_le_s (z_le_s (z_le_s (z_le_s (z_le_s (z_le_0 (z_le_0 z_le_n))))))))))) (ih _ _ _ _ _ _)
def f_X7_bestQuestion_40 (p1 : Nat) : Nat → Int32 → Int32 → Int32 → Int32 → zS → Option (Int32 × zS)
  | 0, _, _, _, _, _ => none
  | n + 1, v4, v5, v6, v7, S => if (S.1 p1 0) ≤ v7 then (some (v5, S)) else (f_X7_bestQuestion_55 p1 (f_X7_bestQuestion_40 p1 n) 1000 v4 v5 v6 v7 (v7 + 1) S)
set_option maxRecDepth 100000 in
set_option maxHeartbeats 4000000 in
theorem zd_X7_bestQuestion_40 (V : zV) {p1 : Nat} (h1 : z_isP p1) (d : Nat) : ∀ (n : Nat) (v4 : Int32) (v5 : Int32) (v6 : Int32) (v7 : Int32) (S : zS), z_J zeI V mX7_bestQuestion (d + 4) (f_X7_bestQuestion_40 p1 n v4 v5 v6 v7 S) 40 [.ref 75, .ref p1, .null, .null, .int v4, .int v5, .int v6, .int v7, .null, .null, .null] [] S := by
  intro n
  induction n with
  | zero =>
    intro v4 v5 v6 v7 S r hr
    cases (show (none : Option (Int32 × zS)) = some r from hr)
  | succ n ih =>
    intro v4 v5 v6 v7 S
    rw [f_X7_bestQuestion_40]
    refine d_st (fun _ k => zg_iload dX7_bestQuestion_40 rfl (zg_aload_n dX7_bestQuestion_42 rfl (zs_getI dX7_bestQuestion_43 zf_X7_70 rfl (zp_o h1 _) (by decide) (by decide) k))) ?_
    refine d_br (fun _ => zg_icmp_ge 124 dX7_bestQuestion_46 rfl) (fun c46 => ?_) (fun c46 => ?_)
    · refine d_st (fun _ k => zg_iload dX7_bestQuestion_124 rfl k) ?_
      exact d_retI dX7_bestQuestion_126 rfl
    · refine d_st (fun _ k => zg_iload dX7_bestQuestion_49 rfl (zg_iconst 1 dX7_bestQuestion_51 (by decide) (zg_iadd dX7_bestQuestion_52 (zg_istore (ls' := [_, _, _, _, _, _, _, _, _, _, _]) dX7_bestQuestion_53 (Nat.le_of_ble_eq_true rfl) rfl rfl k)))) ?_
      exact d_fg (z_le_s (z_le_s (z_le_0 (z_le_0 (z_le_s (z_le_s (z_le_s (z_le_s (z_le_s (z_le_0 (z_le_0 z_le_n))))))))))) (zd_X7_bestQuestion_55 V h1 d ih 1000 _ _ _ _ _ _)
def f_X7_bestQuestion (p1 : Nat) (a2 : Int32) (S : zS) : Option (Int32 × zS) := (f_X7_suspects p1 a2 S).bind (fun r3 => (f_J6_bitCount_0f7a4 r3.1 r3.2).bind (fun r8 => if 1 < r8.1 then ((f_X7_tallyPairs p1 a2 r3.1 r8.2).bind (fun r26 => f_X7_bestQuestion_40 p1 1000 r8.1 (-9) 1000000 0 r26.2)) else (some ((-9), r8.2))))
set_option maxRecDepth 100000 in
set_option maxHeartbeats 4000000 in
theorem zd_X7_bestQuestion (V : zV) {p1 : Nat} (h1 : z_isP p1) (d : Nat) : ∀ (a2 : Int32) (S : zS), z_J zeI V mX7_bestQuestion (d + 4) (f_X7_bestQuestion p1 a2 S) 0 (z_ent mX7_bestQuestion [.ref 75, .ref p1, .int a2]) [] S := by
  intro a2 S
  show z_J zeI V mX7_bestQuestion (d + 4) (f_X7_bestQuestion p1 a2 S) 0 [.ref 75, .ref p1, .int a2, .null, .null, .null, .null, .null, .null, .null, .null] [] S
  unfold f_X7_bestQuestion
  refine d_st (fun _ k => zg_aload_n dX7_bestQuestion_0 rfl (zg_aload_n dX7_bestQuestion_1 rfl (zg_iload_n dX7_bestQuestion_2 rfl k))) ?_
  refine d_cVi (As := [_, _]) dX7_bestQuestion_3 zk_X7_56 (zq_75 _) (by decide) ⟨_, _, rfl⟩ rfl rfl (Nat.le_of_ble_eq_true rfl) (Nat.le_of_ble_eq_true rfl) rfl (zd_X7_suspects V h1 d _ _) (fun r3 _ => ?_)
  refine d_st (fun _ k => zg_istore_n (ls' := [_, _, _, _, _, _, _, _, _, _, _]) dX7_bestQuestion_6 (Nat.le_of_ble_eq_true rfl) rfl rfl (zg_iload_n dX7_bestQuestion_7 rfl k)) ?_
  refine d_cSi (As := [_]) dX7_bestQuestion_8 zk_X7_60 rfl rfl (Nat.le_of_ble_eq_true rfl) (Nat.le_of_ble_eq_true rfl) rfl (zd_J6_bitCount_0f7a4 V (d + 3) _ _) (fun r8 _ => ?_)
  refine d_st (fun _ k => zg_istore (ls' := [_, _, _, _, _, _, _, _, _, _, _]) dX7_bestQuestion_11 (Nat.le_of_ble_eq_true rfl) rfl rfl (zg_iload dX7_bestQuestion_13 rfl (zg_iconst 1 dX7_bestQuestion_15 (by decide) k))) ?_
  refine d_br (fun _ => zg_icmp_gt 22 dX7_bestQuestion_16 rfl) (fun c16 => ?_) (fun c16 => ?_)
  · refine d_st (fun _ k => zg_aload_n dX7_bestQuestion_22 rfl (zg_aload_n dX7_bestQuestion_23 rfl (zg_iload_n dX7_bestQuestion_24 rfl (zg_iload_n dX7_bestQuestion_25 rfl k)))) ?_
    refine d_cVv (As := [_, _, _]) dX7_bestQuestion_26 zk_X7_65 (zq_75 _) (by decide) ⟨_, _, rfl⟩ rfl rfl (Nat.le_of_ble_eq_true rfl) (Nat.le_of_ble_eq_true rfl) rfl (zd_X7_tallyPairs V h1 d _ _ _) (fun r26 _ => ?_)
    refine d_st (fun _ k => zg_bipush (-9) dX7_bestQuestion_29 (by decide) (zg_istore (ls' := [_, _, _, _, _, _, _, _, _, _, _]) dX7_bestQuestion_31 (Nat.le_of_ble_eq_true rfl) rfl rfl (zg_ldc 1000000 dX7_bestQuestion_33 zt_4_69 (zg_istore (ls' := [_, _, _, _, _, _, _, _, _, _, _]) dX7_bestQuestion_35 (Nat.le_of_ble_eq_true rfl) rfl rfl (zg_iconst 0 dX7_bestQuestion_37 (by decide) (zg_istore (ls' := [_, _, _, _, _, _, _, _, _, _, _]) dX7_bestQuestion_38 (Nat.le_of_ble_eq_true rfl) rfl rfl k)))))) ?_
    exact d_fg (z_le_s (z_le_s (z_le_0 (z_le_0 (z_le_s (z_le_s (z_le_s (z_le_s (z_le_0 (z_le_0 (z_le_0 z_le_n))))))))))) (zd_X7_bestQuestion_40 V h1 d 1000 _ _ _ _ _)
  · refine d_st (fun _ k => zg_bipush (-9) dX7_bestQuestion_19 (by decide) k) ?_
    exact d_retI dX7_bestQuestion_21 rfl
