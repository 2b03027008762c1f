def f_J6_numberOfTrailingZeros_0f7a4_62 (v0 : Int32) (v1 : Int32) (S : zS) : Option (Int32 × zS) := if v0 ≤ 4 then (some (v1 + ((v0.toUInt32 >>> ((1 : Int32).toUInt32 &&& Int32.toUInt32 31)).toInt32), S)) else (some ((v1 + 2) + ((((v0.toUInt32 >>> ((2 : Int32).toUInt32 &&& Int32.toUInt32 31)).toInt32).toUInt32 >>> ((1 : Int32).toUInt32 &&& Int32.toUInt32 31)).toInt32), S))
set_option maxRecDepth 100000 in
set_option maxHeartbeats 4000000 in
theorem zd_J6_numberOfTrailingZeros_0f7a4_62 (V : zV) (d : Nat) : ∀ (v0 : Int32) (v1 : Int32) (S : zS), z_J zeI V mJ6_numberOfTrailingZeros_0f7a4 (d) (f_J6_numberOfTrailingZeros_0f7a4_62 v0 v1 S) 62 [.int v0, .int v1] [] S := by
  intro v0 v1 S
  unfold f_J6_numberOfTrailingZeros_0f7a4_62
  refine d_st (fun _ k => zg_iload_n dJ6_numberOfTrailingZeros_0f7a4_62 rfl (zg_iconst 4 dJ6_numberOfTrailingZeros_0f7a4_63 (by decide) k)) ?_
  refine d_br (fun _ => zg_icmp_le 74 dJ6_numberOfTrailingZeros_0f7a4_64 rfl) (fun c64 => ?_) (fun c64 => ?_)
  · refine d_st (fun _ k => zg_iload_n dJ6_numberOfTrailingZeros_0f7a4_74 rfl (zg_iload_n dJ6_numberOfTrailingZeros_0f7a4_75 rfl (zg_iconst 1 dJ6_numberOfTrailingZeros_0f7a4_76 (by decide) (zg_iushr dJ6_numberOfTrailingZeros_0f7a4_77 (zg_iadd dJ6_numberOfTrailingZeros_0f7a4_78 k))))) ?_
    exact d_retI dJ6_numberOfTrailingZeros_0f7a4_79 rfl
  · refine d_st (fun _ k => zg_iinc (ls' := [_, _]) 2 dJ6_numberOfTrailingZeros_0f7a4_67 rfl (by decide) (Nat.le_of_ble_eq_true rfl) rfl rfl (zg_iload_n dJ6_numberOfTrailingZeros_0f7a4_70 rfl (zg_iconst 2 dJ6_numberOfTrailingZeros_0f7a4_71 (by decide) (zg_iushr dJ6_numberOfTrailingZeros_0f7a4_72 (zg_istore_n (ls' := [_, _]) dJ6_numberOfTrailingZeros_0f7a4_73 (Nat.le_of_ble_eq_true rfl) rfl rfl (zg_iload_n dJ6_numberOfTrailingZeros_0f7a4_74 rfl (zg_iload_n dJ6_numberOfTrailingZeros_0f7a4_75 rfl (zg_iconst 1 dJ6_numberOfTrailingZeros_0f7a4_76 (by decide) (zg_iushr dJ6_numberOfTrailingZeros_0f7a4_77 (zg_iadd dJ6_numberOfTrailingZeros_0f7a4_78 k)))))))))) ?_
    exact d_retI dJ6_numberOfTrailingZeros_0f7a4_79 rfl
def f_J6_numberOfTrailingZeros_0f7a4_49 (v0 : Int32) (v1 : Int32) (S : zS) : Option (Int32 × zS) := if v0 ≤ 16 then (f_J6_numberOfTrailingZeros_0f7a4_62 v0 v1 S) else (f_J6_numberOfTrailingZeros_0f7a4_62 ((v0.toUInt32 >>> ((4 : Int32).toUInt32 &&& Int32.toUInt32 31)).toInt32) (v1 + 4) S)
set_option maxRecDepth 100000 in
set_option maxHeartbeats 4000000 in
theorem zd_J6_numberOfTrailingZeros_0f7a4_49 (V : zV) (d : Nat) : ∀ (v0 : Int32) (v1 : Int32) (S : zS), z_J zeI V mJ6_numberOfTrailingZeros_0f7a4 (d) (f_J6_numberOfTrailingZeros_0f7a4_49 v0 v1 S) 49 [.int v0, .int v1] [] S := by
  intro v0 v1 S
  unfold f_J6_numberOfTrailingZeros_0f7a4_49
  refine d_st (fun _ k => zg_iload_n dJ6_numberOfTrailingZeros_0f7a4_49 rfl (zg_bipush 16 dJ6_numberOfTrailingZeros_0f7a4_50 (by decide) k)) ?_
  refine d_br (fun _ => zg_icmp_le 62 dJ6_numberOfTrailingZeros_0f7a4_52 rfl) (fun c52 => ?_) (fun c52 => ?_)
  · exact d_fg (z_le_s (z_le_s z_le_n)) (zd_J6_numberOfTrailingZeros_0f7a4_62 V d _ _ _)
  · refine d_st (fun _ k => zg_iinc (ls' := [_, _]) 4 dJ6_numberOfTrailingZeros_0f7a4_55 rfl (by decide) (Nat.le_of_ble_eq_true rfl) rfl rfl (zg_iload_n dJ6_numberOfTrailingZeros_0f7a4_58 rfl (zg_iconst 4 dJ6_numberOfTrailingZeros_0f7a4_59 (by decide) (zg_iushr dJ6_numberOfTrailingZeros_0f7a4_60 (zg_istore_n (ls' := [_, _]) dJ6_numberOfTrailingZeros_0f7a4_61 (Nat.le_of_ble_eq_true rfl) rfl rfl k))))) ?_
    exact d_fg (z_le_s (z_le_s z_le_n)) (zd_J6_numberOfTrailingZeros_0f7a4_62 V d _ _ _)
def f_J6_numberOfTrailingZeros_0f7a4_34 (v0 : Int32) (v1 : Int32) (S : zS) : Option (Int32 × zS) := if v0 ≤ 256 then (f_J6_numberOfTrailingZeros_0f7a4_49 v0 v1 S) else (f_J6_numberOfTrailingZeros_0f7a4_49 ((v0.toUInt32 >>> ((8 : Int32).toUInt32 &&& Int32.toUInt32 31)).toInt32) (v1 + 8) S)
set_option maxRecDepth 100000 in
set_option maxHeartbeats 4000000 in
theorem zd_J6_numberOfTrailingZeros_0f7a4_34 (V : zV) (d : Nat) : ∀ (v0 : Int32) (v1 : Int32) (S : zS), z_J zeI V mJ6_numberOfTrailingZeros_0f7a4 (d) (f_J6_numberOfTrailingZeros_0f7a4_34 v0 v1 S) 34 [.int v0, .int v1] [] S := by
  intro v0 v1 S
  unfold f_J6_numberOfTrailingZeros_0f7a4_34
  refine d_st (fun _ k => zg_iload_n dJ6_numberOfTrailingZeros_0f7a4_34 rfl (zg_sipush 256 dJ6_numberOfTrailingZeros_0f7a4_35 (by decide) k)) ?_
  refine d_br (fun _ => zg_icmp_le 49 dJ6_numberOfTrailingZeros_0f7a4_38 rfl) (fun c38 => ?_) (fun c38 => ?_)
  · exact d_fg (z_le_s (z_le_s z_le_n)) (zd_J6_numberOfTrailingZeros_0f7a4_49 V d _ _ _)
  · refine d_st (fun _ k => zg_iinc (ls' := [_, _]) 8 dJ6_numberOfTrailingZeros_0f7a4_41 rfl (by decide) (Nat.le_of_ble_eq_true rfl) rfl rfl (zg_iload_n dJ6_numberOfTrailingZeros_0f7a4_44 rfl (zg_bipush 8 dJ6_numberOfTrailingZeros_0f7a4_45 (by decide) (zg_iushr dJ6_numberOfTrailingZeros_0f7a4_47 (zg_istore_n (ls' := [_, _]) dJ6_numberOfTrailingZeros_0f7a4_48 (Nat.le_of_ble_eq_true rfl) rfl rfl k))))) ?_
    exact d_fg (z_le_s (z_le_s z_le_n)) (zd_J6_numberOfTrailingZeros_0f7a4_49 V d _ _ _)
def f_J6_numberOfTrailingZeros_0f7a4 (a0 : Int32) (S : zS) : Option (Int32 × zS) := if 0 < ((a0 ^^^ (-1)) &&& (a0 - 1)) then (if ((a0 ^^^ (-1)) &&& (a0 - 1)) ≤ 65536 then (f_J6_numberOfTrailingZeros_0f7a4_34 ((a0 ^^^ (-1)) &&& (a0 - 1)) 1 S) else (f_J6_numberOfTrailingZeros_0f7a4_34 ((((a0 ^^^ (-1)) &&& (a0 - 1)).toUInt32 >>> ((16 : Int32).toUInt32 &&& Int32.toUInt32 31)).toInt32) (1 + 16) S)) else (some (((a0 ^^^ (-1)) &&& (a0 - 1)) &&& 32, S))
set_option maxRecDepth 100000 in
set_option maxHeartbeats 4000000 in
theorem zd_J6_numberOfTrailingZeros_0f7a4 (V : zV) (d : Nat) : ∀ (a0 : Int32) (S : zS), z_J zeI V mJ6_numberOfTrailingZeros_0f7a4 (d) (f_J6_numberOfTrailingZeros_0f7a4 a0 S) 0 (z_ent mJ6_numberOfTrailingZeros_0f7a4 [.int a0]) [] S := by
  intro a0 S
  show z_J zeI V mJ6_numberOfTrailingZeros_0f7a4 (d) (f_J6_numberOfTrailingZeros_0f7a4 a0 S) 0 [.int a0, .null] [] S
  unfold f_J6_numberOfTrailingZeros_0f7a4
  refine d_st (fun _ k => zg_iload_n dJ6_numberOfTrailingZeros_0f7a4_0 rfl (zg_iconst (-1) dJ6_numberOfTrailingZeros_0f7a4_1 (by decide) (zg_ixor dJ6_numberOfTrailingZeros_0f7a4_2 (zg_iload_n dJ6_numberOfTrailingZeros_0f7a4_3 rfl (zg_iconst 1 dJ6_numberOfTrailingZeros_0f7a4_4 (by decide) (zg_isub dJ6_numberOfTrailingZeros_0f7a4_5 (zg_iand dJ6_numberOfTrailingZeros_0f7a4_6 (zg_istore_n (ls' := [_, _]) dJ6_numberOfTrailingZeros_0f7a4_7 (Nat.le_of_ble_eq_true rfl) rfl rfl (zg_iload_n dJ6_numberOfTrailingZeros_0f7a4_8 rfl k))))))))) ?_
  refine d_br (fun _ => zg_if_gt 17 dJ6_numberOfTrailingZeros_0f7a4_9 rfl) (fun c9 => ?_) (fun c9 => ?_)
  · refine d_st (fun _ k => zg_iconst 1 dJ6_numberOfTrailingZeros_0f7a4_17 (by decide) (zg_istore_n (ls' := [_, _]) dJ6_numberOfTrailingZeros_0f7a4_18 (Nat.le_of_ble_eq_true rfl) rfl rfl (zg_iload_n dJ6_numberOfTrailingZeros_0f7a4_19 rfl (zg_ldcw 65536 dJ6_numberOfTrailingZeros_0f7a4_20 zt_3_86 k)))) ?_
    refine d_br (fun _ => zg_icmp_le 34 dJ6_numberOfTrailingZeros_0f7a4_23 rfl) (fun c23 => ?_) (fun c23 => ?_)
    · exact d_fg (z_le_s (z_le_s z_le_n)) (zd_J6_numberOfTrailingZeros_0f7a4_34 V d _ _ _)
    · refine d_st (fun _ k => zg_iinc (ls' := [_, _]) 16 dJ6_numberOfTrailingZeros_0f7a4_26 rfl (by decide) (Nat.le_of_ble_eq_true rfl) rfl rfl (zg_iload_n dJ6_numberOfTrailingZeros_0f7a4_29 rfl (zg_bipush 16 dJ6_numberOfTrailingZeros_0f7a4_30 (by decide) (zg_iushr dJ6_numberOfTrailingZeros_0f7a4_32 (zg_istore_n (ls' := [_, _]) dJ6_numberOfTrailingZeros_0f7a4_33 (Nat.le_of_ble_eq_true rfl) rfl rfl k))))) ?_
      exact d_fg (z_le_s (z_le_s z_le_n)) (zd_J6_numberOfTrailingZeros_0f7a4_34 V d _ _ _)
  · refine d_st (fun _ k => zg_iload_n dJ6_numberOfTrailingZeros_0f7a4_12 rfl (zg_bipush 32 dJ6_numberOfTrailingZeros_0f7a4_13 (by decide) (zg_iand dJ6_numberOfTrailingZeros_0f7a4_15 k))) ?_
    exact d_retI dJ6_numberOfTrailingZeros_0f7a4_16 rfl
def f_X1_way (p0 : Nat) (a1 : Int32) (a2 : Int32) (S : zS) : Option (Int32 × zS) := (f_X1_hasCorner p0 a1 S).bind (fun r2 => if r2.1 = 0 then (some (0, r2.2)) else ((f_X1_hasCorner p0 a2 r2.2).bind (fun r10 => if r10.1 = 0 then (some (0, r10.2)) else (if z_in a1 9 then (if z_in a2 9 then (if z_in a1 9 then (if z_in a2 9 then (some ((if 0 ≤ ((r10.2.1 (p0 + 1) a1.toNatClampNeg) - (r10.2.1 (p0 + 1) a2.toNatClampNeg)) then (r10.2.1 (p0 + 1) a1.toNatClampNeg) - (r10.2.1 (p0 + 1) a2.toNatClampNeg) else 0 - ((r10.2.1 (p0 + 1) a1.toNatClampNeg) - (r10.2.1 (p0 + 1) a2.toNatClampNeg))) + (if 0 ≤ ((r10.2.1 (p0 + 2) a1.toNatClampNeg) - (r10.2.1 (p0 + 2) a2.toNatClampNeg)) then (r10.2.1 (p0 + 2) a1.toNatClampNeg) - (r10.2.1 (p0 + 2) a2.toNatClampNeg) else 0 - ((r10.2.1 (p0 + 2) a1.toNatClampNeg) - (r10.2.1 (p0 + 2) a2.toNatClampNeg))), r10.2)) else none) else none) else none) else none))))
set_option maxRecDepth 100000 in
set_option maxHeartbeats 4000000 in
theorem zd_X1_way (V : zV) {p0 : Nat} (h0 : z_isP p0) (d : Nat) : ∀ (a1 : Int32) (a2 : Int32) (S : zS), z_J zeI V mX1_way (d + 1) (f_X1_way p0 a1 a2 S) 0 (z_ent mX1_way [.ref p0, .int a1, .int a2]) [] S := by
  intro a1 a2 S
  show z_J zeI V mX1_way (d + 1) (f_X1_way p0 a1 a2 S) 0 [.ref p0, .int a1, .int a2] [] S
  unfold f_X1_way
  refine d_st (fun _ k => zg_aload_n dX1_way_0 rfl (zg_iload_n dX1_way_1 rfl k)) ?_
  refine d_cVi (As := [_]) dX1_way_2 zk_X1_63 (zp_o h0 _) (by decide) ⟨_, _, rfl⟩ rfl rfl (Nat.le_of_ble_eq_true rfl) (Nat.le_of_ble_eq_true rfl) rfl (zd_X1_hasCorner V h0 d _ _) (fun r2 _ => ?_)
  refine d_br (fun _ => zg_if_eq 16 dX1_way_5 rfl) (fun c5 => ?_) (fun c5 => ?_)
  · refine d_st (fun _ k => zg_iconst 0 dX1_way_16 (by decide) k) ?_
    exact d_retI dX1_way_17 rfl
  · refine d_st (fun _ k => zg_aload_n dX1_way_8 rfl (zg_iload_n dX1_way_9 rfl k)) ?_
    refine d_cVi (As := [_]) dX1_way_10 zk_X1_63 (zp_o h0 _) (by decide) ⟨_, _, rfl⟩ rfl rfl (Nat.le_of_ble_eq_true rfl) (Nat.le_of_ble_eq_true rfl) rfl (zd_X1_hasCorner V h0 d _ _) (fun r10 _ => ?_)
    refine d_br (fun _ => zg_if_ne 18 dX1_way_13 rfl) (fun c13 => ?_) (fun c13 => ?_)
    · refine d_st (fun _ k => zg_iconst 0 dX1_way_16 (by decide) k) ?_
      exact d_retI dX1_way_17 rfl
    · refine d_st (fun _ k => zg_aload_n dX1_way_18 rfl (zs_getR dX1_way_19 zf_X1_15 rfl (zp_o h0 _) (by decide) (by decide) (zp_r1 h0) (zg_iload_n dX1_way_22 rfl k))) ?_
      refine d_gd (fun g23 => ?_)
      refine d_st (fun _ k => zs_iald dX1_way_23 (zp_p1 h0) (zp_1 h0 _) g23 rfl k) ?_
      refine d_st (fun _ k => zg_aload_n dX1_way_24 rfl (zs_getR dX1_way_25 zf_X1_15 rfl (zp_o h0 _) (by decide) (by decide) (zp_r1 h0) (zg_iload_n dX1_way_28 rfl k))) ?_
      refine d_gd (fun g29 => ?_)
      refine d_st (fun _ k => zs_iald dX1_way_29 (zp_p1 h0) (zp_1 h0 _) g29 rfl k) ?_
      refine d_st (fun _ k => zg_isub dX1_way_30 (zg_mabs dX1_way_31 zt_3_92 zt_3_93 zt_1_12 zt_3_94 (Nat.le_of_ble_eq_true rfl) (zg_aload_n dX1_way_34 rfl (zs_getR dX1_way_35 zf_X1_19 rfl (zp_o h0 _) (by decide) (by decide) (zp_r2 h0) (zg_iload_n dX1_way_38 rfl k))))) ?_
      refine d_gd (fun g39 => ?_)
      refine d_st (fun _ k => zs_iald dX1_way_39 (zp_p2 h0) (zp_2 h0 _) g39 rfl k) ?_
      refine d_st (fun _ k => zg_aload_n dX1_way_40 rfl (zs_getR dX1_way_41 zf_X1_19 rfl (zp_o h0 _) (by decide) (by decide) (zp_r2 h0) (zg_iload_n dX1_way_44 rfl k))) ?_
      refine d_gd (fun g45 => ?_)
      refine d_st (fun _ k => zs_iald dX1_way_45 (zp_p2 h0) (zp_2 h0 _) g45 rfl k) ?_
      refine d_st (fun _ k => zg_isub dX1_way_46 (zg_mabs dX1_way_47 zt_3_92 zt_3_93 zt_1_12 zt_3_94 (Nat.le_of_ble_eq_true rfl) (zg_iadd dX1_way_50 k))) ?_
      exact d_retI dX1_way_51 rfl
def f_X4_leastPairs_32 (p0 : Nat) (RR : Nat → Int32 → Int32 → zS → Option (Int32 × zS)) : Nat → Int32 → Int32 → Int32 → Int32 → Int32 → zS → Option (Int32 × zS)
  | 0, _, _, _, _, _, _ => none
  | n + 1, v2, v3, v4, v5, v6, S => if 9 ≤ v6 then (some (v5, S)) else ((f_X8_has v4 v6 S).bind (fun r43 => if r43.1 = 0 then (f_X4_leastPairs_32 p0 RR n v2 v3 v4 v5 (v6 + 1) r43.2) else ((f_X1_way p0 v3 v6 r43.2).bind (fun r53 => (RR p0 (v4 &&& (((1 : Int32) <<< (v6 &&& 31)) ^^^ (-1))) (v2 + 1) r53.2).bind (fun r69 => f_X4_leastPairs_32 p0 RR n v2 v3 v4 (if (r53.1 + r69.1) < v5 then r53.1 + r69.1 else v5) (v6 + 1) r69.2)))))
set_option maxRecDepth 100000 in
set_option maxHeartbeats 4000000 in
theorem zd_X4_leastPairs_32 (V : zV) {p0 : Nat} (h0 : z_isP p0) (d : Nat) {RR : Nat → Int32 → Int32 → zS → Option (Int32 × zS)} (hR : ∀ (p0 : Nat) (a1 : Int32) (a2 : Int32) (S : zS), z_isP p0 →  z_J zeI V mX4_leastPairs (d + 1) (RR p0 a1 a2 S) 0 (z_ent mX4_leastPairs [.ref p0, .int a1, .int a2]) [] S) : ∀ (n : Nat) (v2 : Int32) (v3 : Int32) (v4 : Int32) (v5 : Int32) (v6 : Int32) (S : zS), z_J zeI V mX4_leastPairs (d + 2) (f_X4_leastPairs_32 p0 RR n v2 v3 v4 v5 v6 S) 32 [.ref p0, .null, .int v2, .int v3, .int v4, .int v5, .int v6, .null] [] S := by
  intro n
  induction n with
  | zero =>
    intro v2 v3 v4 v5 v6 S r hr
    cases (show (none : Option (Int32 × zS)) = some r from hr)
  | succ n ih =>
    intro v2 v3 v4 v5 v6 S
    rw [f_X4_leastPairs_32]
    refine d_st (fun _ k => zg_iload dX4_leastPairs_32 rfl (zg_bipush 9 dX4_leastPairs_34 (by decide) k)) ?_
    refine d_br (fun _ => zg_icmp_ge 90 dX4_leastPairs_36 rfl) (fun c36 => ?_) (fun c36 => ?_)
    · refine d_st (fun _ k => zg_iload dX4_leastPairs_90 rfl k) ?_
      exact d_retI dX4_leastPairs_92 rfl
    · refine d_st (fun _ k => zg_iload dX4_leastPairs_39 rfl (zg_iload dX4_leastPairs_41 rfl k)) ?_
      refine d_cTi (As := [_, _]) dX4_leastPairs_43 zk_X4_95 rfl rfl (Nat.le_of_ble_eq_true rfl) (Nat.le_of_ble_eq_true rfl) rfl (zd_X8_has V (d + 1) _ _ _) (fun r43 _ => ?_)
      refine d_br (fun _ => zg_if_eq 84 dX4_leastPairs_46 rfl) (fun c46 => ?_) (fun c46 => ?_)
      · refine d_st (fun _ k => zg_iinc (ls' := [_, _, _, _, _, _, _, _]) 1 dX4_leastPairs_84 rfl (by decide) (Nat.le_of_ble_eq_true rfl) rfl rfl (zg_goto 32 dX4_leastPairs_87 rfl k)) ?_
        exact d_fg (z_le_s (z_le_0 (z_le_s (z_le_s (z_le_s (z_le_s (z_le_s (z_le_0 z_le_n)))))))) (ih _ _ _ _ _ _)
      · refine d_st (fun _ k => zg_aload_n dX4_leastPairs_49 rfl (zg_iload_n dX4_leastPairs_50 rfl (zg_iload dX4_leastPairs_51 rfl k))) ?_
        refine d_cVi (As := [_, _]) dX4_leastPairs_53 zk_X4_128 (zp_o h0 _) (by decide) ⟨_, _, rfl⟩ rfl rfl (Nat.le_of_ble_eq_true rfl) (Nat.le_of_ble_eq_true rfl) rfl (zd_X1_way V h0 d _ _ _) (fun r53 _ => ?_)
        refine d_st (fun _ k => zg_aload_n dX4_leastPairs_56 rfl (zg_iload dX4_leastPairs_57 rfl (zg_iconst 1 dX4_leastPairs_59 (by decide) (zg_iload dX4_leastPairs_60 rfl (zg_ishl dX4_leastPairs_62 (zg_iconst (-1) dX4_leastPairs_63 (by decide) (zg_ixor dX4_leastPairs_64 (zg_iand dX4_leastPairs_65 (zg_iload_n dX4_leastPairs_66 rfl (zg_iconst 1 dX4_leastPairs_67 (by decide) (zg_iadd dX4_leastPairs_68 k))))))))))) ?_
        refine d_cSi (As := [_, _, _]) dX4_leastPairs_69 zk_X4_64 rfl rfl (Nat.le_of_ble_eq_true rfl) (Nat.le_of_ble_eq_true rfl) rfl (hR _ _ _ _ h0) (fun r69 _ => ?_)
        refine d_st (fun _ k => zg_iadd dX4_leastPairs_72 (zg_istore (ls' := [_, _, _, _, _, _, _, _]) dX4_leastPairs_73 (Nat.le_of_ble_eq_true rfl) rfl rfl (zg_iload dX4_leastPairs_75 rfl (zg_iload dX4_leastPairs_77 rfl (zg_mmin dX4_leastPairs_79 zt_3_95 zt_2_149 zt_1_12 zt_2_150 (Nat.le_of_ble_eq_true rfl) (zg_istore (ls' := [_, _, _, _, _, _, _, _]) dX4_leastPairs_82 (Nat.le_of_ble_eq_true rfl) rfl rfl (zg_iinc (ls' := [_, _, _, _, _, _, _, _]) 1 dX4_leastPairs_84 rfl (by decide) (Nat.le_of_ble_eq_true rfl) rfl rfl (zg_goto 32 dX4_leastPairs_87 rfl k)))))))) ?_
        exact d_fg (z_le_s (z_le_0 (z_le_s (z_le_s (z_le_s (z_le_s (z_le_s (z_le_0 z_le_n)))))))) (ih _ _ _ _ _ _)
def f_X4_leastPairs_b (RR : Nat → Int32 → Int32 → zS → Option (Int32 × zS)) (p0 : Nat) (a1 : Int32) (a2 : Int32) (S : zS) : Option (Int32 × zS) := if a1 = 0 then (some (0, S)) else (if a2 < 4 then ((f_J6_numberOfTrailingZeros_0f7a4 a1 S).bind (fun r12 => f_X4_leastPairs_32 p0 RR 1000 a2 r12.1 (a1 &&& (((1 : Int32) <<< (r12.1 &&& 31)) ^^^ (-1))) 1000000 0 r12.2)) else (some (0, S)))
def f_X4_leastPairs : Nat → Nat → Int32 → Int32 → zS → Option (Int32 × zS)
  | 0 => fun _ _ _ _ => none
  | n + 1 => f_X4_leastPairs_b (f_X4_leastPairs n)
set_option maxRecDepth 100000 in
set_option maxHeartbeats 4000000 in
theorem zd_X4_leastPairs_b (V : zV) {p0 : Nat} (h0 : z_isP p0) (d : Nat) {RR : Nat → Int32 → Int32 → zS → Option (Int32 × zS)} (hR : ∀ (p0 : Nat) (a1 : Int32) (a2 : Int32) (S : zS), z_isP p0 →  z_J zeI V mX4_leastPairs (d + 1) (RR p0 a1 a2 S) 0 (z_ent mX4_leastPairs [.ref p0, .int a1, .int a2]) [] S) : ∀ (a1 : Int32) (a2 : Int32) (S : zS), z_J zeI V mX4_leastPairs (d + 2) (f_X4_leastPairs_b RR p0 a1 a2 S) 0 (z_ent mX4_leastPairs [.ref p0, .int a1, .int a2]) [] S := by
  intro a1 a2 S
  show z_J zeI V mX4_leastPairs (d + 2) (f_X4_leastPairs_b RR p0 a1 a2 S) 0 [.ref p0, .int a1, .int a2, .null, .null, .null, .null, .null] [] S
  unfold f_X4_leastPairs_b
  refine d_st (fun _ k => zg_iload_n dX4_leastPairs_0 rfl k) ?_
  refine d_br (fun _ => zg_if_eq 9 dX4_leastPairs_1 rfl) (fun c1 => ?_) (fun c1 => ?_)
  · refine d_st (fun _ k => zg_iconst 0 dX4_leastPairs_9 (by decide) k) ?_
    exact d_retI dX4_leastPairs_10 rfl
  · refine d_st (fun _ k => zg_iload_n dX4_leastPairs_4 rfl (zg_iconst 4 dX4_leastPairs_5 (by decide) k)) ?_
    refine d_br (fun _ => zg_icmp_lt 11 dX4_leastPairs_6 rfl) (fun c6 => ?_) (fun c6 => ?_)
    · refine d_st (fun _ k => zg_iload_n dX4_leastPairs_11 rfl k) ?_
      refine d_cSi (As := [_]) dX4_leastPairs_12 zk_X4_124 rfl rfl (Nat.le_of_ble_eq_true rfl) (Nat.le_of_ble_eq_true rfl) rfl (zd_J6_numberOfTrailingZeros_0f7a4 V (d + 1) _ _) (fun r12 _ => ?_)
      refine d_st (fun _ k => zg_istore_n (ls' := [_, _, _, _, _, _, _, _]) dX4_leastPairs_15 (Nat.le_of_ble_eq_true rfl) rfl rfl (zg_iload_n dX4_leastPairs_16 rfl (zg_iconst 1 dX4_leastPairs_17 (by decide) (zg_iload_n dX4_leastPairs_18 rfl (zg_ishl dX4_leastPairs_19 (zg_iconst (-1) dX4_leastPairs_20 (by decide) (zg_ixor dX4_leastPairs_21 (zg_iand dX4_leastPairs_22 (zg_istore (ls' := [_, _, _, _, _, _, _, _]) dX4_leastPairs_23 (Nat.le_of_ble_eq_true rfl) rfl rfl (zg_ldc 1000000 dX4_leastPairs_25 zt_3_87 (zg_istore (ls' := [_, _, _, _, _, _, _, _]) dX4_leastPairs_27 (Nat.le_of_ble_eq_true rfl) rfl rfl (zg_iconst 0 dX4_leastPairs_29 (by decide) (zg_istore (ls' := [_, _, _, _, _, _, _, _]) dX4_leastPairs_30 (Nat.le_of_ble_eq_true rfl) rfl rfl k))))))))))))) ?_
      exact d_fg (z_le_s (z_le_0 (z_le_s (z_le_s (z_le_s (z_le_s (z_le_s (z_le_0 z_le_n)))))))) (zd_X4_leastPairs_32 V h0 d hR 1000 _ _ _ _ _ _)
    · refine d_st (fun _ k => zg_iconst 0 dX4_leastPairs_9 (by decide) k) ?_
      exact d_retI dX4_leastPairs_10 rfl
theorem zd_X4_leastPairs_n (V : zV) : ∀ (n d : Nat) (p0 : Nat) (a1 : Int32) (a2 : Int32) (S : zS), z_isP p0 → z_J zeI V mX4_leastPairs (d + n + 2) (f_X4_leastPairs n p0 a1 a2 S) 0 (z_ent mX4_leastPairs [.ref p0, .int a1, .int a2]) [] S
  | 0, d, p0, a1, a2, S, h0 => fun r hr => by cases (show (none : Option (Int32 × zS)) = some r from hr)
  | n + 1, d, p0, a1, a2, S, h0 => by
    have h9 := zd_X4_leastPairs_b V h0 (d + n + 1) (RR := f_X4_leastPairs n) (fun p0 a1 a2 S h0 => by
      have h8 := zd_X4_leastPairs_n V n d p0 a1 a2 S h0
      have e : d + n + 2 = d + n + 1 + 1 := by omega
      rw [e] at h8
      exact h8) a1 a2 S
    have e2 : d + n + 1 + 2 = d + (n + 1) + 2 := by omega
    rw [e2] at h9
    exact h9
theorem zd_X4_leastPairs (V : zV) {p0 : Nat} (h0 : z_isP p0) (d n : Nat) : ∀ (a1 : Int32) (a2 : Int32) (S : zS), z_J zeI V mX4_leastPairs (d + n + 2) (f_X4_leastPairs n p0 a1 a2 S) 0 (z_ent mX4_leastPairs [.ref p0, .int a1, .int a2]) [] S := fun a1 a2 S => zd_X4_leastPairs_n V n d p0 a1 a2 S h0
def f_X4_pairUp_41 (p1 : Nat) (K9 : Int32 → Int32 → Int32 → zS → Option (Unit × zS)) : Nat → Int32 → Int32 → Int32 → Int32 → Int32 → Int32 → zS → Option (Unit × zS)
  | 0, _, _, _, _, _, _, _ => none
  | n + 1, v4, v5, v6, v7, v8, v9, S => if 9 ≤ v9 then (K9 v4 v5 (v6 + 1) S) else ((f_X8_has v8 v9 S).bind (fun r63 => if r63.1 = 0 then (f_X4_pairUp_41 p1 K9 n v4 v5 v6 v7 v8 (v9 + 1) r63.2) else (if 9 ≤ v7 then (f_X4_pairUp_41 p1 K9 n v4 v5 v6 v7 v8 (v9 + 1) r63.2) else ((f_X1_way p1 v7 v9 r63.2).bind (fun r81 => (f_X4_leastPairs 6 p1 (v8 &&& (((1 : Int32) <<< (v9 &&& 31)) ^^^ (-1))) (v6 + 1) r81.2).bind (fun r91 => if (r81.1 + r91.1) = v5 then (if z_in v7 9 then (if z_in v9 9 then ((f_X1_way p1 v7 v9 (z_w (z_w r91.2 64 v7.toNatClampNeg v9) 64 v9.toNatClampNeg v7)).bind (fun r125 => K9 (v8 &&& (((1 : Int32) <<< (v9 &&& 31)) ^^^ (-1))) (v5 - r125.1) (v6 + 1) r125.2)) else none) else none) else (f_X4_pairUp_41 p1 K9 n v4 v5 v6 v7 v8 (v9 + 1) r91.2)))))))
set_option maxRecDepth 100000 in
set_option maxHeartbeats 4000000 in
theorem zd_X4_pairUp_41 (V : zV) {p1 : Nat} (h1 : z_isP p1) (d : Nat) {K9 : Int32 → Int32 → Int32 → zS → Option (Unit × zS)} (hK9 : ∀ (v4 : Int32) (v5 : Int32) (v6 : Int32) (S : zS), z_J zeV V mX4_pairUp (d + 9) (K9 v4 v5 v6 S) 9 [.ref 57, .ref p1, .null, .null, .int v4, .int v5, .int v6, .null, .null, .null, .null] [] S) : ∀ (n : Nat) (v4 : Int32) (v5 : Int32) (v6 : Int32) (v7 : Int32) (v8 : Int32) (v9 : Int32) (S : zS), z_J zeV V mX4_pairUp (d + 9) (f_X4_pairUp_41 p1 K9 n v4 v5 v6 v7 v8 v9 S) 41 [.ref 57, .ref p1, .null, .null, .int v4, .int v5, .int v6, .int v7, .int v8, .int v9, .null] [] S := by
  intro n
  induction n with
  | zero =>
    intro v4 v5 v6 v7 v8 v9 S r hr
    cases (show (none : Option (Unit × zS)) = some r from hr)
  | succ n ih =>
    intro v4 v5 v6 v7 v8 v9 S
    rw [f_X4_pairUp_41]
    refine d_st (fun _ k => zg_iload dX4_pairUp_41 rfl (zg_bipush 9 dX4_pairUp_43 (by decide) k)) ?_
    refine d_br (fun _ => zg_icmp_ge 144 dX4_pairUp_45 rfl) (fun c45 => ?_) (fun c45 => ?_)
    · refine d_st (fun _ k => zg_iinc (ls' := [_, _, _, _, _, _, _, _, _, _, _]) 1 dX4_pairUp_144 rfl (by decide) (Nat.le_of_ble_eq_true rfl) rfl rfl (zg_goto 9 dX4_pairUp_147 rfl k)) ?_
      exact d_fg (z_le_s (z_le_s (z_le_0 (z_le_0 (z_le_s (z_le_s (z_le_s (z_le_0 (z_le_0 (z_le_0 (z_le_0 z_le_n))))))))))) (hK9 _ _ _ _)
    · refine d_st (fun _ k => zg_iload dX4_pairUp_48 rfl (zg_iconst 1 dX4_pairUp_50 (by decide) (zg_iload dX4_pairUp_51 rfl (zg_ishl dX4_pairUp_53 (zg_iconst (-1) dX4_pairUp_54 (by decide) (zg_ixor dX4_pairUp_55 (zg_iand dX4_pairUp_56 (zg_istore (ls' := [_, _, _, _, _, _, _, _, _, _, _]) dX4_pairUp_57 (Nat.le_of_ble_eq_true rfl) rfl rfl (zg_iload dX4_pairUp_59 rfl (zg_iload dX4_pairUp_61 rfl k)))))))))) ?_
      refine d_cTi (As := [_, _]) dX4_pairUp_63 zk_X4_95 rfl rfl (Nat.le_of_ble_eq_true rfl) (Nat.le_of_ble_eq_true rfl) rfl (zd_X8_has V (d + 8) _ _ _) (fun r63 _ => ?_)
      refine d_br (fun _ => zg_if_eq 138 dX4_pairUp_66 rfl) (fun c66 => ?_) (fun c66 => ?_)
      · refine d_st (fun _ k => zg_iinc (ls' := [_, _, _, _, _, _, _, _, _, _, _]) 1 dX4_pairUp_138 rfl (by decide) (Nat.le_of_ble_eq_true rfl) rfl rfl (zg_goto 41 dX4_pairUp_141 rfl k)) ?_
        exact d_fg (z_le_s (z_le_s (z_le_0 (z_le_0 (z_le_s (z_le_s (z_le_s (z_le_s (z_le_s (z_le_s (z_le_0 z_le_n))))))))))) (ih _ _ _ _ _ _ _)
      · refine d_st (fun _ k => zg_iload dX4_pairUp_69 rfl (zg_bipush 9 dX4_pairUp_71 (by decide) k)) ?_
        refine d_br (fun _ => zg_icmp_ge 138 dX4_pairUp_73 rfl) (fun c73 => ?_) (fun c73 => ?_)
        · refine d_st (fun _ k => zg_iinc (ls' := [_, _, _, _, _, _, _, _, _, _, _]) 1 dX4_pairUp_138 rfl (by decide) (Nat.le_of_ble_eq_true rfl) rfl rfl (zg_goto 41 dX4_pairUp_141 rfl k)) ?_
          exact d_fg (z_le_s (z_le_s (z_le_0 (z_le_0 (z_le_s (z_le_s (z_le_s (z_le_s (z_le_s (z_le_s (z_le_0 z_le_n))))))))))) (ih _ _ _ _ _ _ _)
        · refine d_st (fun _ k => zg_aload_n dX4_pairUp_76 rfl (zg_iload dX4_pairUp_77 rfl (zg_iload dX4_pairUp_79 rfl k))) ?_
          refine d_cVi (As := [_, _]) dX4_pairUp_81 zk_X4_128 (zp_o h1 _) (by decide) ⟨_, _, rfl⟩ rfl rfl (Nat.le_of_ble_eq_true rfl) (Nat.le_of_ble_eq_true rfl) rfl (zd_X1_way V h1 (d + 7) _ _ _) (fun r81 _ => ?_)
          refine d_st (fun _ k => zg_aload_n dX4_pairUp_84 rfl (zg_iload dX4_pairUp_85 rfl (zg_iload dX4_pairUp_87 rfl (zg_iconst 1 dX4_pairUp_89 (by decide) (zg_iadd dX4_pairUp_90 k))))) ?_
          refine d_cSi (As := [_, _, _]) dX4_pairUp_91 zk_X4_64 rfl rfl (Nat.le_of_ble_eq_true rfl) (Nat.le_of_ble_eq_true rfl) rfl (zd_X4_leastPairs V h1 d 6 _ _ _) (fun r91 _ => ?_)
          refine d_st (fun _ k => zg_iadd dX4_pairUp_94 (zg_iload dX4_pairUp_95 rfl k)) ?_
          refine d_br (fun _ => zg_icmp_ne 138 dX4_pairUp_97 rfl) (fun c97 => ?_) (fun c97 => ?_)
          · refine d_st (fun _ k => zg_aload_n dX4_pairUp_100 rfl (zs_getR dX4_pairUp_101 zf_X4_38 rfl (zq_57 _) (by decide) (by decide) zr_57_8 (zg_iload dX4_pairUp_104 rfl (zg_iload dX4_pairUp_106 rfl k)))) ?_
            refine d_gd (fun g108 => ?_)
            refine d_st (fun _ k => zs_iast dX4_pairUp_108 (by decide) (zq_64 _) g108 rfl k) ?_
            refine d_st (fun _ k => zg_aload_n dX4_pairUp_109 rfl (zs_getR dX4_pairUp_110 zf_X4_38 rfl (zq_57 _) (by decide) (by decide) zr_57_8 (zg_iload dX4_pairUp_113 rfl (zg_iload dX4_pairUp_115 rfl k)))) ?_
            refine d_gd (fun g117 => ?_)
            refine d_st (fun _ k => zs_iast dX4_pairUp_117 (by decide) (zq_64 _) g117 rfl k) ?_
            refine d_st (fun _ k => zg_iload dX4_pairUp_118 rfl (zg_aload_n dX4_pairUp_120 rfl (zg_iload dX4_pairUp_121 rfl (zg_iload dX4_pairUp_123 rfl k)))) ?_
            refine d_cVi (As := [_, _]) dX4_pairUp_125 zk_X4_128 (zp_o h1 _) (by decide) ⟨_, _, rfl⟩ rfl rfl (Nat.le_of_ble_eq_true rfl) (Nat.le_of_ble_eq_true rfl) rfl (zd_X1_way V h1 (d + 7) _ _ _) (fun r125 _ => ?_)
            refine d_st (fun _ k => zg_isub dX4_pairUp_128 (zg_istore (ls' := [_, _, _, _, _, _, _, _, _, _, _]) dX4_pairUp_129 (Nat.le_of_ble_eq_true rfl) rfl rfl (zg_iload dX4_pairUp_131 rfl (zg_istore (ls' := [_, _, _, _, _, _, _, _, _, _, _]) dX4_pairUp_133 (Nat.le_of_ble_eq_true rfl) rfl rfl (zg_goto 144 dX4_pairUp_135 rfl (zg_iinc (ls' := [_, _, _, _, _, _, _, _, _, _, _]) 1 dX4_pairUp_144 rfl (by decide) (Nat.le_of_ble_eq_true rfl) rfl rfl (zg_goto 9 dX4_pairUp_147 rfl k))))))) ?_
            exact d_fg (z_le_s (z_le_s (z_le_0 (z_le_0 (z_le_s (z_le_s (z_le_s (z_le_0 (z_le_0 (z_le_0 (z_le_0 z_le_n))))))))))) (hK9 _ _ _ _)
          · refine d_st (fun _ k => zg_iinc (ls' := [_, _, _, _, _, _, _, _, _, _, _]) 1 dX4_pairUp_138 rfl (by decide) (Nat.le_of_ble_eq_true rfl) rfl rfl (zg_goto 41 dX4_pairUp_141 rfl k)) ?_
            exact d_fg (z_le_s (z_le_s (z_le_0 (z_le_0 (z_le_s (z_le_s (z_le_s (z_le_s (z_le_s (z_le_s (z_le_0 z_le_n))))))))))) (ih _ _ _ _ _ _ _)
def f_X4_pairUp_9 (p1 : Nat) : Nat → Int32 → Int32 → Int32 → zS → Option (Unit × zS)
  | 0, _, _, _, _ => none
  | n + 1, v4, v5, v6, S => if 4 ≤ v6 then (some ((), S)) else (if v4 = 0 then (some ((), S)) else ((f_J6_numberOfTrailingZeros_0f7a4 v4 S).bind (fun r22 => f_X4_pairUp_41 p1 (f_X4_pairUp_9 p1 n) 1000 v4 v5 v6 r22.1 (v4 &&& (((1 : Int32) <<< (r22.1 &&& 31)) ^^^ (-1))) 0 r22.2)))
set_option maxRecDepth 100000 in
set_option maxHeartbeats 4000000 in
theorem zd_X4_pairUp_9 (V : zV) {p1 : Nat} (h1 : z_isP p1) (d : Nat) : ∀ (n : Nat) (v4 : Int32) (v5 : Int32) (v6 : Int32) (S : zS), z_J zeV V mX4_pairUp (d + 9) (f_X4_pairUp_9 p1 n v4 v5 v6 S) 9 [.ref 57, .ref p1, .null, .null, .int v4, .int v5, .int v6, .null, .null, .null, .null] [] S := by
  intro n
  induction n with
  | zero =>
    intro v4 v5 v6 S r hr
    cases (show (none : Option (Unit × zS)) = some r from hr)
  | succ n ih =>
    intro v4 v5 v6 S
    rw [f_X4_pairUp_9]
    refine d_st (fun _ k => zg_iload dX4_pairUp_9 rfl (zg_iconst 4 dX4_pairUp_11 (by decide) k)) ?_
    refine d_br (fun _ => zg_icmp_ge 150 dX4_pairUp_12 rfl) (fun c12 => ?_) (fun c12 => ?_)
    · exact d_retV dX4_pairUp_150 rfl
    · refine d_st (fun _ k => zg_iload dX4_pairUp_15 rfl k) ?_
      refine d_br (fun _ => zg_if_eq 150 dX4_pairUp_17 rfl) (fun c17 => ?_) (fun c17 => ?_)
      · exact d_retV dX4_pairUp_150 rfl
      · refine d_st (fun _ k => zg_iload dX4_pairUp_20 rfl k) ?_
        refine d_cSi (As := [_]) dX4_pairUp_22 zk_X4_124 rfl rfl (Nat.le_of_ble_eq_true rfl) (Nat.le_of_ble_eq_true rfl) rfl (zd_J6_numberOfTrailingZeros_0f7a4 V (d + 8) _ _) (fun r22 _ => ?_)
        refine d_st (fun _ k => zg_istore (ls' := [_, _, _, _, _, _, _, _, _, _, _]) dX4_pairUp_25 (Nat.le_of_ble_eq_true rfl) rfl rfl (zg_iload dX4_pairUp_27 rfl (zg_iconst 1 dX4_pairUp_29 (by decide) (zg_iload dX4_pairUp_30 rfl (zg_ishl dX4_pairUp_32 (zg_iconst (-1) dX4_pairUp_33 (by decide) (zg_ixor dX4_pairUp_34 (zg_iand dX4_pairUp_35 (zg_istore (ls' := [_, _, _, _, _, _, _, _, _, _, _]) dX4_pairUp_36 (Nat.le_of_ble_eq_true rfl) rfl rfl (zg_iconst 0 dX4_pairUp_38 (by decide) (zg_istore (ls' := [_, _, _, _, _, _, _, _, _, _, _]) dX4_pairUp_39 (Nat.le_of_ble_eq_true rfl) rfl rfl k))))))))))) ?_
        exact d_fg (z_le_s (z_le_s (z_le_0 (z_le_0 (z_le_s (z_le_s (z_le_s (z_le_s (z_le_s (z_le_s (z_le_0 z_le_n))))))))))) (zd_X4_pairUp_41 V h1 d ih 1000 _ _ _ _ _ _ _)
def f_X4_pairUp (p1 : Nat) (a2 : Int32) (a3 : Int32) (S : zS) : Option (Unit × zS) := f_X4_pairUp_9 p1 1000 a2 a3 0 S
set_option maxRecDepth 100000 in
set_option maxHeartbeats 4000000 in
theorem zd_X4_pairUp (V : zV) {p1 : Nat} (h1 : z_isP p1) (d : Nat) : ∀ (a2 : Int32) (a3 : Int32) (S : zS), z_J zeV V mX4_pairUp (d + 9) (f_X4_pairUp p1 a2 a3 S) 0 (z_ent mX4_pairUp [.ref 57, .ref p1, .int a2, .int a3]) [] S := by
  intro a2 a3 S
  show z_J zeV V mX4_pairUp (d + 9) (f_X4_pairUp p1 a2 a3 S) 0 [.ref 57, .ref p1, .int a2, .int a3, .null, .null, .null, .null, .null, .null, .null] [] S
  unfold f_X4_pairUp
  refine d_st (fun _ k => zg_iload_n dX4_pairUp_0 rfl (zg_istore (ls' := [_, _, _, _, _, _, _, _, _, _, _]) dX4_pairUp_1 (Nat.le_of_ble_eq_true rfl) rfl rfl (zg_iload_n dX4_pairUp_3 rfl (zg_istore (ls' := [_, _, _, _, _, _, _, _, _, _, _]) dX4_pairUp_4 (Nat.le_of_ble_eq_true rfl) rfl rfl (zg_iconst 0 dX4_pairUp_6 (by decide) (zg_istore (ls' := [_, _, _, _, _, _, _, _, _, _, _]) dX4_pairUp_7 (Nat.le_of_ble_eq_true rfl) rfl rfl k)))))) ?_
  exact d_fg (z_le_s (z_le_s (z_le_0 (z_le_0 (z_le_s (z_le_s (z_le_s (z_le_0 (z_le_0 (z_le_0 (z_le_0 z_le_n))))))))))) (zd_X4_pairUp_9 V h1 d 1000 _ _ _ _)
def f_X4_partsIn_5 (p1 : Nat) : Nat → Int32 → Int32 → Int32 → zS → Option (Int32 × zS)
  | 0, _, _, _, _ => none
  | n + 1, v2, v3, v4, S => if (S.1 p1 7) ≤ v4 then (some (v3, S)) else (if z_in v4 4 then (if z_in v2 4 then (if ((S.1 (p1 + 12) v4.toNatClampNeg) &&& (S.1 58 v2.toNatClampNeg)) = 0 then (f_X4_partsIn_5 p1 n v2 v3 (v4 + 1) S) else (f_X4_partsIn_5 p1 n v2 (v3 ||| ((1 : Int32) <<< (v4 &&& 31))) (v4 + 1) S)) else none) else none)
set_option maxRecDepth 100000 in
set_option maxHeartbeats 4000000 in
theorem zd_X4_partsIn_5 (V : zV) {p1 : Nat} (h1 : z_isP p1) (d : Nat) : ∀ (n : Nat) (v2 : Int32) (v3 : Int32) (v4 : Int32) (S : zS), z_J zeI V mX4_partsIn (d) (f_X4_partsIn_5 p1 n v2 v3 v4 S) 5 [.ref 57, .ref p1, .int v2, .int v3, .int v4] [] S := by
  intro n
  induction n with
  | zero =>
    intro v2 v3 v4 S r hr
    cases (show (none : Option (Int32 × zS)) = some r from hr)
  | succ n ih =>
    intro v2 v3 v4 S
    rw [f_X4_partsIn_5]
    refine d_st (fun _ k => zg_iload dX4_partsIn_5 rfl (zg_aload_n dX4_partsIn_7 rfl (zs_getI dX4_partsIn_8 zf_X4_144 rfl (zp_o h1 _) (by decide) (by decide) k))) ?_
    refine d_br (fun _ => zg_icmp_ge 44 dX4_partsIn_11 rfl) (fun c11 => ?_) (fun c11 => ?_)
    · refine d_st (fun _ k => zg_iload_n dX4_partsIn_44 rfl k) ?_
      exact d_retI dX4_partsIn_45 rfl
    · refine d_st (fun _ k => zg_aload_n dX4_partsIn_14 rfl (zs_getR dX4_partsIn_15 zf_X4_147 rfl (zp_o h1 _) (by decide) (by decide) (zp_r10 h1) (zg_iload dX4_partsIn_18 rfl k))) ?_
      refine d_gd (fun g20 => ?_)
      refine d_st (fun _ k => zs_iald dX4_partsIn_20 (zp_p12 h1) (zp_12 h1 _) g20 rfl k) ?_
      refine d_st (fun _ k => zg_aload_n dX4_partsIn_21 rfl (zs_getR dX4_partsIn_22 zf_X4_19 rfl (zq_57 _) (by decide) (by decide) zr_57_2 (zg_iload_n dX4_partsIn_25 rfl k))) ?_
      refine d_gd (fun g26 => ?_)
      refine d_st (fun _ k => zs_iald dX4_partsIn_26 (by decide) (zq_58 _) g26 rfl k) ?_
      refine d_st (fun _ k => zg_iand dX4_partsIn_27 k) ?_
      refine d_br (fun _ => zg_if_eq 38 dX4_partsIn_28 rfl) (fun c28 => ?_) (fun c28 => ?_)
      · refine d_st (fun _ k => zg_iinc (ls' := [_, _, _, _, _]) 1 dX4_partsIn_38 rfl (by decide) (Nat.le_of_ble_eq_true rfl) rfl rfl (zg_goto 5 dX4_partsIn_41 rfl k)) ?_
        exact d_fg (z_le_s (z_le_s (z_le_s (z_le_s (z_le_s z_le_n))))) (ih _ _ _ _)
      · refine d_st (fun _ k => zg_iload_n dX4_partsIn_31 rfl (zg_iconst 1 dX4_partsIn_32 (by decide) (zg_iload dX4_partsIn_33 rfl (zg_ishl dX4_partsIn_35 (zg_ior dX4_partsIn_36 (zg_istore_n (ls' := [_, _, _, _, _]) dX4_partsIn_37 (Nat.le_of_ble_eq_true rfl) rfl rfl (zg_iinc (ls' := [_, _, _, _, _]) 1 dX4_partsIn_38 rfl (by decide) (Nat.le_of_ble_eq_true rfl) rfl rfl (zg_goto 5 dX4_partsIn_41 rfl k)))))))) ?_
        exact d_fg (z_le_s (z_le_s (z_le_s (z_le_s (z_le_s z_le_n))))) (ih _ _ _ _)
def f_X4_partsIn (p1 : Nat) (a2 : Int32) (S : zS) : Option (Int32 × zS) := f_X4_partsIn_5 p1 1000 a2 0 0 S
set_option maxRecDepth 100000 in
set_option maxHeartbeats 4000000 in
theorem zd_X4_partsIn (V : zV) {p1 : Nat} (h1 : z_isP p1) (d : Nat) : ∀ (a2 : Int32) (S : zS), z_J zeI V mX4_partsIn (d) (f_X4_partsIn p1 a2 S) 0 (z_ent mX4_partsIn [.ref 57, .ref p1, .int a2]) [] S := by
  intro a2 S
  show z_J zeI V mX4_partsIn (d) (f_X4_partsIn p1 a2 S) 0 [.ref 57, .ref p1, .int a2, .null, .null] [] S
  unfold f_X4_partsIn
  refine d_st (fun _ k => zg_iconst 0 dX4_partsIn_0 (by decide) (zg_istore_n (ls' := [_, _, _, _, _]) dX4_partsIn_1 (Nat.le_of_ble_eq_true rfl) rfl rfl (zg_iconst 0 dX4_partsIn_2 (by decide) (zg_istore (ls' := [_, _, _, _, _]) dX4_partsIn_3 (Nat.le_of_ble_eq_true rfl) rfl rfl k)))) ?_
  exact d_fg (z_le_s (z_le_s (z_le_s (z_le_s (z_le_s z_le_n))))) (zd_X4_partsIn_5 V h1 d 1000 _ _ _ _)
def f_X4_isAnyWithin_2 (p0 : Nat) : Nat → Int32 → Int32 → Int32 → zS → Option (Int32 × zS)
  | 0, _, _, _, _ => none
  | n + 1, v1, v2, v3, S => if (S.1 p0 7) ≤ v3 then (some (0, S)) else ((f_X8_has v1 v3 S).bind (fun r12 => if r12.1 = 0 then (f_X4_isAnyWithin_2 p0 n v1 v2 (v3 + 1) r12.2) else (if z_in v3 4 then (if ((r12.2.1 (p0 + 13) v3.toNatClampNeg) &&& v2) = 0 then (f_X4_isAnyWithin_2 p0 n v1 v2 (v3 + 1) r12.2) else (some (1, r12.2))) else none)))
set_option maxRecDepth 100000 in
set_option maxHeartbeats 4000000 in
theorem zd_X4_isAnyWithin_2 (V : zV) {p0 : Nat} (h0 : z_isP p0) (d : Nat) : ∀ (n : Nat) (v1 : Int32) (v2 : Int32) (v3 : Int32) (S : zS), z_J zeI V mX4_isAnyWithin (d + 1) (f_X4_isAnyWithin_2 p0 n v1 v2 v3 S) 2 [.ref p0, .int v1, .int v2, .int v3] [] S := by
  intro n
  induction n with
  | zero =>
    intro v1 v2 v3 S r hr
    cases (show (none : Option (Int32 × zS)) = some r from hr)
  | succ n ih =>
    intro v1 v2 v3 S
    rw [f_X4_isAnyWithin_2]
    refine d_st (fun _ k => zg_iload_n dX4_isAnyWithin_2 rfl (zg_aload_n dX4_isAnyWithin_3 rfl (zs_getI dX4_isAnyWithin_4 zf_X4_144 rfl (zp_o h0 _) (by decide) (by decide) k))) ?_
    refine d_br (fun _ => zg_icmp_ge 37 dX4_isAnyWithin_7 rfl) (fun c7 => ?_) (fun c7 => ?_)
    · refine d_st (fun _ k => zg_iconst 0 dX4_isAnyWithin_37 (by decide) k) ?_
      exact d_retZ dX4_isAnyWithin_38 rfl (by decide)
    · refine d_st (fun _ k => zg_iload_n dX4_isAnyWithin_10 rfl (zg_iload_n dX4_isAnyWithin_11 rfl k)) ?_
      refine d_cTi (As := [_, _]) dX4_isAnyWithin_12 zk_X4_95 rfl rfl (Nat.le_of_ble_eq_true rfl) (Nat.le_of_ble_eq_true rfl) rfl (zd_X8_has V d _ _ _) (fun r12 _ => ?_)
      refine d_br (fun _ => zg_if_eq 31 dX4_isAnyWithin_15 rfl) (fun c15 => ?_) (fun c15 => ?_)
      · refine d_st (fun _ k => zg_iinc (ls' := [_, _, _, _]) 1 dX4_isAnyWithin_31 rfl (by decide) (Nat.le_of_ble_eq_true rfl) rfl rfl (zg_goto 2 dX4_isAnyWithin_34 rfl k)) ?_
        exact d_fg (z_le_s (z_le_s (z_le_s (z_le_s z_le_n)))) (ih _ _ _ _)
      · refine d_st (fun _ k => zg_aload_n dX4_isAnyWithin_18 rfl (zs_getR dX4_isAnyWithin_19 zf_X4_150 rfl (zp_o h0 _) (by decide) (by decide) (zp_r11 h0) (zg_iload_n dX4_isAnyWithin_22 rfl k))) ?_
        refine d_gd (fun g23 => ?_)
        refine d_st (fun _ k => zs_iald dX4_isAnyWithin_23 (zp_p13 h0) (zp_13 h0 _) g23 rfl k) ?_
        refine d_st (fun _ k => zg_iload_n dX4_isAnyWithin_24 rfl (zg_iand dX4_isAnyWithin_25 k)) ?_
        refine d_br (fun _ => zg_if_eq 31 dX4_isAnyWithin_26 rfl) (fun c26 => ?_) (fun c26 => ?_)
        · refine d_st (fun _ k => zg_iinc (ls' := [_, _, _, _]) 1 dX4_isAnyWithin_31 rfl (by decide) (Nat.le_of_ble_eq_true rfl) rfl rfl (zg_goto 2 dX4_isAnyWithin_34 rfl k)) ?_
          exact d_fg (z_le_s (z_le_s (z_le_s (z_le_s z_le_n)))) (ih _ _ _ _)
        · refine d_st (fun _ k => zg_iconst 1 dX4_isAnyWithin_29 (by decide) k) ?_
          exact d_retZ dX4_isAnyWithin_30 rfl (by decide)
def f_X4_isAnyWithin (p0 : Nat) (a1 : Int32) (a2 : Int32) (S : zS) : Option (Int32 × zS) := f_X4_isAnyWithin_2 p0 1000 a1 a2 0 S
set_option maxRecDepth 100000 in
set_option maxHeartbeats 4000000 in
theorem zd_X4_isAnyWithin (V : zV) {p0 : Nat} (h0 : z_isP p0) (d : Nat) : ∀ (a1 : Int32) (a2 : Int32) (S : zS), z_J zeI V mX4_isAnyWithin (d + 1) (f_X4_isAnyWithin p0 a1 a2 S) 0 (z_ent mX4_isAnyWithin [.ref p0, .int a1, .int a2]) [] S := by
  intro a1 a2 S
  show z_J zeI V mX4_isAnyWithin (d + 1) (f_X4_isAnyWithin p0 a1 a2 S) 0 [.ref p0, .int a1, .int a2, .null] [] S
  unfold f_X4_isAnyWithin
  refine d_st (fun _ k => zg_iconst 0 dX4_isAnyWithin_0 (by decide) (zg_istore_n (ls' := [_, _, _, _]) dX4_isAnyWithin_1 (Nat.le_of_ble_eq_true rfl) rfl rfl k)) ?_
  exact d_fg (z_le_s (z_le_s (z_le_s (z_le_s z_le_n)))) (zd_X4_isAnyWithin_2 V h0 d 1000 _ _ _ _)
def f_X4_piecesAhead_13 (p1 : Nat) : Nat → Int32 → Int32 → Int32 → Int32 → zS → Option (Int32 × zS)
  | 0, _, _, _, _, _ => none
  | n + 1, v2, v3, v4, v5, S => if (S.1 57 1) ≤ v5 then (some (v4, S)) else (if v5 = v2 then (f_X4_piecesAhead_13 p1 n v2 v3 v4 (v5 + 1) S) else ((f_X4_partsIn p1 v5 S).bind (fun r33 => (f_X4_isAnyWithin p1 r33.1 v3 r33.2).bind (fun r37 => if r37.1 = 0 then (f_X4_piecesAhead_13 p1 n v2 v3 v4 (v5 + 1) r37.2) else (f_X4_piecesAhead_13 p1 n v2 v3 (v4 ||| ((1 : Int32) <<< (v5 &&& 31))) (v5 + 1) r37.2)))))
set_option maxRecDepth 100000 in
set_option maxHeartbeats 4000000 in
theorem zd_X4_piecesAhead_13 (V : zV) {p1 : Nat} (h1 : z_isP p1) (d : Nat) : ∀ (n : Nat) (v2 : Int32) (v3 : Int32) (v4 : Int32) (v5 : Int32) (S : zS), z_J zeI V mX4_piecesAhead (d + 2) (f_X4_piecesAhead_13 p1 n v2 v3 v4 v5 S) 13 [.ref 57, .ref p1, .int v2, .int v3, .int v4, .int v5] [] S := by
  intro n
  induction n with
  | zero =>
    intro v2 v3 v4 v5 S r hr
    cases (show (none : Option (Int32 × zS)) = some r from hr)
  | succ n ih =>
    intro v2 v3 v4 v5 S
    rw [f_X4_piecesAhead_13]
    refine d_st (fun _ k => zg_iload dX4_piecesAhead_13 rfl (zg_aload_n dX4_piecesAhead_15 rfl (zs_getI dX4_piecesAhead_16 zf_X4_15 rfl (zq_57 _) (by decide) (by decide) k))) ?_
    refine d_br (fun _ => zg_icmp_ge 58 dX4_piecesAhead_19 rfl) (fun c19 => ?_) (fun c19 => ?_)
    · refine d_st (fun _ k => zg_iload dX4_piecesAhead_58 rfl k) ?_
      exact d_retI dX4_piecesAhead_60 rfl
    · refine d_st (fun _ k => zg_iload dX4_piecesAhead_22 rfl (zg_iload_n dX4_piecesAhead_24 rfl k)) ?_
      refine d_br (fun _ => zg_icmp_eq 52 dX4_piecesAhead_25 rfl) (fun c25 => ?_) (fun c25 => ?_)
      · refine d_st (fun _ k => zg_iinc (ls' := [_, _, _, _, _, _]) 1 dX4_piecesAhead_52 rfl (by decide) (Nat.le_of_ble_eq_true rfl) rfl rfl (zg_goto 13 dX4_piecesAhead_55 rfl k)) ?_
        exact d_fg (z_le_s (z_le_s (z_le_s (z_le_s (z_le_s (z_le_s z_le_n)))))) (ih _ _ _ _ _)
      · refine d_st (fun _ k => zg_aload_n dX4_piecesAhead_28 rfl (zg_aload_n dX4_piecesAhead_29 rfl (zg_aload_n dX4_piecesAhead_30 rfl (zg_iload dX4_piecesAhead_31 rfl k)))) ?_
        refine d_cVi (As := [_, _]) dX4_piecesAhead_33 zk_X4_137 (zq_57 _) (by decide) ⟨_, _, rfl⟩ rfl rfl (Nat.le_of_ble_eq_true rfl) (Nat.le_of_ble_eq_true rfl) rfl (zd_X4_partsIn V h1 (d + 1) _ _) (fun r33 _ => ?_)
        refine d_st (fun _ k => zg_iload_n dX4_piecesAhead_36 rfl k) ?_
        refine d_cSi (As := [_, _, _]) dX4_piecesAhead_37 zk_X4_140 rfl rfl (Nat.le_of_ble_eq_true rfl) (Nat.le_of_ble_eq_true rfl) rfl (zd_X4_isAnyWithin V h1 d _ _ _) (fun r37 _ => ?_)
        refine d_br (fun _ => zg_if_eq 52 dX4_piecesAhead_40 rfl) (fun c40 => ?_) (fun c40 => ?_)
        · refine d_st (fun _ k => zg_iinc (ls' := [_, _, _, _, _, _]) 1 dX4_piecesAhead_52 rfl (by decide) (Nat.le_of_ble_eq_true rfl) rfl rfl (zg_goto 13 dX4_piecesAhead_55 rfl k)) ?_
          exact d_fg (z_le_s (z_le_s (z_le_s (z_le_s (z_le_s (z_le_s z_le_n)))))) (ih _ _ _ _ _)
        · refine d_st (fun _ k => zg_iload dX4_piecesAhead_43 rfl (zg_iconst 1 dX4_piecesAhead_45 (by decide) (zg_iload dX4_piecesAhead_46 rfl (zg_ishl dX4_piecesAhead_48 (zg_ior dX4_piecesAhead_49 (zg_istore (ls' := [_, _, _, _, _, _]) dX4_piecesAhead_50 (Nat.le_of_ble_eq_true rfl) rfl rfl (zg_iinc (ls' := [_, _, _, _, _, _]) 1 dX4_piecesAhead_52 rfl (by decide) (Nat.le_of_ble_eq_true rfl) rfl rfl (zg_goto 13 dX4_piecesAhead_55 rfl k)))))))) ?_
          exact d_fg (z_le_s (z_le_s (z_le_s (z_le_s (z_le_s (z_le_s z_le_n)))))) (ih _ _ _ _ _)
def f_X4_piecesAhead (p1 : Nat) (a2 : Int32) (S : zS) : Option (Int32 × zS) := (f_X4_partsIn p1 a2 S).bind (fun r3 => f_X4_piecesAhead_13 p1 1000 a2 r3.1 0 0 r3.2)
set_option maxRecDepth 100000 in
set_option maxHeartbeats 4000000 in
theorem zd_X4_piecesAhead (V : zV) {p1 : Nat} (h1 : z_isP p1) (d : Nat) : ∀ (a2 : Int32) (S : zS), z_J zeI V mX4_piecesAhead (d + 2) (f_X4_piecesAhead p1 a2 S) 0 (z_ent mX4_piecesAhead [.ref 57, .ref p1, .int a2]) [] S := by
  intro a2 S
  show z_J zeI V mX4_piecesAhead (d + 2) (f_X4_piecesAhead p1 a2 S) 0 [.ref 57, .ref p1, .int a2, .null, .null, .null] [] S
  unfold f_X4_piecesAhead
  refine d_st (fun _ k => zg_aload_n dX4_piecesAhead_0 rfl (zg_aload_n dX4_piecesAhead_1 rfl (zg_iload_n dX4_piecesAhead_2 rfl k))) ?_
  refine d_cVi (As := [_, _]) dX4_piecesAhead_3 zk_X4_137 (zq_57 _) (by decide) ⟨_, _, rfl⟩ rfl rfl (Nat.le_of_ble_eq_true rfl) (Nat.le_of_ble_eq_true rfl) rfl (zd_X4_partsIn V h1 (d + 1) _ _) (fun r3 _ => ?_)
  refine d_st (fun _ k => zg_istore_n (ls' := [_, _, _, _, _, _]) dX4_piecesAhead_6 (Nat.le_of_ble_eq_true rfl) rfl rfl (zg_iconst 0 dX4_piecesAhead_7 (by decide) (zg_istore (ls' := [_, _, _, _, _, _]) dX4_piecesAhead_8 (Nat.le_of_ble_eq_true rfl) rfl rfl (zg_iconst 0 dX4_piecesAhead_10 (by decide) (zg_istore (ls' := [_, _, _, _, _, _]) dX4_piecesAhead_11 (Nat.le_of_ble_eq_true rfl) rfl rfl k))))) ?_
  exact d_fg (z_le_s (z_le_s (z_le_s (z_le_s (z_le_s (z_le_s z_le_n)))))) (zd_X4_piecesAhead_13 V h1 d 1000 _ _ _ _ _)
def f_X4_mayBeNext (a1 : Int32) (a2 : Int32) (S : zS) : Option (Int32 × zS) := (f_X8_has a2 a1 S).bind (fun r2 => if r2.1 = 0 then (some (0, r2.2)) else (if z_in a1 4 then (if ((r2.2.1 63 a1.toNatClampNeg) &&& a2) = 0 then (some (1, r2.2)) else (some (0, r2.2))) else none))
set_option maxRecDepth 100000 in
set_option maxHeartbeats 4000000 in
theorem zd_X4_mayBeNext (V : zV) (d : Nat) : ∀ (a1 : Int32) (a2 : Int32) (S : zS), z_J zeI V mX4_mayBeNext (d + 1) (f_X4_mayBeNext a1 a2 S) 0 (z_ent mX4_mayBeNext [.ref 57, .int a1, .int a2]) [] S := by
  intro a1 a2 S
  show z_J zeI V mX4_mayBeNext (d + 1) (f_X4_mayBeNext a1 a2 S) 0 [.ref 57, .int a1, .int a2] [] S
  unfold f_X4_mayBeNext
  refine d_st (fun _ k => zg_iload_n dX4_mayBeNext_0 rfl (zg_iload_n dX4_mayBeNext_1 rfl k)) ?_
  refine d_cTi (As := [_, _]) dX4_mayBeNext_2 zk_X4_95 rfl rfl (Nat.le_of_ble_eq_true rfl) (Nat.le_of_ble_eq_true rfl) rfl (zd_X8_has V d _ _ _) (fun r2 _ => ?_)
  refine d_br (fun _ => zg_if_eq 23 dX4_mayBeNext_5 rfl) (fun c5 => ?_) (fun c5 => ?_)
  · refine d_st (fun _ k => zg_iconst 0 dX4_mayBeNext_23 (by decide) k) ?_
    exact d_retZ dX4_mayBeNext_24 rfl (by decide)
  · refine d_st (fun _ k => zg_aload_n dX4_mayBeNext_8 rfl (zs_getR dX4_mayBeNext_9 zf_X4_35 rfl (zq_57 _) (by decide) (by decide) zr_57_7 (zg_iload_n dX4_mayBeNext_12 rfl k))) ?_
    refine d_gd (fun g13 => ?_)
    refine d_st (fun _ k => zs_iald dX4_mayBeNext_13 (by decide) (zq_63 _) g13 rfl k) ?_
    refine d_st (fun _ k => zg_iload_n dX4_mayBeNext_14 rfl (zg_iand dX4_mayBeNext_15 k)) ?_
    refine d_br (fun _ => zg_if_ne 23 dX4_mayBeNext_16 rfl) (fun c16 => ?_) (fun c16 => ?_)
    · refine d_st (fun _ k => zg_iconst 1 dX4_mayBeNext_19 (by decide) (zg_goto 24 dX4_mayBeNext_20 rfl k)) ?_
      exact d_retZ dX4_mayBeNext_24 rfl (by decide)
    · refine d_st (fun _ k => zg_iconst 0 dX4_mayBeNext_23 (by decide) k) ?_
      exact d_retZ dX4_mayBeNext_24 rfl (by decide)
def f_X4_leastTour_19 (p0 : Nat) (RR : Nat → Int32 → Int32 → Int32 → zS → Option (Int32 × zS)) : Nat → Int32 → Int32 → Int32 → Int32 → Int32 → zS → Option (Int32 × zS)
  | 0, _, _, _, _, _, _ => none
  | n + 1, v2, v3, v4, v5, v6, S => if (S.1 57 1) ≤ v6 then (some (v5, S)) else ((f_X4_mayBeNext v6 v3 S).bind (fun r32 => if r32.1 = 0 then (f_X4_leastTour_19 p0 RR n v2 v3 v4 v5 (v6 + 1) r32.2) else (if z_in v6 4 then ((f_X1_way p0 v2 (r32.2.1 61 v6.toNatClampNeg) r32.2).bind (fun r57 => if z_in v6 4 then ((RR p0 (r57.2.1 61 v6.toNatClampNeg) (v3 &&& (((1 : Int32) <<< (v6 &&& 31)) ^^^ (-1))) (v4 + 1) r57.2).bind (fun r75 => f_X4_leastTour_19 p0 RR n v2 v3 v4 (if (r57.1 + r75.1) < v5 then r57.1 + r75.1 else v5) (v6 + 1) r75.2)) else none)) else none)))
set_option maxRecDepth 100000 in
set_option maxHeartbeats 4000000 in
theorem zd_X4_leastTour_19 (V : zV) {p0 : Nat} (h0 : z_isP p0) (d : Nat) {RR : Nat → Int32 → Int32 → Int32 → zS → Option (Int32 × zS)} (hR : ∀ (p0 : Nat) (a2 : Int32) (a3 : Int32) (a4 : Int32) (S : zS), z_isP p0 →  z_J zeI V mX4_leastTour (d + 1) (RR p0 a2 a3 a4 S) 0 (z_ent mX4_leastTour [.ref p0, .ref 57, .int a2, .int a3, .int a4]) [] S) : ∀ (n : Nat) (v2 : Int32) (v3 : Int32) (v4 : Int32) (v5 : Int32) (v6 : Int32) (S : zS), z_J zeI V mX4_leastTour (d + 2) (f_X4_leastTour_19 p0 RR n v2 v3 v4 v5 v6 S) 19 [.ref p0, .ref 57, .int v2, .int v3, .int v4, .int v5, .int v6, .null, .null] [] S := by
  intro n
  induction n with
  | zero =>
    intro v2 v3 v4 v5 v6 S r hr
    cases (show (none : Option (Int32 × zS)) = some r from hr)
  | succ n ih =>
    intro v2 v3 v4 v5 v6 S
    rw [f_X4_leastTour_19]
    refine d_st (fun _ k => zg_iload dX4_leastTour_19 rfl (zg_aload_n dX4_leastTour_21 rfl (zs_getI dX4_leastTour_22 zf_X4_15 rfl (zq_57 _) (by decide) (by decide) k))) ?_
    refine d_br (fun _ => zg_icmp_ge 96 dX4_leastTour_25 rfl) (fun c25 => ?_) (fun c25 => ?_)
    · refine d_st (fun _ k => zg_iload dX4_leastTour_96 rfl k) ?_
      exact d_retI dX4_leastTour_98 rfl
    · refine d_st (fun _ k => zg_aload_n dX4_leastTour_28 rfl (zg_iload dX4_leastTour_29 rfl (zg_iload_n dX4_leastTour_31 rfl k))) ?_
      refine d_cVi (As := [_, _]) dX4_leastTour_32 zk_X4_157 (zq_57 _) (by decide) ⟨_, _, rfl⟩ rfl rfl (Nat.le_of_ble_eq_true rfl) (Nat.le_of_ble_eq_true rfl) rfl (zd_X4_mayBeNext V d _ _ _) (fun r32 _ => ?_)
      refine d_br (fun _ => zg_if_eq 90 dX4_leastTour_35 rfl) (fun c35 => ?_) (fun c35 => ?_)
      · refine d_st (fun _ k => zg_iinc (ls' := [_, _, _, _, _, _, _, _, _]) 1 dX4_leastTour_90 rfl (by decide) (Nat.le_of_ble_eq_true rfl) rfl rfl (zg_goto 19 dX4_leastTour_93 rfl k)) ?_
        exact d_fg (z_le_s (z_le_s (z_le_s (z_le_s (z_le_s (z_le_s (z_le_s (z_le_0 (z_le_0 z_le_n))))))))) (ih _ _ _ _ _ _)
      · refine d_st (fun _ k => zg_iload_n dX4_leastTour_38 rfl (zg_iconst 1 dX4_leastTour_39 (by decide) (zg_iload dX4_leastTour_40 rfl (zg_ishl dX4_leastTour_42 (zg_iconst (-1) dX4_leastTour_43 (by decide) (zg_ixor dX4_leastTour_44 (zg_iand dX4_leastTour_45 (zg_istore (ls' := [_, _, _, _, _, _, _, _, _]) dX4_leastTour_46 (Nat.le_of_ble_eq_true rfl) rfl rfl (zg_aload_n dX4_leastTour_48 rfl (zg_iload_n dX4_leastTour_49 rfl (zg_aload_n dX4_leastTour_50 rfl (zs_getR dX4_leastTour_51 zf_X4_29 rfl (zq_57 _) (by decide) (by decide) zr_57_5 (zg_iload dX4_leastTour_54 rfl k))))))))))))) ?_
        refine d_gd (fun g56 => ?_)
        refine d_st (fun _ k => zs_iald dX4_leastTour_56 (by decide) (zq_61 _) g56 rfl k) ?_
        refine d_cVi (As := [_, _]) dX4_leastTour_57 zk_X4_128 (zp_o h0 _) (by decide) ⟨_, _, rfl⟩ rfl rfl (Nat.le_of_ble_eq_true rfl) (Nat.le_of_ble_eq_true rfl) rfl (zd_X1_way V h0 d _ _ _) (fun r57 _ => ?_)
        refine d_st (fun _ k => zg_aload_n dX4_leastTour_60 rfl (zg_aload_n dX4_leastTour_61 rfl (zg_aload_n dX4_leastTour_62 rfl (zs_getR dX4_leastTour_63 zf_X4_29 rfl (zq_57 _) (by decide) (by decide) zr_57_5 (zg_iload dX4_leastTour_66 rfl k))))) ?_
        refine d_gd (fun g68 => ?_)
        refine d_st (fun _ k => zs_iald dX4_leastTour_68 (by decide) (zq_61 _) g68 rfl k) ?_
        refine d_st (fun _ k => zg_iload dX4_leastTour_69 rfl (zg_iload dX4_leastTour_71 rfl (zg_iconst 1 dX4_leastTour_73 (by decide) (zg_iadd dX4_leastTour_74 k)))) ?_
        refine d_cSi (As := [_, _, _, _, _]) dX4_leastTour_75 zk_X4_153 rfl rfl (Nat.le_of_ble_eq_true rfl) (Nat.le_of_ble_eq_true rfl) rfl (hR _ _ _ _ _ h0) (fun r75 _ => ?_)
        refine d_st (fun _ k => zg_iadd dX4_leastTour_78 (zg_istore (ls' := [_, _, _, _, _, _, _, _, _]) dX4_leastTour_79 (Nat.le_of_ble_eq_true rfl) rfl rfl (zg_iload dX4_leastTour_81 rfl (zg_iload dX4_leastTour_83 rfl (zg_mmin dX4_leastTour_85 zt_3_95 zt_2_149 zt_1_12 zt_2_150 (Nat.le_of_ble_eq_true rfl) (zg_istore (ls' := [_, _, _, _, _, _, _, _, _]) dX4_leastTour_88 (Nat.le_of_ble_eq_true rfl) rfl rfl (zg_iinc (ls' := [_, _, _, _, _, _, _, _, _]) 1 dX4_leastTour_90 rfl (by decide) (Nat.le_of_ble_eq_true rfl) rfl rfl (zg_goto 19 dX4_leastTour_93 rfl k)))))))) ?_
        exact d_fg (z_le_s (z_le_s (z_le_s (z_le_s (z_le_s (z_le_s (z_le_s (z_le_0 (z_le_0 z_le_n))))))))) (ih _ _ _ _ _ _)
def f_X4_leastTour_b (RR : Nat → Int32 → Int32 → Int32 → zS → Option (Int32 × zS)) (p0 : Nat) (a2 : Int32) (a3 : Int32) (a4 : Int32) (S : zS) : Option (Int32 × zS) := if a3 = 0 then (some (0, S)) else (if a4 < 4 then (f_X4_leastTour_19 p0 RR 1000 a2 a3 a4 1000000 0 S) else (some (0, S)))
def f_X4_leastTour : Nat → Nat → Int32 → Int32 → Int32 → zS → Option (Int32 × zS)
  | 0 => fun _ _ _ _ _ => none
  | n + 1 => f_X4_leastTour_b (f_X4_leastTour n)
set_option maxRecDepth 100000 in
set_option maxHeartbeats 4000000 in
theorem zd_X4_leastTour_b (V : zV) {p0 : Nat} (h0 : z_isP p0) (d : Nat) {RR : Nat → Int32 → Int32 → Int32 → zS → Option (Int32 × zS)} (hR : ∀ (p0 : Nat) (a2 : Int32) (a3 : Int32) (a4 : Int32) (S : zS), z_isP p0 →  z_J zeI V mX4_leastTour (d + 1) (RR p0 a2 a3 a4 S) 0 (z_ent mX4_leastTour [.ref p0, .ref 57, .int a2, .int a3, .int a4]) [] S) : ∀ (a2 : Int32) (a3 : Int32) (a4 : Int32) (S : zS), z_J zeI V mX4_leastTour (d + 2) (f_X4_leastTour_b RR p0 a2 a3 a4 S) 0 (z_ent mX4_leastTour [.ref p0, .ref 57, .int a2, .int a3, .int a4]) [] S := by
  intro a2 a3 a4 S
  show z_J zeI V mX4_leastTour (d + 2) (f_X4_leastTour_b RR p0 a2 a3 a4 S) 0 [.ref p0, .ref 57, .int a2, .int a3, .int a4, .null, .null, .null, .null] [] S
  unfold f_X4_leastTour_b
  refine d_st (fun _ k => zg_iload_n dX4_leastTour_0 rfl k) ?_
  refine d_br (fun _ => zg_if_eq 10 dX4_leastTour_1 rfl) (fun c1 => ?_) (fun c1 => ?_)
  · refine d_st (fun _ k => zg_iconst 0 dX4_leastTour_10 (by decide) k) ?_
    exact d_retI dX4_leastTour_11 rfl
  · refine d_st (fun _ k => zg_iload dX4_leastTour_4 rfl (zg_iconst 4 dX4_leastTour_6 (by decide) k)) ?_
    refine d_br (fun _ => zg_icmp_lt 12 dX4_leastTour_7 rfl) (fun c7 => ?_) (fun c7 => ?_)
    · refine d_st (fun _ k => zg_ldc 1000000 dX4_leastTour_12 zt_3_87 (zg_istore (ls' := [_, _, _, _, _, _, _, _, _]) dX4_leastTour_14 (Nat.le_of_ble_eq_true rfl) rfl rfl (zg_iconst 0 dX4_leastTour_16 (by decide) (zg_istore (ls' := [_, _, _, _, _, _, _, _, _]) dX4_leastTour_17 (Nat.le_of_ble_eq_true rfl) rfl rfl k)))) ?_
      exact d_fg (z_le_s (z_le_s (z_le_s (z_le_s (z_le_s (z_le_s (z_le_s (z_le_0 (z_le_0 z_le_n))))))))) (zd_X4_leastTour_19 V h0 d hR 1000 _ _ _ _ _ _)
    · refine d_st (fun _ k => zg_iconst 0 dX4_leastTour_10 (by decide) k) ?_
      exact d_retI dX4_leastTour_11 rfl
theorem zd_X4_leastTour_n (V : zV) : ∀ (n d : Nat) (p0 : Nat) (a2 : Int32) (a3 : Int32) (a4 : Int32) (S : zS), z_isP p0 → z_J zeI V mX4_leastTour (d + n + 2) (f_X4_leastTour n p0 a2 a3 a4 S) 0 (z_ent mX4_leastTour [.ref p0, .ref 57, .int a2, .int a3, .int a4]) [] S
  | 0, d, p0, a2, a3, a4, S, h0 => fun r hr => by cases (show (none : Option (Int32 × zS)) = some r from hr)
  | n + 1, d, p0, a2, a3, a4, S, h0 => by
    have h9 := zd_X4_leastTour_b V h0 (d + n + 1) (RR := f_X4_leastTour n) (fun p0 a2 a3 a4 S h0 => by
      have h8 := zd_X4_leastTour_n V n d p0 a2 a3 a4 S h0
      have e : d + n + 2 = d + n + 1 + 1 := by omega
      rw [e] at h8
      exact h8) a2 a3 a4 S
    have e2 : d + n + 1 + 2 = d + (n + 1) + 2 := by omega
    rw [e2] at h9
    exact h9
theorem zd_X4_leastTour (V : zV) {p0 : Nat} (h0 : z_isP p0) (d n : Nat) : ∀ (a2 : Int32) (a3 : Int32) (a4 : Int32) (S : zS), z_J zeI V mX4_leastTour (d + n + 2) (f_X4_leastTour n p0 a2 a3 a4 S) 0 (z_ent mX4_leastTour [.ref p0, .ref 57, .int a2, .int a3, .int a4]) [] S := fun a2 a3 a4 S => zd_X4_leastTour_n V n d p0 a2 a3 a4 S h0
def f_X4_findTour_52 (p1 : Nat) (K33 : Int32 → Int32 → Int32 → Int32 → zS → Option (Unit × zS)) : Nat → Int32 → Int32 → Int32 → Int32 → Int32 → zS → Option (Unit × zS)
  | 0, _, _, _, _, _, _ => none
  | n + 1, v3, v4, v5, v6, v7, S => if (S.1 57 1) ≤ v7 then (K33 v3 v4 v5 (v6 + 1) S) else ((f_X4_mayBeNext v7 v3 S).bind (fun r75 => if r75.1 = 0 then (f_X4_findTour_52 p1 K33 n v3 v4 v5 v6 (v7 + 1) r75.2) else (if z_in v7 4 then ((f_X1_way p1 v5 (r75.2.1 61 v7.toNatClampNeg) r75.2).bind (fun r91 => if z_in v7 4 then ((f_X4_leastTour 6 p1 (r91.2.1 61 v7.toNatClampNeg) (v3 &&& (((1 : Int32) <<< (v7 &&& 31)) ^^^ (-1))) (v6 + 1) r91.2).bind (fun r109 => if (r91.1 + r109.1) = v4 then (if z_in v6 4 then (if z_in v7 4 then ((f_X1_way p1 v5 ((z_w r109.2 65 v6.toNatClampNeg v7).1 61 v7.toNatClampNeg) (z_w r109.2 65 v6.toNatClampNeg v7)).bind (fun r139 => if z_in v7 4 then (K33 (v3 &&& (((1 : Int32) <<< (v7 &&& 31)) ^^^ (-1))) (v4 - r139.1) (r139.2.1 61 v7.toNatClampNeg) (v6 + 1) r139.2) else none)) else none) else none) else (f_X4_findTour_52 p1 K33 n v3 v4 v5 v6 (v7 + 1) r109.2))) else none)) else none)))
set_option maxRecDepth 100000 in
set_option maxHeartbeats 4000000 in
theorem zd_X4_findTour_52 (V : zV) {p1 : Nat} (h1 : z_isP p1) (d : Nat) {K33 : Int32 → Int32 → Int32 → Int32 → zS → Option (Unit × zS)} (hK33 : ∀ (v3 : Int32) (v4 : Int32) (v5 : Int32) (v6 : Int32) (S : zS), z_J zeV V mX4_findTour (d + 9) (K33 v3 v4 v5 v6 S) 33 [.ref 57, .ref p1, .null, .int v3, .int v4, .int v5, .int v6, .null, .null] [] S) : ∀ (n : Nat) (v3 : Int32) (v4 : Int32) (v5 : Int32) (v6 : Int32) (v7 : Int32) (S : zS), z_J zeV V mX4_findTour (d + 9) (f_X4_findTour_52 p1 K33 n v3 v4 v5 v6 v7 S) 52 [.ref 57, .ref p1, .null, .int v3, .int v4, .int v5, .int v6, .int v7, .null] [] S := by
  intro n
  induction n with
  | zero =>
    intro v3 v4 v5 v6 v7 S r hr
    cases (show (none : Option (Unit × zS)) = some r from hr)
  | succ n ih =>
    intro v3 v4 v5 v6 v7 S
    rw [f_X4_findTour_52]
    refine d_st (fun _ k => zg_iload dX4_findTour_52 rfl (zg_aload_n dX4_findTour_54 rfl (zs_getI dX4_findTour_55 zf_X4_15 rfl (zq_57 _) (by decide) (by decide) k))) ?_
    refine d_br (fun _ => zg_icmp_ge 166 dX4_findTour_58 rfl) (fun c58 => ?_) (fun c58 => ?_)
    · refine d_st (fun _ k => zg_iinc (ls' := [_, _, _, _, _, _, _, _, _]) 1 dX4_findTour_166 rfl (by decide) (Nat.le_of_ble_eq_true rfl) rfl rfl (zg_goto 33 dX4_findTour_169 rfl k)) ?_
      exact d_fg (z_le_s (z_le_s (z_le_0 (z_le_s (z_le_s (z_le_s (z_le_s (z_le_0 (z_le_0 z_le_n))))))))) (hK33 _ _ _ _ _)
    · refine d_st (fun _ k => zg_iload_n dX4_findTour_61 rfl (zg_iconst 1 dX4_findTour_62 (by decide) (zg_iload dX4_findTour_63 rfl (zg_ishl dX4_findTour_65 (zg_iconst (-1) dX4_findTour_66 (by decide) (zg_ixor dX4_findTour_67 (zg_iand dX4_findTour_68 (zg_istore (ls' := [_, _, _, _, _, _, _, _, _]) dX4_findTour_69 (Nat.le_of_ble_eq_true rfl) rfl rfl (zg_aload_n dX4_findTour_71 rfl (zg_iload dX4_findTour_72 rfl (zg_iload_n dX4_findTour_74 rfl k))))))))))) ?_
      refine d_cVi (As := [_, _]) dX4_findTour_75 zk_X4_157 (zq_57 _) (by decide) ⟨_, _, rfl⟩ rfl rfl (Nat.le_of_ble_eq_true rfl) (Nat.le_of_ble_eq_true rfl) rfl (zd_X4_mayBeNext V (d + 7) _ _ _) (fun r75 _ => ?_)
      refine d_br (fun _ => zg_if_eq 160 dX4_findTour_78 rfl) (fun c78 => ?_) (fun c78 => ?_)
      · refine d_st (fun _ k => zg_iinc (ls' := [_, _, _, _, _, _, _, _, _]) 1 dX4_findTour_160 rfl (by decide) (Nat.le_of_ble_eq_true rfl) rfl rfl (zg_goto 52 dX4_findTour_163 rfl k)) ?_
        exact d_fg (z_le_s (z_le_s (z_le_0 (z_le_s (z_le_s (z_le_s (z_le_s (z_le_s (z_le_0 z_le_n))))))))) (ih _ _ _ _ _ _)
      · refine d_st (fun _ k => zg_aload_n dX4_findTour_81 rfl (zg_iload dX4_findTour_82 rfl (zg_aload_n dX4_findTour_84 rfl (zs_getR dX4_findTour_85 zf_X4_29 rfl (zq_57 _) (by decide) (by decide) zr_57_5 (zg_iload dX4_findTour_88 rfl k))))) ?_
        refine d_gd (fun g90 => ?_)
        refine d_st (fun _ k => zs_iald dX4_findTour_90 (by decide) (zq_61 _) g90 rfl k) ?_
        refine d_cVi (As := [_, _]) dX4_findTour_91 zk_X4_128 (zp_o h1 _) (by decide) ⟨_, _, rfl⟩ rfl rfl (Nat.le_of_ble_eq_true rfl) (Nat.le_of_ble_eq_true rfl) rfl (zd_X1_way V h1 (d + 7) _ _ _) (fun r91 _ => ?_)
        refine d_st (fun _ k => zg_aload_n dX4_findTour_94 rfl (zg_aload_n dX4_findTour_95 rfl (zg_aload_n dX4_findTour_96 rfl (zs_getR dX4_findTour_97 zf_X4_29 rfl (zq_57 _) (by decide) (by decide) zr_57_5 (zg_iload dX4_findTour_100 rfl k))))) ?_
        refine d_gd (fun g102 => ?_)
        refine d_st (fun _ k => zs_iald dX4_findTour_102 (by decide) (zq_61 _) g102 rfl k) ?_
        refine d_st (fun _ k => zg_iload dX4_findTour_103 rfl (zg_iload dX4_findTour_105 rfl (zg_iconst 1 dX4_findTour_107 (by decide) (zg_iadd dX4_findTour_108 k)))) ?_
        refine d_cSi (As := [_, _, _, _, _]) dX4_findTour_109 zk_X4_153 rfl rfl (Nat.le_of_ble_eq_true rfl) (Nat.le_of_ble_eq_true rfl) rfl (zd_X4_leastTour V h1 d 6 _ _ _ _) (fun r109 _ => ?_)
        refine d_st (fun _ k => zg_iadd dX4_findTour_112 (zg_iload dX4_findTour_113 rfl k)) ?_
        refine d_br (fun _ => zg_icmp_ne 160 dX4_findTour_115 rfl) (fun c115 => ?_) (fun c115 => ?_)
        · refine d_st (fun _ k => zg_aload_n dX4_findTour_118 rfl (zs_getR dX4_findTour_119 zf_X4_41 rfl (zq_57 _) (by decide) (by decide) zr_57_9 (zg_iload dX4_findTour_122 rfl (zg_iload dX4_findTour_124 rfl k)))) ?_
          refine d_gd (fun g126 => ?_)
          refine d_st (fun _ k => zs_iast dX4_findTour_126 (by decide) (zq_65 _) g126 rfl k) ?_
          refine d_st (fun _ k => zg_iload dX4_findTour_127 rfl (zg_aload_n dX4_findTour_129 rfl (zg_iload dX4_findTour_130 rfl (zg_aload_n dX4_findTour_132 rfl (zs_getR dX4_findTour_133 zf_X4_29 rfl (zq_57 _) (by decide) (by decide) zr_57_5 (zg_iload dX4_findTour_136 rfl k)))))) ?_
          refine d_gd (fun g138 => ?_)
          refine d_st (fun _ k => zs_iald dX4_findTour_138 (by decide) (zq_61 _) g138 rfl k) ?_
          refine d_cVi (As := [_, _]) dX4_findTour_139 zk_X4_128 (zp_o h1 _) (by decide) ⟨_, _, rfl⟩ rfl rfl (Nat.le_of_ble_eq_true rfl) (Nat.le_of_ble_eq_true rfl) rfl (zd_X1_way V h1 (d + 7) _ _ _) (fun r139 _ => ?_)
          refine d_st (fun _ k => zg_isub dX4_findTour_142 (zg_istore (ls' := [_, _, _, _, _, _, _, _, _]) dX4_findTour_143 (Nat.le_of_ble_eq_true rfl) rfl rfl (zg_aload_n dX4_findTour_145 rfl (zs_getR dX4_findTour_146 zf_X4_29 rfl (zq_57 _) (by decide) (by decide) zr_57_5 (zg_iload dX4_findTour_149 rfl k))))) ?_
          refine d_gd (fun g151 => ?_)
          refine d_st (fun _ k => zs_iald dX4_findTour_151 (by decide) (zq_61 _) g151 rfl k) ?_
          refine d_st (fun _ k => zg_istore (ls' := [_, _, _, _, _, _, _, _, _]) dX4_findTour_152 (Nat.le_of_ble_eq_true rfl) rfl rfl (zg_iload dX4_findTour_154 rfl (zg_istore_n (ls' := [_, _, _, _, _, _, _, _, _]) dX4_findTour_156 (Nat.le_of_ble_eq_true rfl) rfl rfl (zg_goto 166 dX4_findTour_157 rfl (zg_iinc (ls' := [_, _, _, _, _, _, _, _, _]) 1 dX4_findTour_166 rfl (by decide) (Nat.le_of_ble_eq_true rfl) rfl rfl (zg_goto 33 dX4_findTour_169 rfl k)))))) ?_
          exact d_fg (z_le_s (z_le_s (z_le_0 (z_le_s (z_le_s (z_le_s (z_le_s (z_le_0 (z_le_0 z_le_n))))))))) (hK33 _ _ _ _ _)
        · refine d_st (fun _ k => zg_iinc (ls' := [_, _, _, _, _, _, _, _, _]) 1 dX4_findTour_160 rfl (by decide) (Nat.le_of_ble_eq_true rfl) rfl rfl (zg_goto 52 dX4_findTour_163 rfl k)) ?_
          exact d_fg (z_le_s (z_le_s (z_le_0 (z_le_s (z_le_s (z_le_s (z_le_s (z_le_s (z_le_0 z_le_n))))))))) (ih _ _ _ _ _ _)
def f_X4_findTour_33 (p1 : Nat) : Nat → Int32 → Int32 → Int32 → Int32 → zS → Option (Unit × zS)
  | 0, _, _, _, _, _ => none
  | n + 1, v3, v4, v5, v6, S => if (S.1 57 1) ≤ v6 then (some ((), S)) else (if 1000000 ≤ v4 then (some ((), S)) else (f_X4_findTour_52 p1 (f_X4_findTour_33 p1 n) 1000 v3 v4 v5 v6 0 S))
set_option maxRecDepth 100000 in
set_option maxHeartbeats 4000000 in
theorem zd_X4_findTour_33 (V : zV) {p1 : Nat} (h1 : z_isP p1) (d : Nat) : ∀ (n : Nat) (v3 : Int32) (v4 : Int32) (v5 : Int32) (v6 : Int32) (S : zS), z_J zeV V mX4_findTour (d + 9) (f_X4_findTour_33 p1 n v3 v4 v5 v6 S) 33 [.ref 57, .ref p1, .null, .int v3, .int v4, .int v5, .int v6, .null, .null] [] S := by
  intro n
  induction n with
  | zero =>
    intro v3 v4 v5 v6 S r hr
    cases (show (none : Option (Unit × zS)) = some r from hr)
  | succ n ih =>
    intro v3 v4 v5 v6 S
    rw [f_X4_findTour_33]
    refine d_st (fun _ k => zg_iload dX4_findTour_33 rfl (zg_aload_n dX4_findTour_35 rfl (zs_getI dX4_findTour_36 zf_X4_15 rfl (zq_57 _) (by decide) (by decide) k))) ?_
    refine d_br (fun _ => zg_icmp_ge 172 dX4_findTour_39 rfl) (fun c39 => ?_) (fun c39 => ?_)
    · exact d_retV dX4_findTour_172 rfl
    · refine d_st (fun _ k => zg_iload dX4_findTour_42 rfl (zg_ldc 1000000 dX4_findTour_44 zt_3_87 k)) ?_
      refine d_br (fun _ => zg_icmp_ge 172 dX4_findTour_46 rfl) (fun c46 => ?_) (fun c46 => ?_)
      · exact d_retV dX4_findTour_172 rfl
      · refine d_st (fun _ k => zg_iconst 0 dX4_findTour_49 (by decide) (zg_istore (ls' := [_, _, _, _, _, _, _, _, _]) dX4_findTour_50 (Nat.le_of_ble_eq_true rfl) rfl rfl k)) ?_
        exact d_fg (z_le_s (z_le_s (z_le_0 (z_le_s (z_le_s (z_le_s (z_le_s (z_le_s (z_le_0 z_le_n))))))))) (zd_X4_findTour_52 V h1 d ih 1000 _ _ _ _ _ _)
def f_X4_findTour (p1 : Nat) (a2 : Int32) (S : zS) : Option (Unit × zS) := (f_X4_leastTour 6 p1 a2 (((1 : Int32) <<< ((S.1 57 1) &&& 31)) - 1) 0 S).bind (fun r15 => f_X4_findTour_33 p1 1000 (((1 : Int32) <<< ((S.1 57 1) &&& 31)) - 1) ((z_w r15.2 57 10 r15.1).1 57 10) a2 0 (z_w r15.2 57 10 r15.1))
set_option maxRecDepth 100000 in
set_option maxHeartbeats 4000000 in
theorem zd_X4_findTour (V : zV) {p1 : Nat} (h1 : z_isP p1) (d : Nat) : ∀ (a2 : Int32) (S : zS), z_J zeV V mX4_findTour (d + 9) (f_X4_findTour p1 a2 S) 0 (z_ent mX4_findTour [.ref 57, .ref p1, .int a2]) [] S := by
  intro a2 S
  show z_J zeV V mX4_findTour (d + 9) (f_X4_findTour p1 a2 S) 0 [.ref 57, .ref p1, .int a2, .null, .null, .null, .null, .null, .null] [] S
  unfold f_X4_findTour
  refine d_st (fun _ k => zg_iconst 1 dX4_findTour_0 (by decide) (zg_aload_n dX4_findTour_1 rfl (zs_getI dX4_findTour_2 zf_X4_15 rfl (zq_57 _) (by decide) (by decide) (zg_ishl dX4_findTour_5 (zg_iconst 1 dX4_findTour_6 (by decide) (zg_isub dX4_findTour_7 (zg_istore_n (ls' := [_, _, _, _, _, _, _, _, _]) dX4_findTour_8 (Nat.le_of_ble_eq_true rfl) rfl rfl (zg_aload_n dX4_findTour_9 rfl (zg_aload_n dX4_findTour_10 rfl (zg_aload_n dX4_findTour_11 rfl (zg_iload_n dX4_findTour_12 rfl (zg_iload_n dX4_findTour_13 rfl (zg_iconst 0 dX4_findTour_14 (by decide) k))))))))))))) ?_
  refine d_cSi (As := [_, _, _, _, _]) dX4_findTour_15 zk_X4_153 rfl rfl (Nat.le_of_ble_eq_true rfl) (Nat.le_of_ble_eq_true rfl) rfl (zd_X4_leastTour V h1 d 6 _ _ _ _) (fun r15 _ => ?_)
  refine d_st (fun _ k => zs_putI dX4_findTour_18 zf_X4_44 rfl (zq_57 _) (by decide) (by decide) (zg_aload_n dX4_findTour_21 rfl (zs_getI dX4_findTour_22 zf_X4_44 rfl (zq_57 _) (by decide) (by decide) (zg_istore (ls' := [_, _, _, _, _, _, _, _, _]) dX4_findTour_25 (Nat.le_of_ble_eq_true rfl) rfl rfl (zg_iload_n dX4_findTour_27 rfl (zg_istore (ls' := [_, _, _, _, _, _, _, _, _]) dX4_findTour_28 (Nat.le_of_ble_eq_true rfl) rfl rfl (zg_iconst 0 dX4_findTour_30 (by decide) (zg_istore (ls' := [_, _, _, _, _, _, _, _, _]) dX4_findTour_31 (Nat.le_of_ble_eq_true rfl) rfl rfl k)))))))) ?_
  exact d_fg (z_le_s (z_le_s (z_le_0 (z_le_s (z_le_s (z_le_s (z_le_s (z_le_0 (z_le_0 z_le_n))))))))) (zd_X4_findTour_33 V h1 d 1000 _ _ _ _ _)
def f_X4_look_25 (p1 : Nat) (p2 : Nat) : Nat → Int32 → zS → Option (Unit × zS)
  | 0, _, _ => none
  | n + 1, v3, S => if (S.1 57 1) ≤ v3 then ((f_X4_findTour p1 (S.1 p2 1) S).bind (fun r91 => some ((), (z_w r91.2 57 0 1)))) else (if z_in v3 4 then ((f_X4_leastPairs 6 p1 (S.1 60 v3.toNatClampNeg) 0 S).bind (fun r46 => if z_in v3 4 then (if z_in v3 4 then (if z_in v3 4 then ((f_X4_pairUp p1 ((z_w r46.2 62 v3.toNatClampNeg r46.1).1 60 v3.toNatClampNeg) ((z_w r46.2 62 v3.toNatClampNeg r46.1).1 62 v3.toNatClampNeg) (z_w r46.2 62 v3.toNatClampNeg r46.1)).bind (fun r64 => (f_X4_piecesAhead p1 v3 r64.2).bind (fun r75 => if z_in v3 4 then (f_X4_look_25 p1 p2 n (v3 + 1) (z_w r75.2 63 v3.toNatClampNeg r75.1)) else none))) else none) else none) else none)) else none)
set_option maxRecDepth 100000 in
set_option maxHeartbeats 4000000 in
theorem zd_X4_look_25 (V : zV) {p1 : Nat} {p2 : Nat} (h1 : z_isP p1) (h2 : z_isQ p2) (d : Nat) : ∀ (n : Nat) (v3 : Int32) (S : zS), z_J zeV V mX4_look (d + 10) (f_X4_look_25 p1 p2 n v3 S) 25 [.ref 57, .ref p1, .ref p2, .int v3] [] S := by
  intro n
  induction n with
  | zero =>
    intro v3 S r hr
    cases (show (none : Option (Unit × zS)) = some r from hr)
  | succ n ih =>
    intro v3 S
    rw [f_X4_look_25]
    refine d_st (fun _ k => zg_iload_n dX4_look_25 rfl (zg_aload_n dX4_look_26 rfl (zs_getI dX4_look_27 zf_X4_15 rfl (zq_57 _) (by decide) (by decide) k))) ?_
    refine d_br (fun _ => zg_icmp_ge 85 dX4_look_30 rfl) (fun c30 => ?_) (fun c30 => ?_)
    · refine d_st (fun _ k => zg_aload_n dX4_look_85 rfl (zg_aload_n dX4_look_86 rfl (zg_aload_n dX4_look_87 rfl (zs_getI dX4_look_88 zf_X4_76 rfl (zl_o h2 _).1 (by decide) (by decide) k)))) ?_
      refine d_cVv (As := [_, _]) dX4_look_91 zk_X4_81 (zq_57 _) (by decide) ⟨_, _, rfl⟩ rfl rfl (Nat.le_of_ble_eq_true rfl) (Nat.le_of_ble_eq_true rfl) rfl (zd_X4_findTour V h1 d _ _) (fun r91 _ => ?_)
      refine d_st (fun _ k => zg_aload_n dX4_look_94 rfl (zg_iconst 1 dX4_look_95 (by decide) (zs_putZ dX4_look_96 zf_X4_9 rfl (by decide) (zq_57 _) (by decide) (by decide) k))) ?_
      exact d_retV dX4_look_99 rfl
    · refine d_st (fun _ k => zg_aload_n dX4_look_33 rfl (zs_getR dX4_look_34 zf_X4_32 rfl (zq_57 _) (by decide) (by decide) zr_57_6 (zg_iload_n dX4_look_37 rfl (zg_aload_n dX4_look_38 rfl (zg_aload_n dX4_look_39 rfl (zs_getR dX4_look_40 zf_X4_26 rfl (zq_57 _) (by decide) (by decide) zr_57_4 (zg_iload_n dX4_look_43 rfl k))))))) ?_
      refine d_gd (fun g44 => ?_)
      refine d_st (fun _ k => zs_iald dX4_look_44 (by decide) (zq_60 _) g44 rfl k) ?_
      refine d_st (fun _ k => zg_iconst 0 dX4_look_45 (by decide) k) ?_
      refine d_cSi (As := [_, _, _]) dX4_look_46 zk_X4_64 rfl rfl (Nat.le_of_ble_eq_true rfl) (Nat.le_of_ble_eq_true rfl) rfl (zd_X4_leastPairs V h1 (d + 1) 6 _ _ _) (fun r46 _ => ?_)
      refine d_gd (fun g49 => ?_)
      refine d_st (fun _ k => zs_iast dX4_look_49 (by decide) (zq_62 _) g49 rfl k) ?_
      refine d_st (fun _ k => zg_aload_n dX4_look_50 rfl (zg_aload_n dX4_look_51 rfl (zg_aload_n dX4_look_52 rfl (zs_getR dX4_look_53 zf_X4_26 rfl (zq_57 _) (by decide) (by decide) zr_57_4 (zg_iload_n dX4_look_56 rfl k))))) ?_
      refine d_gd (fun g57 => ?_)
      refine d_st (fun _ k => zs_iald dX4_look_57 (by decide) (zq_60 _) g57 rfl k) ?_
      refine d_st (fun _ k => zg_aload_n dX4_look_58 rfl (zs_getR dX4_look_59 zf_X4_32 rfl (zq_57 _) (by decide) (by decide) zr_57_6 (zg_iload_n dX4_look_62 rfl k))) ?_
      refine d_gd (fun g63 => ?_)
      refine d_st (fun _ k => zs_iald dX4_look_63 (by decide) (zq_62 _) g63 rfl k) ?_
      refine d_cVv (As := [_, _, _]) dX4_look_64 zk_X4_68 (zq_57 _) (by decide) ⟨_, _, rfl⟩ rfl rfl (Nat.le_of_ble_eq_true rfl) (Nat.le_of_ble_eq_true rfl) rfl (zd_X4_pairUp V h1 d _ _ _) (fun r64 _ => ?_)
      refine d_st (fun _ k => zg_aload_n dX4_look_67 rfl (zs_getR dX4_look_68 zf_X4_35 rfl (zq_57 _) (by decide) (by decide) zr_57_7 (zg_iload_n dX4_look_71 rfl (zg_aload_n dX4_look_72 rfl (zg_aload_n dX4_look_73 rfl (zg_iload_n dX4_look_74 rfl k)))))) ?_
      refine d_cVi (As := [_, _]) dX4_look_75 zk_X4_72 (zq_57 _) (by decide) ⟨_, _, rfl⟩ rfl rfl (Nat.le_of_ble_eq_true rfl) (Nat.le_of_ble_eq_true rfl) rfl (zd_X4_piecesAhead V h1 (d + 7) _ _) (fun r75 _ => ?_)
      refine d_gd (fun g78 => ?_)
      refine d_st (fun _ k => zs_iast dX4_look_78 (by decide) (zq_63 _) g78 rfl k) ?_
      refine d_st (fun _ k => zg_iinc (ls' := [_, _, _, _]) 1 dX4_look_79 rfl (by decide) (Nat.le_of_ble_eq_true rfl) rfl rfl (zg_goto 25 dX4_look_82 rfl k)) ?_
      exact d_fg (z_le_s (z_le_s (z_le_s (z_le_s z_le_n)))) (ih _ _)
def f_X4_look (p1 : Nat) (p2 : Nat) (S : zS) : Option (Unit × zS) := if (S.1 57 0) = 0 then ((f_X4_findPieces p1 p2 S).bind (fun r11 => (f_J7_fill_53178 64 9 (-9) r11.2).bind (fun r20 => f_X4_look_25 p1 p2 1000 0 r20.2))) else (some ((), S))
set_option maxRecDepth 100000 in
set_option maxHeartbeats 4000000 in
theorem zd_X4_look (V : zV) {p1 : Nat} {p2 : Nat} (h1 : z_isP p1) (h2 : z_isQ p2) (d : Nat) : ∀ (S : zS), z_J zeV V mX4_look (d + 10) (f_X4_look p1 p2 S) 0 (z_ent mX4_look [.ref 57, .ref p1, .ref p2]) [] S := by
  intro S
  show z_J zeV V mX4_look (d + 10) (f_X4_look p1 p2 S) 0 [.ref 57, .ref p1, .ref p2, .null] [] S
  unfold f_X4_look
  refine d_st (fun _ k => zg_aload_n dX4_look_0 rfl (zs_getI dX4_look_1 zf_X4_9 rfl (zq_57 _) (by decide) (by decide) k)) ?_
  refine d_br (fun _ => zg_if_eq 8 dX4_look_4 rfl) (fun c4 => ?_) (fun c4 => ?_)
  · refine d_st (fun _ k => zg_aload_n dX4_look_8 rfl (zg_aload_n dX4_look_9 rfl (zg_aload_n dX4_look_10 rfl k))) ?_
    refine d_cVv (As := [_, _]) dX4_look_11 zk_X4_54 (zq_57 _) (by decide) ⟨_, _, rfl⟩ rfl rfl (Nat.le_of_ble_eq_true rfl) (Nat.le_of_ble_eq_true rfl) rfl (zd_X4_findPieces V h1 h2 (d + 7) _) (fun r11 _ => ?_)
    refine d_st (fun _ k => zg_aload_n dX4_look_14 rfl (zs_getR dX4_look_15 zf_X4_38 rfl (zq_57 _) (by decide) (by decide) zr_57_8 (zg_bipush (-9) dX4_look_18 (by decide) k))) ?_
    refine d_cSv (As := [_, _]) dX4_look_20 zk_X4_58 rfl rfl (Nat.le_of_ble_eq_true rfl) (Nat.le_of_ble_eq_true rfl) rfl (zd_J7_fill_53178 V ⟨(by decide), fun _ => (zq_64 _)⟩ (d + 9) _ _) (fun r20 _ => ?_)
    refine d_st (fun _ k => zg_iconst 0 dX4_look_23 (by decide) (zg_istore_n (ls' := [_, _, _, _]) dX4_look_24 (Nat.le_of_ble_eq_true rfl) rfl rfl k)) ?_
    exact d_fg (z_le_s (z_le_s (z_le_s (z_le_s z_le_n)))) (zd_X4_look_25 V h1 h2 d 1000 _ _)
  · exact d_retV dX4_look_7 rfl
def f_X8_surveyed (S : zS) : Option (Unit × zS) := if z_isP S.2.1 then ((f_X4_look S.2.1 32 S).bind (fun r12 => some ((), r12.2))) else none
set_option maxRecDepth 100000 in
set_option maxHeartbeats 4000000 in
theorem zd_X8_surveyed (V : zV) (d : Nat) : ∀ (S : zS), z_J zeS V mX8_surveyed (d + 11) (f_X8_surveyed  S) 0 (z_ent mX8_surveyed [.ref 1]) [] S := by
  intro S
  show z_J zeS V mX8_surveyed (d + 11) (f_X8_surveyed  S) 0 [.ref 1] [] S
  unfold f_X8_surveyed
  refine d_st (fun _ k => zg_aload_n dX8_surveyed_0 rfl (zs_getR dX8_surveyed_1 zf_X8_58 rfl (zq_1 _) (by decide) (by decide) zr_1_9 (zg_aload_n dX8_surveyed_4 rfl k))) ?_
  refine d_gd (fun g5 => ?_)
  refine d_st (fun _ k => zs_getR dX8_surveyed_5 zf_X8_20 rfl (zq_1 _) (by decide) (by decide) zr_pl k) ?_
  refine d_st (fun _ k => zg_aload_n dX8_surveyed_8 rfl (zs_getR dX8_surveyed_9 zf_X8_37 rfl (zq_1 _) (by decide) (by decide) zr_1_5 k)) ?_
  refine d_cVv (As := [_, _]) dX8_surveyed_12 zk_X8_265 (zq_57 _) (by decide) ⟨_, _, rfl⟩ rfl rfl (Nat.le_of_ble_eq_true rfl) (Nat.le_of_ble_eq_true rfl) rfl (zd_X4_look V g5 (by decide) d _) (fun r12 _ => ?_)
  refine d_st (fun _ k => zg_aload_n dX8_surveyed_15 rfl (zs_getR dX8_surveyed_16 zf_X8_58 rfl (zq_1 _) (by decide) (by decide) zr_1_9 k)) ?_
  exact d_retS dX8_surveyed_19 rfl
def f_X4_pieceOf_2 : Nat → Int32 → Int32 → zS → Option (Int32 × zS)
  | 0, _, _, _ => none
  | n + 1, v1, v2, S => if (S.1 57 1) ≤ v2 then (some ((-9), S)) else (if z_in v2 4 then ((f_X8_has (S.1 58 v2.toNatClampNeg) v1 S).bind (fun r17 => if r17.1 = 0 then (f_X4_pieceOf_2 n v1 (v2 + 1) r17.2) else (some (v2, r17.2)))) else none)
set_option maxRecDepth 100000 in
set_option maxHeartbeats 4000000 in
theorem zd_X4_pieceOf_2 (V : zV) (d : Nat) : ∀ (n : Nat) (v1 : Int32) (v2 : Int32) (S : zS), z_J zeI V mX4_pieceOf (d + 1) (f_X4_pieceOf_2 n v1 v2 S) 2 [.ref 57, .int v1, .int v2] [] S := by
  intro n
  induction n with
  | zero =>
    intro v1 v2 S r hr
    cases (show (none : Option (Int32 × zS)) = some r from hr)
  | succ n ih =>
    intro v1 v2 S
    rw [f_X4_pieceOf_2]
    refine d_st (fun _ k => zg_iload_n dX4_pieceOf_2 rfl (zg_aload_n dX4_pieceOf_3 rfl (zs_getI dX4_pieceOf_4 zf_X4_15 rfl (zq_57 _) (by decide) (by decide) k))) ?_
    refine d_br (fun _ => zg_icmp_ge 31 dX4_pieceOf_7 rfl) (fun c7 => ?_) (fun c7 => ?_)
    · refine d_st (fun _ k => zg_bipush (-9) dX4_pieceOf_31 (by decide) k) ?_
      exact d_retI dX4_pieceOf_33 rfl
    · refine d_st (fun _ k => zg_aload_n dX4_pieceOf_10 rfl (zs_getR dX4_pieceOf_11 zf_X4_19 rfl (zq_57 _) (by decide) (by decide) zr_57_2 (zg_iload_n dX4_pieceOf_14 rfl k))) ?_
      refine d_gd (fun g15 => ?_)
      refine d_st (fun _ k => zs_iald dX4_pieceOf_15 (by decide) (zq_58 _) g15 rfl k) ?_
      refine d_st (fun _ k => zg_iload_n dX4_pieceOf_16 rfl k) ?_
      refine d_cTi (As := [_, _]) dX4_pieceOf_17 zk_X4_95 rfl rfl (Nat.le_of_ble_eq_true rfl) (Nat.le_of_ble_eq_true rfl) rfl (zd_X8_has V d _ _ _) (fun r17 _ => ?_)
      refine d_br (fun _ => zg_if_eq 25 dX4_pieceOf_20 rfl) (fun c20 => ?_) (fun c20 => ?_)
      · refine d_st (fun _ k => zg_iinc (ls' := [_, _, _]) 1 dX4_pieceOf_25 rfl (by decide) (Nat.le_of_ble_eq_true rfl) rfl rfl (zg_goto 2 dX4_pieceOf_28 rfl k)) ?_
        exact d_fg (z_le_s (z_le_s (z_le_s z_le_n))) (ih _ _ _)
      · refine d_st (fun _ k => zg_iload_n dX4_pieceOf_23 rfl k) ?_
        exact d_retI dX4_pieceOf_24 rfl
def f_X4_pieceOf (a1 : Int32) (S : zS) : Option (Int32 × zS) := f_X4_pieceOf_2 1000 a1 0 S
set_option maxRecDepth 100000 in
set_option maxHeartbeats 4000000 in
theorem zd_X4_pieceOf (V : zV) (d : Nat) : ∀ (a1 : Int32) (S : zS), z_J zeI V mX4_pieceOf (d + 1) (f_X4_pieceOf a1 S) 0 (z_ent mX4_pieceOf [.ref 57, .int a1]) [] S := by
  intro a1 S
  show z_J zeI V mX4_pieceOf (d + 1) (f_X4_pieceOf a1 S) 0 [.ref 57, .int a1, .null] [] S
  unfold f_X4_pieceOf
  refine d_st (fun _ k => zg_iconst 0 dX4_pieceOf_0 (by decide) (zg_istore_n (ls' := [_, _, _]) dX4_pieceOf_1 (Nat.le_of_ble_eq_true rfl) rfl rfl k)) ?_
  exact d_fg (z_le_s (z_le_s (z_le_s z_le_n))) (zd_X4_pieceOf_2 V d 1000 _ _ _)
def f_X8_cut (a1 : Int32) (a2 : Int32) (S : zS) : Option (Int32 × zS) := if a1 < 0 then (some ((-1), S)) else (if z_isP S.2.1 then (if a1 < (S.1 S.2.1 4) then (if a2 = 0 then (if z_isP S.2.1 then (if z_in a1 14 then (some (S.1 (S.2.1 + 4) a1.toNatClampNeg, S)) else none) else none) else (if a2 = 1 then (if z_isP S.2.1 then (if z_in a1 14 then (some (S.1 (S.2.1 + 5) a1.toNatClampNeg, S)) else none) else none) else (if a2 = 2 then ((f_X8_has (S.1 32 0) a1 S).bind (fun r80 => if r80.1 = 0 then (some (0, r80.2)) else (some (1, r80.2)))) else (if a2 = 3 then ((f_X8_surveyed  S).bind (fun r93 => (f_X4_pieceOf a1 r93.2).bind (fun r97 => some (r97.1, r97.2)))) else (if a2 = 4 then (if z_isP S.2.1 then (if z_isP S.2.1 then (if z_in a1 14 then (if z_isP S.2.1 then (if z_in a1 14 then ((f_X1_way S.2.1 (S.1 (S.2.1 + 4) a1.toNatClampNeg) (S.1 (S.2.1 + 5) a1.toNatClampNeg) S).bind (fun r123 => some (r123.1, r123.2))) else none) else none) else none) else none) else none) else (some ((-1), S))))))) else (some ((-1), S))) else none)
set_option maxRecDepth 100000 in
set_option maxHeartbeats 4000000 in
theorem zd_X8_cut (V : zV) (d : Nat) : ∀ (a1 : Int32) (a2 : Int32) (S : zS), z_J zeI V mX8_cut (d + 12) (f_X8_cut a1 a2 S) 0 (z_ent mX8_cut [.ref 1, .int a1, .int a2]) [] S := by
  intro a1 a2 S
  show z_J zeI V mX8_cut (d + 12) (f_X8_cut a1 a2 S) 0 [.ref 1, .int a1, .int a2] [] S
  unfold f_X8_cut
  refine d_st (fun _ k => zg_iload_n dX8_cut_0 rfl k) ?_
  refine d_br (fun _ => zg_if_lt 15 dX8_cut_1 rfl) (fun c1 => ?_) (fun c1 => ?_)
  · refine d_st (fun _ k => zg_iconst (-1) dX8_cut_15 (by decide) k) ?_
    exact d_retI dX8_cut_16 rfl
  · refine d_st (fun _ k => zg_iload_n dX8_cut_4 rfl (zg_aload_n dX8_cut_5 rfl k)) ?_
    refine d_gd (fun g6 => ?_)
    refine d_st (fun _ k => zs_getR dX8_cut_6 zf_X8_20 rfl (zq_1 _) (by decide) (by decide) zr_pl k) ?_
    refine d_st (fun _ k => zs_getI dX8_cut_9 zf_X8_114 rfl (zp_o g6 _) (by decide) (by decide) k) ?_
    refine d_br (fun _ => zg_icmp_lt 17 dX8_cut_12 rfl) (fun c12 => ?_) (fun c12 => ?_)
    · refine d_st (fun _ k => zg_iload_n dX8_cut_17 rfl k) ?_
      refine d_if (fun s18_0 => ?_) (fun s18_0 => ?_)
      · refine d_st (fun _ k => zg_tableIn 52 dX8_cut_18 (by rw [s18_0]; decide) (by rw [s18_0]; decide) (by rw [s18_0]; rfl) rfl k) ?_
        refine d_st (fun _ k => zg_aload_n dX8_cut_52 rfl k) ?_
        refine d_gd (fun g53 => ?_)
        refine d_st (fun _ k => zs_getR dX8_cut_53 zf_X8_20 rfl (zq_1 _) (by decide) (by decide) zr_pl k) ?_
        refine d_st (fun _ k => zs_getR dX8_cut_56 zf_X8_117 rfl (zp_o g53 _) (by decide) (by decide) (zp_r5 g53) (zg_iload_n dX8_cut_59 rfl k)) ?_
        refine d_gd (fun g60 => ?_)
        refine d_st (fun _ k => zs_iald dX8_cut_60 (zp_p4 g53) (zp_4 g53 _) g60 rfl k) ?_
        exact d_retI dX8_cut_61 rfl
      refine d_if (fun s18_1 => ?_) (fun s18_1 => ?_)
      · refine d_st (fun _ k => zg_tableIn 62 dX8_cut_18 (by rw [s18_1]; decide) (by rw [s18_1]; decide) (by rw [s18_1]; rfl) rfl k) ?_
        refine d_st (fun _ k => zg_aload_n dX8_cut_62 rfl k) ?_
        refine d_gd (fun g63 => ?_)
        refine d_st (fun _ k => zs_getR dX8_cut_63 zf_X8_20 rfl (zq_1 _) (by decide) (by decide) zr_pl k) ?_
        refine d_st (fun _ k => zs_getR dX8_cut_66 zf_X8_120 rfl (zp_o g63 _) (by decide) (by decide) (zp_r6 g63) (zg_iload_n dX8_cut_69 rfl k)) ?_
        refine d_gd (fun g70 => ?_)
        refine d_st (fun _ k => zs_iald dX8_cut_70 (zp_p5 g63) (zp_5 g63 _) g70 rfl k) ?_
        exact d_retI dX8_cut_71 rfl
      refine d_if (fun s18_2 => ?_) (fun s18_2 => ?_)
      · refine d_st (fun _ k => zg_tableIn 72 dX8_cut_18 (by rw [s18_2]; decide) (by rw [s18_2]; decide) (by rw [s18_2]; rfl) rfl k) ?_
        refine d_st (fun _ k => zg_aload_n dX8_cut_72 rfl (zs_getR dX8_cut_73 zf_X8_37 rfl (zq_1 _) (by decide) (by decide) zr_1_5 (zs_getI dX8_cut_76 zf_X8_104 rfl (zq_32 _) (by decide) (by decide) (zg_iload_n dX8_cut_79 rfl k)))) ?_
        refine d_cSi (As := [_, _]) dX8_cut_80 zk_X8_123 rfl rfl (Nat.le_of_ble_eq_true rfl) (Nat.le_of_ble_eq_true rfl) rfl (zd_X8_has V (d + 11) _ _ _) (fun r80 _ => ?_)
        refine d_br (fun _ => zg_if_eq 90 dX8_cut_83 rfl) (fun c83 => ?_) (fun c83 => ?_)
        · refine d_st (fun _ k => zg_iconst 0 dX8_cut_90 (by decide) k) ?_
          exact d_retI dX8_cut_91 rfl
        · refine d_st (fun _ k => zg_iconst 1 dX8_cut_86 (by decide) (zg_goto 91 dX8_cut_87 rfl k)) ?_
          exact d_retI dX8_cut_91 rfl
      refine d_if (fun s18_3 => ?_) (fun s18_3 => ?_)
      · refine d_st (fun _ k => zg_tableIn 92 dX8_cut_18 (by rw [s18_3]; decide) (by rw [s18_3]; decide) (by rw [s18_3]; rfl) rfl k) ?_
        refine d_st (fun _ k => zg_aload_n dX8_cut_92 rfl k) ?_
        refine d_cVs (As := []) dX8_cut_93 zk_X8_127 (zq_1 _) (by decide) ⟨_, _, rfl⟩ rfl rfl (Nat.le_of_ble_eq_true rfl) (Nat.le_of_ble_eq_true rfl) rfl (zd_X8_surveyed V d _) (fun r93 _ => ?_)
        refine d_st (fun _ k => zg_iload_n dX8_cut_96 rfl k) ?_
        refine d_cVi (As := [_]) dX8_cut_97 zk_X8_131 (zq_57 _) (by decide) ⟨_, _, rfl⟩ rfl rfl (Nat.le_of_ble_eq_true rfl) (Nat.le_of_ble_eq_true rfl) rfl (zd_X4_pieceOf V (d + 10) _ _) (fun r97 _ => ?_)
        exact d_retI dX8_cut_100 rfl
      refine d_if (fun s18_4 => ?_) (fun s18_4 => ?_)
      · refine d_st (fun _ k => zg_tableIn 101 dX8_cut_18 (by rw [s18_4]; decide) (by rw [s18_4]; decide) (by rw [s18_4]; rfl) rfl k) ?_
        refine d_st (fun _ k => zg_aload_n dX8_cut_101 rfl k) ?_
        refine d_gd (fun g102 => ?_)
        refine d_st (fun _ k => zs_getR dX8_cut_102 zf_X8_20 rfl (zq_1 _) (by decide) (by decide) zr_pl k) ?_
        refine d_st (fun _ k => zg_aload_n dX8_cut_105 rfl k) ?_
        refine d_gd (fun g106 => ?_)
        refine d_st (fun _ k => zs_getR dX8_cut_106 zf_X8_20 rfl (zq_1 _) (by decide) (by decide) zr_pl k) ?_
        refine d_st (fun _ k => zs_getR dX8_cut_109 zf_X8_117 rfl (zp_o g106 _) (by decide) (by decide) (zp_r5 g106) (zg_iload_n dX8_cut_112 rfl k)) ?_
        refine d_gd (fun g113 => ?_)
        refine d_st (fun _ k => zs_iald dX8_cut_113 (zp_p4 g106) (zp_4 g106 _) g113 rfl k) ?_
        refine d_st (fun _ k => zg_aload_n dX8_cut_114 rfl k) ?_
        refine d_gd (fun g115 => ?_)
        refine d_st (fun _ k => zs_getR dX8_cut_115 zf_X8_20 rfl (zq_1 _) (by decide) (by decide) zr_pl k) ?_
        refine d_st (fun _ k => zs_getR dX8_cut_118 zf_X8_120 rfl (zp_o g115 _) (by decide) (by decide) (zp_r6 g115) (zg_iload_n dX8_cut_121 rfl k)) ?_
        refine d_gd (fun g122 => ?_)
        refine d_st (fun _ k => zs_iald dX8_cut_122 (zp_p5 g115) (zp_5 g115 _) g122 rfl k) ?_
        refine d_cVi (As := [_, _]) dX8_cut_123 zk_X8_135 (zp_o g102 _) (by decide) ⟨_, _, rfl⟩ rfl rfl (Nat.le_of_ble_eq_true rfl) (Nat.le_of_ble_eq_true rfl) rfl (zd_X1_way V g102 (d + 10) _ _ _) (fun r123 _ => ?_)
        exact d_retI dX8_cut_126 rfl
      refine d_st (fun _ k => zg_tableOut 127 dX8_cut_18 (z_tb4 s18_0 s18_1 s18_2 s18_3 s18_4) rfl k) ?_
      refine d_st (fun _ k => zg_iconst (-1) dX8_cut_127 (by decide) k) ?_
      exact d_retI dX8_cut_128 rfl
    · refine d_st (fun _ k => zg_iconst (-1) dX8_cut_15 (by decide) k) ?_
      exact d_retI dX8_cut_16 rfl
def f_X9_roots_105 (K23 : Int32 → Int32 → zS → Option (Unit × zS)) (K31 : Int32 → Int32 → Int32 → zS → Option (Unit × zS)) (v1 : Int32) (v2 : Int32) (v3 : Int32) (v4 : Int32) (v5 : Int32) (t0 : Int32) (S : zS) : Option (Unit × zS) := if z_in v4 9 then (if z_in v5 9 then (K31 v1 v2 (v3 + 1) (z_w (z_w S 99 v4.toNatClampNeg t0) 99 v5.toNatClampNeg t0)) else none) else none
set_option maxRecDepth 100000 in
set_option maxHeartbeats 4000000 in
theorem zd_X9_roots_105 (V : zV) (d : Nat) {K23 : Int32 → Int32 → zS → Option (Unit × zS)} (hK23 : ∀ (v1 : Int32) (v2 : Int32) (S : zS), z_J zeV V mX9_roots (d + 1) (K23 v1 v2 S) 23 [.ref 87, .int v1, .int v2, .null, .null, .null, .null] [] S) {K31 : Int32 → Int32 → Int32 → zS → Option (Unit × zS)} (hK31 : ∀ (v1 : Int32) (v2 : Int32) (v3 : Int32) (S : zS), z_J zeV V mX9_roots (d + 1) (K31 v1 v2 v3 S) 31 [.ref 87, .int v1, .int v2, .int v3, .null, .null, .null] [] S) : ∀ (v1 : Int32) (v2 : Int32) (v3 : Int32) (v4 : Int32) (v5 : Int32) (t0 : Int32) (S : zS), z_J zeV V mX9_roots (d + 1) (f_X9_roots_105 K23 K31 v1 v2 v3 v4 v5 t0 S) 105 [.ref 87, .int v1, .int v2, .int v3, .int v4, .int v5, .null] [.int t0] S := by
  intro v1 v2 v3 v4 v5 t0 S
  unfold f_X9_roots_105
  refine d_st (fun _ k => zg_istore (ls' := [_, _, _, _, _, _, _]) dX9_roots_105 (Nat.le_of_ble_eq_true rfl) rfl rfl (zg_aload_n dX9_roots_107 rfl (zs_getR dX9_roots_108 zf_X9_44 rfl (zq_87 _) (by decide) (by decide) zr_87_21 (zg_iload dX9_roots_111 rfl (zg_iload dX9_roots_113 rfl k))))) ?_
  refine d_gd (fun g115 => ?_)
  refine d_st (fun _ k => zs_iast dX9_roots_115 (by decide) (zq_99 _) g115 rfl k) ?_
  refine d_st (fun _ k => zg_aload_n dX9_roots_116 rfl (zs_getR dX9_roots_117 zf_X9_44 rfl (zq_87 _) (by decide) (by decide) zr_87_21 (zg_iload dX9_roots_120 rfl (zg_iload dX9_roots_122 rfl k)))) ?_
  refine d_gd (fun g124 => ?_)
  refine d_st (fun _ k => zs_iast dX9_roots_124 (by decide) (zq_99 _) g124 rfl k) ?_
  refine d_st (fun _ k => zg_iinc (ls' := [_, _, _, _, _, _, _]) 1 dX9_roots_125 rfl (by decide) (Nat.le_of_ble_eq_true rfl) rfl rfl (zg_goto 31 dX9_roots_128 rfl k)) ?_
  exact d_fg (z_le_s (z_le_s (z_le_s (z_le_s (z_le_0 (z_le_0 (z_le_0 z_le_n))))))) (hK31 _ _ _ _)
def f_X9_roots_31 (K23 : Int32 → Int32 → zS → Option (Unit × zS)) : Nat → Int32 → Int32 → Int32 → zS → Option (Unit × zS)
  | 0, _, _, _, _ => none
  | n + 1, v1, v2, v3, S => if (S.1 89 1) ≤ v3 then (K23 v1 (v2 + 1) S) else ((f_X9_has v1 v3 S).bind (fun r43 => if r43.1 = 0 then (f_X9_roots_31 K23 n v1 v2 (v3 + 1) r43.2) else (if z_in (22 + v3) 74 then (if z_in (36 + v3) 74 then (if z_in (r43.2.1 89 (22 + v3).toNatClampNeg) 9 then (if z_in (r43.2.1 89 (36 + v3).toNatClampNeg) 9 then (if (r43.2.1 99 (r43.2.1 89 (36 + v3).toNatClampNeg).toNatClampNeg) ≤ (r43.2.1 99 (r43.2.1 89 (22 + v3).toNatClampNeg).toNatClampNeg) then (if z_in (r43.2.1 89 (36 + v3).toNatClampNeg) 9 then (f_X9_roots_105 K23 (f_X9_roots_31 K23 n) v1 v2 v3 (r43.2.1 89 (22 + v3).toNatClampNeg) (r43.2.1 89 (36 + v3).toNatClampNeg) (r43.2.1 99 (r43.2.1 89 (36 + v3).toNatClampNeg).toNatClampNeg) r43.2) else none) else (if z_in (r43.2.1 89 (22 + v3).toNatClampNeg) 9 then (f_X9_roots_105 K23 (f_X9_roots_31 K23 n) v1 v2 v3 (r43.2.1 89 (22 + v3).toNatClampNeg) (r43.2.1 89 (36 + v3).toNatClampNeg) (r43.2.1 99 (r43.2.1 89 (22 + v3).toNatClampNeg).toNatClampNeg) r43.2) else none)) else none) else none) else none) else none)))
set_option maxRecDepth 100000 in
set_option maxHeartbeats 4000000 in
theorem zd_X9_roots_31 (V : zV) (d : Nat) {K23 : Int32 → Int32 → zS → Option (Unit × zS)} (hK23 : ∀ (v1 : Int32) (v2 : Int32) (S : zS), z_J zeV V mX9_roots (d + 1) (K23 v1 v2 S) 23 [.ref 87, .int v1, .int v2, .null, .null, .null, .null] [] S) : ∀ (n : Nat) (v1 : Int32) (v2 : Int32) (v3 : Int32) (S : zS), z_J zeV V mX9_roots (d + 1) (f_X9_roots_31 K23 n v1 v2 v3 S) 31 [.ref 87, .int v1, .int v2, .int v3, .null, .null, .null] [] S := by
  intro n
  induction n with
  | zero =>
    intro v1 v2 v3 S r hr
    cases (show (none : Option (Unit × zS)) = some r from hr)
  | succ n ih =>
    intro v1 v2 v3 S
    rw [f_X9_roots_31]
    refine d_st (fun _ k => zg_iload_n dX9_roots_31 rfl (zg_aload_n dX9_roots_32 rfl (zs_getR dX9_roots_33 zf_X9_13 rfl (zq_87 _) (by decide) (by decide) zr_87_9 (zg_iconst 1 dX9_roots_36 (by decide) (zs_iald (j := 1) dX9_roots_37 (by decide) (zq_89 _) (by decide) (by decide) k))))) ?_
    refine d_br (fun _ => zg_icmp_ge 131 dX9_roots_38 rfl) (fun c38 => ?_) (fun c38 => ?_)
    · refine d_st (fun _ k => zg_iinc (ls' := [_, _, _, _, _, _, _]) 1 dX9_roots_131 rfl (by decide) (Nat.le_of_ble_eq_true rfl) rfl rfl (zg_goto 23 dX9_roots_134 rfl k)) ?_
      exact d_fg (z_le_s (z_le_s (z_le_s (z_le_0 (z_le_0 (z_le_0 (z_le_0 z_le_n))))))) (hK23 _ _ _)
    · refine d_st (fun _ k => zg_iload_n dX9_roots_41 rfl (zg_iload_n dX9_roots_42 rfl k)) ?_
      refine d_cSi (As := [_, _]) dX9_roots_43 zk_X9_84 rfl rfl (Nat.le_of_ble_eq_true rfl) (Nat.le_of_ble_eq_true rfl) rfl (zd_X9_has V d _ _ _) (fun r43 _ => ?_)
      refine d_br (fun _ => zg_if_eq 125 dX9_roots_46 rfl) (fun c46 => ?_) (fun c46 => ?_)
      · refine d_st (fun _ k => zg_iinc (ls' := [_, _, _, _, _, _, _]) 1 dX9_roots_125 rfl (by decide) (Nat.le_of_ble_eq_true rfl) rfl rfl (zg_goto 31 dX9_roots_128 rfl k)) ?_
        exact d_fg (z_le_s (z_le_s (z_le_s (z_le_s (z_le_0 (z_le_0 (z_le_0 z_le_n))))))) (ih _ _ _ _)
      · refine d_st (fun _ k => zg_aload_n dX9_roots_49 rfl (zs_getR dX9_roots_50 zf_X9_13 rfl (zq_87 _) (by decide) (by decide) zr_87_9 (zg_bipush 22 dX9_roots_53 (by decide) (zg_iload_n dX9_roots_55 rfl (zg_iadd dX9_roots_56 k))))) ?_
        refine d_gd (fun g57 => ?_)
        refine d_st (fun _ k => zs_iald dX9_roots_57 (by decide) (zq_89 _) g57 rfl k) ?_
        refine d_st (fun _ k => zg_istore (ls' := [_, _, _, _, _, _, _]) dX9_roots_58 (Nat.le_of_ble_eq_true rfl) rfl rfl (zg_aload_n dX9_roots_60 rfl (zs_getR dX9_roots_61 zf_X9_13 rfl (zq_87 _) (by decide) (by decide) zr_87_9 (zg_bipush 36 dX9_roots_64 (by decide) (zg_iload_n dX9_roots_66 rfl (zg_iadd dX9_roots_67 k)))))) ?_
        refine d_gd (fun g68 => ?_)
        refine d_st (fun _ k => zs_iald dX9_roots_68 (by decide) (zq_89 _) g68 rfl k) ?_
        refine d_st (fun _ k => zg_istore (ls' := [_, _, _, _, _, _, _]) dX9_roots_69 (Nat.le_of_ble_eq_true rfl) rfl rfl (zg_aload_n dX9_roots_71 rfl (zs_getR dX9_roots_72 zf_X9_44 rfl (zq_87 _) (by decide) (by decide) zr_87_21 (zg_iload dX9_roots_75 rfl k)))) ?_
        refine d_gd (fun g77 => ?_)
        refine d_st (fun _ k => zs_iald dX9_roots_77 (by decide) (zq_99 _) g77 rfl k) ?_
        refine d_st (fun _ k => zg_aload_n dX9_roots_78 rfl (zs_getR dX9_roots_79 zf_X9_44 rfl (zq_87 _) (by decide) (by decide) zr_87_21 (zg_iload dX9_roots_82 rfl k))) ?_
        refine d_gd (fun g84 => ?_)
        refine d_st (fun _ k => zs_iald dX9_roots_84 (by decide) (zq_99 _) g84 rfl k) ?_
        refine d_br (fun _ => zg_icmp_ge 98 dX9_roots_85 rfl) (fun c85 => ?_) (fun c85 => ?_)
        · refine d_st (fun _ k => zg_aload_n dX9_roots_98 rfl (zs_getR dX9_roots_99 zf_X9_44 rfl (zq_87 _) (by decide) (by decide) zr_87_21 (zg_iload dX9_roots_102 rfl k))) ?_
          refine d_gd (fun g104 => ?_)
          refine d_st (fun _ k => zs_iald dX9_roots_104 (by decide) (zq_99 _) g104 rfl k) ?_
          exact d_fg (z_le_s (z_le_s (z_le_s (z_le_s (z_le_s (z_le_s (z_le_0 z_le_n))))))) (zd_X9_roots_105 V d hK23 ih _ _ _ _ _ _ _)
        · refine d_st (fun _ k => zg_aload_n dX9_roots_88 rfl (zs_getR dX9_roots_89 zf_X9_44 rfl (zq_87 _) (by decide) (by decide) zr_87_21 (zg_iload dX9_roots_92 rfl k))) ?_
          refine d_gd (fun g94 => ?_)
          refine d_st (fun _ k => zs_iald dX9_roots_94 (by decide) (zq_99 _) g94 rfl k) ?_
          refine d_st (fun _ k => zg_goto 105 dX9_roots_95 rfl k) ?_
          exact d_fg (z_le_s (z_le_s (z_le_s (z_le_s (z_le_s (z_le_s (z_le_0 z_le_n))))))) (zd_X9_roots_105 V d hK23 ih _ _ _ _ _ _ _)
def f_X9_roots_23 : Nat → Int32 → Int32 → zS → Option (Unit × zS)
  | 0, _, _, _ => none
  | n + 1, v1, v2, S => if 9 ≤ v2 then (some ((), S)) else (f_X9_roots_31 (f_X9_roots_23 n) 1000 v1 v2 0 S)
set_option maxRecDepth 100000 in
set_option maxHeartbeats 4000000 in
theorem zd_X9_roots_23 (V : zV) (d : Nat) : ∀ (n : Nat) (v1 : Int32) (v2 : Int32) (S : zS), z_J zeV V mX9_roots (d + 1) (f_X9_roots_23 n v1 v2 S) 23 [.ref 87, .int v1, .int v2, .null, .null, .null, .null] [] S := by
  intro n
  induction n with
  | zero =>
    intro v1 v2 S r hr
    cases (show (none : Option (Unit × zS)) = some r from hr)
  | succ n ih =>
    intro v1 v2 S
    rw [f_X9_roots_23]
    refine d_st (fun _ k => zg_iload_n dX9_roots_23 rfl (zg_bipush 9 dX9_roots_24 (by decide) k)) ?_
    refine d_br (fun _ => zg_icmp_ge 137 dX9_roots_26 rfl) (fun c26 => ?_) (fun c26 => ?_)
    · exact d_retV dX9_roots_137 rfl
    · refine d_st (fun _ k => zg_iconst 0 dX9_roots_29 (by decide) (zg_istore_n (ls' := [_, _, _, _, _, _, _]) dX9_roots_30 (Nat.le_of_ble_eq_true rfl) rfl rfl k)) ?_
      exact d_fg (z_le_s (z_le_s (z_le_s (z_le_s (z_le_0 (z_le_0 (z_le_0 z_le_n))))))) (zd_X9_roots_31 V d ih 1000 _ _ _ _)
def f_X9_roots_2 : Nat → Int32 → Int32 → zS → Option (Unit × zS)
  | 0, _, _, _ => none
  | n + 1, v1, v2, S => if 9 ≤ v2 then (f_X9_roots_23 1000 v1 0 S) else (if z_in v2 9 then (f_X9_roots_2 n v1 (v2 + 1) (z_w S 99 v2.toNatClampNeg v2)) else none)
set_option maxRecDepth 100000 in
set_option maxHeartbeats 4000000 in
theorem zd_X9_roots_2 (V : zV) (d : Nat) : ∀ (n : Nat) (v1 : Int32) (v2 : Int32) (S : zS), z_J zeV V mX9_roots (d + 1) (f_X9_roots_2 n v1 v2 S) 2 [.ref 87, .int v1, .int v2, .null, .null, .null, .null] [] S := by
  intro n
  induction n with
  | zero =>
    intro v1 v2 S r hr
    cases (show (none : Option (Unit × zS)) = some r from hr)
  | succ n ih =>
    intro v1 v2 S
    rw [f_X9_roots_2]
    refine d_st (fun _ k => zg_iload_n dX9_roots_2 rfl (zg_bipush 9 dX9_roots_3 (by decide) k)) ?_
    refine d_br (fun _ => zg_icmp_ge 21 dX9_roots_5 rfl) (fun c5 => ?_) (fun c5 => ?_)
    · refine d_st (fun _ k => zg_iconst 0 dX9_roots_21 (by decide) (zg_istore_n (ls' := [_, _, _, _, _, _, _]) dX9_roots_22 (Nat.le_of_ble_eq_true rfl) rfl rfl k)) ?_
      exact d_fg (z_le_s (z_le_s (z_le_s (z_le_0 (z_le_0 (z_le_0 (z_le_0 z_le_n))))))) (zd_X9_roots_23 V d 1000 _ _ _)
    · refine d_st (fun _ k => zg_aload_n dX9_roots_8 rfl (zs_getR dX9_roots_9 zf_X9_44 rfl (zq_87 _) (by decide) (by decide) zr_87_21 (zg_iload_n dX9_roots_12 rfl (zg_iload_n dX9_roots_13 rfl k)))) ?_
      refine d_gd (fun g14 => ?_)
      refine d_st (fun _ k => zs_iast dX9_roots_14 (by decide) (zq_99 _) g14 rfl k) ?_
      refine d_st (fun _ k => zg_iinc (ls' := [_, _, _, _, _, _, _]) 1 dX9_roots_15 rfl (by decide) (Nat.le_of_ble_eq_true rfl) rfl rfl (zg_goto 2 dX9_roots_18 rfl k)) ?_
      exact d_fg (z_le_s (z_le_s (z_le_s (z_le_0 (z_le_0 (z_le_0 (z_le_0 z_le_n))))))) (ih _ _ _)
def f_X9_roots (a1 : Int32) (S : zS) : Option (Unit × zS) := f_X9_roots_2 1000 a1 0 S
set_option maxRecDepth 100000 in
set_option maxHeartbeats 4000000 in
theorem zd_X9_roots (V : zV) (d : Nat) : ∀ (a1 : Int32) (S : zS), z_J zeV V mX9_roots (d + 1) (f_X9_roots a1 S) 0 (z_ent mX9_roots [.ref 87, .int a1]) [] S := by
  intro a1 S
  show z_J zeV V mX9_roots (d + 1) (f_X9_roots a1 S) 0 [.ref 87, .int a1, .null, .null, .null, .null, .null] [] S
  unfold f_X9_roots
  refine d_st (fun _ k => zg_iconst 0 dX9_roots_0 (by decide) (zg_istore_n (ls' := [_, _, _, _, _, _, _]) dX9_roots_1 (Nat.le_of_ble_eq_true rfl) rfl rfl k)) ?_
  exact d_fg (z_le_s (z_le_s (z_le_s (z_le_0 (z_le_0 (z_le_0 (z_le_0 z_le_n))))))) (zd_X9_roots_2 V d 1000 _ _ _)
