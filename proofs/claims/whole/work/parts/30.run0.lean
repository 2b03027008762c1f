def f_X8_type (a1 : Int32) (S : zS) : Option (Int32 × zS) := if a1 < 0 then (some ((-1), S)) else (if a1 ≤ 255 then (if (S.1 1 1) < 0 then (some ((-3), S)) else (if (S.1 1 1) < 110 then (if z_in (S.1 1 1) 110 then (some ((z_w (z_w S 2 ((S.1 1 1).toNatClampNeg) a1) 1 1 (((z_w S 2 ((S.1 1 1).toNatClampNeg) a1).1 1 1) + 1)).1 1 1, (z_w (z_w S 2 ((S.1 1 1).toNatClampNeg) a1) 1 1 (((z_w S 2 ((S.1 1 1).toNatClampNeg) a1).1 1 1) + 1)))) else none) else (some ((-3), S)))) else (some ((-1), S)))
set_option maxRecDepth 100000 in
set_option maxHeartbeats 4000000 in
theorem zd_X8_type (V : zV) (d : Nat) : ∀ (a1 : Int32) (S : zS), z_J zeI V mX8_type (d) (f_X8_type a1 S) 0 (z_ent mX8_type [.ref 1, .int a1]) [] S := by
  intro a1 S
  show z_J zeI V mX8_type (d) (f_X8_type a1 S) 0 [.ref 1, .int a1] [] S
  unfold f_X8_type
  refine d_st (fun _ k => zg_iload_n dX8_type_0 rfl k) ?_
  refine d_br (fun _ => zg_if_lt 11 dX8_type_1 rfl) (fun c1 => ?_) (fun c1 => ?_)
  · refine d_st (fun _ k => zg_iconst (-1) dX8_type_11 (by decide) k) ?_
    exact d_retI dX8_type_12 rfl
  · refine d_st (fun _ k => zg_iload_n dX8_type_4 rfl (zg_sipush 255 dX8_type_5 (by decide) k)) ?_
    refine d_br (fun _ => zg_icmp_le 13 dX8_type_8 rfl) (fun c8 => ?_) (fun c8 => ?_)
    · refine d_st (fun _ k => zg_aload_n dX8_type_13 rfl (zs_getI dX8_type_14 zf_X8_13 rfl (zq_1 _) (by decide) (by decide) k)) ?_
      refine d_br (fun _ => zg_if_lt 29 dX8_type_17 rfl) (fun c17 => ?_) (fun c17 => ?_)
      · refine d_st (fun _ k => zg_bipush (-3) dX8_type_29 (by decide) k) ?_
        exact d_retI dX8_type_31 rfl
      · refine d_st (fun _ k => zg_aload_n dX8_type_20 rfl (zs_getI dX8_type_21 zf_X8_13 rfl (zq_1 _) (by decide) (by decide) (zg_bipush 110 dX8_type_24 (by decide) k))) ?_
        refine d_br (fun _ => zg_icmp_lt 32 dX8_type_26 rfl) (fun c26 => ?_) (fun c26 => ?_)
        · refine d_st (fun _ k => zg_aload_n dX8_type_32 rfl (zs_getR dX8_type_33 zf_X8_9 rfl (zq_1 _) (by decide) (by decide) zr_1_0 (zg_aload_n dX8_type_36 rfl (zs_getI dX8_type_37 zf_X8_13 rfl (zq_1 _) (by decide) (by decide) (zg_iload_n dX8_type_40 rfl k))))) ?_
          refine d_gd (fun g41 => ?_)
          refine d_st (fun _ k => zs_iast dX8_type_41 (by decide) (zq_2 _) g41 rfl k) ?_
          refine d_st (fun _ k => zg_aload_n dX8_type_42 rfl (zg_dupr dX8_type_43 (zs_getI dX8_type_44 zf_X8_13 rfl (zq_1 _) (by decide) (by decide) (zg_iconst 1 dX8_type_47 (by decide) (zg_iadd dX8_type_48 (zs_putI dX8_type_49 zf_X8_13 rfl (zq_1 _) (by decide) (by decide) (zg_aload_n dX8_type_52 rfl (zs_getI dX8_type_53 zf_X8_13 rfl (zq_1 _) (by decide) (by decide) k)))))))) ?_
          exact d_retI dX8_type_56 rfl
        · refine d_st (fun _ k => zg_bipush (-3) dX8_type_29 (by decide) k) ?_
          exact d_retI dX8_type_31 rfl
    · refine d_st (fun _ k => zg_iconst (-1) dX8_type_11 (by decide) k) ?_
      exact d_retI dX8_type_12 rfl
def f_X9_in (a0 : Int32) (a1 : Int32) (a2 : Int32) (S : zS) : Option (Int32 × zS) := if a0 < a1 then (some (0, S)) else (if a2 < a0 then (some (0, S)) else (some (1, S)))
set_option maxRecDepth 100000 in
set_option maxHeartbeats 4000000 in
theorem zd_X9_in (V : zV) (d : Nat) : ∀ (a0 : Int32) (a1 : Int32) (a2 : Int32) (S : zS), z_J zeI V mX9_in (d) (f_X9_in a0 a1 a2 S) 0 (z_ent mX9_in [.int a0, .int a1, .int a2]) [] S := by
  intro a0 a1 a2 S
  show z_J zeI V mX9_in (d) (f_X9_in a0 a1 a2 S) 0 [.int a0, .int a1, .int a2] [] S
  unfold f_X9_in
  refine d_st (fun _ k => zg_iload_n dX9_in_0 rfl (zg_iload_n dX9_in_1 rfl k)) ?_
  refine d_br (fun _ => zg_icmp_lt 14 dX9_in_2 rfl) (fun c2 => ?_) (fun c2 => ?_)
  · refine d_st (fun _ k => zg_iconst 0 dX9_in_14 (by decide) k) ?_
    exact d_retZ dX9_in_15 rfl (by decide)
  · refine d_st (fun _ k => zg_iload_n dX9_in_5 rfl (zg_iload_n dX9_in_6 rfl k)) ?_
    refine d_br (fun _ => zg_icmp_gt 14 dX9_in_7 rfl) (fun c7 => ?_) (fun c7 => ?_)
    · refine d_st (fun _ k => zg_iconst 0 dX9_in_14 (by decide) k) ?_
      exact d_retZ dX9_in_15 rfl (by decide)
    · refine d_st (fun _ k => zg_iconst 1 dX9_in_10 (by decide) (zg_goto 15 dX9_in_11 rfl k)) ?_
      exact d_retZ dX9_in_15 rfl (by decide)
def f_X9_type (a1 : Int32) (S : zS) : Option (Int32 × zS) := (f_X9_in a1 0 255 (z_w S 87 0 0)).bind (fun r10 => if r10.1 = 0 then (some ((-1), r10.2)) else (if (r10.2.1 87 2) = 110 then (some ((-3), r10.2)) else (if z_in (r10.2.1 87 2) 110 then (some ((z_w (z_w r10.2 88 ((r10.2.1 87 2).toNatClampNeg) a1) 87 2 (((z_w r10.2 88 ((r10.2.1 87 2).toNatClampNeg) a1).1 87 2) + 1)).1 87 2, (z_w (z_w r10.2 88 ((r10.2.1 87 2).toNatClampNeg) a1) 87 2 (((z_w r10.2 88 ((r10.2.1 87 2).toNatClampNeg) a1).1 87 2) + 1)))) else none)))
set_option maxRecDepth 100000 in
set_option maxHeartbeats 4000000 in
theorem zd_X9_type (V : zV) (d : Nat) : ∀ (a1 : Int32) (S : zS), z_J zeI V mX9_type (d + 1) (f_X9_type a1 S) 0 (z_ent mX9_type [.ref 87, .int a1]) [] S := by
  intro a1 S
  show z_J zeI V mX9_type (d + 1) (f_X9_type a1 S) 0 [.ref 87, .int a1] [] S
  unfold f_X9_type
  refine d_st (fun _ k => zg_aload_n dX9_type_0 rfl (zg_iconst 0 dX9_type_1 (by decide) (zs_putI dX9_type_2 zf_X9_80 rfl (zq_87 _) (by decide) (by decide) (zg_iload_n dX9_type_5 rfl (zg_iconst 0 dX9_type_6 (by decide) (zg_sipush 255 dX9_type_7 (by decide) k)))))) ?_
  refine d_cSi (As := [_, _, _]) dX9_type_10 zk_X9_88 rfl rfl (Nat.le_of_ble_eq_true rfl) (Nat.le_of_ble_eq_true rfl) rfl (zd_X9_in V d _ _ _ _) (fun r10 _ => ?_)
  refine d_br (fun _ => zg_if_ne 18 dX9_type_13 rfl) (fun c13 => ?_) (fun c13 => ?_)
  · refine d_st (fun _ k => zg_iconst (-1) dX9_type_16 (by decide) k) ?_
    exact d_retI dX9_type_17 rfl
  · refine d_st (fun _ k => zg_aload_n dX9_type_18 rfl (zs_getI dX9_type_19 zf_X9_92 rfl (zq_87 _) (by decide) (by decide) (zg_bipush 110 dX9_type_22 (by decide) k))) ?_
    refine d_br (fun _ => zg_icmp_ne 30 dX9_type_24 rfl) (fun c24 => ?_) (fun c24 => ?_)
    · refine d_st (fun _ k => zg_bipush (-3) dX9_type_27 (by decide) k) ?_
      exact d_retI dX9_type_29 rfl
    · refine d_st (fun _ k => zg_aload_n dX9_type_30 rfl (zs_getR dX9_type_31 zf_X9_7 rfl (zq_87 _) (by decide) (by decide) zr_87_1 (zg_aload_n dX9_type_34 rfl (zs_getI dX9_type_35 zf_X9_92 rfl (zq_87 _) (by decide) (by decide) (zg_iload_n dX9_type_38 rfl k))))) ?_
      refine d_gd (fun g39 => ?_)
      refine d_st (fun _ k => zs_iast dX9_type_39 (by decide) (zq_88 _) g39 rfl k) ?_
      refine d_st (fun _ k => zg_aload_n dX9_type_40 rfl (zg_dupr dX9_type_41 (zs_getI dX9_type_42 zf_X9_92 rfl (zq_87 _) (by decide) (by decide) (zg_iconst 1 dX9_type_45 (by decide) (zg_iadd dX9_type_46 (zs_putI dX9_type_47 zf_X9_92 rfl (zq_87 _) (by decide) (by decide) (zg_aload_n dX9_type_50 rfl (zs_getI dX9_type_51 zf_X9_92 rfl (zq_87 _) (by decide) (by decide) k)))))))) ?_
      exact d_retI dX9_type_54 rfl
def f_X8_clear (S : zS) : Option (Int32 × zS) := some (S.1 1 1, (z_w S 1 1 0))
set_option maxRecDepth 100000 in
set_option maxHeartbeats 4000000 in
theorem zd_X8_clear (V : zV) (d : Nat) : ∀ (S : zS), z_J zeI V mX8_clear (d) (f_X8_clear  S) 0 (z_ent mX8_clear [.ref 1]) [] S := by
  intro S
  show z_J zeI V mX8_clear (d) (f_X8_clear  S) 0 [.ref 1, .null] [] S
  unfold f_X8_clear
  refine d_st (fun _ k => zg_aload_n dX8_clear_0 rfl (zs_getI dX8_clear_1 zf_X8_13 rfl (zq_1 _) (by decide) (by decide) (zg_istore_n (ls' := [_, _]) dX8_clear_4 (Nat.le_of_ble_eq_true rfl) rfl rfl (zg_aload_n dX8_clear_5 rfl (zg_iconst 0 dX8_clear_6 (by decide) (zs_putI dX8_clear_7 zf_X8_13 rfl (zq_1 _) (by decide) (by decide) (zg_iload_n dX8_clear_10 rfl k))))))) ?_
  exact d_retI dX8_clear_11 rfl
def f_X9_clear (S : zS) : Option (Int32 × zS) := some ((z_w S 87 0 0).1 87 2, (z_w (z_w S 87 0 0) 87 2 0))
set_option maxRecDepth 100000 in
set_option maxHeartbeats 4000000 in
theorem zd_X9_clear (V : zV) (d : Nat) : ∀ (S : zS), z_J zeI V mX9_clear (d) (f_X9_clear  S) 0 (z_ent mX9_clear [.ref 87]) [] S := by
  intro S
  show z_J zeI V mX9_clear (d) (f_X9_clear  S) 0 [.ref 87, .null] [] S
  unfold f_X9_clear
  refine d_st (fun _ k => zg_aload_n dX9_clear_0 rfl (zg_iconst 0 dX9_clear_1 (by decide) (zs_putI dX9_clear_2 zf_X9_80 rfl (zq_87 _) (by decide) (by decide) (zg_aload_n dX9_clear_5 rfl (zs_getI dX9_clear_6 zf_X9_92 rfl (zq_87 _) (by decide) (by decide) (zg_istore_n (ls' := [_, _]) dX9_clear_9 (Nat.le_of_ble_eq_true rfl) rfl rfl (zg_aload_n dX9_clear_10 rfl (zg_iconst 0 dX9_clear_11 (by decide) (zs_putI dX9_clear_12 zf_X9_92 rfl (zq_87 _) (by decide) (by decide) (zg_iload_n dX9_clear_15 rfl k)))))))))) ?_
  exact d_retI dX9_clear_16 rfl
def f_J7_fill_53178_5 (p0 : Nat) (n0 : Nat) : Nat → Int32 → Int32 → Int32 → zS → Option (Unit × zS)
  | 0, _, _, _, _ => none
  | n + 1, v1, v2, v3, S => if v3 ≤ v2 then (some ((), S)) else (if z_in v2 n0 then (f_J7_fill_53178_5 p0 n0 n v1 (v2 + 1) v3 (z_w S p0 v2.toNatClampNeg v1)) else none)
set_option maxRecDepth 100000 in
set_option maxHeartbeats 4000000 in
theorem zd_J7_fill_53178_5 (V : zV) {p0 : Nat} {n0 : Nat} (h0 : z_isA p0 n0) (d : Nat) : ∀ (n : Nat) (v1 : Int32) (v2 : Int32) (v3 : Int32) (S : zS), z_J zeV V mJ7_fill_53178 (d) (f_J7_fill_53178_5 p0 n0 n v1 v2 v3 S) 5 [.ref p0, .int v1, .int v2, .int v3] [] S := by
  intro n
  induction n with
  | zero =>
    intro v1 v2 v3 S r hr
    cases (show (none : Option (Unit × zS)) = some r from hr)
  | succ n ih =>
    intro v1 v2 v3 S
    rw [f_J7_fill_53178_5]
    refine d_st (fun _ k => zg_iload_n dJ7_fill_53178_5 rfl (zg_iload_n dJ7_fill_53178_6 rfl k)) ?_
    refine d_br (fun _ => zg_icmp_ge 20 dJ7_fill_53178_7 rfl) (fun c7 => ?_) (fun c7 => ?_)
    · exact d_retV dJ7_fill_53178_20 rfl
    · refine d_st (fun _ k => zg_aload_n dJ7_fill_53178_10 rfl (zg_iload_n dJ7_fill_53178_11 rfl (zg_iload_n dJ7_fill_53178_12 rfl k))) ?_
      refine d_gd (fun g13 => ?_)
      refine d_st (fun _ k => zs_iast dJ7_fill_53178_13 h0.1 (h0.2 _) g13 rfl k) ?_
      refine d_st (fun _ k => zg_iinc (ls' := [_, _, _, _]) 1 dJ7_fill_53178_14 rfl (by decide) (Nat.le_of_ble_eq_true rfl) rfl rfl (zg_goto 5 dJ7_fill_53178_17 rfl k)) ?_
      exact d_fg (z_le_s (z_le_s (z_le_s (z_le_s z_le_n)))) (ih _ _ _ _)
def f_J7_fill_53178 (p0 : Nat) (n0 : Nat) (a1 : Int32) (S : zS) : Option (Unit × zS) := f_J7_fill_53178_5 p0 n0 1000 a1 0 (Int32.ofNat n0) S
set_option maxRecDepth 100000 in
set_option maxHeartbeats 4000000 in
theorem zd_J7_fill_53178 (V : zV) {p0 : Nat} {n0 : Nat} (h0 : z_isA p0 n0) (d : Nat) : ∀ (a1 : Int32) (S : zS), z_J zeV V mJ7_fill_53178 (d) (f_J7_fill_53178 p0 n0 a1 S) 0 (z_ent mJ7_fill_53178 [.ref p0, .int a1]) [] S := by
  intro a1 S
  show z_J zeV V mJ7_fill_53178 (d) (f_J7_fill_53178 p0 n0 a1 S) 0 [.ref p0, .int a1, .null, .null] [] S
  unfold f_J7_fill_53178
  refine d_st (fun _ k => zg_iconst 0 dJ7_fill_53178_0 (by decide) (zg_istore_n (ls' := [_, _, _, _]) dJ7_fill_53178_1 (Nat.le_of_ble_eq_true rfl) rfl rfl (zg_aload_n dJ7_fill_53178_2 rfl (zs_alen (Int32.ofNat n0) dJ7_fill_53178_3 h0.1 (h0.2 _) rfl (zg_istore_n (ls' := [_, _, _, _]) dJ7_fill_53178_4 (Nat.le_of_ble_eq_true rfl) rfl rfl k))))) ?_
  exact d_fg (z_le_s (z_le_s (z_le_s (z_le_s z_le_n)))) (zd_J7_fill_53178_5 V h0 d 1000 _ _ _ _)
def f_X1_wipe (p0 : Nat) (S : zS) : Option (Unit × zS) := (f_J7_fill_53178 (p0 + 3) 9 0 (z_w (z_w (z_w (z_w (z_w S p0 0 0) p0 4 0) p0 7 0) p0 12 0) p0 13 0)).bind (fun r30 => some ((), r30.2))
set_option maxRecDepth 100000 in
set_option maxHeartbeats 4000000 in
theorem zd_X1_wipe (V : zV) {p0 : Nat} (h0 : z_isP p0) (d : Nat) : ∀ (S : zS), z_J zeV V mX1_wipe (d + 1) (f_X1_wipe p0 S) 0 (z_ent mX1_wipe [.ref p0]) [] S := by
  intro S
  show z_J zeV V mX1_wipe (d + 1) (f_X1_wipe p0 S) 0 [.ref p0] [] S
  unfold f_X1_wipe
  refine d_st (fun _ k => zg_aload_n dX1_wipe_0 rfl (zg_iconst 0 dX1_wipe_1 (by decide) (zs_putI dX1_wipe_2 zf_X1_9 rfl (zp_o h0 _) (by decide) (by decide) (zg_aload_n dX1_wipe_5 rfl (zg_iconst 0 dX1_wipe_6 (by decide) (zs_putI dX1_wipe_7 zf_X1_25 rfl (zp_o h0 _) (by decide) (by decide) (zg_aload_n dX1_wipe_10 rfl (zg_iconst 0 dX1_wipe_11 (by decide) (zs_putI dX1_wipe_12 zf_X1_34 rfl (zp_o h0 _) (by decide) (by decide) (zg_aload_n dX1_wipe_15 rfl (zg_iconst 0 dX1_wipe_16 (by decide) (zs_putI dX1_wipe_17 zf_X1_51 rfl (zp_o h0 _) (by decide) (by decide) (zg_aload_n dX1_wipe_20 rfl (zg_iconst 0 dX1_wipe_21 (by decide) (zs_putI dX1_wipe_22 zf_X1_54 rfl (zp_o h0 _) (by decide) (by decide) (zg_aload_n dX1_wipe_25 rfl (zs_getR dX1_wipe_26 zf_X1_22 rfl (zp_o h0 _) (by decide) (by decide) (zp_r3 h0) (zg_iconst 0 dX1_wipe_29 (by decide) k)))))))))))))))))) ?_
  refine d_cSv (As := [_, _]) dX1_wipe_30 zk_X1_57 rfl rfl (Nat.le_of_ble_eq_true rfl) (Nat.le_of_ble_eq_true rfl) rfl (zd_J7_fill_53178 V ⟨(zp_p3 h0), fun _ => (zp_3 h0 _)⟩ d _ _) (fun r30 _ => ?_)
  exact d_retV dX1_wipe_33 rfl
def f_X3_isDigit (a0 : Int32) (S : zS) : Option (Int32 × zS) := if a0 < 48 then (some (0, S)) else (if 57 < a0 then (some (0, S)) else (some (1, S)))
set_option maxRecDepth 100000 in
set_option maxHeartbeats 4000000 in
theorem zd_X3_isDigit (V : zV) (d : Nat) : ∀ (a0 : Int32) (S : zS), z_J zeI V mX3_isDigit (d) (f_X3_isDigit a0 S) 0 (z_ent mX3_isDigit [.int a0]) [] S := by
  intro a0 S
  show z_J zeI V mX3_isDigit (d) (f_X3_isDigit a0 S) 0 [.int a0] [] S
  unfold f_X3_isDigit
  refine d_st (fun _ k => zg_iload_n dX3_isDigit_0 rfl (zg_bipush 48 dX3_isDigit_1 (by decide) k)) ?_
  refine d_br (fun _ => zg_icmp_lt 16 dX3_isDigit_3 rfl) (fun c3 => ?_) (fun c3 => ?_)
  · refine d_st (fun _ k => zg_iconst 0 dX3_isDigit_16 (by decide) k) ?_
    exact d_retZ dX3_isDigit_17 rfl (by decide)
  · refine d_st (fun _ k => zg_iload_n dX3_isDigit_6 rfl (zg_bipush 57 dX3_isDigit_7 (by decide) k)) ?_
    refine d_br (fun _ => zg_icmp_gt 16 dX3_isDigit_9 rfl) (fun c9 => ?_) (fun c9 => ?_)
    · refine d_st (fun _ k => zg_iconst 0 dX3_isDigit_16 (by decide) k) ?_
      exact d_retZ dX3_isDigit_17 rfl (by decide)
    · refine d_st (fun _ k => zg_iconst 1 dX3_isDigit_12 (by decide) (zg_goto 17 dX3_isDigit_13 rfl k)) ?_
      exact d_retZ dX3_isDigit_17 rfl (by decide)
def f_X3_readNumber_107 (t0 : Int32) (S : zS) : Option (Unit × zS) := if t0 = 0 then (some ((), (z_w S 31 2 2))) else (some ((), (z_w S 31 2 1)))
set_option maxRecDepth 100000 in
set_option maxHeartbeats 4000000 in
theorem zd_X3_readNumber_107 (V : zV) (d : Nat) : ∀ (t0 : Int32) (S : zS), z_J zeV V mX3_readNumber (d + 1) (f_X3_readNumber_107 t0 S) 107 [.ref 31, .null, .null, .null, .null, .null] [.int t0] S := by
  intro t0 S
  unfold f_X3_readNumber_107
  refine d_st (fun _ k => zg_istore (ls' := [_, _, _, _, _, _]) dX3_readNumber_107 (Nat.le_of_ble_eq_true rfl) rfl rfl (zg_aload_n dX3_readNumber_109 rfl (zg_iload dX3_readNumber_110 rfl k))) ?_
  refine d_br (fun _ => zg_if_eq 119 dX3_readNumber_112 rfl) (fun c112 => ?_) (fun c112 => ?_)
  · refine d_st (fun _ k => zg_iconst 2 dX3_readNumber_119 (by decide) (zs_putI dX3_readNumber_120 zf_X3_18 rfl (zq_31 _) (by decide) (by decide) k)) ?_
    exact d_retV dX3_readNumber_123 rfl
  · refine d_st (fun _ k => zg_iconst 1 dX3_readNumber_115 (by decide) (zg_goto 120 dX3_readNumber_116 rfl (zs_putI dX3_readNumber_120 zf_X3_18 rfl (zq_31 _) (by decide) (by decide) k))) ?_
    exact d_retV dX3_readNumber_123 rfl
def f_X3_readNumber_87 (v3 : Int32) (v4 : Int32) (S : zS) : Option (Unit × zS) := if v3 = 1 then (f_X3_readNumber_107 1 S) else (if v3 = 2 then (if v4 = 0 then (f_X3_readNumber_107 1 S) else (f_X3_readNumber_107 0 S)) else (f_X3_readNumber_107 0 S))
set_option maxRecDepth 100000 in
set_option maxHeartbeats 4000000 in
theorem zd_X3_readNumber_87 (V : zV) (d : Nat) : ∀ (v3 : Int32) (v4 : Int32) (S : zS), z_J zeV V mX3_readNumber (d + 1) (f_X3_readNumber_87 v3 v4 S) 87 [.ref 31, .null, .null, .int v3, .int v4, .null] [] S := by
  intro v3 v4 S
  unfold f_X3_readNumber_87
  refine d_st (fun _ k => zg_iload_n dX3_readNumber_87 rfl (zg_iconst 1 dX3_readNumber_88 (by decide) k)) ?_
  refine d_br (fun _ => zg_icmp_eq 102 dX3_readNumber_89 rfl) (fun c89 => ?_) (fun c89 => ?_)
  · refine d_st (fun _ k => zg_iconst 1 dX3_readNumber_102 (by decide) (zg_goto 107 dX3_readNumber_103 rfl k)) ?_
    exact d_fg (z_le_s (z_le_0 (z_le_0 (z_le_0 (z_le_0 (z_le_0 z_le_n)))))) (zd_X3_readNumber_107 V d _ _)
  · refine d_st (fun _ k => zg_iload_n dX3_readNumber_92 rfl (zg_iconst 2 dX3_readNumber_93 (by decide) k)) ?_
    refine d_br (fun _ => zg_icmp_ne 106 dX3_readNumber_94 rfl) (fun c94 => ?_) (fun c94 => ?_)
    · refine d_st (fun _ k => zg_iload dX3_readNumber_97 rfl k) ?_
      refine d_br (fun _ => zg_if_ne 106 dX3_readNumber_99 rfl) (fun c99 => ?_) (fun c99 => ?_)
      · refine d_st (fun _ k => zg_iconst 1 dX3_readNumber_102 (by decide) (zg_goto 107 dX3_readNumber_103 rfl k)) ?_
        exact d_fg (z_le_s (z_le_0 (z_le_0 (z_le_0 (z_le_0 (z_le_0 z_le_n)))))) (zd_X3_readNumber_107 V d _ _)
      · refine d_st (fun _ k => zg_iconst 0 dX3_readNumber_106 (by decide) k) ?_
        exact d_fg (z_le_s (z_le_0 (z_le_0 (z_le_0 (z_le_0 (z_le_0 z_le_n)))))) (zd_X3_readNumber_107 V d _ _)
    · refine d_st (fun _ k => zg_iconst 0 dX3_readNumber_106 (by decide) k) ?_
      exact d_fg (z_le_s (z_le_0 (z_le_0 (z_le_0 (z_le_0 (z_le_0 z_le_n)))))) (zd_X3_readNumber_107 V d _ _)
def f_X3_readNumber_25 : Nat → Int32 → Int32 → Int32 → zS → Option (Unit × zS)
  | 0, _, _, _, _ => none
  | n + 1, v2, v3, v4, S => if v2 ≤ (S.1 31 1) then (f_X3_readNumber_87 v3 v4 S) else (if z_in (S.1 31 1) 110 then ((f_X3_isDigit (S.1 2 (S.1 31 1).toNatClampNeg) S).bind (fun r39 => if r39.1 = 0 then (f_X3_readNumber_87 v3 v4 r39.2) else (if 2 ≤ v3 then (f_X3_readNumber_25 n v2 (v3 + 1) v4 (z_w r39.2 31 1 ((r39.2.1 31 1) + 1))) else (if z_in (r39.2.1 31 1) 110 then (f_X3_readNumber_25 n v2 (v3 + 1) v4 (z_w (z_w r39.2 31 3 ((((r39.2.1 31 3) * 10) + (r39.2.1 2 (r39.2.1 31 1).toNatClampNeg)) - 48)) 31 1 (((z_w r39.2 31 3 ((((r39.2.1 31 3) * 10) + (r39.2.1 2 (r39.2.1 31 1).toNatClampNeg)) - 48)).1 31 1) + 1))) else none)))) else none)
set_option maxRecDepth 100000 in
set_option maxHeartbeats 4000000 in
theorem zd_X3_readNumber_25 (V : zV) (d : Nat) : ∀ (n : Nat) (v2 : Int32) (v3 : Int32) (v4 : Int32) (S : zS), z_J zeV V mX3_readNumber (d + 1) (f_X3_readNumber_25 n v2 v3 v4 S) 25 [.ref 31, .ref 2, .int v2, .int v3, .int v4, .null] [] S := by
  intro n
  induction n with
  | zero =>
    intro v2 v3 v4 S r hr
    cases (show (none : Option (Unit × zS)) = some r from hr)
  | succ n ih =>
    intro v2 v3 v4 S
    rw [f_X3_readNumber_25]
    refine d_st (fun _ k => zg_aload_n dX3_readNumber_25 rfl (zs_getI dX3_readNumber_26 zf_X3_15 rfl (zq_31 _) (by decide) (by decide) (zg_iload_n dX3_readNumber_29 rfl k))) ?_
    refine d_br (fun _ => zg_icmp_ge 87 dX3_readNumber_30 rfl) (fun c30 => ?_) (fun c30 => ?_)
    · exact d_fg (z_le_s (z_le_0 (z_le_0 (z_le_s (z_le_s (z_le_0 z_le_n)))))) (zd_X3_readNumber_87 V d _ _ _)
    · refine d_st (fun _ k => zg_aload_n dX3_readNumber_33 rfl (zg_aload_n dX3_readNumber_34 rfl (zs_getI dX3_readNumber_35 zf_X3_15 rfl (zq_31 _) (by decide) (by decide) k))) ?_
      refine d_gd (fun g38 => ?_)
      refine d_st (fun _ k => zs_iald dX3_readNumber_38 (by decide) (zq_2 _) g38 rfl k) ?_
      refine d_cSi (As := [_]) dX3_readNumber_39 zk_X3_62 rfl rfl (Nat.le_of_ble_eq_true rfl) (Nat.le_of_ble_eq_true rfl) rfl (zd_X3_isDigit V d _ _) (fun r39 _ => ?_)
      refine d_br (fun _ => zg_if_eq 87 dX3_readNumber_42 rfl) (fun c42 => ?_) (fun c42 => ?_)
      · exact d_fg (z_le_s (z_le_0 (z_le_0 (z_le_s (z_le_s (z_le_0 z_le_n)))))) (zd_X3_readNumber_87 V d _ _ _)
      · refine d_st (fun _ k => zg_iload_n dX3_readNumber_45 rfl (zg_iconst 2 dX3_readNumber_46 (by decide) k)) ?_
        refine d_br (fun _ => zg_icmp_ge 71 dX3_readNumber_47 rfl) (fun c47 => ?_) (fun c47 => ?_)
        · refine d_st (fun _ k => zg_iinc (ls' := [_, _, _, _, _, _]) 1 dX3_readNumber_71 rfl (by decide) (Nat.le_of_ble_eq_true rfl) rfl rfl (zg_aload_n dX3_readNumber_74 rfl (zg_dupr dX3_readNumber_75 (zs_getI dX3_readNumber_76 zf_X3_15 rfl (zq_31 _) (by decide) (by decide) (zg_iconst 1 dX3_readNumber_79 (by decide) (zg_iadd dX3_readNumber_80 (zs_putI dX3_readNumber_81 zf_X3_15 rfl (zq_31 _) (by decide) (by decide) (zg_goto 25 dX3_readNumber_84 rfl k)))))))) ?_
          exact d_fg (z_le_s (z_le_s (z_le_s (z_le_s (z_le_s (z_le_0 z_le_n)))))) (ih _ _ _ _)
        · refine d_st (fun _ k => zg_aload_n dX3_readNumber_50 rfl (zg_aload_n dX3_readNumber_51 rfl (zs_getI dX3_readNumber_52 zf_X3_21 rfl (zq_31 _) (by decide) (by decide) (zg_bipush 10 dX3_readNumber_55 (by decide) (zg_imul dX3_readNumber_57 (zg_aload_n dX3_readNumber_58 rfl (zg_aload_n dX3_readNumber_59 rfl (zs_getI dX3_readNumber_60 zf_X3_15 rfl (zq_31 _) (by decide) (by decide) k)))))))) ?_
          refine d_gd (fun g63 => ?_)
          refine d_st (fun _ k => zs_iald dX3_readNumber_63 (by decide) (zq_2 _) g63 rfl k) ?_
          refine d_st (fun _ k => zg_iadd dX3_readNumber_64 (zg_bipush 48 dX3_readNumber_65 (by decide) (zg_isub dX3_readNumber_67 (zs_putI dX3_readNumber_68 zf_X3_21 rfl (zq_31 _) (by decide) (by decide) (zg_iinc (ls' := [_, _, _, _, _, _]) 1 dX3_readNumber_71 rfl (by decide) (Nat.le_of_ble_eq_true rfl) rfl rfl (zg_aload_n dX3_readNumber_74 rfl (zg_dupr dX3_readNumber_75 (zs_getI dX3_readNumber_76 zf_X3_15 rfl (zq_31 _) (by decide) (by decide) (zg_iconst 1 dX3_readNumber_79 (by decide) (zg_iadd dX3_readNumber_80 (zs_putI dX3_readNumber_81 zf_X3_15 rfl (zq_31 _) (by decide) (by decide) (zg_goto 25 dX3_readNumber_84 rfl k)))))))))))) ?_
          exact d_fg (z_le_s (z_le_s (z_le_s (z_le_s (z_le_s (z_le_0 z_le_n)))))) (ih _ _ _ _)
def f_X3_readNumber (a2 : Int32) (S : zS) : Option (Unit × zS) := if z_in ((z_w S 31 3 0).1 31 1) 110 then (if ((z_w S 31 3 0).1 2 ((z_w S 31 3 0).1 31 1).toNatClampNeg) = 48 then (f_X3_readNumber_25 1000 a2 0 1 (z_w S 31 3 0)) else (f_X3_readNumber_25 1000 a2 0 0 (z_w S 31 3 0))) else none
set_option maxRecDepth 100000 in
set_option maxHeartbeats 4000000 in
theorem zd_X3_readNumber (V : zV) (d : Nat) : ∀ (a2 : Int32) (S : zS), z_J zeV V mX3_readNumber (d + 1) (f_X3_readNumber a2 S) 0 (z_ent mX3_readNumber [.ref 31, .ref 2, .int a2]) [] S := by
  intro a2 S
  show z_J zeV V mX3_readNumber (d + 1) (f_X3_readNumber a2 S) 0 [.ref 31, .ref 2, .int a2, .null, .null, .null] [] S
  unfold f_X3_readNumber
  refine d_st (fun _ k => zg_aload_n dX3_readNumber_0 rfl (zg_iconst 0 dX3_readNumber_1 (by decide) (zs_putI dX3_readNumber_2 zf_X3_21 rfl (zq_31 _) (by decide) (by decide) (zg_iconst 0 dX3_readNumber_5 (by decide) (zg_istore_n (ls' := [_, _, _, _, _, _]) dX3_readNumber_6 (Nat.le_of_ble_eq_true rfl) rfl rfl (zg_aload_n dX3_readNumber_7 rfl (zg_aload_n dX3_readNumber_8 rfl (zs_getI dX3_readNumber_9 zf_X3_15 rfl (zq_31 _) (by decide) (by decide) k)))))))) ?_
  refine d_gd (fun g12 => ?_)
  refine d_st (fun _ k => zs_iald dX3_readNumber_12 (by decide) (zq_2 _) g12 rfl k) ?_
  refine d_st (fun _ k => zg_bipush 48 dX3_readNumber_13 (by decide) k) ?_
  refine d_br (fun _ => zg_icmp_ne 22 dX3_readNumber_15 rfl) (fun c15 => ?_) (fun c15 => ?_)
  · refine d_st (fun _ k => zg_iconst 1 dX3_readNumber_18 (by decide) (zg_goto 23 dX3_readNumber_19 rfl (zg_istore (ls' := [_, _, _, _, _, _]) dX3_readNumber_23 (Nat.le_of_ble_eq_true rfl) rfl rfl k))) ?_
    exact d_fg (z_le_s (z_le_s (z_le_s (z_le_s (z_le_s (z_le_0 z_le_n)))))) (zd_X3_readNumber_25 V d 1000 _ _ _ _)
  · refine d_st (fun _ k => zg_iconst 0 dX3_readNumber_22 (by decide) (zg_istore (ls' := [_, _, _, _, _, _]) dX3_readNumber_23 (Nat.le_of_ble_eq_true rfl) rfl rfl k)) ?_
    exact d_fg (z_le_s (z_le_s (z_le_s (z_le_s (z_le_s (z_le_0 z_le_n)))))) (zd_X3_readNumber_25 V d 1000 _ _ _ _)
def f_X3_readToken_134 (v4 : Int32) (t0 : Int32) (S : zS) : Option (Unit × zS) := if t0 = 0 then (some ((), (z_w S 31 2 2))) else (some ((), (z_w S 31 2 v4)))
set_option maxRecDepth 100000 in
set_option maxHeartbeats 4000000 in
theorem zd_X3_readToken_134 (V : zV) (d : Nat) : ∀ (v4 : Int32) (t0 : Int32) (S : zS), z_J zeV V mX3_readToken (d + 2) (f_X3_readToken_134 v4 t0 S) 134 [.ref 31, .null, .null, .null, .int v4, .null] [.int t0] S := by
  intro v4 t0 S
  unfold f_X3_readToken_134
  refine d_st (fun _ k => zg_istore (ls' := [_, _, _, _, _, _]) dX3_readToken_134 (Nat.le_of_ble_eq_true rfl) rfl rfl (zg_aload_n dX3_readToken_136 rfl (zg_iload dX3_readToken_137 rfl k))) ?_
  refine d_br (fun _ => zg_if_eq 147 dX3_readToken_139 rfl) (fun c139 => ?_) (fun c139 => ?_)
  · refine d_st (fun _ k => zg_iconst 2 dX3_readToken_147 (by decide) (zs_putI dX3_readToken_148 zf_X3_18 rfl (zq_31 _) (by decide) (by decide) k)) ?_
    exact d_retV dX3_readToken_151 rfl
  · refine d_st (fun _ k => zg_iload dX3_readToken_142 rfl (zg_goto 148 dX3_readToken_144 rfl (zs_putI dX3_readToken_148 zf_X3_18 rfl (zq_31 _) (by decide) (by decide) k))) ?_
    exact d_retV dX3_readToken_151 rfl
def f_X3_readToken_39 (v3 : Int32) (S : zS) : Option (Unit × zS) := if ((z_w S 31 0 (S.1 31 1)).1 31 1) < v3 then (if z_in ((z_w S 31 0 (S.1 31 1)).1 31 1) 110 then ((f_X3_isDigit ((z_w S 31 0 (S.1 31 1)).1 2 ((z_w S 31 0 (S.1 31 1)).1 31 1).toNatClampNeg) (z_w S 31 0 (S.1 31 1))).bind (fun r71 => if r71.1 = 0 then (if ((z_w S 31 0 (S.1 31 1)).1 2 ((z_w S 31 0 (S.1 31 1)).1 31 1).toNatClampNeg) = 104 then (f_X3_readToken_134 ((z_w S 31 0 (S.1 31 1)).1 2 ((z_w S 31 0 (S.1 31 1)).1 31 1).toNatClampNeg) 1 (z_w r71.2 31 1 ((r71.2.1 31 1) + 1))) else (if ((z_w S 31 0 (S.1 31 1)).1 2 ((z_w S 31 0 (S.1 31 1)).1 31 1).toNatClampNeg) = 107 then (f_X3_readToken_134 ((z_w S 31 0 (S.1 31 1)).1 2 ((z_w S 31 0 (S.1 31 1)).1 31 1).toNatClampNeg) 1 (z_w r71.2 31 1 ((r71.2.1 31 1) + 1))) else (if ((z_w S 31 0 (S.1 31 1)).1 2 ((z_w S 31 0 (S.1 31 1)).1 31 1).toNatClampNeg) = 112 then (f_X3_readToken_134 ((z_w S 31 0 (S.1 31 1)).1 2 ((z_w S 31 0 (S.1 31 1)).1 31 1).toNatClampNeg) 1 (z_w r71.2 31 1 ((r71.2.1 31 1) + 1))) else (if ((z_w S 31 0 (S.1 31 1)).1 2 ((z_w S 31 0 (S.1 31 1)).1 31 1).toNatClampNeg) = 115 then (f_X3_readToken_134 ((z_w S 31 0 (S.1 31 1)).1 2 ((z_w S 31 0 (S.1 31 1)).1 31 1).toNatClampNeg) 1 (z_w r71.2 31 1 ((r71.2.1 31 1) + 1))) else (if ((z_w S 31 0 (S.1 31 1)).1 2 ((z_w S 31 0 (S.1 31 1)).1 31 1).toNatClampNeg) = 59 then (f_X3_readToken_134 ((z_w S 31 0 (S.1 31 1)).1 2 ((z_w S 31 0 (S.1 31 1)).1 31 1).toNatClampNeg) 1 (z_w r71.2 31 1 ((r71.2.1 31 1) + 1))) else (f_X3_readToken_134 ((z_w S 31 0 (S.1 31 1)).1 2 ((z_w S 31 0 (S.1 31 1)).1 31 1).toNatClampNeg) 0 (z_w r71.2 31 1 ((r71.2.1 31 1) + 1)))))))) else ((f_X3_readNumber v3 r71.2).bind (fun r80 => some ((), r80.2))))) else none) else (some ((), (z_w (z_w S 31 0 (S.1 31 1)) 31 2 0)))
set_option maxRecDepth 100000 in
set_option maxHeartbeats 4000000 in
theorem zd_X3_readToken_39 (V : zV) (d : Nat) : ∀ (v3 : Int32) (S : zS), z_J zeV V mX3_readToken (d + 2) (f_X3_readToken_39 v3 S) 39 [.ref 31, .ref 2, .null, .int v3, .null, .null] [] S := by
  intro v3 S
  unfold f_X3_readToken_39
  refine d_st (fun _ k => zg_aload_n dX3_readToken_39 rfl (zg_aload_n dX3_readToken_40 rfl (zs_getI dX3_readToken_41 zf_X3_15 rfl (zq_31 _) (by decide) (by decide) (zs_putI dX3_readToken_44 zf_X3_9 rfl (zq_31 _) (by decide) (by decide) (zg_aload_n dX3_readToken_47 rfl (zs_getI dX3_readToken_48 zf_X3_15 rfl (zq_31 _) (by decide) (by decide) (zg_iload_n dX3_readToken_51 rfl k))))))) ?_
  refine d_br (fun _ => zg_icmp_lt 61 dX3_readToken_52 rfl) (fun c52 => ?_) (fun c52 => ?_)
  · refine d_st (fun _ k => zg_aload_n dX3_readToken_61 rfl (zg_aload_n dX3_readToken_62 rfl (zs_getI dX3_readToken_63 zf_X3_15 rfl (zq_31 _) (by decide) (by decide) k))) ?_
    refine d_gd (fun g66 => ?_)
    refine d_st (fun _ k => zs_iald dX3_readToken_66 (by decide) (zq_2 _) g66 rfl k) ?_
    refine d_st (fun _ k => zg_istore (ls' := [_, _, _, _, _, _]) dX3_readToken_67 (Nat.le_of_ble_eq_true rfl) rfl rfl (zg_iload dX3_readToken_69 rfl k)) ?_
    refine d_cSi (As := [_]) dX3_readToken_71 zk_X3_62 rfl rfl (Nat.le_of_ble_eq_true rfl) (Nat.le_of_ble_eq_true rfl) rfl (zd_X3_isDigit V (d + 1) _ _) (fun r71 _ => ?_)
    refine d_br (fun _ => zg_if_eq 84 dX3_readToken_74 rfl) (fun c74 => ?_) (fun c74 => ?_)
    · refine d_st (fun _ k => zg_aload_n dX3_readToken_84 rfl (zg_dupr dX3_readToken_85 (zs_getI dX3_readToken_86 zf_X3_15 rfl (zq_31 _) (by decide) (by decide) (zg_iconst 1 dX3_readToken_89 (by decide) (zg_iadd dX3_readToken_90 (zs_putI dX3_readToken_91 zf_X3_15 rfl (zq_31 _) (by decide) (by decide) (zg_iload dX3_readToken_94 rfl (zg_bipush 104 dX3_readToken_96 (by decide) k)))))))) ?_
      refine d_br (fun _ => zg_icmp_eq 129 dX3_readToken_98 rfl) (fun c98 => ?_) (fun c98 => ?_)
      · refine d_st (fun _ k => zg_iconst 1 dX3_readToken_129 (by decide) (zg_goto 134 dX3_readToken_130 rfl k)) ?_
        exact d_fg (z_le_s (z_le_0 (z_le_0 (z_le_0 (z_le_s (z_le_0 z_le_n)))))) (zd_X3_readToken_134 V d _ _ _)
      · refine d_st (fun _ k => zg_iload dX3_readToken_101 rfl (zg_bipush 107 dX3_readToken_103 (by decide) k)) ?_
        refine d_br (fun _ => zg_icmp_eq 129 dX3_readToken_105 rfl) (fun c105 => ?_) (fun c105 => ?_)
        · refine d_st (fun _ k => zg_iconst 1 dX3_readToken_129 (by decide) (zg_goto 134 dX3_readToken_130 rfl k)) ?_
          exact d_fg (z_le_s (z_le_0 (z_le_0 (z_le_0 (z_le_s (z_le_0 z_le_n)))))) (zd_X3_readToken_134 V d _ _ _)
        · refine d_st (fun _ k => zg_iload dX3_readToken_108 rfl (zg_bipush 112 dX3_readToken_110 (by decide) k)) ?_
          refine d_br (fun _ => zg_icmp_eq 129 dX3_readToken_112 rfl) (fun c112 => ?_) (fun c112 => ?_)
          · refine d_st (fun _ k => zg_iconst 1 dX3_readToken_129 (by decide) (zg_goto 134 dX3_readToken_130 rfl k)) ?_
            exact d_fg (z_le_s (z_le_0 (z_le_0 (z_le_0 (z_le_s (z_le_0 z_le_n)))))) (zd_X3_readToken_134 V d _ _ _)
          · refine d_st (fun _ k => zg_iload dX3_readToken_115 rfl (zg_bipush 115 dX3_readToken_117 (by decide) k)) ?_
            refine d_br (fun _ => zg_icmp_eq 129 dX3_readToken_119 rfl) (fun c119 => ?_) (fun c119 => ?_)
            · refine d_st (fun _ k => zg_iconst 1 dX3_readToken_129 (by decide) (zg_goto 134 dX3_readToken_130 rfl k)) ?_
              exact d_fg (z_le_s (z_le_0 (z_le_0 (z_le_0 (z_le_s (z_le_0 z_le_n)))))) (zd_X3_readToken_134 V d _ _ _)
            · refine d_st (fun _ k => zg_iload dX3_readToken_122 rfl (zg_bipush 59 dX3_readToken_124 (by decide) k)) ?_
              refine d_br (fun _ => zg_icmp_ne 133 dX3_readToken_126 rfl) (fun c126 => ?_) (fun c126 => ?_)
              · refine d_st (fun _ k => zg_iconst 1 dX3_readToken_129 (by decide) (zg_goto 134 dX3_readToken_130 rfl k)) ?_
                exact d_fg (z_le_s (z_le_0 (z_le_0 (z_le_0 (z_le_s (z_le_0 z_le_n)))))) (zd_X3_readToken_134 V d _ _ _)
              · refine d_st (fun _ k => zg_iconst 0 dX3_readToken_133 (by decide) k) ?_
                exact d_fg (z_le_s (z_le_0 (z_le_0 (z_le_0 (z_le_s (z_le_0 z_le_n)))))) (zd_X3_readToken_134 V d _ _ _)
    · refine d_st (fun _ k => zg_aload_n dX3_readToken_77 rfl (zg_aload_n dX3_readToken_78 rfl (zg_iload_n dX3_readToken_79 rfl k))) ?_
      refine d_cVv (As := [_, _]) dX3_readToken_80 zk_X3_66 (zq_31 _) (by decide) ⟨_, _, rfl⟩ rfl rfl (Nat.le_of_ble_eq_true rfl) (Nat.le_of_ble_eq_true rfl) rfl (zd_X3_readNumber V d _ _) (fun r80 _ => ?_)
      exact d_retV dX3_readToken_83 rfl
  · refine d_st (fun _ k => zg_aload_n dX3_readToken_55 rfl (zg_iconst 0 dX3_readToken_56 (by decide) (zs_putI dX3_readToken_57 zf_X3_18 rfl (zq_31 _) (by decide) (by decide) k))) ?_
    exact d_retV dX3_readToken_60 rfl
def f_X3_readToken_7 : Nat → Int32 → zS → Option (Unit × zS)
  | 0, _, _ => none
  | n + 1, v3, S => if v3 ≤ (S.1 31 1) then (f_X3_readToken_39 v3 S) else (if z_in (S.1 31 1) 110 then (if (S.1 2 (S.1 31 1).toNatClampNeg) = 32 then (f_X3_readToken_7 n v3 (z_w S 31 1 ((S.1 31 1) + 1))) else (f_X3_readToken_39 v3 S)) else none)
set_option maxRecDepth 100000 in
set_option maxHeartbeats 4000000 in
theorem zd_X3_readToken_7 (V : zV) (d : Nat) : ∀ (n : Nat) (v3 : Int32) (S : zS), z_J zeV V mX3_readToken (d + 2) (f_X3_readToken_7 n v3 S) 7 [.ref 31, .ref 2, .null, .int v3, .null, .null] [] S := by
  intro n
  induction n with
  | zero =>
    intro v3 S r hr
    cases (show (none : Option (Unit × zS)) = some r from hr)
  | succ n ih =>
    intro v3 S
    rw [f_X3_readToken_7]
    refine d_st (fun _ k => zg_aload_n dX3_readToken_7 rfl (zs_getI dX3_readToken_8 zf_X3_15 rfl (zq_31 _) (by decide) (by decide) (zg_iload_n dX3_readToken_11 rfl k))) ?_
    refine d_br (fun _ => zg_icmp_ge 39 dX3_readToken_12 rfl) (fun c12 => ?_) (fun c12 => ?_)
    · exact d_fg (z_le_s (z_le_s (z_le_0 (z_le_s (z_le_0 (z_le_0 z_le_n)))))) (zd_X3_readToken_39 V d _ _)
    · refine d_st (fun _ k => zg_aload_n dX3_readToken_15 rfl (zg_aload_n dX3_readToken_16 rfl (zs_getI dX3_readToken_17 zf_X3_15 rfl (zq_31 _) (by decide) (by decide) k))) ?_
      refine d_gd (fun g20 => ?_)
      refine d_st (fun _ k => zs_iald dX3_readToken_20 (by decide) (zq_2 _) g20 rfl k) ?_
      refine d_st (fun _ k => zg_bipush 32 dX3_readToken_21 (by decide) k) ?_
      refine d_br (fun _ => zg_icmp_ne 39 dX3_readToken_23 rfl) (fun c23 => ?_) (fun c23 => ?_)
      · refine d_st (fun _ k => zg_aload_n dX3_readToken_26 rfl (zg_dupr dX3_readToken_27 (zs_getI dX3_readToken_28 zf_X3_15 rfl (zq_31 _) (by decide) (by decide) (zg_iconst 1 dX3_readToken_31 (by decide) (zg_iadd dX3_readToken_32 (zs_putI dX3_readToken_33 zf_X3_15 rfl (zq_31 _) (by decide) (by decide) (zg_goto 7 dX3_readToken_36 rfl k))))))) ?_
        exact d_fg (z_le_s (z_le_s (z_le_0 (z_le_s (z_le_0 (z_le_0 z_le_n)))))) (ih _ _)
      · exact d_fg (z_le_s (z_le_s (z_le_0 (z_le_s (z_le_0 (z_le_0 z_le_n)))))) (zd_X3_readToken_39 V d _ _)
def f_X3_readToken (a2 : Int32) (S : zS) : Option (Unit × zS) := f_X3_readToken_7 1000 (if 110 < a2 then 110 else a2) S
set_option maxRecDepth 100000 in
set_option maxHeartbeats 4000000 in
theorem zd_X3_readToken (V : zV) (d : Nat) : ∀ (a2 : Int32) (S : zS), z_J zeV V mX3_readToken (d + 2) (f_X3_readToken a2 S) 0 (z_ent mX3_readToken [.ref 31, .ref 2, .int a2]) [] S := by
  intro a2 S
  show z_J zeV V mX3_readToken (d + 2) (f_X3_readToken a2 S) 0 [.ref 31, .ref 2, .int a2, .null, .null, .null] [] S
  unfold f_X3_readToken
  refine d_st (fun _ k => zg_iload_n dX3_readToken_0 rfl (zg_aload_n dX3_readToken_1 rfl (zs_alen 110 dX3_readToken_2 (by decide) (zq_2 _) (by decide) (zg_mmin dX3_readToken_3 zt_2_148 zt_2_149 zt_1_12 zt_2_150 (Nat.le_of_ble_eq_true rfl) (zg_istore_n (ls' := [_, _, _, _, _, _]) dX3_readToken_6 (Nat.le_of_ble_eq_true rfl) rfl rfl k))))) ?_
  exact d_fg (z_le_s (z_le_s (z_le_0 (z_le_s (z_le_0 (z_le_0 z_le_n)))))) (zd_X3_readToken_7 V d 1000 _ _)
def f_X3_beginsItem (p1 : Nat) (S : zS) : Option (Int32 × zS) := if ((z_w (z_w S 31 4 (S.1 31 2)) 31 5 0).1 31 2) = 104 then (if ((z_w (z_w S 31 4 (S.1 31 2)) 31 5 0).1 31 8) = 0 then (some (1, (z_w (z_w S 31 4 (S.1 31 2)) 31 5 0))) else (some (0, (z_w (z_w S 31 4 (S.1 31 2)) 31 5 0)))) else (if ((z_w (z_w S 31 4 (S.1 31 2)) 31 5 0).1 31 2) = 107 then (if 9 ≤ ((z_w (z_w S 31 4 (S.1 31 2)) 31 5 0).1 p1 0) then (some (0, (z_w (z_w S 31 4 (S.1 31 2)) 31 5 0))) else (some (1, (z_w (z_w S 31 4 (S.1 31 2)) 31 5 0)))) else (if ((z_w (z_w S 31 4 (S.1 31 2)) 31 5 0).1 31 2) = 112 then (if 4 ≤ ((z_w (z_w S 31 4 (S.1 31 2)) 31 5 0).1 p1 7) then (some (0, (z_w (z_w S 31 4 (S.1 31 2)) 31 5 0))) else (some (1, (z_w (z_w S 31 4 (S.1 31 2)) 31 5 0)))) else (if ((z_w (z_w S 31 4 (S.1 31 2)) 31 5 0).1 31 2) = 115 then (some (1, (z_w (z_w S 31 4 (S.1 31 2)) 31 5 0))) else (some (0, (z_w (z_w S 31 4 (S.1 31 2)) 31 5 0))))))
set_option maxRecDepth 100000 in
set_option maxHeartbeats 4000000 in
theorem zd_X3_beginsItem (V : zV) {p1 : Nat} (h1 : z_isP p1) (d : Nat) : ∀ (S : zS), z_J zeI V mX3_beginsItem (d) (f_X3_beginsItem p1 S) 0 (z_ent mX3_beginsItem [.ref 31, .ref p1]) [] S := by
  intro S
  show z_J zeI V mX3_beginsItem (d) (f_X3_beginsItem p1 S) 0 [.ref 31, .ref p1] [] S
  unfold f_X3_beginsItem
  refine d_st (fun _ k => zg_aload_n dX3_beginsItem_0 rfl (zg_aload_n dX3_beginsItem_1 rfl (zs_getI dX3_beginsItem_2 zf_X3_18 rfl (zq_31 _) (by decide) (by decide) (zs_putI dX3_beginsItem_5 zf_X3_24 rfl (zq_31 _) (by decide) (by decide) (zg_aload_n dX3_beginsItem_8 rfl (zg_iconst 0 dX3_beginsItem_9 (by decide) (zs_putI dX3_beginsItem_10 zf_X3_27 rfl (zq_31 _) (by decide) (by decide) (zg_aload_n dX3_beginsItem_13 rfl (zs_getI dX3_beginsItem_14 zf_X3_18 rfl (zq_31 _) (by decide) (by decide) k))))))))) ?_
  refine d_if (fun s17_0 => ?_) (fun s17_0 => ?_)
  · refine d_st (fun _ k => zg_lookup (off := 43) 60 dX3_beginsItem_17 (by decide) (by rw [s17_0] <;> decide) rfl k) ?_
    refine d_st (fun _ k => zg_aload_n dX3_beginsItem_60 rfl (zs_getI dX3_beginsItem_61 zf_X3_36 rfl (zq_31 _) (by decide) (by decide) k)) ?_
    refine d_br (fun _ => zg_if_ne 71 dX3_beginsItem_64 rfl) (fun c64 => ?_) (fun c64 => ?_)
    · refine d_st (fun _ k => zg_iconst 1 dX3_beginsItem_67 (by decide) (zg_goto 72 dX3_beginsItem_68 rfl k)) ?_
      exact d_retZ dX3_beginsItem_72 rfl (by decide)
    · refine d_st (fun _ k => zg_iconst 0 dX3_beginsItem_71 (by decide) k) ?_
      exact d_retZ dX3_beginsItem_72 rfl (by decide)
  refine d_if (fun s17_1 => ?_) (fun s17_1 => ?_)
  · refine d_st (fun _ k => zg_lookup (off := 56) 73 dX3_beginsItem_17 (by decide) (by rw [s17_1] <;> decide) rfl k) ?_
    refine d_st (fun _ k => zg_aload_n dX3_beginsItem_73 rfl (zs_getI dX3_beginsItem_74 zf_X3_78 rfl (zp_o h1 _) (by decide) (by decide) (zg_bipush 9 dX3_beginsItem_77 (by decide) k))) ?_
    refine d_br (fun _ => zg_icmp_ge 86 dX3_beginsItem_79 rfl) (fun c79 => ?_) (fun c79 => ?_)
    · refine d_st (fun _ k => zg_iconst 0 dX3_beginsItem_86 (by decide) k) ?_
      exact d_retZ dX3_beginsItem_87 rfl (by decide)
    · refine d_st (fun _ k => zg_iconst 1 dX3_beginsItem_82 (by decide) (zg_goto 87 dX3_beginsItem_83 rfl k)) ?_
      exact d_retZ dX3_beginsItem_87 rfl (by decide)
  refine d_if (fun s17_2 => ?_) (fun s17_2 => ?_)
  · refine d_st (fun _ k => zg_lookup (off := 71) 88 dX3_beginsItem_17 (by decide) (by rw [s17_2] <;> decide) rfl k) ?_
    refine d_st (fun _ k => zg_aload_n dX3_beginsItem_88 rfl (zs_getI dX3_beginsItem_89 zf_X3_81 rfl (zp_o h1 _) (by decide) (by decide) (zg_iconst 4 dX3_beginsItem_92 (by decide) k))) ?_
    refine d_br (fun _ => zg_icmp_ge 100 dX3_beginsItem_93 rfl) (fun c93 => ?_) (fun c93 => ?_)
    · refine d_st (fun _ k => zg_iconst 0 dX3_beginsItem_100 (by decide) k) ?_
      exact d_retZ dX3_beginsItem_101 rfl (by decide)
    · refine d_st (fun _ k => zg_iconst 1 dX3_beginsItem_96 (by decide) (zg_goto 101 dX3_beginsItem_97 rfl k)) ?_
      exact d_retZ dX3_beginsItem_101 rfl (by decide)
  refine d_if (fun s17_3 => ?_) (fun s17_3 => ?_)
  · refine d_st (fun _ k => zg_lookup (off := 85) 102 dX3_beginsItem_17 (by decide) (by rw [s17_3] <;> decide) rfl k) ?_
    refine d_st (fun _ k => zg_iconst 1 dX3_beginsItem_102 (by decide) k) ?_
    exact d_retZ dX3_beginsItem_103 rfl (by decide)
  refine d_st (fun _ k => zg_lookup (off := 87) 104 dX3_beginsItem_17 (by decide) (by show Op.lookupswitch.offset [(104, 43), (107, 56), (112, 71), (115, 85)] _ _ = _; rw [lv_osw s17_0 (by decide : (104 : Int32).toInt = 104), lv_osw s17_1 (by decide : (107 : Int32).toInt = 107), lv_osw s17_2 (by decide : (112 : Int32).toInt = 112), lv_osw s17_3 (by decide : (115 : Int32).toInt = 115)]; rfl) rfl k) ?_
  refine d_st (fun _ k => zg_iconst 0 dX3_beginsItem_104 (by decide) k) ?_
  exact d_retZ dX3_beginsItem_105 rfl (by decide)
def f_X1_hasCorner (p0 : Nat) (a1 : Int32) (S : zS) : Option (Int32 × zS) := if a1 < 0 then (some (0, S)) else (if (S.1 p0 0) ≤ a1 then (some (0, S)) else (if 9 ≤ a1 then (some (0, S)) else (some (1, S))))
set_option maxRecDepth 100000 in
set_option maxHeartbeats 4000000 in
theorem zd_X1_hasCorner (V : zV) {p0 : Nat} (h0 : z_isP p0) (d : Nat) : ∀ (a1 : Int32) (S : zS), z_J zeI V mX1_hasCorner (d) (f_X1_hasCorner p0 a1 S) 0 (z_ent mX1_hasCorner [.ref p0, .int a1]) [] S := by
  intro a1 S
  show z_J zeI V mX1_hasCorner (d) (f_X1_hasCorner p0 a1 S) 0 [.ref p0, .int a1] [] S
  unfold f_X1_hasCorner
  refine d_st (fun _ k => zg_iload_n dX1_hasCorner_0 rfl k) ?_
  refine d_br (fun _ => zg_if_lt 22 dX1_hasCorner_1 rfl) (fun c1 => ?_) (fun c1 => ?_)
  · refine d_st (fun _ k => zg_iconst 0 dX1_hasCorner_22 (by decide) k) ?_
    exact d_retZ dX1_hasCorner_23 rfl (by decide)
  · refine d_st (fun _ k => zg_iload_n dX1_hasCorner_4 rfl (zg_aload_n dX1_hasCorner_5 rfl (zs_getI dX1_hasCorner_6 zf_X1_9 rfl (zp_o h0 _) (by decide) (by decide) k))) ?_
    refine d_br (fun _ => zg_icmp_ge 22 dX1_hasCorner_9 rfl) (fun c9 => ?_) (fun c9 => ?_)
    · refine d_st (fun _ k => zg_iconst 0 dX1_hasCorner_22 (by decide) k) ?_
      exact d_retZ dX1_hasCorner_23 rfl (by decide)
    · refine d_st (fun _ k => zg_iload_n dX1_hasCorner_12 rfl (zg_bipush 9 dX1_hasCorner_13 (by decide) k)) ?_
      refine d_br (fun _ => zg_icmp_ge 22 dX1_hasCorner_15 rfl) (fun c15 => ?_) (fun c15 => ?_)
      · refine d_st (fun _ k => zg_iconst 0 dX1_hasCorner_22 (by decide) k) ?_
        exact d_retZ dX1_hasCorner_23 rfl (by decide)
      · refine d_st (fun _ k => zg_iconst 1 dX1_hasCorner_18 (by decide) (zg_goto 23 dX1_hasCorner_19 rfl k)) ?_
        exact d_retZ dX1_hasCorner_23 rfl (by decide)
def f_X8_has (a0 : Int32) (a1 : Int32) (S : zS) : Option (Int32 × zS) := if ((a0 >>> (a1 &&& 31)) &&& 1) = 0 then (some (0, S)) else (some (1, S))
set_option maxRecDepth 100000 in
set_option maxHeartbeats 4000000 in
theorem zd_X8_has (V : zV) (d : Nat) : ∀ (a0 : Int32) (a1 : Int32) (S : zS), z_J zeI V mX8_has (d) (f_X8_has a0 a1 S) 0 (z_ent mX8_has [.int a0, .int a1]) [] S := by
  intro a0 a1 S
  show z_J zeI V mX8_has (d) (f_X8_has a0 a1 S) 0 [.int a0, .int a1] [] S
  unfold f_X8_has
  refine d_st (fun _ k => zg_iload_n dX8_has_0 rfl (zg_iload_n dX8_has_1 rfl (zg_ishr dX8_has_2 (zg_iconst 1 dX8_has_3 (by decide) (zg_iand dX8_has_4 k))))) ?_
  refine d_br (fun _ => zg_if_eq 12 dX8_has_5 rfl) (fun c5 => ?_) (fun c5 => ?_)
  · refine d_st (fun _ k => zg_iconst 0 dX8_has_12 (by decide) k) ?_
    exact d_retZ dX8_has_13 rfl (by decide)
  · refine d_st (fun _ k => zg_iconst 1 dX8_has_8 (by decide) (zg_goto 13 dX8_has_9 rfl k)) ?_
    exact d_retZ dX8_has_13 rfl (by decide)
def f_X1_join (p0 : Nat) (a1 : Int32) (a2 : Int32) (S : zS) : Option (Int32 × zS) := (f_X1_hasCorner p0 a1 S).bind (fun r2 => if r2.1 = 0 then (some (0, r2.2)) else ((f_X1_hasCorner p0 a2 r2.2).bind (fun r10 => if r10.1 = 0 then (some (0, r10.2)) else (if z_in a1 9 then ((f_X8_has (r10.2.1 (p0 + 3) a1.toNatClampNeg) a2 r10.2).bind (fun r25 => if r25.1 = 0 then (if (r25.2.1 p0 4) < 14 then (if z_in a1 9 then (if z_in a1 9 then (if z_in a2 9 then (if z_in a2 9 then (some (1, (z_w (z_w (z_w r25.2 (p0 + 3) a1.toNatClampNeg ((r25.2.1 (p0 + 3) a1.toNatClampNeg) ||| ((1 : Int32) <<< (a2 &&& 31)))) (p0 + 3) a2.toNatClampNeg (((z_w r25.2 (p0 + 3) a1.toNatClampNeg ((r25.2.1 (p0 + 3) a1.toNatClampNeg) ||| ((1 : Int32) <<< (a2 &&& 31)))).1 (p0 + 3) a2.toNatClampNeg) ||| ((1 : Int32) <<< (a1 &&& 31)))) p0 4 (((z_w (z_w r25.2 (p0 + 3) a1.toNatClampNeg ((r25.2.1 (p0 + 3) a1.toNatClampNeg) ||| ((1 : Int32) <<< (a2 &&& 31)))) (p0 + 3) a2.toNatClampNeg (((z_w r25.2 (p0 + 3) a1.toNatClampNeg ((r25.2.1 (p0 + 3) a1.toNatClampNeg) ||| ((1 : Int32) <<< (a2 &&& 31)))).1 (p0 + 3) a2.toNatClampNeg) ||| ((1 : Int32) <<< (a1 &&& 31)))).1 p0 4) + 1)))) else none) else none) else none) else none) else (some (0, r25.2))) else (some (1, r25.2)))) else none))))
set_option maxRecDepth 100000 in
set_option maxHeartbeats 4000000 in
theorem zd_X1_join (V : zV) {p0 : Nat} (h0 : z_isP p0) (d : Nat) : ∀ (a1 : Int32) (a2 : Int32) (S : zS), z_J zeI V mX1_join (d + 1) (f_X1_join p0 a1 a2 S) 0 (z_ent mX1_join [.ref p0, .int a1, .int a2]) [] S := by
  intro a1 a2 S
  show z_J zeI V mX1_join (d + 1) (f_X1_join p0 a1 a2 S) 0 [.ref p0, .int a1, .int a2] [] S
  unfold f_X1_join
  refine d_st (fun _ k => zg_aload_n dX1_join_0 rfl (zg_iload_n dX1_join_1 rfl k)) ?_
  refine d_cVi (As := [_]) dX1_join_2 zk_X1_63 (zp_o h0 _) (by decide) ⟨_, _, rfl⟩ rfl rfl (Nat.le_of_ble_eq_true rfl) (Nat.le_of_ble_eq_true rfl) rfl (zd_X1_hasCorner V h0 d _ _) (fun r2 _ => ?_)
  refine d_br (fun _ => zg_if_eq 16 dX1_join_5 rfl) (fun c5 => ?_) (fun c5 => ?_)
  · refine d_st (fun _ k => zg_iconst 0 dX1_join_16 (by decide) k) ?_
    exact d_retZ dX1_join_17 rfl (by decide)
  · refine d_st (fun _ k => zg_aload_n dX1_join_8 rfl (zg_iload_n dX1_join_9 rfl k)) ?_
    refine d_cVi (As := [_]) dX1_join_10 zk_X1_63 (zp_o h0 _) (by decide) ⟨_, _, rfl⟩ rfl rfl (Nat.le_of_ble_eq_true rfl) (Nat.le_of_ble_eq_true rfl) rfl (zd_X1_hasCorner V h0 d _ _) (fun r10 _ => ?_)
    refine d_br (fun _ => zg_if_ne 18 dX1_join_13 rfl) (fun c13 => ?_) (fun c13 => ?_)
    · refine d_st (fun _ k => zg_iconst 0 dX1_join_16 (by decide) k) ?_
      exact d_retZ dX1_join_17 rfl (by decide)
    · refine d_st (fun _ k => zg_aload_n dX1_join_18 rfl (zs_getR dX1_join_19 zf_X1_22 rfl (zp_o h0 _) (by decide) (by decide) (zp_r3 h0) (zg_iload_n dX1_join_22 rfl k))) ?_
      refine d_gd (fun g23 => ?_)
      refine d_st (fun _ k => zs_iald dX1_join_23 (zp_p3 h0) (zp_3 h0 _) g23 rfl k) ?_
      refine d_st (fun _ k => zg_iload_n dX1_join_24 rfl k) ?_
      refine d_cTi (As := [_, _]) dX1_join_25 zk_X1_73 rfl rfl (Nat.le_of_ble_eq_true rfl) (Nat.le_of_ble_eq_true rfl) rfl (zd_X8_has V d _ _ _) (fun r25 _ => ?_)
      refine d_br (fun _ => zg_if_eq 33 dX1_join_28 rfl) (fun c28 => ?_) (fun c28 => ?_)
      · refine d_st (fun _ k => zg_aload_n dX1_join_33 rfl (zs_getI dX1_join_34 zf_X1_25 rfl (zp_o h0 _) (by decide) (by decide) (zg_bipush 14 dX1_join_37 (by decide) k))) ?_
        refine d_br (fun _ => zg_icmp_lt 44 dX1_join_39 rfl) (fun c39 => ?_) (fun c39 => ?_)
        · refine d_st (fun _ k => zg_aload_n dX1_join_44 rfl (zs_getR dX1_join_45 zf_X1_22 rfl (zp_o h0 _) (by decide) (by decide) (zp_r3 h0) (zg_iload_n dX1_join_48 rfl (zg_dup2 dX1_join_49 k)))) ?_
          refine d_gd (fun g50 => ?_)
          refine d_st (fun _ k => zs_iald dX1_join_50 (zp_p3 h0) (zp_3 h0 _) g50 rfl k) ?_
          refine d_st (fun _ k => zg_iconst 1 dX1_join_51 (by decide) (zg_iload_n dX1_join_52 rfl (zg_ishl dX1_join_53 (zg_ior dX1_join_54 k)))) ?_
          refine d_gd (fun g55 => ?_)
          refine d_st (fun _ k => zs_iast dX1_join_55 (zp_p3 h0) (zp_3 h0 _) g55 rfl k) ?_
          refine d_st (fun _ k => zg_aload_n dX1_join_56 rfl (zs_getR dX1_join_57 zf_X1_22 rfl (zp_o h0 _) (by decide) (by decide) (zp_r3 h0) (zg_iload_n dX1_join_60 rfl (zg_dup2 dX1_join_61 k)))) ?_
          refine d_gd (fun g62 => ?_)
          refine d_st (fun _ k => zs_iald dX1_join_62 (zp_p3 h0) (zp_3 h0 _) g62 rfl k) ?_
          refine d_st (fun _ k => zg_iconst 1 dX1_join_63 (by decide) (zg_iload_n dX1_join_64 rfl (zg_ishl dX1_join_65 (zg_ior dX1_join_66 k)))) ?_
          refine d_gd (fun g67 => ?_)
          refine d_st (fun _ k => zs_iast dX1_join_67 (zp_p3 h0) (zp_3 h0 _) g67 rfl k) ?_
          refine d_st (fun _ k => zg_aload_n dX1_join_68 rfl (zg_dupr dX1_join_69 (zs_getI dX1_join_70 zf_X1_25 rfl (zp_o h0 _) (by decide) (by decide) (zg_iconst 1 dX1_join_73 (by decide) (zg_iadd dX1_join_74 (zs_putI dX1_join_75 zf_X1_25 rfl (zp_o h0 _) (by decide) (by decide) (zg_iconst 1 dX1_join_78 (by decide) k))))))) ?_
          exact d_retZ dX1_join_79 rfl (by decide)
        · refine d_st (fun _ k => zg_iconst 0 dX1_join_42 (by decide) k) ?_
          exact d_retZ dX1_join_43 rfl (by decide)
      · refine d_st (fun _ k => zg_iconst 1 dX1_join_31 (by decide) k) ?_
        exact d_retZ dX1_join_32 rfl (by decide)
def f_X3_endsRing (p1 : Nat) (S : zS) : Option (Int32 × zS) := if 4 ≤ (S.1 p1 7) then (some (0, S)) else (if (S.1 31 5) < 3 then (some (0, S)) else ((f_X1_join p1 (S.1 31 7) (S.1 31 6) S).bind (fun r25 => if r25.1 = 0 then (some (0, r25.2)) else (if z_in (r25.2.1 p1 7) 4 then (some (1, (z_w (z_w r25.2 (p1 + 6) ((r25.2.1 p1 7).toNatClampNeg) (r25.2.1 31 5)) p1 7 (((z_w r25.2 (p1 + 6) ((r25.2.1 p1 7).toNatClampNeg) (r25.2.1 31 5)).1 p1 7) + 1)))) else none))))
set_option maxRecDepth 100000 in
set_option maxHeartbeats 4000000 in
theorem zd_X3_endsRing (V : zV) {p1 : Nat} (h1 : z_isP p1) (d : Nat) : ∀ (S : zS), z_J zeI V mX3_endsRing (d + 2) (f_X3_endsRing p1 S) 0 (z_ent mX3_endsRing [.ref 31, .ref p1]) [] S := by
  intro S
  show z_J zeI V mX3_endsRing (d + 2) (f_X3_endsRing p1 S) 0 [.ref 31, .ref p1] [] S
  unfold f_X3_endsRing
  refine d_st (fun _ k => zg_aload_n dX3_endsRing_0 rfl (zs_getI dX3_endsRing_1 zf_X3_81 rfl (zp_o h1 _) (by decide) (by decide) (zg_iconst 4 dX3_endsRing_4 (by decide) k))) ?_
  refine d_br (fun _ => zg_icmp_ge 31 dX3_endsRing_5 rfl) (fun c5 => ?_) (fun c5 => ?_)
  · refine d_st (fun _ k => zg_iconst 0 dX3_endsRing_31 (by decide) k) ?_
    exact d_retZ dX3_endsRing_32 rfl (by decide)
  · refine d_st (fun _ k => zg_aload_n dX3_endsRing_8 rfl (zs_getI dX3_endsRing_9 zf_X3_27 rfl (zq_31 _) (by decide) (by decide) (zg_iconst 3 dX3_endsRing_12 (by decide) k))) ?_
    refine d_br (fun _ => zg_icmp_lt 31 dX3_endsRing_13 rfl) (fun c13 => ?_) (fun c13 => ?_)
    · refine d_st (fun _ k => zg_iconst 0 dX3_endsRing_31 (by decide) k) ?_
      exact d_retZ dX3_endsRing_32 rfl (by decide)
    · refine d_st (fun _ k => zg_aload_n dX3_endsRing_16 rfl (zg_aload_n dX3_endsRing_17 rfl (zs_getI dX3_endsRing_18 zf_X3_33 rfl (zq_31 _) (by decide) (by decide) (zg_aload_n dX3_endsRing_21 rfl (zs_getI dX3_endsRing_22 zf_X3_30 rfl (zq_31 _) (by decide) (by decide) k))))) ?_
      refine d_cVi (As := [_, _]) dX3_endsRing_25 zk_X3_110 (zp_o h1 _) (by decide) ⟨_, _, rfl⟩ rfl rfl (Nat.le_of_ble_eq_true rfl) (Nat.le_of_ble_eq_true rfl) rfl (zd_X1_join V h1 d _ _ _) (fun r25 _ => ?_)
      refine d_br (fun _ => zg_if_ne 33 dX3_endsRing_28 rfl) (fun c28 => ?_) (fun c28 => ?_)
      · refine d_st (fun _ k => zg_iconst 0 dX3_endsRing_31 (by decide) k) ?_
        exact d_retZ dX3_endsRing_32 rfl (by decide)
      · refine d_st (fun _ k => zg_aload_n dX3_endsRing_33 rfl (zs_getR dX3_endsRing_34 zf_X3_119 rfl (zp_o h1 _) (by decide) (by decide) (zp_r8 h1) (zg_aload_n dX3_endsRing_37 rfl (zs_getI dX3_endsRing_38 zf_X3_81 rfl (zp_o h1 _) (by decide) (by decide) (zg_aload_n dX3_endsRing_41 rfl (zs_getI dX3_endsRing_42 zf_X3_27 rfl (zq_31 _) (by decide) (by decide) k)))))) ?_
        refine d_gd (fun g45 => ?_)
        refine d_st (fun _ k => zs_iast dX3_endsRing_45 (zp_p6 h1) (zp_6 h1 _) g45 rfl k) ?_
        refine d_st (fun _ k => zg_aload_n dX3_endsRing_46 rfl (zg_dupr dX3_endsRing_47 (zs_getI dX3_endsRing_48 zf_X3_81 rfl (zp_o h1 _) (by decide) (by decide) (zg_iconst 1 dX3_endsRing_51 (by decide) (zg_iadd dX3_endsRing_52 (zs_putI dX3_endsRing_53 zf_X3_81 rfl (zp_o h1 _) (by decide) (by decide) (zg_iconst 1 dX3_endsRing_56 (by decide) k))))))) ?_
        exact d_retZ dX3_endsRing_57 rfl (by decide)
def f_X3_endsItem_43 (p1 : Nat) (t0 : Int32) (S : zS) : Option (Int32 × zS) := if t0 = 0 then (if t0 = 0 ∨ t0 = 1 then some (t0, S) else none) else (if t0 = 0 ∨ t0 = 1 then some (t0, (z_w (z_w S 31 4 0) p1 13 (((z_w S 31 4 0).1 p1 13) + 1))) else none)
set_option maxRecDepth 100000 in
set_option maxHeartbeats 4000000 in
theorem zd_X3_endsItem_43 (V : zV) {p1 : Nat} (h1 : z_isP p1) (d : Nat) : ∀ (t0 : Int32) (S : zS), z_J zeI V mX3_endsItem (d + 3) (f_X3_endsItem_43 p1 t0 S) 43 [.ref 31, .ref p1, .null] [.int t0] S := by
  intro t0 S
  unfold f_X3_endsItem_43
  refine d_st (fun _ k => zg_istore_n (ls' := [_, _, _]) dX3_endsItem_43 (Nat.le_of_ble_eq_true rfl) rfl rfl (zg_iload_n dX3_endsItem_44 rfl k)) ?_
  refine d_br (fun _ => zg_if_eq 63 dX3_endsItem_45 rfl) (fun c45 => ?_) (fun c45 => ?_)
  · refine d_st (fun _ k => zg_iload_n dX3_endsItem_63 rfl k) ?_
    refine d_gd (fun g64 => ?_)
    exact d_retZ dX3_endsItem_64 rfl g64
  · refine d_st (fun _ k => zg_aload_n dX3_endsItem_48 rfl (zg_iconst 0 dX3_endsItem_49 (by decide) (zs_putI dX3_endsItem_50 zf_X3_24 rfl (zq_31 _) (by decide) (by decide) (zg_aload_n dX3_endsItem_53 rfl (zg_dupr dX3_endsItem_54 (zs_getI dX3_endsItem_55 zf_X3_116 rfl (zp_o h1 _) (by decide) (by decide) (zg_iconst 1 dX3_endsItem_58 (by decide) (zg_iadd dX3_endsItem_59 (zs_putI dX3_endsItem_60 zf_X3_116 rfl (zp_o h1 _) (by decide) (by decide) (zg_iload_n dX3_endsItem_63 rfl k)))))))))) ?_
    refine d_gd (fun g64 => ?_)
    exact d_retZ dX3_endsItem_64 rfl g64
def f_X3_endsItem_35 (p1 : Nat) (t0 : Int32) (t1 : Int32) (S : zS) : Option (Int32 × zS) := if t1 = t0 then (f_X3_endsItem_43 p1 1 S) else (f_X3_endsItem_43 p1 0 S)
set_option maxRecDepth 100000 in
set_option maxHeartbeats 4000000 in
theorem zd_X3_endsItem_35 (V : zV) {p1 : Nat} (h1 : z_isP p1) (d : Nat) : ∀ (t0 : Int32) (t1 : Int32) (S : zS), z_J zeI V mX3_endsItem (d + 3) (f_X3_endsItem_35 p1 t0 t1 S) 35 [.ref 31, .ref p1, .null] [.int t0, .int t1] S := by
  intro t0 t1 S
  unfold f_X3_endsItem_35
  refine d_br (fun _ => zg_icmp_ne 42 dX3_endsItem_35 rfl) (fun c35 => ?_) (fun c35 => ?_)
  · refine d_st (fun _ k => zg_iconst 1 dX3_endsItem_38 (by decide) (zg_goto 43 dX3_endsItem_39 rfl k)) ?_
    exact d_fg (z_le_s (z_le_s (z_le_0 z_le_n))) (zd_X3_endsItem_43 V h1 d _ _)
  · refine d_st (fun _ k => zg_iconst 0 dX3_endsItem_42 (by decide) k) ?_
    exact d_fg (z_le_s (z_le_s (z_le_0 z_le_n))) (zd_X3_endsItem_43 V h1 d _ _)
def f_X3_endsItem (p1 : Nat) (S : zS) : Option (Int32 × zS) := if (S.1 31 4) = 112 then ((f_X3_endsRing p1 S).bind (fun r11 => f_X3_endsItem_43 p1 r11.1 r11.2)) else (if (S.1 31 4) = 104 then (f_X3_endsItem_35 p1 1 (S.1 31 5) S) else (f_X3_endsItem_35 p1 2 (S.1 31 5) S))
set_option maxRecDepth 100000 in
set_option maxHeartbeats 4000000 in
theorem zd_X3_endsItem (V : zV) {p1 : Nat} (h1 : z_isP p1) (d : Nat) : ∀ (S : zS), z_J zeI V mX3_endsItem (d + 3) (f_X3_endsItem p1 S) 0 (z_ent mX3_endsItem [.ref 31, .ref p1]) [] S := by
  intro S
  show z_J zeI V mX3_endsItem (d + 3) (f_X3_endsItem p1 S) 0 [.ref 31, .ref p1, .null] [] S
  unfold f_X3_endsItem
  refine d_st (fun _ k => zg_aload_n dX3_endsItem_0 rfl (zs_getI dX3_endsItem_1 zf_X3_24 rfl (zq_31 _) (by decide) (by decide) (zg_bipush 112 dX3_endsItem_4 (by decide) k))) ?_
  refine d_br (fun _ => zg_icmp_ne 17 dX3_endsItem_6 rfl) (fun c6 => ?_) (fun c6 => ?_)
  · refine d_st (fun _ k => zg_aload_n dX3_endsItem_9 rfl (zg_aload_n dX3_endsItem_10 rfl k)) ?_
    refine d_cVi (As := [_]) dX3_endsItem_11 zk_X3_113 (zq_31 _) (by decide) ⟨_, _, rfl⟩ rfl rfl (Nat.le_of_ble_eq_true rfl) (Nat.le_of_ble_eq_true rfl) rfl (zd_X3_endsRing V h1 d _) (fun r11 _ => ?_)
    refine d_st (fun _ k => zg_goto 43 dX3_endsItem_14 rfl k) ?_
    exact d_fg (z_le_s (z_le_s (z_le_0 z_le_n))) (zd_X3_endsItem_43 V h1 d _ _)
  · refine d_st (fun _ k => zg_aload_n dX3_endsItem_17 rfl (zs_getI dX3_endsItem_18 zf_X3_27 rfl (zq_31 _) (by decide) (by decide) (zg_aload_n dX3_endsItem_21 rfl (zs_getI dX3_endsItem_22 zf_X3_24 rfl (zq_31 _) (by decide) (by decide) (zg_bipush 104 dX3_endsItem_25 (by decide) k))))) ?_
    refine d_br (fun _ => zg_icmp_ne 34 dX3_endsItem_27 rfl) (fun c27 => ?_) (fun c27 => ?_)
    · refine d_st (fun _ k => zg_iconst 1 dX3_endsItem_30 (by decide) (zg_goto 35 dX3_endsItem_31 rfl k)) ?_
      exact d_fg (z_le_s (z_le_s (z_le_0 z_le_n))) (zd_X3_endsItem_35 V h1 d _ _ _)
    · refine d_st (fun _ k => zg_iconst 2 dX3_endsItem_34 (by decide) k) ?_
      exact d_fg (z_le_s (z_le_s (z_le_0 z_le_n))) (zd_X3_endsItem_35 V h1 d _ _ _)
def f_X3_takesHeat (p1 : Nat) (S : zS) : Option (Int32 × zS) := if 0 < (S.1 31 5) then (some (0, S)) else (if (S.1 31 3) ≤ 20 then (some (1, (z_w (z_w S p1 12 (S.1 31 3)) 31 8 1))) else (some (0, S)))
set_option maxRecDepth 100000 in
set_option maxHeartbeats 4000000 in
theorem zd_X3_takesHeat (V : zV) {p1 : Nat} (h1 : z_isP p1) (d : Nat) : ∀ (S : zS), z_J zeI V mX3_takesHeat (d) (f_X3_takesHeat p1 S) 0 (z_ent mX3_takesHeat [.ref 31, .ref p1]) [] S := by
  intro S
  show z_J zeI V mX3_takesHeat (d) (f_X3_takesHeat p1 S) 0 [.ref 31, .ref p1] [] S
  unfold f_X3_takesHeat
  refine d_st (fun _ k => zg_aload_n dX3_takesHeat_0 rfl (zs_getI dX3_takesHeat_1 zf_X3_27 rfl (zq_31 _) (by decide) (by decide) k)) ?_
  refine d_br (fun _ => zg_if_gt 16 dX3_takesHeat_4 rfl) (fun c4 => ?_) (fun c4 => ?_)
  · refine d_st (fun _ k => zg_iconst 0 dX3_takesHeat_16 (by decide) k) ?_
    exact d_retZ dX3_takesHeat_17 rfl (by decide)
  · refine d_st (fun _ k => zg_aload_n dX3_takesHeat_7 rfl (zs_getI dX3_takesHeat_8 zf_X3_21 rfl (zq_31 _) (by decide) (by decide) (zg_bipush 20 dX3_takesHeat_11 (by decide) k))) ?_
    refine d_br (fun _ => zg_icmp_le 18 dX3_takesHeat_13 rfl) (fun c13 => ?_) (fun c13 => ?_)
    · refine d_st (fun _ k => zg_aload_n dX3_takesHeat_18 rfl (zg_aload_n dX3_takesHeat_19 rfl (zs_getI dX3_takesHeat_20 zf_X3_21 rfl (zq_31 _) (by decide) (by decide) (zs_putI dX3_takesHeat_23 zf_X3_96 rfl (zp_o h1 _) (by decide) (by decide) (zg_aload_n dX3_takesHeat_26 rfl (zg_iconst 1 dX3_takesHeat_27 (by decide) (zs_putZ dX3_takesHeat_28 zf_X3_36 rfl (by decide) (zq_31 _) (by decide) (by decide) (zg_iconst 1 dX3_takesHeat_31 (by decide) k)))))))) ?_
      exact d_retZ dX3_takesHeat_32 rfl (by decide)
    · refine d_st (fun _ k => zg_iconst 0 dX3_takesHeat_16 (by decide) k) ?_
      exact d_retZ dX3_takesHeat_17 rfl (by decide)
def f_X1_addCorner_13 (p0 : Nat) : Nat → Int32 → Int32 → Int32 → zS → Option (Int32 × zS)
  | 0, _, _, _, _ => none
  | n + 1, v1, v2, v3, S => if (S.1 p0 0) ≤ v3 then (if z_in (S.1 p0 0) 9 then (if z_in ((z_w S (p0 + 1) ((S.1 p0 0).toNatClampNeg) v1).1 p0 0) 9 then (some (1, (z_w (z_w (z_w S (p0 + 1) ((S.1 p0 0).toNatClampNeg) v1) (p0 + 2) (((z_w S (p0 + 1) ((S.1 p0 0).toNatClampNeg) v1).1 p0 0).toNatClampNeg) v2) p0 0 (((z_w (z_w S (p0 + 1) ((S.1 p0 0).toNatClampNeg) v1) (p0 + 2) (((z_w S (p0 + 1) ((S.1 p0 0).toNatClampNeg) v1).1 p0 0).toNatClampNeg) v2).1 p0 0) + 1)))) else none) else none) else (if z_in v3 9 then (if (S.1 (p0 + 1) v3.toNatClampNeg) = v1 then (if z_in v3 9 then (if (S.1 (p0 + 2) v3.toNatClampNeg) = v2 then (some (0, S)) else (f_X1_addCorner_13 p0 n v1 v2 (v3 + 1) S)) else none) else (f_X1_addCorner_13 p0 n v1 v2 (v3 + 1) S)) else none)
set_option maxRecDepth 100000 in
set_option maxHeartbeats 4000000 in
theorem zd_X1_addCorner_13 (V : zV) {p0 : Nat} (h0 : z_isP p0) (d : Nat) : ∀ (n : Nat) (v1 : Int32) (v2 : Int32) (v3 : Int32) (S : zS), z_J zeI V mX1_addCorner (d) (f_X1_addCorner_13 p0 n v1 v2 v3 S) 13 [.ref p0, .int v1, .int v2, .int v3] [] S := by
  intro n
  induction n with
  | zero =>
    intro v1 v2 v3 S r hr
    cases (show (none : Option (Int32 × zS)) = some r from hr)
  | succ n ih =>
    intro v1 v2 v3 S
    rw [f_X1_addCorner_13]
    refine d_st (fun _ k => zg_iload_n dX1_addCorner_13 rfl (zg_aload_n dX1_addCorner_14 rfl (zs_getI dX1_addCorner_15 zf_X1_9 rfl (zp_o h0 _) (by decide) (by decide) k))) ?_
    refine d_br (fun _ => zg_icmp_ge 49 dX1_addCorner_18 rfl) (fun c18 => ?_) (fun c18 => ?_)
    · refine d_st (fun _ k => zg_aload_n dX1_addCorner_49 rfl (zs_getR dX1_addCorner_50 zf_X1_15 rfl (zp_o h0 _) (by decide) (by decide) (zp_r1 h0) (zg_aload_n dX1_addCorner_53 rfl (zs_getI dX1_addCorner_54 zf_X1_9 rfl (zp_o h0 _) (by decide) (by decide) (zg_iload_n dX1_addCorner_57 rfl k))))) ?_
      refine d_gd (fun g58 => ?_)
      refine d_st (fun _ k => zs_iast dX1_addCorner_58 (zp_p1 h0) (zp_1 h0 _) g58 rfl k) ?_
      refine d_st (fun _ k => zg_aload_n dX1_addCorner_59 rfl (zs_getR dX1_addCorner_60 zf_X1_19 rfl (zp_o h0 _) (by decide) (by decide) (zp_r2 h0) (zg_aload_n dX1_addCorner_63 rfl (zs_getI dX1_addCorner_64 zf_X1_9 rfl (zp_o h0 _) (by decide) (by decide) (zg_iload_n dX1_addCorner_67 rfl k))))) ?_
      refine d_gd (fun g68 => ?_)
      refine d_st (fun _ k => zs_iast dX1_addCorner_68 (zp_p2 h0) (zp_2 h0 _) g68 rfl k) ?_
      refine d_st (fun _ k => zg_aload_n dX1_addCorner_69 rfl (zg_dupr dX1_addCorner_70 (zs_getI dX1_addCorner_71 zf_X1_9 rfl (zp_o h0 _) (by decide) (by decide) (zg_iconst 1 dX1_addCorner_74 (by decide) (zg_iadd dX1_addCorner_75 (zs_putI dX1_addCorner_76 zf_X1_9 rfl (zp_o h0 _) (by decide) (by decide) (zg_iconst 1 dX1_addCorner_79 (by decide) k))))))) ?_
      exact d_retZ dX1_addCorner_80 rfl (by decide)
    · refine d_st (fun _ k => zg_aload_n dX1_addCorner_21 rfl (zs_getR dX1_addCorner_22 zf_X1_15 rfl (zp_o h0 _) (by decide) (by decide) (zp_r1 h0) (zg_iload_n dX1_addCorner_25 rfl k))) ?_
      refine d_gd (fun g26 => ?_)
      refine d_st (fun _ k => zs_iald dX1_addCorner_26 (zp_p1 h0) (zp_1 h0 _) g26 rfl k) ?_
      refine d_st (fun _ k => zg_iload_n dX1_addCorner_27 rfl k) ?_
      refine d_br (fun _ => zg_icmp_ne 43 dX1_addCorner_28 rfl) (fun c28 => ?_) (fun c28 => ?_)
      · refine d_st (fun _ k => zg_aload_n dX1_addCorner_31 rfl (zs_getR dX1_addCorner_32 zf_X1_19 rfl (zp_o h0 _) (by decide) (by decide) (zp_r2 h0) (zg_iload_n dX1_addCorner_35 rfl k))) ?_
        refine d_gd (fun g36 => ?_)
        refine d_st (fun _ k => zs_iald dX1_addCorner_36 (zp_p2 h0) (zp_2 h0 _) g36 rfl k) ?_
        refine d_st (fun _ k => zg_iload_n dX1_addCorner_37 rfl k) ?_
        refine d_br (fun _ => zg_icmp_ne 43 dX1_addCorner_38 rfl) (fun c38 => ?_) (fun c38 => ?_)
        · refine d_st (fun _ k => zg_iconst 0 dX1_addCorner_41 (by decide) k) ?_
          exact d_retZ dX1_addCorner_42 rfl (by decide)
        · refine d_st (fun _ k => zg_iinc (ls' := [_, _, _, _]) 1 dX1_addCorner_43 rfl (by decide) (Nat.le_of_ble_eq_true rfl) rfl rfl (zg_goto 13 dX1_addCorner_46 rfl k)) ?_
          exact d_fg (z_le_s (z_le_s (z_le_s (z_le_s z_le_n)))) (ih _ _ _ _)
      · refine d_st (fun _ k => zg_iinc (ls' := [_, _, _, _]) 1 dX1_addCorner_43 rfl (by decide) (Nat.le_of_ble_eq_true rfl) rfl rfl (zg_goto 13 dX1_addCorner_46 rfl k)) ?_
        exact d_fg (z_le_s (z_le_s (z_le_s (z_le_s z_le_n)))) (ih _ _ _ _)
def f_X1_addCorner (p0 : Nat) (a1 : Int32) (a2 : Int32) (S : zS) : Option (Int32 × zS) := if (S.1 p0 0) < 9 then (f_X1_addCorner_13 p0 1000 a1 a2 0 S) else (some (0, S))
set_option maxRecDepth 100000 in
set_option maxHeartbeats 4000000 in
theorem zd_X1_addCorner (V : zV) {p0 : Nat} (h0 : z_isP p0) (d : Nat) : ∀ (a1 : Int32) (a2 : Int32) (S : zS), z_J zeI V mX1_addCorner (d) (f_X1_addCorner p0 a1 a2 S) 0 (z_ent mX1_addCorner [.ref p0, .int a1, .int a2]) [] S := by
  intro a1 a2 S
  show z_J zeI V mX1_addCorner (d) (f_X1_addCorner p0 a1 a2 S) 0 [.ref p0, .int a1, .int a2, .null] [] S
  unfold f_X1_addCorner
  refine d_st (fun _ k => zg_aload_n dX1_addCorner_0 rfl (zs_getI dX1_addCorner_1 zf_X1_9 rfl (zp_o h0 _) (by decide) (by decide) (zg_bipush 9 dX1_addCorner_4 (by decide) k))) ?_
  refine d_br (fun _ => zg_icmp_lt 11 dX1_addCorner_6 rfl) (fun c6 => ?_) (fun c6 => ?_)
  · refine d_st (fun _ k => zg_iconst 0 dX1_addCorner_11 (by decide) (zg_istore_n (ls' := [_, _, _, _]) dX1_addCorner_12 (Nat.le_of_ble_eq_true rfl) rfl rfl k)) ?_
    exact d_fg (z_le_s (z_le_s (z_le_s (z_le_s z_le_n)))) (zd_X1_addCorner_13 V h0 d 1000 _ _ _ _)
  · refine d_st (fun _ k => zg_iconst 0 dX1_addCorner_9 (by decide) k) ?_
    exact d_retZ dX1_addCorner_10 rfl (by decide)
def f_X3_takesPlace (p1 : Nat) (S : zS) : Option (Int32 × zS) := if 1 < (S.1 31 5) then (some (0, S)) else (if (S.1 31 3) ≤ 20 then (if (S.1 31 5) = 0 then (some (1, S)) else ((f_X1_addCorner p1 (S.1 31 6) (S.1 31 3) S).bind (fun r35 => if r35.1 = 0 then (some (0, r35.2)) else (some (1, r35.2))))) else (some (0, S)))
set_option maxRecDepth 100000 in
set_option maxHeartbeats 4000000 in
theorem zd_X3_takesPlace (V : zV) {p1 : Nat} (h1 : z_isP p1) (d : Nat) : ∀ (S : zS), z_J zeI V mX3_takesPlace (d + 1) (f_X3_takesPlace p1 S) 0 (z_ent mX3_takesPlace [.ref 31, .ref p1]) [] S := by
  intro S
  show z_J zeI V mX3_takesPlace (d + 1) (f_X3_takesPlace p1 S) 0 [.ref 31, .ref p1] [] S
  unfold f_X3_takesPlace
  refine d_st (fun _ k => zg_aload_n dX3_takesPlace_0 rfl (zs_getI dX3_takesPlace_1 zf_X3_27 rfl (zq_31 _) (by decide) (by decide) (zg_iconst 1 dX3_takesPlace_4 (by decide) k))) ?_
  refine d_br (fun _ => zg_icmp_gt 17 dX3_takesPlace_5 rfl) (fun c5 => ?_) (fun c5 => ?_)
  · refine d_st (fun _ k => zg_iconst 0 dX3_takesPlace_17 (by decide) k) ?_
    exact d_retZ dX3_takesPlace_18 rfl (by decide)
  · refine d_st (fun _ k => zg_aload_n dX3_takesPlace_8 rfl (zs_getI dX3_takesPlace_9 zf_X3_21 rfl (zq_31 _) (by decide) (by decide) (zg_bipush 20 dX3_takesPlace_12 (by decide) k))) ?_
    refine d_br (fun _ => zg_icmp_le 19 dX3_takesPlace_14 rfl) (fun c14 => ?_) (fun c14 => ?_)
    · refine d_st (fun _ k => zg_aload_n dX3_takesPlace_19 rfl (zs_getI dX3_takesPlace_20 zf_X3_27 rfl (zq_31 _) (by decide) (by decide) k)) ?_
      refine d_br (fun _ => zg_if_eq 41 dX3_takesPlace_23 rfl) (fun c23 => ?_) (fun c23 => ?_)
      · refine d_st (fun _ k => zg_iconst 1 dX3_takesPlace_41 (by decide) (zg_goto 46 dX3_takesPlace_42 rfl k)) ?_
        exact d_retZ dX3_takesPlace_46 rfl (by decide)
      · refine d_st (fun _ k => zg_aload_n dX3_takesPlace_26 rfl (zg_aload_n dX3_takesPlace_27 rfl (zs_getI dX3_takesPlace_28 zf_X3_30 rfl (zq_31 _) (by decide) (by decide) (zg_aload_n dX3_takesPlace_31 rfl (zs_getI dX3_takesPlace_32 zf_X3_21 rfl (zq_31 _) (by decide) (by decide) k))))) ?_
        refine d_cVi (As := [_, _]) dX3_takesPlace_35 zk_X3_99 (zp_o h1 _) (by decide) ⟨_, _, rfl⟩ rfl rfl (Nat.le_of_ble_eq_true rfl) (Nat.le_of_ble_eq_true rfl) rfl (zd_X1_addCorner V h1 d _ _ _) (fun r35 _ => ?_)
        refine d_br (fun _ => zg_if_eq 45 dX3_takesPlace_38 rfl) (fun c38 => ?_) (fun c38 => ?_)
        · refine d_st (fun _ k => zg_iconst 0 dX3_takesPlace_45 (by decide) k) ?_
          exact d_retZ dX3_takesPlace_46 rfl (by decide)
        · refine d_st (fun _ k => zg_iconst 1 dX3_takesPlace_41 (by decide) (zg_goto 46 dX3_takesPlace_42 rfl k)) ?_
          exact d_retZ dX3_takesPlace_46 rfl (by decide)
    · refine d_st (fun _ k => zg_iconst 0 dX3_takesPlace_17 (by decide) k) ?_
      exact d_retZ dX3_takesPlace_18 rfl (by decide)
def f_X3_takesRingCorner_33 (p1 : Nat) : Nat → Int32 → Int32 → zS → Option (Int32 × zS)
  | 0, _, _, _ => none
  | n + 1, v2, v3, S => if (S.1 31 5) ≤ v3 then (if z_in v2 4 then (if z_in (S.1 31 5) 5 then (if ((z_w S (p1 + 8 + v2.toNatClampNeg) ((S.1 31 5).toNatClampNeg) (S.1 31 3)).1 31 5) = 0 then (some (1, (z_w S (p1 + 8 + v2.toNatClampNeg) ((S.1 31 5).toNatClampNeg) (S.1 31 3)))) else ((f_X1_join p1 ((z_w S (p1 + 8 + v2.toNatClampNeg) ((S.1 31 5).toNatClampNeg) (S.1 31 3)).1 31 7) ((z_w S (p1 + 8 + v2.toNatClampNeg) ((S.1 31 5).toNatClampNeg) (S.1 31 3)).1 31 3) (z_w S (p1 + 8 + v2.toNatClampNeg) ((S.1 31 5).toNatClampNeg) (S.1 31 3))).bind (fun r95 => if r95.1 = 0 then (some (0, r95.2)) else (some (1, r95.2))))) else none) else none) else (if z_in v2 4 then (if z_in v3 5 then (if (S.1 (p1 + 8 + v2.toNatClampNeg) v3.toNatClampNeg) = (S.1 31 3) then (some (0, S)) else (f_X3_takesRingCorner_33 p1 n v2 (v3 + 1) S)) else none) else none)
set_option maxRecDepth 100000 in
set_option maxHeartbeats 4000000 in
theorem zd_X3_takesRingCorner_33 (V : zV) {p1 : Nat} (h1 : z_isP p1) (d : Nat) : ∀ (n : Nat) (v2 : Int32) (v3 : Int32) (S : zS), z_J zeI V mX3_takesRingCorner (d + 2) (f_X3_takesRingCorner_33 p1 n v2 v3 S) 33 [.ref 31, .ref p1, .int v2, .int v3] [] S := by
  intro n
  induction n with
  | zero =>
    intro v2 v3 S r hr
    cases (show (none : Option (Int32 × zS)) = some r from hr)
  | succ n ih =>
    intro v2 v3 S
    rw [f_X3_takesRingCorner_33]
    refine d_st (fun _ k => zg_iload_n dX3_takesRingCorner_33 rfl (zg_aload_n dX3_takesRingCorner_34 rfl (zs_getI dX3_takesRingCorner_35 zf_X3_27 rfl (zq_31 _) (by decide) (by decide) k))) ?_
    refine d_br (fun _ => zg_icmp_ge 64 dX3_takesRingCorner_38 rfl) (fun c38 => ?_) (fun c38 => ?_)
    · refine d_st (fun _ k => zg_aload_n dX3_takesRingCorner_64 rfl (zs_getR dX3_takesRingCorner_65 zf_X3_106 rfl (zp_o h1 _) (by decide) (by decide) (zp_r9 h1) (zg_iload_n dX3_takesRingCorner_68 rfl k))) ?_
      refine d_gd (fun g69 => ?_)
      refine d_st (fun _ k => zs_ring dX3_takesRingCorner_69 h1 g69 k) ?_
      refine d_st (fun _ k => zg_aload_n dX3_takesRingCorner_70 rfl (zs_getI dX3_takesRingCorner_71 zf_X3_27 rfl (zq_31 _) (by decide) (by decide) (zg_aload_n dX3_takesRingCorner_74 rfl (zs_getI dX3_takesRingCorner_75 zf_X3_21 rfl (zq_31 _) (by decide) (by decide) k)))) ?_
      refine d_gd (fun g78 => ?_)
      refine d_st (fun _ k => zs_iast dX3_takesRingCorner_78 zp_prow ((zp_ring (pl := 0) (dr := 0) h1 (z_in_lt g69)).2 _) g78 rfl k) ?_
      refine d_st (fun _ k => zg_aload_n dX3_takesRingCorner_79 rfl (zs_getI dX3_takesRingCorner_80 zf_X3_27 rfl (zq_31 _) (by decide) (by decide) k)) ?_
      refine d_br (fun _ => zg_if_eq 101 dX3_takesRingCorner_83 rfl) (fun c83 => ?_) (fun c83 => ?_)
      · refine d_st (fun _ k => zg_iconst 1 dX3_takesRingCorner_101 (by decide) (zg_goto 106 dX3_takesRingCorner_102 rfl k)) ?_
        exact d_retZ dX3_takesRingCorner_106 rfl (by decide)
      · refine d_st (fun _ k => zg_aload_n dX3_takesRingCorner_86 rfl (zg_aload_n dX3_takesRingCorner_87 rfl (zs_getI dX3_takesRingCorner_88 zf_X3_33 rfl (zq_31 _) (by decide) (by decide) (zg_aload_n dX3_takesRingCorner_91 rfl (zs_getI dX3_takesRingCorner_92 zf_X3_21 rfl (zq_31 _) (by decide) (by decide) k))))) ?_
        refine d_cVi (As := [_, _]) dX3_takesRingCorner_95 zk_X3_110 (zp_o h1 _) (by decide) ⟨_, _, rfl⟩ rfl rfl (Nat.le_of_ble_eq_true rfl) (Nat.le_of_ble_eq_true rfl) rfl (zd_X1_join V h1 d _ _ _) (fun r95 _ => ?_)
        refine d_br (fun _ => zg_if_eq 105 dX3_takesRingCorner_98 rfl) (fun c98 => ?_) (fun c98 => ?_)
        · refine d_st (fun _ k => zg_iconst 0 dX3_takesRingCorner_105 (by decide) k) ?_
          exact d_retZ dX3_takesRingCorner_106 rfl (by decide)
        · refine d_st (fun _ k => zg_iconst 1 dX3_takesRingCorner_101 (by decide) (zg_goto 106 dX3_takesRingCorner_102 rfl k)) ?_
          exact d_retZ dX3_takesRingCorner_106 rfl (by decide)
    · refine d_st (fun _ k => zg_aload_n dX3_takesRingCorner_41 rfl (zs_getR dX3_takesRingCorner_42 zf_X3_106 rfl (zp_o h1 _) (by decide) (by decide) (zp_r9 h1) (zg_iload_n dX3_takesRingCorner_45 rfl k))) ?_
      refine d_gd (fun g46 => ?_)
      refine d_st (fun _ k => zs_ring dX3_takesRingCorner_46 h1 g46 k) ?_
      refine d_st (fun _ k => zg_iload_n dX3_takesRingCorner_47 rfl k) ?_
      refine d_gd (fun g48 => ?_)
      refine d_st (fun _ k => zs_iald dX3_takesRingCorner_48 zp_prow ((zp_ring (pl := 0) (dr := 0) h1 (z_in_lt g46)).2 _) g48 rfl k) ?_
      refine d_st (fun _ k => zg_aload_n dX3_takesRingCorner_49 rfl (zs_getI dX3_takesRingCorner_50 zf_X3_21 rfl (zq_31 _) (by decide) (by decide) k)) ?_
      refine d_br (fun _ => zg_icmp_ne 58 dX3_takesRingCorner_53 rfl) (fun c53 => ?_) (fun c53 => ?_)
      · refine d_st (fun _ k => zg_iconst 0 dX3_takesRingCorner_56 (by decide) k) ?_
        exact d_retZ dX3_takesRingCorner_57 rfl (by decide)
      · refine d_st (fun _ k => zg_iinc (ls' := [_, _, _, _]) 1 dX3_takesRingCorner_58 rfl (by decide) (Nat.le_of_ble_eq_true rfl) rfl rfl (zg_goto 33 dX3_takesRingCorner_61 rfl k)) ?_
        exact d_fg (z_le_s (z_le_s (z_le_s (z_le_s z_le_n)))) (ih _ _ _)
def f_X3_takesRingCorner (p1 : Nat) (S : zS) : Option (Int32 × zS) := if 4 ≤ (S.1 p1 7) then (some (0, S)) else (if 5 ≤ (S.1 31 5) then (some (0, S)) else ((f_X1_hasCorner p1 (S.1 31 3) S).bind (fun r23 => if r23.1 = 0 then (some (0, r23.2)) else (f_X3_takesRingCorner_33 p1 1000 (S.1 p1 7) 0 r23.2))))
set_option maxRecDepth 100000 in
set_option maxHeartbeats 4000000 in
theorem zd_X3_takesRingCorner (V : zV) {p1 : Nat} (h1 : z_isP p1) (d : Nat) : ∀ (S : zS), z_J zeI V mX3_takesRingCorner (d + 2) (f_X3_takesRingCorner p1 S) 0 (z_ent mX3_takesRingCorner [.ref 31, .ref p1]) [] S := by
  intro S
  show z_J zeI V mX3_takesRingCorner (d + 2) (f_X3_takesRingCorner p1 S) 0 [.ref 31, .ref p1, .null, .null] [] S
  unfold f_X3_takesRingCorner
  refine d_st (fun _ k => zg_aload_n dX3_takesRingCorner_0 rfl (zs_getI dX3_takesRingCorner_1 zf_X3_81 rfl (zp_o h1 _) (by decide) (by decide) (zg_istore_n (ls' := [_, _, _, _]) dX3_takesRingCorner_4 (Nat.le_of_ble_eq_true rfl) rfl rfl (zg_iload_n dX3_takesRingCorner_5 rfl (zg_iconst 4 dX3_takesRingCorner_6 (by decide) k))))) ?_
  refine d_br (fun _ => zg_icmp_ge 29 dX3_takesRingCorner_7 rfl) (fun c7 => ?_) (fun c7 => ?_)
  · refine d_st (fun _ k => zg_iconst 0 dX3_takesRingCorner_29 (by decide) k) ?_
    exact d_retZ dX3_takesRingCorner_30 rfl (by decide)
  · refine d_st (fun _ k => zg_aload_n dX3_takesRingCorner_10 rfl (zs_getI dX3_takesRingCorner_11 zf_X3_27 rfl (zq_31 _) (by decide) (by decide) (zg_iconst 5 dX3_takesRingCorner_14 (by decide) k))) ?_
    refine d_br (fun _ => zg_icmp_ge 29 dX3_takesRingCorner_15 rfl) (fun c15 => ?_) (fun c15 => ?_)
    · refine d_st (fun _ k => zg_iconst 0 dX3_takesRingCorner_29 (by decide) k) ?_
      exact d_retZ dX3_takesRingCorner_30 rfl (by decide)
    · refine d_st (fun _ k => zg_aload_n dX3_takesRingCorner_18 rfl (zg_aload_n dX3_takesRingCorner_19 rfl (zs_getI dX3_takesRingCorner_20 zf_X3_21 rfl (zq_31 _) (by decide) (by decide) k))) ?_
      refine d_cVi (As := [_]) dX3_takesRingCorner_23 zk_X3_103 (zp_o h1 _) (by decide) ⟨_, _, rfl⟩ rfl rfl (Nat.le_of_ble_eq_true rfl) (Nat.le_of_ble_eq_true rfl) rfl (zd_X1_hasCorner V h1 (d + 1) _ _) (fun r23 _ => ?_)
      refine d_br (fun _ => zg_if_ne 31 dX3_takesRingCorner_26 rfl) (fun c26 => ?_) (fun c26 => ?_)
      · refine d_st (fun _ k => zg_iconst 0 dX3_takesRingCorner_29 (by decide) k) ?_
        exact d_retZ dX3_takesRingCorner_30 rfl (by decide)
      · refine d_st (fun _ k => zg_iconst 0 dX3_takesRingCorner_31 (by decide) (zg_istore_n (ls' := [_, _, _, _]) dX3_takesRingCorner_32 (Nat.le_of_ble_eq_true rfl) rfl rfl k)) ?_
        exact d_fg (z_le_s (z_le_s (z_le_s (z_le_s z_le_n)))) (zd_X3_takesRingCorner_33 V h1 d 1000 _ _ _)
def f_X3_takesSeamCorner (p1 : Nat) (S : zS) : Option (Int32 × zS) := if 1 < (S.1 31 5) then (some (0, S)) else ((f_X1_hasCorner p1 (S.1 31 3) S).bind (fun r13 => if r13.1 = 0 then (some (0, r13.2)) else (if (r13.2.1 31 5) = 0 then (some (1, r13.2)) else (if (r13.2.1 31 3) = (r13.2.1 31 6) then (some (0, r13.2)) else ((f_X1_join p1 (r13.2.1 31 6) (r13.2.1 31 3) r13.2).bind (fun r48 => if r48.1 = 0 then (some (0, r48.2)) else (some (1, r48.2))))))))
set_option maxRecDepth 100000 in
set_option maxHeartbeats 4000000 in
theorem zd_X3_takesSeamCorner (V : zV) {p1 : Nat} (h1 : z_isP p1) (d : Nat) : ∀ (S : zS), z_J zeI V mX3_takesSeamCorner (d + 2) (f_X3_takesSeamCorner p1 S) 0 (z_ent mX3_takesSeamCorner [.ref 31, .ref p1]) [] S := by
  intro S
  show z_J zeI V mX3_takesSeamCorner (d + 2) (f_X3_takesSeamCorner p1 S) 0 [.ref 31, .ref p1] [] S
  unfold f_X3_takesSeamCorner
  refine d_st (fun _ k => zg_aload_n dX3_takesSeamCorner_0 rfl (zs_getI dX3_takesSeamCorner_1 zf_X3_27 rfl (zq_31 _) (by decide) (by decide) (zg_iconst 1 dX3_takesSeamCorner_4 (by decide) k))) ?_
  refine d_br (fun _ => zg_icmp_gt 19 dX3_takesSeamCorner_5 rfl) (fun c5 => ?_) (fun c5 => ?_)
  · refine d_st (fun _ k => zg_iconst 0 dX3_takesSeamCorner_19 (by decide) k) ?_
    exact d_retZ dX3_takesSeamCorner_20 rfl (by decide)
  · refine d_st (fun _ k => zg_aload_n dX3_takesSeamCorner_8 rfl (zg_aload_n dX3_takesSeamCorner_9 rfl (zs_getI dX3_takesSeamCorner_10 zf_X3_21 rfl (zq_31 _) (by decide) (by decide) k))) ?_
    refine d_cVi (As := [_]) dX3_takesSeamCorner_13 zk_X3_103 (zp_o h1 _) (by decide) ⟨_, _, rfl⟩ rfl rfl (Nat.le_of_ble_eq_true rfl) (Nat.le_of_ble_eq_true rfl) rfl (zd_X1_hasCorner V h1 (d + 1) _ _) (fun r13 _ => ?_)
    refine d_br (fun _ => zg_if_ne 21 dX3_takesSeamCorner_16 rfl) (fun c16 => ?_) (fun c16 => ?_)
    · refine d_st (fun _ k => zg_iconst 0 dX3_takesSeamCorner_19 (by decide) k) ?_
      exact d_retZ dX3_takesSeamCorner_20 rfl (by decide)
    · refine d_st (fun _ k => zg_aload_n dX3_takesSeamCorner_21 rfl (zs_getI dX3_takesSeamCorner_22 zf_X3_27 rfl (zq_31 _) (by decide) (by decide) k)) ?_
      refine d_br (fun _ => zg_if_eq 54 dX3_takesSeamCorner_25 rfl) (fun c25 => ?_) (fun c25 => ?_)
      · refine d_st (fun _ k => zg_iconst 1 dX3_takesSeamCorner_54 (by decide) (zg_goto 59 dX3_takesSeamCorner_55 rfl k)) ?_
        exact d_retZ dX3_takesSeamCorner_59 rfl (by decide)
      · refine d_st (fun _ k => zg_aload_n dX3_takesSeamCorner_28 rfl (zs_getI dX3_takesSeamCorner_29 zf_X3_21 rfl (zq_31 _) (by decide) (by decide) (zg_aload_n dX3_takesSeamCorner_32 rfl (zs_getI dX3_takesSeamCorner_33 zf_X3_30 rfl (zq_31 _) (by decide) (by decide) k)))) ?_
        refine d_br (fun _ => zg_icmp_eq 58 dX3_takesSeamCorner_36 rfl) (fun c36 => ?_) (fun c36 => ?_)
        · refine d_st (fun _ k => zg_iconst 0 dX3_takesSeamCorner_58 (by decide) k) ?_
          exact d_retZ dX3_takesSeamCorner_59 rfl (by decide)
        · refine d_st (fun _ k => zg_aload_n dX3_takesSeamCorner_39 rfl (zg_aload_n dX3_takesSeamCorner_40 rfl (zs_getI dX3_takesSeamCorner_41 zf_X3_30 rfl (zq_31 _) (by decide) (by decide) (zg_aload_n dX3_takesSeamCorner_44 rfl (zs_getI dX3_takesSeamCorner_45 zf_X3_21 rfl (zq_31 _) (by decide) (by decide) k))))) ?_
          refine d_cVi (As := [_, _]) dX3_takesSeamCorner_48 zk_X3_110 (zp_o h1 _) (by decide) ⟨_, _, rfl⟩ rfl rfl (Nat.le_of_ble_eq_true rfl) (Nat.le_of_ble_eq_true rfl) rfl (zd_X1_join V h1 d _ _ _) (fun r48 _ => ?_)
          refine d_br (fun _ => zg_if_eq 58 dX3_takesSeamCorner_51 rfl) (fun c51 => ?_) (fun c51 => ?_)
          · refine d_st (fun _ k => zg_iconst 0 dX3_takesSeamCorner_58 (by decide) k) ?_
            exact d_retZ dX3_takesSeamCorner_59 rfl (by decide)
          · refine d_st (fun _ k => zg_iconst 1 dX3_takesSeamCorner_54 (by decide) (zg_goto 59 dX3_takesSeamCorner_55 rfl k)) ?_
            exact d_retZ dX3_takesSeamCorner_59 rfl (by decide)
def f_X3_takesNumber (p1 : Nat) (S : zS) : Option (Int32 × zS) := if (S.1 31 4) = 104 then ((f_X3_takesHeat p1 S).bind (fun r50 => if r50.1 = 0 ∨ r50.1 = 1 then some (r50.1, r50.2) else none)) else (if (S.1 31 4) = 107 then ((f_X3_takesPlace p1 S).bind (fun r56 => if r56.1 = 0 ∨ r56.1 = 1 then some (r56.1, r56.2) else none)) else (if (S.1 31 4) = 112 then ((f_X3_takesRingCorner p1 S).bind (fun r62 => if r62.1 = 0 ∨ r62.1 = 1 then some (r62.1, r62.2) else none)) else (if (S.1 31 4) = 115 then ((f_X3_takesSeamCorner p1 S).bind (fun r68 => if r68.1 = 0 ∨ r68.1 = 1 then some (r68.1, r68.2) else none)) else (some (0, S)))))
set_option maxRecDepth 100000 in
set_option maxHeartbeats 4000000 in
theorem zd_X3_takesNumber (V : zV) {p1 : Nat} (h1 : z_isP p1) (d : Nat) : ∀ (S : zS), z_J zeI V mX3_takesNumber (d + 3) (f_X3_takesNumber p1 S) 0 (z_ent mX3_takesNumber [.ref 31, .ref p1]) [] S := by
  intro S
  show z_J zeI V mX3_takesNumber (d + 3) (f_X3_takesNumber p1 S) 0 [.ref 31, .ref p1] [] S
  unfold f_X3_takesNumber
  refine d_st (fun _ k => zg_aload_n dX3_takesNumber_0 rfl (zs_getI dX3_takesNumber_1 zf_X3_24 rfl (zq_31 _) (by decide) (by decide) k)) ?_
  refine d_if (fun s4_0 => ?_) (fun s4_0 => ?_)
  · refine d_st (fun _ k => zg_lookup (off := 44) 48 dX3_takesNumber_4 (by decide) (by rw [s4_0] <;> decide) rfl k) ?_
    refine d_st (fun _ k => zg_aload_n dX3_takesNumber_48 rfl (zg_aload_n dX3_takesNumber_49 rfl k)) ?_
    refine d_cVi (As := [_]) dX3_takesNumber_50 zk_X3_84 (zq_31 _) (by decide) ⟨_, _, rfl⟩ rfl rfl (Nat.le_of_ble_eq_true rfl) (Nat.le_of_ble_eq_true rfl) rfl (zd_X3_takesHeat V h1 (d + 2) _) (fun r50 _ => ?_)
    refine d_gd (fun g53 => ?_)
    exact d_retZ dX3_takesNumber_53 rfl g53
  refine d_if (fun s4_1 => ?_) (fun s4_1 => ?_)
  · refine d_st (fun _ k => zg_lookup (off := 50) 54 dX3_takesNumber_4 (by decide) (by rw [s4_1] <;> decide) rfl k) ?_
    refine d_st (fun _ k => zg_aload_n dX3_takesNumber_54 rfl (zg_aload_n dX3_takesNumber_55 rfl k)) ?_
    refine d_cVi (As := [_]) dX3_takesNumber_56 zk_X3_87 (zq_31 _) (by decide) ⟨_, _, rfl⟩ rfl rfl (Nat.le_of_ble_eq_true rfl) (Nat.le_of_ble_eq_true rfl) rfl (zd_X3_takesPlace V h1 (d + 1) _) (fun r56 _ => ?_)
    refine d_gd (fun g59 => ?_)
    exact d_retZ dX3_takesNumber_59 rfl g59
  refine d_if (fun s4_2 => ?_) (fun s4_2 => ?_)
  · refine d_st (fun _ k => zg_lookup (off := 56) 60 dX3_takesNumber_4 (by decide) (by rw [s4_2] <;> decide) rfl k) ?_
    refine d_st (fun _ k => zg_aload_n dX3_takesNumber_60 rfl (zg_aload_n dX3_takesNumber_61 rfl k)) ?_
    refine d_cVi (As := [_]) dX3_takesNumber_62 zk_X3_90 (zq_31 _) (by decide) ⟨_, _, rfl⟩ rfl rfl (Nat.le_of_ble_eq_true rfl) (Nat.le_of_ble_eq_true rfl) rfl (zd_X3_takesRingCorner V h1 d _) (fun r62 _ => ?_)
    refine d_gd (fun g65 => ?_)
    exact d_retZ dX3_takesNumber_65 rfl g65
  refine d_if (fun s4_3 => ?_) (fun s4_3 => ?_)
  · refine d_st (fun _ k => zg_lookup (off := 62) 66 dX3_takesNumber_4 (by decide) (by rw [s4_3] <;> decide) rfl k) ?_
    refine d_st (fun _ k => zg_aload_n dX3_takesNumber_66 rfl (zg_aload_n dX3_takesNumber_67 rfl k)) ?_
    refine d_cVi (As := [_]) dX3_takesNumber_68 zk_X3_93 (zq_31 _) (by decide) ⟨_, _, rfl⟩ rfl rfl (Nat.le_of_ble_eq_true rfl) (Nat.le_of_ble_eq_true rfl) rfl (zd_X3_takesSeamCorner V h1 d _) (fun r68 _ => ?_)
    refine d_gd (fun g71 => ?_)
    exact d_retZ dX3_takesNumber_71 rfl g71
  refine d_st (fun _ k => zg_lookup (off := 68) 72 dX3_takesNumber_4 (by decide) (by show Op.lookupswitch.offset [(104, 44), (107, 50), (112, 56), (115, 62)] _ _ = _; rw [lv_osw s4_0 (by decide : (104 : Int32).toInt = 104), lv_osw s4_1 (by decide : (107 : Int32).toInt = 107), lv_osw s4_2 (by decide : (112 : Int32).toInt = 112), lv_osw s4_3 (by decide : (115 : Int32).toInt = 115)]; rfl) rfl k) ?_
  refine d_st (fun _ k => zg_iconst 0 dX3_takesNumber_72 (by decide) k) ?_
  exact d_retZ dX3_takesNumber_73 rfl (by decide)
def f_X3_takesToken (p1 : Nat) (S : zS) : Option (Int32 × zS) := if (S.1 31 4) = 0 then ((f_X3_beginsItem p1 S).bind (fun r9 => if r9.1 = 0 ∨ r9.1 = 1 then some (r9.1, r9.2) else none)) else (if (S.1 31 2) = 59 then ((f_X3_endsItem p1 S).bind (fun r24 => if r24.1 = 0 ∨ r24.1 = 1 then some (r24.1, r24.2) else none)) else (if (S.1 31 2) = 1 then ((f_X3_takesNumber p1 S).bind (fun r38 => if r38.1 = 0 then (some (0, r38.2)) else (if ((z_w r38.2 31 7 (r38.2.1 31 3)).1 31 5) = 0 then (some (1, (z_w (z_w (z_w r38.2 31 7 (r38.2.1 31 3)) 31 6 ((z_w r38.2 31 7 (r38.2.1 31 3)).1 31 3)) 31 5 (((z_w (z_w r38.2 31 7 (r38.2.1 31 3)) 31 6 ((z_w r38.2 31 7 (r38.2.1 31 3)).1 31 3)).1 31 5) + 1)))) else (some (1, (z_w (z_w r38.2 31 7 (r38.2.1 31 3)) 31 5 (((z_w r38.2 31 7 (r38.2.1 31 3)).1 31 5) + 1))))))) else (some (0, S))))
set_option maxRecDepth 100000 in
set_option maxHeartbeats 4000000 in
theorem zd_X3_takesToken (V : zV) {p1 : Nat} (h1 : z_isP p1) (d : Nat) : ∀ (S : zS), z_J zeI V mX3_takesToken (d + 4) (f_X3_takesToken p1 S) 0 (z_ent mX3_takesToken [.ref 31, .ref p1]) [] S := by
  intro S
  show z_J zeI V mX3_takesToken (d + 4) (f_X3_takesToken p1 S) 0 [.ref 31, .ref p1] [] S
  unfold f_X3_takesToken
  refine d_st (fun _ k => zg_aload_n dX3_takesToken_0 rfl (zs_getI dX3_takesToken_1 zf_X3_24 rfl (zq_31 _) (by decide) (by decide) k)) ?_
  refine d_br (fun _ => zg_if_ne 13 dX3_takesToken_4 rfl) (fun c4 => ?_) (fun c4 => ?_)
  · refine d_st (fun _ k => zg_aload_n dX3_takesToken_7 rfl (zg_aload_n dX3_takesToken_8 rfl k)) ?_
    refine d_cVi (As := [_]) dX3_takesToken_9 zk_X3_69 (zq_31 _) (by decide) ⟨_, _, rfl⟩ rfl rfl (Nat.le_of_ble_eq_true rfl) (Nat.le_of_ble_eq_true rfl) rfl (zd_X3_beginsItem V h1 (d + 3) _) (fun r9 _ => ?_)
    refine d_gd (fun g12 => ?_)
    exact d_retZ dX3_takesToken_12 rfl g12
  · refine d_st (fun _ k => zg_aload_n dX3_takesToken_13 rfl (zs_getI dX3_takesToken_14 zf_X3_18 rfl (zq_31 _) (by decide) (by decide) (zg_bipush 59 dX3_takesToken_17 (by decide) k))) ?_
    refine d_br (fun _ => zg_icmp_ne 28 dX3_takesToken_19 rfl) (fun c19 => ?_) (fun c19 => ?_)
    · refine d_st (fun _ k => zg_aload_n dX3_takesToken_22 rfl (zg_aload_n dX3_takesToken_23 rfl k)) ?_
      refine d_cVi (As := [_]) dX3_takesToken_24 zk_X3_72 (zq_31 _) (by decide) ⟨_, _, rfl⟩ rfl rfl (Nat.le_of_ble_eq_true rfl) (Nat.le_of_ble_eq_true rfl) rfl (zd_X3_endsItem V h1 d _) (fun r24 _ => ?_)
      refine d_gd (fun g27 => ?_)
      exact d_retZ dX3_takesToken_27 rfl g27
    · refine d_st (fun _ k => zg_aload_n dX3_takesToken_28 rfl (zs_getI dX3_takesToken_29 zf_X3_18 rfl (zq_31 _) (by decide) (by decide) (zg_iconst 1 dX3_takesToken_32 (by decide) k))) ?_
      refine d_br (fun _ => zg_icmp_ne 44 dX3_takesToken_33 rfl) (fun c33 => ?_) (fun c33 => ?_)
      · refine d_st (fun _ k => zg_aload_n dX3_takesToken_36 rfl (zg_aload_n dX3_takesToken_37 rfl k)) ?_
        refine d_cVi (As := [_]) dX3_takesToken_38 zk_X3_75 (zq_31 _) (by decide) ⟨_, _, rfl⟩ rfl rfl (Nat.le_of_ble_eq_true rfl) (Nat.le_of_ble_eq_true rfl) rfl (zd_X3_takesNumber V h1 d _) (fun r38 _ => ?_)
        refine d_br (fun _ => zg_if_ne 46 dX3_takesToken_41 rfl) (fun c41 => ?_) (fun c41 => ?_)
        · refine d_st (fun _ k => zg_iconst 0 dX3_takesToken_44 (by decide) k) ?_
          exact d_retZ dX3_takesToken_45 rfl (by decide)
        · refine d_st (fun _ k => zg_aload_n dX3_takesToken_46 rfl (zg_aload_n dX3_takesToken_47 rfl (zs_getI dX3_takesToken_48 zf_X3_21 rfl (zq_31 _) (by decide) (by decide) (zs_putI dX3_takesToken_51 zf_X3_33 rfl (zq_31 _) (by decide) (by decide) (zg_aload_n dX3_takesToken_54 rfl (zs_getI dX3_takesToken_55 zf_X3_27 rfl (zq_31 _) (by decide) (by decide) k)))))) ?_
          refine d_br (fun _ => zg_if_ne 69 dX3_takesToken_58 rfl) (fun c58 => ?_) (fun c58 => ?_)
          · refine d_st (fun _ k => zg_aload_n dX3_takesToken_61 rfl (zg_aload_n dX3_takesToken_62 rfl (zs_getI dX3_takesToken_63 zf_X3_21 rfl (zq_31 _) (by decide) (by decide) (zs_putI dX3_takesToken_66 zf_X3_30 rfl (zq_31 _) (by decide) (by decide) (zg_aload_n dX3_takesToken_69 rfl (zg_dupr dX3_takesToken_70 (zs_getI dX3_takesToken_71 zf_X3_27 rfl (zq_31 _) (by decide) (by decide) (zg_iconst 1 dX3_takesToken_74 (by decide) (zg_iadd dX3_takesToken_75 (zs_putI dX3_takesToken_76 zf_X3_27 rfl (zq_31 _) (by decide) (by decide) (zg_iconst 1 dX3_takesToken_79 (by decide) k))))))))))) ?_
            exact d_retZ dX3_takesToken_80 rfl (by decide)
          · refine d_st (fun _ k => zg_aload_n dX3_takesToken_69 rfl (zg_dupr dX3_takesToken_70 (zs_getI dX3_takesToken_71 zf_X3_27 rfl (zq_31 _) (by decide) (by decide) (zg_iconst 1 dX3_takesToken_74 (by decide) (zg_iadd dX3_takesToken_75 (zs_putI dX3_takesToken_76 zf_X3_27 rfl (zq_31 _) (by decide) (by decide) (zg_iconst 1 dX3_takesToken_79 (by decide) k))))))) ?_
            exact d_retZ dX3_takesToken_80 rfl (by decide)
      · refine d_st (fun _ k => zg_iconst 0 dX3_takesToken_44 (by decide) k) ?_
        exact d_retZ dX3_takesToken_45 rfl (by decide)
def f_X1_numberCuts_16 (p0 : Nat) (K4 : Int32 → Int32 → zS → Option (Unit × zS)) : Nat → Int32 → Int32 → Int32 → zS → Option (Unit × zS)
  | 0, _, _, _, _ => none
  | n + 1, v1, v2, v3, S => if (S.1 p0 0) ≤ v3 then (K4 v1 (v2 + 1) S) else (if z_in v2 9 then ((f_X8_has (S.1 (p0 + 3) v2.toNatClampNeg) v3 S).bind (fun r31 => if r31.1 = 0 then (f_X1_numberCuts_16 p0 K4 n v1 v2 (v3 + 1) r31.2) else (if 14 ≤ v1 then (f_X1_numberCuts_16 p0 K4 n v1 v2 (v3 + 1) r31.2) else (if z_in v1 14 then (if z_in v1 14 then (f_X1_numberCuts_16 p0 K4 n (v1 + 1) v2 (v3 + 1) (z_w (z_w r31.2 (p0 + 4) v1.toNatClampNeg v2) (p0 + 5) v1.toNatClampNeg v3)) else none) else none)))) else none)
set_option maxRecDepth 100000 in
set_option maxHeartbeats 4000000 in
theorem zd_X1_numberCuts_16 (V : zV) {p0 : Nat} (h0 : z_isP p0) (d : Nat) {K4 : Int32 → Int32 → zS → Option (Unit × zS)} (hK4 : ∀ (v1 : Int32) (v2 : Int32) (S : zS), z_J zeV V mX1_numberCuts (d + 1) (K4 v1 v2 S) 4 [.ref p0, .int v1, .int v2, .null] [] S) : ∀ (n : Nat) (v1 : Int32) (v2 : Int32) (v3 : Int32) (S : zS), z_J zeV V mX1_numberCuts (d + 1) (f_X1_numberCuts_16 p0 K4 n v1 v2 v3 S) 16 [.ref p0, .int v1, .int v2, .int v3] [] S := by
  intro n
  induction n with
  | zero =>
    intro v1 v2 v3 S r hr
    cases (show (none : Option (Unit × zS)) = some r from hr)
  | succ n ih =>
    intro v1 v2 v3 S
    rw [f_X1_numberCuts_16]
    refine d_st (fun _ k => zg_iload_n dX1_numberCuts_16 rfl (zg_aload_n dX1_numberCuts_17 rfl (zs_getI dX1_numberCuts_18 zf_X1_9 rfl (zp_o h0 _) (by decide) (by decide) k))) ?_
    refine d_br (fun _ => zg_icmp_ge 66 dX1_numberCuts_21 rfl) (fun c21 => ?_) (fun c21 => ?_)
    · refine d_st (fun _ k => zg_iinc (ls' := [_, _, _, _]) 1 dX1_numberCuts_66 rfl (by decide) (Nat.le_of_ble_eq_true rfl) rfl rfl (zg_goto 4 dX1_numberCuts_69 rfl k)) ?_
      exact d_fg (z_le_s (z_le_s (z_le_s (z_le_0 z_le_n)))) (hK4 _ _ _)
    · refine d_st (fun _ k => zg_aload_n dX1_numberCuts_24 rfl (zs_getR dX1_numberCuts_25 zf_X1_22 rfl (zp_o h0 _) (by decide) (by decide) (zp_r3 h0) (zg_iload_n dX1_numberCuts_28 rfl k))) ?_
      refine d_gd (fun g29 => ?_)
      refine d_st (fun _ k => zs_iald dX1_numberCuts_29 (zp_p3 h0) (zp_3 h0 _) g29 rfl k) ?_
      refine d_st (fun _ k => zg_iload_n dX1_numberCuts_30 rfl k) ?_
      refine d_cTi (As := [_, _]) dX1_numberCuts_31 zk_X1_73 rfl rfl (Nat.le_of_ble_eq_true rfl) (Nat.le_of_ble_eq_true rfl) rfl (zd_X8_has V d _ _ _) (fun r31 _ => ?_)
      refine d_br (fun _ => zg_if_eq 60 dX1_numberCuts_34 rfl) (fun c34 => ?_) (fun c34 => ?_)
      · refine d_st (fun _ k => zg_iinc (ls' := [_, _, _, _]) 1 dX1_numberCuts_60 rfl (by decide) (Nat.le_of_ble_eq_true rfl) rfl rfl (zg_goto 16 dX1_numberCuts_63 rfl k)) ?_
        exact d_fg (z_le_s (z_le_s (z_le_s (z_le_s z_le_n)))) (ih _ _ _ _)
      · refine d_st (fun _ k => zg_iload_n dX1_numberCuts_37 rfl (zg_bipush 14 dX1_numberCuts_38 (by decide) k)) ?_
        refine d_br (fun _ => zg_icmp_ge 60 dX1_numberCuts_40 rfl) (fun c40 => ?_) (fun c40 => ?_)
        · refine d_st (fun _ k => zg_iinc (ls' := [_, _, _, _]) 1 dX1_numberCuts_60 rfl (by decide) (Nat.le_of_ble_eq_true rfl) rfl rfl (zg_goto 16 dX1_numberCuts_63 rfl k)) ?_
          exact d_fg (z_le_s (z_le_s (z_le_s (z_le_s z_le_n)))) (ih _ _ _ _)
        · refine d_st (fun _ k => zg_aload_n dX1_numberCuts_43 rfl (zs_getR dX1_numberCuts_44 zf_X1_28 rfl (zp_o h0 _) (by decide) (by decide) (zp_r5 h0) (zg_iload_n dX1_numberCuts_47 rfl (zg_iload_n dX1_numberCuts_48 rfl k)))) ?_
          refine d_gd (fun g49 => ?_)
          refine d_st (fun _ k => zs_iast dX1_numberCuts_49 (zp_p4 h0) (zp_4 h0 _) g49 rfl k) ?_
          refine d_st (fun _ k => zg_aload_n dX1_numberCuts_50 rfl (zs_getR dX1_numberCuts_51 zf_X1_31 rfl (zp_o h0 _) (by decide) (by decide) (zp_r6 h0) (zg_iload_n dX1_numberCuts_54 rfl (zg_iload_n dX1_numberCuts_55 rfl k)))) ?_
          refine d_gd (fun g56 => ?_)
          refine d_st (fun _ k => zs_iast dX1_numberCuts_56 (zp_p5 h0) (zp_5 h0 _) g56 rfl k) ?_
          refine d_st (fun _ k => zg_iinc (ls' := [_, _, _, _]) 1 dX1_numberCuts_57 rfl (by decide) (Nat.le_of_ble_eq_true rfl) rfl rfl (zg_iinc (ls' := [_, _, _, _]) 1 dX1_numberCuts_60 rfl (by decide) (Nat.le_of_ble_eq_true rfl) rfl rfl (zg_goto 16 dX1_numberCuts_63 rfl k))) ?_
          exact d_fg (z_le_s (z_le_s (z_le_s (z_le_s z_le_n)))) (ih _ _ _ _)
def f_X1_numberCuts_4 (p0 : Nat) : Nat → Int32 → Int32 → zS → Option (Unit × zS)
  | 0, _, _, _ => none
  | n + 1, v1, v2, S => if (S.1 p0 0) ≤ v2 then (some ((), S)) else (f_X1_numberCuts_16 p0 (f_X1_numberCuts_4 p0 n) 1000 v1 v2 (v2 + 1) S)
set_option maxRecDepth 100000 in
set_option maxHeartbeats 4000000 in
theorem zd_X1_numberCuts_4 (V : zV) {p0 : Nat} (h0 : z_isP p0) (d : Nat) : ∀ (n : Nat) (v1 : Int32) (v2 : Int32) (S : zS), z_J zeV V mX1_numberCuts (d + 1) (f_X1_numberCuts_4 p0 n v1 v2 S) 4 [.ref p0, .int v1, .int v2, .null] [] S := by
  intro n
  induction n with
  | zero =>
    intro v1 v2 S r hr
    cases (show (none : Option (Unit × zS)) = some r from hr)
  | succ n ih =>
    intro v1 v2 S
    rw [f_X1_numberCuts_4]
    refine d_st (fun _ k => zg_iload_n dX1_numberCuts_4 rfl (zg_aload_n dX1_numberCuts_5 rfl (zs_getI dX1_numberCuts_6 zf_X1_9 rfl (zp_o h0 _) (by decide) (by decide) k))) ?_
    refine d_br (fun _ => zg_icmp_ge 72 dX1_numberCuts_9 rfl) (fun c9 => ?_) (fun c9 => ?_)
    · exact d_retV dX1_numberCuts_72 rfl
    · refine d_st (fun _ k => zg_iload_n dX1_numberCuts_12 rfl (zg_iconst 1 dX1_numberCuts_13 (by decide) (zg_iadd dX1_numberCuts_14 (zg_istore_n (ls' := [_, _, _, _]) dX1_numberCuts_15 (Nat.le_of_ble_eq_true rfl) rfl rfl k)))) ?_
      exact d_fg (z_le_s (z_le_s (z_le_s (z_le_s z_le_n)))) (zd_X1_numberCuts_16 V h0 d ih 1000 _ _ _ _)
def f_X1_numberCuts (p0 : Nat) (S : zS) : Option (Unit × zS) := f_X1_numberCuts_4 p0 1000 0 0 S
set_option maxRecDepth 100000 in
set_option maxHeartbeats 4000000 in
theorem zd_X1_numberCuts (V : zV) {p0 : Nat} (h0 : z_isP p0) (d : Nat) : ∀ (S : zS), z_J zeV V mX1_numberCuts (d + 1) (f_X1_numberCuts p0 S) 0 (z_ent mX1_numberCuts [.ref p0]) [] S := by
  intro S
  show z_J zeV V mX1_numberCuts (d + 1) (f_X1_numberCuts p0 S) 0 [.ref p0, .null, .null, .null] [] S
  unfold f_X1_numberCuts
  refine d_st (fun _ k => zg_iconst 0 dX1_numberCuts_0 (by decide) (zg_istore_n (ls' := [_, _, _, _]) dX1_numberCuts_1 (Nat.le_of_ble_eq_true rfl) rfl rfl (zg_iconst 0 dX1_numberCuts_2 (by decide) (zg_istore_n (ls' := [_, _, _, _]) dX1_numberCuts_3 (Nat.le_of_ble_eq_true rfl) rfl rfl k)))) ?_
  exact d_fg (z_le_s (z_le_s (z_le_s (z_le_0 z_le_n)))) (zd_X1_numberCuts_4 V h0 d 1000 _ _ _)
