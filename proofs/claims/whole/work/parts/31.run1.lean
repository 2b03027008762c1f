def f_X1_nextInRing (p0 : Nat) (a1 : Int32) (a2 : Int32) (S : zS) : Option (Int32 × zS) := if z_in a1 4 then (if (S.1 (p0 + 6) a1.toNatClampNeg) ≤ (a2 + 1) then (some (0, S)) else (some (a2 + 1, S))) else none
set_option maxRecDepth 100000 in
set_option maxHeartbeats 4000000 in
theorem zd_X1_nextInRing (V : zV) {p0 : Nat} (h0 : z_isP p0) (d : Nat) : ∀ (a1 : Int32) (a2 : Int32) (S : zS), z_J zeI V mX1_nextInRing (d) (f_X1_nextInRing p0 a1 a2 S) 0 (z_ent mX1_nextInRing [.ref p0, .int a1, .int a2]) [] S := by
  intro a1 a2 S
  show z_J zeI V mX1_nextInRing (d) (f_X1_nextInRing p0 a1 a2 S) 0 [.ref p0, .int a1, .int a2] [] S
  unfold f_X1_nextInRing
  refine d_st (fun _ k => zg_iload_n dX1_nextInRing_0 rfl (zg_iconst 1 dX1_nextInRing_1 (by decide) (zg_iadd dX1_nextInRing_2 (zg_aload_n dX1_nextInRing_3 rfl (zs_getR dX1_nextInRing_4 zf_X1_37 rfl (zp_o h0 _) (by decide) (by decide) (zp_r8 h0) (zg_iload_n dX1_nextInRing_7 rfl k)))))) ?_
  refine d_gd (fun g8 => ?_)
  refine d_st (fun _ k => zs_iald dX1_nextInRing_8 (zp_p6 h0) (zp_6 h0 _) g8 rfl k) ?_
  refine d_br (fun _ => zg_icmp_ge 18 dX1_nextInRing_9 rfl) (fun c9 => ?_) (fun c9 => ?_)
  · refine d_st (fun _ k => zg_iconst 0 dX1_nextInRing_18 (by decide) k) ?_
    exact d_retI dX1_nextInRing_19 rfl
  · refine d_st (fun _ k => zg_iload_n dX1_nextInRing_12 rfl (zg_iconst 1 dX1_nextInRing_13 (by decide) (zg_iadd dX1_nextInRing_14 (zg_goto 19 dX1_nextInRing_15 rfl k)))) ?_
    exact d_retI dX1_nextInRing_19 rfl
def f_X1_cutBetween_16 (p0 : Nat) : Nat → Int32 → Int32 → Int32 → zS → Option (Int32 × zS)
  | 0, _, _, _, _ => none
  | n + 1, v3, v4, v5, S => if (S.1 p0 4) ≤ v5 then (some ((-9), S)) else (if z_in v5 14 then (if (S.1 (p0 + 4) v5.toNatClampNeg) = v3 then (if z_in v5 14 then (if (S.1 (p0 + 5) v5.toNatClampNeg) = v4 then (some (v5, S)) else (f_X1_cutBetween_16 p0 n v3 v4 (v5 + 1) S)) else none) else (f_X1_cutBetween_16 p0 n v3 v4 (v5 + 1) S)) else none)
set_option maxRecDepth 100000 in
set_option maxHeartbeats 4000000 in
theorem zd_X1_cutBetween_16 (V : zV) {p0 : Nat} (h0 : z_isP p0) (d : Nat) : ∀ (n : Nat) (v3 : Int32) (v4 : Int32) (v5 : Int32) (S : zS), z_J zeI V mX1_cutBetween (d + 1) (f_X1_cutBetween_16 p0 n v3 v4 v5 S) 16 [.ref p0, .null, .null, .int v3, .int v4, .int v5] [] S := by
  intro n
  induction n with
  | zero =>
    intro v3 v4 v5 S r hr
    cases (show (none : Option (Int32 × zS)) = some r from hr)
  | succ n ih =>
    intro v3 v4 v5 S
    rw [f_X1_cutBetween_16]
    refine d_st (fun _ k => zg_iload dX1_cutBetween_16 rfl (zg_aload_n dX1_cutBetween_18 rfl (zs_getI dX1_cutBetween_19 zf_X1_25 rfl (zp_o h0 _) (by decide) (by decide) k))) ?_
    refine d_br (fun _ => zg_icmp_ge 57 dX1_cutBetween_22 rfl) (fun c22 => ?_) (fun c22 => ?_)
    · refine d_st (fun _ k => zg_bipush (-9) dX1_cutBetween_57 (by decide) k) ?_
      exact d_retI dX1_cutBetween_59 rfl
    · refine d_st (fun _ k => zg_aload_n dX1_cutBetween_25 rfl (zs_getR dX1_cutBetween_26 zf_X1_28 rfl (zp_o h0 _) (by decide) (by decide) (zp_r5 h0) (zg_iload dX1_cutBetween_29 rfl k))) ?_
      refine d_gd (fun g31 => ?_)
      refine d_st (fun _ k => zs_iald dX1_cutBetween_31 (zp_p4 h0) (zp_4 h0 _) g31 rfl k) ?_
      refine d_st (fun _ k => zg_iload_n dX1_cutBetween_32 rfl k) ?_
      refine d_br (fun _ => zg_icmp_ne 51 dX1_cutBetween_33 rfl) (fun c33 => ?_) (fun c33 => ?_)
      · refine d_st (fun _ k => zg_aload_n dX1_cutBetween_36 rfl (zs_getR dX1_cutBetween_37 zf_X1_31 rfl (zp_o h0 _) (by decide) (by decide) (zp_r6 h0) (zg_iload dX1_cutBetween_40 rfl k))) ?_
        refine d_gd (fun g42 => ?_)
        refine d_st (fun _ k => zs_iald dX1_cutBetween_42 (zp_p5 h0) (zp_5 h0 _) g42 rfl k) ?_
        refine d_st (fun _ k => zg_iload dX1_cutBetween_43 rfl k) ?_
        refine d_br (fun _ => zg_icmp_ne 51 dX1_cutBetween_45 rfl) (fun c45 => ?_) (fun c45 => ?_)
        · refine d_st (fun _ k => zg_iload dX1_cutBetween_48 rfl k) ?_
          exact d_retI dX1_cutBetween_50 rfl
        · refine d_st (fun _ k => zg_iinc (ls' := [_, _, _, _, _, _]) 1 dX1_cutBetween_51 rfl (by decide) (Nat.le_of_ble_eq_true rfl) rfl rfl (zg_goto 16 dX1_cutBetween_54 rfl k)) ?_
          exact d_fg (z_le_s (z_le_0 (z_le_0 (z_le_s (z_le_s (z_le_s z_le_n)))))) (ih _ _ _ _)
      · refine d_st (fun _ k => zg_iinc (ls' := [_, _, _, _, _, _]) 1 dX1_cutBetween_51 rfl (by decide) (Nat.le_of_ble_eq_true rfl) rfl rfl (zg_goto 16 dX1_cutBetween_54 rfl k)) ?_
        exact d_fg (z_le_s (z_le_0 (z_le_0 (z_le_s (z_le_s (z_le_s z_le_n)))))) (ih _ _ _ _)
def f_X1_cutBetween (p0 : Nat) (a1 : Int32) (a2 : Int32) (S : zS) : Option (Int32 × zS) := f_X1_cutBetween_16 p0 1000 (if a2 < a1 then a2 else a1) (if a1 < a2 then a2 else a1) 0 S
set_option maxRecDepth 100000 in
set_option maxHeartbeats 4000000 in
theorem zd_X1_cutBetween (V : zV) {p0 : Nat} (h0 : z_isP p0) (d : Nat) : ∀ (a1 : Int32) (a2 : Int32) (S : zS), z_J zeI V mX1_cutBetween (d + 1) (f_X1_cutBetween p0 a1 a2 S) 0 (z_ent mX1_cutBetween [.ref p0, .int a1, .int a2]) [] S := by
  intro a1 a2 S
  show z_J zeI V mX1_cutBetween (d + 1) (f_X1_cutBetween p0 a1 a2 S) 0 [.ref p0, .int a1, .int a2, .null, .null, .null] [] S
  unfold f_X1_cutBetween
  refine d_st (fun _ k => zg_iload_n dX1_cutBetween_0 rfl (zg_iload_n dX1_cutBetween_1 rfl (zg_mmin dX1_cutBetween_2 zt_2_230 zt_2_149 zt_1_12 zt_2_150 (Nat.le_of_ble_eq_true rfl) (zg_istore_n (ls' := [_, _, _, _, _, _]) dX1_cutBetween_5 (Nat.le_of_ble_eq_true rfl) rfl rfl (zg_iload_n dX1_cutBetween_6 rfl (zg_iload_n dX1_cutBetween_7 rfl (zg_mmax dX1_cutBetween_8 zt_2_231 zt_2_232 zt_1_12 zt_2_233 (Nat.le_of_ble_eq_true rfl) (zg_istore (ls' := [_, _, _, _, _, _]) dX1_cutBetween_11 (Nat.le_of_ble_eq_true rfl) rfl rfl (zg_iconst 0 dX1_cutBetween_13 (by decide) (zg_istore (ls' := [_, _, _, _, _, _]) dX1_cutBetween_14 (Nat.le_of_ble_eq_true rfl) rfl rfl k)))))))))) ?_
  exact d_fg (z_le_s (z_le_0 (z_le_0 (z_le_s (z_le_s (z_le_s z_le_n)))))) (zd_X1_cutBetween_16 V h0 d 1000 _ _ _ _)
def f_X1_cutsOfRing_4 (p0 : Nat) : Nat → Int32 → Int32 → Int32 → zS → Option (Int32 × zS)
  | 0, _, _, _, _ => none
  | n + 1, v1, v2, v3, S => if z_in v1 4 then (if (S.1 (p0 + 6) v1.toNatClampNeg) ≤ v3 then (some (v2, S)) else (if z_in v1 4 then (if z_in v3 5 then (if z_in v1 4 then ((f_X1_nextInRing p0 v1 v3 S).bind (fun r32 => if z_in r32.1 5 then ((f_X1_cutBetween p0 (S.1 (p0 + 8 + v1.toNatClampNeg) v3.toNatClampNeg) (r32.2.1 (p0 + 8 + v1.toNatClampNeg) r32.1.toNatClampNeg) r32.2).bind (fun r36 => if r36.1 = (-9) then (f_X1_cutsOfRing_4 p0 n v1 v2 (v3 + 1) r36.2) else (f_X1_cutsOfRing_4 p0 n v1 (v2 ||| ((1 : Int32) <<< (r36.1 &&& 31))) (v3 + 1) r36.2))) else none)) else none) else none) else none)) else none
set_option maxRecDepth 100000 in
set_option maxHeartbeats 4000000 in
theorem zd_X1_cutsOfRing_4 (V : zV) {p0 : Nat} (h0 : z_isP p0) (d : Nat) : ∀ (n : Nat) (v1 : Int32) (v2 : Int32) (v3 : Int32) (S : zS), z_J zeI V mX1_cutsOfRing (d + 2) (f_X1_cutsOfRing_4 p0 n v1 v2 v3 S) 4 [.ref p0, .int v1, .int v2, .int v3, .null] [] S := by
  intro n
  induction n with
  | zero =>
    intro v1 v2 v3 S r hr
    cases (show (none : Option (Int32 × zS)) = some r from hr)
  | succ n ih =>
    intro v1 v2 v3 S
    rw [f_X1_cutsOfRing_4]
    refine d_st (fun _ k => zg_iload_n dX1_cutsOfRing_4 rfl (zg_aload_n dX1_cutsOfRing_5 rfl (zs_getR dX1_cutsOfRing_6 zf_X1_37 rfl (zp_o h0 _) (by decide) (by decide) (zp_r8 h0) (zg_iload_n dX1_cutsOfRing_9 rfl k)))) ?_
    refine d_gd (fun g10 => ?_)
    refine d_st (fun _ k => zs_iald dX1_cutsOfRing_10 (zp_p6 h0) (zp_6 h0 _) g10 rfl k) ?_
    refine d_br (fun _ => zg_icmp_ge 61 dX1_cutsOfRing_11 rfl) (fun c11 => ?_) (fun c11 => ?_)
    · refine d_st (fun _ k => zg_iload_n dX1_cutsOfRing_61 rfl k) ?_
      exact d_retI dX1_cutsOfRing_62 rfl
    · refine d_st (fun _ k => zg_aload_n dX1_cutsOfRing_14 rfl (zg_aload_n dX1_cutsOfRing_15 rfl (zs_getR dX1_cutsOfRing_16 zf_X1_42 rfl (zp_o h0 _) (by decide) (by decide) (zp_r9 h0) (zg_iload_n dX1_cutsOfRing_19 rfl k)))) ?_
      refine d_gd (fun g20 => ?_)
      refine d_st (fun _ k => zs_ring dX1_cutsOfRing_20 h0 g20 k) ?_
      refine d_st (fun _ k => zg_iload_n dX1_cutsOfRing_21 rfl k) ?_
      refine d_gd (fun g22 => ?_)
      refine d_st (fun _ k => zs_iald dX1_cutsOfRing_22 zp_prow ((zp_ring (pl := 0) (dr := 0) h0 (z_in_lt g20)).2 _) g22 rfl k) ?_
      refine d_st (fun _ k => zg_aload_n dX1_cutsOfRing_23 rfl (zs_getR dX1_cutsOfRing_24 zf_X1_42 rfl (zp_o h0 _) (by decide) (by decide) (zp_r9 h0) (zg_iload_n dX1_cutsOfRing_27 rfl k))) ?_
      refine d_gd (fun g28 => ?_)
      refine d_st (fun _ k => zs_ring dX1_cutsOfRing_28 h0 g28 k) ?_
      refine d_st (fun _ k => zg_aload_n dX1_cutsOfRing_29 rfl (zg_iload_n dX1_cutsOfRing_30 rfl (zg_iload_n dX1_cutsOfRing_31 rfl k))) ?_
      refine d_cVi (As := [_, _]) dX1_cutsOfRing_32 zk_X1_86 (zp_o h0 _) (by decide) ⟨_, _, rfl⟩ rfl rfl (Nat.le_of_ble_eq_true rfl) (Nat.le_of_ble_eq_true rfl) rfl (zd_X1_nextInRing V h0 (d + 1) _ _ _) (fun r32 _ => ?_)
      refine d_gd (fun g35 => ?_)
      refine d_st (fun _ k => zs_iald dX1_cutsOfRing_35 zp_prow ((zp_ring (pl := 0) (dr := 0) h0 (z_in_lt g28)).2 _) g35 rfl k) ?_
      refine d_cVi (As := [_, _]) dX1_cutsOfRing_36 zk_X1_90 (zp_o h0 _) (by decide) ⟨_, _, rfl⟩ rfl rfl (Nat.le_of_ble_eq_true rfl) (Nat.le_of_ble_eq_true rfl) rfl (zd_X1_cutBetween V h0 d _ _ _) (fun r36 _ => ?_)
      refine d_st (fun _ k => zg_istore (ls' := [_, _, _, _, _]) dX1_cutsOfRing_39 (Nat.le_of_ble_eq_true rfl) rfl rfl (zg_iload dX1_cutsOfRing_41 rfl (zg_bipush (-9) dX1_cutsOfRing_43 (by decide) k))) ?_
      refine d_br (fun _ => zg_icmp_eq 55 dX1_cutsOfRing_45 rfl) (fun c45 => ?_) (fun c45 => ?_)
      · refine d_st (fun _ k => zg_iinc (ls' := [_, _, _, _, _]) 1 dX1_cutsOfRing_55 rfl (by decide) (Nat.le_of_ble_eq_true rfl) rfl rfl (zg_goto 4 dX1_cutsOfRing_58 rfl k)) ?_
        exact d_fg (z_le_s (z_le_s (z_le_s (z_le_s (z_le_0 z_le_n))))) (ih _ _ _ _)
      · refine d_st (fun _ k => zg_iload_n dX1_cutsOfRing_48 rfl (zg_iconst 1 dX1_cutsOfRing_49 (by decide) (zg_iload dX1_cutsOfRing_50 rfl (zg_ishl dX1_cutsOfRing_52 (zg_ior dX1_cutsOfRing_53 (zg_istore_n (ls' := [_, _, _, _, _]) dX1_cutsOfRing_54 (Nat.le_of_ble_eq_true rfl) rfl rfl (zg_iinc (ls' := [_, _, _, _, _]) 1 dX1_cutsOfRing_55 rfl (by decide) (Nat.le_of_ble_eq_true rfl) rfl rfl (zg_goto 4 dX1_cutsOfRing_58 rfl k)))))))) ?_
        exact d_fg (z_le_s (z_le_s (z_le_s (z_le_s (z_le_0 z_le_n))))) (ih _ _ _ _)
def f_X1_cutsOfRing (p0 : Nat) (a1 : Int32) (S : zS) : Option (Int32 × zS) := f_X1_cutsOfRing_4 p0 1000 a1 0 0 S
set_option maxRecDepth 100000 in
set_option maxHeartbeats 4000000 in
theorem zd_X1_cutsOfRing (V : zV) {p0 : Nat} (h0 : z_isP p0) (d : Nat) : ∀ (a1 : Int32) (S : zS), z_J zeI V mX1_cutsOfRing (d + 2) (f_X1_cutsOfRing p0 a1 S) 0 (z_ent mX1_cutsOfRing [.ref p0, .int a1]) [] S := by
  intro a1 S
  show z_J zeI V mX1_cutsOfRing (d + 2) (f_X1_cutsOfRing p0 a1 S) 0 [.ref p0, .int a1, .null, .null, .null] [] S
  unfold f_X1_cutsOfRing
  refine d_st (fun _ k => zg_iconst 0 dX1_cutsOfRing_0 (by decide) (zg_istore_n (ls' := [_, _, _, _, _]) dX1_cutsOfRing_1 (Nat.le_of_ble_eq_true rfl) rfl rfl (zg_iconst 0 dX1_cutsOfRing_2 (by decide) (zg_istore_n (ls' := [_, _, _, _, _]) dX1_cutsOfRing_3 (Nat.le_of_ble_eq_true rfl) rfl rfl k)))) ?_
  exact d_fg (z_le_s (z_le_s (z_le_s (z_le_s (z_le_0 z_le_n))))) (zd_X1_cutsOfRing_4 V h0 d 1000 _ _ _ _)
def f_X1_side (p0 : Nat) (a1 : Int32) (a2 : Int32) (a3 : Int32) (S : zS) : Option (Int32 × zS) := if z_in a3 9 then (if z_in a2 9 then (if z_in a1 9 then (if z_in a2 9 then (if z_in a1 9 then (if z_in a2 9 then (if z_in a3 9 then (if z_in a2 9 then (some ((((S.1 (p0 + 1) a3.toNatClampNeg) - (S.1 (p0 + 1) a2.toNatClampNeg)) * ((S.1 (p0 + 2) a1.toNatClampNeg) - (S.1 (p0 + 2) a2.toNatClampNeg))) - (((S.1 (p0 + 1) a1.toNatClampNeg) - (S.1 (p0 + 1) a2.toNatClampNeg)) * ((S.1 (p0 + 2) a3.toNatClampNeg) - (S.1 (p0 + 2) a2.toNatClampNeg))), S)) else none) else none) else none) else none) else none) else none) else none) else none
set_option maxRecDepth 100000 in
set_option maxHeartbeats 4000000 in
theorem zd_X1_side (V : zV) {p0 : Nat} (h0 : z_isP p0) (d : Nat) : ∀ (a1 : Int32) (a2 : Int32) (a3 : Int32) (S : zS), z_J zeI V mX1_side (d) (f_X1_side p0 a1 a2 a3 S) 0 (z_ent mX1_side [.ref p0, .int a1, .int a2, .int a3]) [] S := by
  intro a1 a2 a3 S
  show z_J zeI V mX1_side (d) (f_X1_side p0 a1 a2 a3 S) 0 [.ref p0, .int a1, .int a2, .int a3] [] S
  unfold f_X1_side
  refine d_st (fun _ k => zg_aload_n dX1_side_0 rfl (zs_getR dX1_side_1 zf_X1_15 rfl (zp_o h0 _) (by decide) (by decide) (zp_r1 h0) (zg_iload_n dX1_side_4 rfl k))) ?_
  refine d_gd (fun g5 => ?_)
  refine d_st (fun _ k => zs_iald dX1_side_5 (zp_p1 h0) (zp_1 h0 _) g5 rfl k) ?_
  refine d_st (fun _ k => zg_aload_n dX1_side_6 rfl (zs_getR dX1_side_7 zf_X1_15 rfl (zp_o h0 _) (by decide) (by decide) (zp_r1 h0) (zg_iload_n dX1_side_10 rfl k))) ?_
  refine d_gd (fun g11 => ?_)
  refine d_st (fun _ k => zs_iald dX1_side_11 (zp_p1 h0) (zp_1 h0 _) g11 rfl k) ?_
  refine d_st (fun _ k => zg_isub dX1_side_12 (zg_aload_n dX1_side_13 rfl (zs_getR dX1_side_14 zf_X1_19 rfl (zp_o h0 _) (by decide) (by decide) (zp_r2 h0) (zg_iload_n dX1_side_17 rfl k)))) ?_
  refine d_gd (fun g18 => ?_)
  refine d_st (fun _ k => zs_iald dX1_side_18 (zp_p2 h0) (zp_2 h0 _) g18 rfl k) ?_
  refine d_st (fun _ k => zg_aload_n dX1_side_19 rfl (zs_getR dX1_side_20 zf_X1_19 rfl (zp_o h0 _) (by decide) (by decide) (zp_r2 h0) (zg_iload_n dX1_side_23 rfl k))) ?_
  refine d_gd (fun g24 => ?_)
  refine d_st (fun _ k => zs_iald dX1_side_24 (zp_p2 h0) (zp_2 h0 _) g24 rfl k) ?_
  refine d_st (fun _ k => zg_isub dX1_side_25 (zg_imul dX1_side_26 (zg_aload_n dX1_side_27 rfl (zs_getR dX1_side_28 zf_X1_15 rfl (zp_o h0 _) (by decide) (by decide) (zp_r1 h0) (zg_iload_n dX1_side_31 rfl k))))) ?_
  refine d_gd (fun g32 => ?_)
  refine d_st (fun _ k => zs_iald dX1_side_32 (zp_p1 h0) (zp_1 h0 _) g32 rfl k) ?_
  refine d_st (fun _ k => zg_aload_n dX1_side_33 rfl (zs_getR dX1_side_34 zf_X1_15 rfl (zp_o h0 _) (by decide) (by decide) (zp_r1 h0) (zg_iload_n dX1_side_37 rfl k))) ?_
  refine d_gd (fun g38 => ?_)
  refine d_st (fun _ k => zs_iald dX1_side_38 (zp_p1 h0) (zp_1 h0 _) g38 rfl k) ?_
  refine d_st (fun _ k => zg_isub dX1_side_39 (zg_aload_n dX1_side_40 rfl (zs_getR dX1_side_41 zf_X1_19 rfl (zp_o h0 _) (by decide) (by decide) (zp_r2 h0) (zg_iload_n dX1_side_44 rfl k)))) ?_
  refine d_gd (fun g45 => ?_)
  refine d_st (fun _ k => zs_iald dX1_side_45 (zp_p2 h0) (zp_2 h0 _) g45 rfl k) ?_
  refine d_st (fun _ k => zg_aload_n dX1_side_46 rfl (zs_getR dX1_side_47 zf_X1_19 rfl (zp_o h0 _) (by decide) (by decide) (zp_r2 h0) (zg_iload_n dX1_side_50 rfl k))) ?_
  refine d_gd (fun g51 => ?_)
  refine d_st (fun _ k => zs_iald dX1_side_51 (zp_p2 h0) (zp_2 h0 _) g51 rfl k) ?_
  refine d_st (fun _ k => zg_isub dX1_side_52 (zg_imul dX1_side_53 (zg_isub dX1_side_54 k))) ?_
  exact d_retI dX1_side_55 rfl
def f_X1_liesOn (p0 : Nat) (a1 : Int32) (a2 : Int32) (a3 : Int32) (S : zS) : Option (Int32 × zS) := (f_X1_side p0 a1 a2 a3 S).bind (fun r4 => if r4.1 = 0 then (if z_in a1 9 then (if z_in a2 9 then (if z_in a3 9 then (if (r4.2.1 (p0 + 1) a1.toNatClampNeg) < (if (r4.2.1 (p0 + 1) a3.toNatClampNeg) < (r4.2.1 (p0 + 1) a2.toNatClampNeg) then r4.2.1 (p0 + 1) a3.toNatClampNeg else r4.2.1 (p0 + 1) a2.toNatClampNeg) then (some (0, r4.2)) else (if z_in a1 9 then (if z_in a2 9 then (if z_in a3 9 then (if (if (r4.2.1 (p0 + 1) a2.toNatClampNeg) < (r4.2.1 (p0 + 1) a3.toNatClampNeg) then r4.2.1 (p0 + 1) a3.toNatClampNeg else r4.2.1 (p0 + 1) a2.toNatClampNeg) < (r4.2.1 (p0 + 1) a1.toNatClampNeg) then (some (0, r4.2)) else (if z_in a1 9 then (if z_in a2 9 then (if z_in a3 9 then (if (r4.2.1 (p0 + 2) a1.toNatClampNeg) < (if (r4.2.1 (p0 + 2) a3.toNatClampNeg) < (r4.2.1 (p0 + 2) a2.toNatClampNeg) then r4.2.1 (p0 + 2) a3.toNatClampNeg else r4.2.1 (p0 + 2) a2.toNatClampNeg) then (some (0, r4.2)) else (if z_in a1 9 then (if z_in a2 9 then (if z_in a3 9 then (if (if (r4.2.1 (p0 + 2) a2.toNatClampNeg) < (r4.2.1 (p0 + 2) a3.toNatClampNeg) then r4.2.1 (p0 + 2) a3.toNatClampNeg else r4.2.1 (p0 + 2) a2.toNatClampNeg) < (r4.2.1 (p0 + 2) a1.toNatClampNeg) then (some (0, r4.2)) else (some (1, r4.2))) else none) else none) else none)) else none) else none) else none)) else none) else none) else none)) else none) else none) else none) else (some (0, r4.2)))
set_option maxRecDepth 100000 in
set_option maxHeartbeats 4000000 in
theorem zd_X1_liesOn (V : zV) {p0 : Nat} (h0 : z_isP p0) (d : Nat) : ∀ (a1 : Int32) (a2 : Int32) (a3 : Int32) (S : zS), z_J zeI V mX1_liesOn (d + 1) (f_X1_liesOn p0 a1 a2 a3 S) 0 (z_ent mX1_liesOn [.ref p0, .int a1, .int a2, .int a3]) [] S := by
  intro a1 a2 a3 S
  show z_J zeI V mX1_liesOn (d + 1) (f_X1_liesOn p0 a1 a2 a3 S) 0 [.ref p0, .int a1, .int a2, .int a3] [] S
  unfold f_X1_liesOn
  refine d_st (fun _ k => zg_aload_n dX1_liesOn_0 rfl (zg_iload_n dX1_liesOn_1 rfl (zg_iload_n dX1_liesOn_2 rfl (zg_iload_n dX1_liesOn_3 rfl k)))) ?_
  refine d_cVi (As := [_, _, _]) dX1_liesOn_4 zk_X1_110 (zp_o h0 _) (by decide) ⟨_, _, rfl⟩ rfl rfl (Nat.le_of_ble_eq_true rfl) (Nat.le_of_ble_eq_true rfl) rfl (zd_X1_side V h0 d _ _ _ _) (fun r4 _ => ?_)
  refine d_br (fun _ => zg_if_ne 110 dX1_liesOn_7 rfl) (fun c7 => ?_) (fun c7 => ?_)
  · refine d_st (fun _ k => zg_aload_n dX1_liesOn_10 rfl (zs_getR dX1_liesOn_11 zf_X1_15 rfl (zp_o h0 _) (by decide) (by decide) (zp_r1 h0) (zg_iload_n dX1_liesOn_14 rfl k))) ?_
    refine d_gd (fun g15 => ?_)
    refine d_st (fun _ k => zs_iald dX1_liesOn_15 (zp_p1 h0) (zp_1 h0 _) g15 rfl k) ?_
    refine d_st (fun _ k => zg_aload_n dX1_liesOn_16 rfl (zs_getR dX1_liesOn_17 zf_X1_15 rfl (zp_o h0 _) (by decide) (by decide) (zp_r1 h0) (zg_iload_n dX1_liesOn_20 rfl k))) ?_
    refine d_gd (fun g21 => ?_)
    refine d_st (fun _ k => zs_iald dX1_liesOn_21 (zp_p1 h0) (zp_1 h0 _) g21 rfl k) ?_
    refine d_st (fun _ k => zg_aload_n dX1_liesOn_22 rfl (zs_getR dX1_liesOn_23 zf_X1_15 rfl (zp_o h0 _) (by decide) (by decide) (zp_r1 h0) (zg_iload_n dX1_liesOn_26 rfl k))) ?_
    refine d_gd (fun g27 => ?_)
    refine d_st (fun _ k => zs_iald dX1_liesOn_27 (zp_p1 h0) (zp_1 h0 _) g27 rfl k) ?_
    refine d_st (fun _ k => zg_mmin dX1_liesOn_28 zt_2_230 zt_2_149 zt_1_12 zt_2_150 (Nat.le_of_ble_eq_true rfl) k) ?_
    refine d_br (fun _ => zg_icmp_lt 110 dX1_liesOn_31 rfl) (fun c31 => ?_) (fun c31 => ?_)
    · refine d_st (fun _ k => zg_iconst 0 dX1_liesOn_110 (by decide) k) ?_
      exact d_retZ dX1_liesOn_111 rfl (by decide)
    · refine d_st (fun _ k => zg_aload_n dX1_liesOn_34 rfl (zs_getR dX1_liesOn_35 zf_X1_15 rfl (zp_o h0 _) (by decide) (by decide) (zp_r1 h0) (zg_iload_n dX1_liesOn_38 rfl k))) ?_
      refine d_gd (fun g39 => ?_)
      refine d_st (fun _ k => zs_iald dX1_liesOn_39 (zp_p1 h0) (zp_1 h0 _) g39 rfl k) ?_
      refine d_st (fun _ k => zg_aload_n dX1_liesOn_40 rfl (zs_getR dX1_liesOn_41 zf_X1_15 rfl (zp_o h0 _) (by decide) (by decide) (zp_r1 h0) (zg_iload_n dX1_liesOn_44 rfl k))) ?_
      refine d_gd (fun g45 => ?_)
      refine d_st (fun _ k => zs_iald dX1_liesOn_45 (zp_p1 h0) (zp_1 h0 _) g45 rfl k) ?_
      refine d_st (fun _ k => zg_aload_n dX1_liesOn_46 rfl (zs_getR dX1_liesOn_47 zf_X1_15 rfl (zp_o h0 _) (by decide) (by decide) (zp_r1 h0) (zg_iload_n dX1_liesOn_50 rfl k))) ?_
      refine d_gd (fun g51 => ?_)
      refine d_st (fun _ k => zs_iald dX1_liesOn_51 (zp_p1 h0) (zp_1 h0 _) g51 rfl k) ?_
      refine d_st (fun _ k => zg_mmax dX1_liesOn_52 zt_2_231 zt_2_232 zt_1_12 zt_2_233 (Nat.le_of_ble_eq_true rfl) k) ?_
      refine d_br (fun _ => zg_icmp_gt 110 dX1_liesOn_55 rfl) (fun c55 => ?_) (fun c55 => ?_)
      · refine d_st (fun _ k => zg_iconst 0 dX1_liesOn_110 (by decide) k) ?_
        exact d_retZ dX1_liesOn_111 rfl (by decide)
      · refine d_st (fun _ k => zg_aload_n dX1_liesOn_58 rfl (zs_getR dX1_liesOn_59 zf_X1_19 rfl (zp_o h0 _) (by decide) (by decide) (zp_r2 h0) (zg_iload_n dX1_liesOn_62 rfl k))) ?_
        refine d_gd (fun g63 => ?_)
        refine d_st (fun _ k => zs_iald dX1_liesOn_63 (zp_p2 h0) (zp_2 h0 _) g63 rfl k) ?_
        refine d_st (fun _ k => zg_aload_n dX1_liesOn_64 rfl (zs_getR dX1_liesOn_65 zf_X1_19 rfl (zp_o h0 _) (by decide) (by decide) (zp_r2 h0) (zg_iload_n dX1_liesOn_68 rfl k))) ?_
        refine d_gd (fun g69 => ?_)
        refine d_st (fun _ k => zs_iald dX1_liesOn_69 (zp_p2 h0) (zp_2 h0 _) g69 rfl k) ?_
        refine d_st (fun _ k => zg_aload_n dX1_liesOn_70 rfl (zs_getR dX1_liesOn_71 zf_X1_19 rfl (zp_o h0 _) (by decide) (by decide) (zp_r2 h0) (zg_iload_n dX1_liesOn_74 rfl k))) ?_
        refine d_gd (fun g75 => ?_)
        refine d_st (fun _ k => zs_iald dX1_liesOn_75 (zp_p2 h0) (zp_2 h0 _) g75 rfl k) ?_
        refine d_st (fun _ k => zg_mmin dX1_liesOn_76 zt_2_230 zt_2_149 zt_1_12 zt_2_150 (Nat.le_of_ble_eq_true rfl) k) ?_
        refine d_br (fun _ => zg_icmp_lt 110 dX1_liesOn_79 rfl) (fun c79 => ?_) (fun c79 => ?_)
        · refine d_st (fun _ k => zg_iconst 0 dX1_liesOn_110 (by decide) k) ?_
          exact d_retZ dX1_liesOn_111 rfl (by decide)
        · refine d_st (fun _ k => zg_aload_n dX1_liesOn_82 rfl (zs_getR dX1_liesOn_83 zf_X1_19 rfl (zp_o h0 _) (by decide) (by decide) (zp_r2 h0) (zg_iload_n dX1_liesOn_86 rfl k))) ?_
          refine d_gd (fun g87 => ?_)
          refine d_st (fun _ k => zs_iald dX1_liesOn_87 (zp_p2 h0) (zp_2 h0 _) g87 rfl k) ?_
          refine d_st (fun _ k => zg_aload_n dX1_liesOn_88 rfl (zs_getR dX1_liesOn_89 zf_X1_19 rfl (zp_o h0 _) (by decide) (by decide) (zp_r2 h0) (zg_iload_n dX1_liesOn_92 rfl k))) ?_
          refine d_gd (fun g93 => ?_)
          refine d_st (fun _ k => zs_iald dX1_liesOn_93 (zp_p2 h0) (zp_2 h0 _) g93 rfl k) ?_
          refine d_st (fun _ k => zg_aload_n dX1_liesOn_94 rfl (zs_getR dX1_liesOn_95 zf_X1_19 rfl (zp_o h0 _) (by decide) (by decide) (zp_r2 h0) (zg_iload_n dX1_liesOn_98 rfl k))) ?_
          refine d_gd (fun g99 => ?_)
          refine d_st (fun _ k => zs_iald dX1_liesOn_99 (zp_p2 h0) (zp_2 h0 _) g99 rfl k) ?_
          refine d_st (fun _ k => zg_mmax dX1_liesOn_100 zt_2_231 zt_2_232 zt_1_12 zt_2_233 (Nat.le_of_ble_eq_true rfl) k) ?_
          refine d_br (fun _ => zg_icmp_gt 110 dX1_liesOn_103 rfl) (fun c103 => ?_) (fun c103 => ?_)
          · refine d_st (fun _ k => zg_iconst 0 dX1_liesOn_110 (by decide) k) ?_
            exact d_retZ dX1_liesOn_111 rfl (by decide)
          · refine d_st (fun _ k => zg_iconst 1 dX1_liesOn_106 (by decide) (zg_goto 111 dX1_liesOn_107 rfl k)) ?_
            exact d_retZ dX1_liesOn_111 rfl (by decide)
  · refine d_st (fun _ k => zg_iconst 0 dX1_liesOn_110 (by decide) k) ?_
    exact d_retZ dX1_liesOn_111 rfl (by decide)
def f_X1_crossing_42 (p0 : Nat) (v1 : Int32) (v2 : Int32) (v3 : Int32) (S : zS) : Option (Int32 × zS) := if z_in v2 9 then (if z_in v1 9 then (if (S.1 (p0 + 2) v2.toNatClampNeg) ≤ (S.1 (p0 + 2) v1.toNatClampNeg) then (some (0, S)) else (if z_in v3 9 then (if z_in v1 9 then (if (S.1 (p0 + 2) v1.toNatClampNeg) < (S.1 (p0 + 2) v3.toNatClampNeg) then (some (0, S)) else ((f_X1_side p0 v1 v2 v3 S).bind (fun r76 => if 0 ≤ r76.1 then (some (0, r76.2)) else (some ((-1), r76.2))))) else none) else none)) else none) else none
set_option maxRecDepth 100000 in
set_option maxHeartbeats 4000000 in
theorem zd_X1_crossing_42 (V : zV) {p0 : Nat} (h0 : z_isP p0) (d : Nat) : ∀ (v1 : Int32) (v2 : Int32) (v3 : Int32) (S : zS), z_J zeI V mX1_crossing (d + 1) (f_X1_crossing_42 p0 v1 v2 v3 S) 42 [.ref p0, .int v1, .int v2, .int v3] [] S := by
  intro v1 v2 v3 S
  unfold f_X1_crossing_42
  refine d_st (fun _ k => zg_aload_n dX1_crossing_42 rfl (zs_getR dX1_crossing_43 zf_X1_19 rfl (zp_o h0 _) (by decide) (by decide) (zp_r2 h0) (zg_iload_n dX1_crossing_46 rfl k))) ?_
  refine d_gd (fun g47 => ?_)
  refine d_st (fun _ k => zs_iald dX1_crossing_47 (zp_p2 h0) (zp_2 h0 _) g47 rfl k) ?_
  refine d_st (fun _ k => zg_aload_n dX1_crossing_48 rfl (zs_getR dX1_crossing_49 zf_X1_19 rfl (zp_o h0 _) (by decide) (by decide) (zp_r2 h0) (zg_iload_n dX1_crossing_52 rfl k))) ?_
  refine d_gd (fun g53 => ?_)
  refine d_st (fun _ k => zs_iald dX1_crossing_53 (zp_p2 h0) (zp_2 h0 _) g53 rfl k) ?_
  refine d_br (fun _ => zg_icmp_le 84 dX1_crossing_54 rfl) (fun c54 => ?_) (fun c54 => ?_)
  · refine d_st (fun _ k => zg_iconst 0 dX1_crossing_84 (by decide) k) ?_
    exact d_retI dX1_crossing_85 rfl
  · refine d_st (fun _ k => zg_aload_n dX1_crossing_57 rfl (zs_getR dX1_crossing_58 zf_X1_19 rfl (zp_o h0 _) (by decide) (by decide) (zp_r2 h0) (zg_iload_n dX1_crossing_61 rfl k))) ?_
    refine d_gd (fun g62 => ?_)
    refine d_st (fun _ k => zs_iald dX1_crossing_62 (zp_p2 h0) (zp_2 h0 _) g62 rfl k) ?_
    refine d_st (fun _ k => zg_aload_n dX1_crossing_63 rfl (zs_getR dX1_crossing_64 zf_X1_19 rfl (zp_o h0 _) (by decide) (by decide) (zp_r2 h0) (zg_iload_n dX1_crossing_67 rfl k))) ?_
    refine d_gd (fun g68 => ?_)
    refine d_st (fun _ k => zs_iald dX1_crossing_68 (zp_p2 h0) (zp_2 h0 _) g68 rfl k) ?_
    refine d_br (fun _ => zg_icmp_gt 84 dX1_crossing_69 rfl) (fun c69 => ?_) (fun c69 => ?_)
    · refine d_st (fun _ k => zg_iconst 0 dX1_crossing_84 (by decide) k) ?_
      exact d_retI dX1_crossing_85 rfl
    · refine d_st (fun _ k => zg_aload_n dX1_crossing_72 rfl (zg_iload_n dX1_crossing_73 rfl (zg_iload_n dX1_crossing_74 rfl (zg_iload_n dX1_crossing_75 rfl k)))) ?_
      refine d_cVi (As := [_, _, _]) dX1_crossing_76 zk_X1_110 (zp_o h0 _) (by decide) ⟨_, _, rfl⟩ rfl rfl (Nat.le_of_ble_eq_true rfl) (Nat.le_of_ble_eq_true rfl) rfl (zd_X1_side V h0 d _ _ _ _) (fun r76 _ => ?_)
      refine d_br (fun _ => zg_if_ge 84 dX1_crossing_79 rfl) (fun c79 => ?_) (fun c79 => ?_)
      · refine d_st (fun _ k => zg_iconst 0 dX1_crossing_84 (by decide) k) ?_
        exact d_retI dX1_crossing_85 rfl
      · refine d_st (fun _ k => zg_iconst (-1) dX1_crossing_82 (by decide) k) ?_
        exact d_retI dX1_crossing_83 rfl
def f_X1_crossing (p0 : Nat) (a1 : Int32) (a2 : Int32) (a3 : Int32) (S : zS) : Option (Int32 × zS) := if z_in a2 9 then (if z_in a1 9 then (if (S.1 (p0 + 2) a1.toNatClampNeg) < (S.1 (p0 + 2) a2.toNatClampNeg) then (f_X1_crossing_42 p0 a1 a2 a3 S) else (if z_in a3 9 then (if z_in a1 9 then (if (S.1 (p0 + 2) a3.toNatClampNeg) ≤ (S.1 (p0 + 2) a1.toNatClampNeg) then (f_X1_crossing_42 p0 a1 a2 a3 S) else ((f_X1_side p0 a1 a2 a3 S).bind (fun r34 => if r34.1 ≤ 0 then (f_X1_crossing_42 p0 a1 a2 a3 r34.2) else (some (1, r34.2))))) else none) else none)) else none) else none
set_option maxRecDepth 100000 in
set_option maxHeartbeats 4000000 in
theorem zd_X1_crossing (V : zV) {p0 : Nat} (h0 : z_isP p0) (d : Nat) : ∀ (a1 : Int32) (a2 : Int32) (a3 : Int32) (S : zS), z_J zeI V mX1_crossing (d + 1) (f_X1_crossing p0 a1 a2 a3 S) 0 (z_ent mX1_crossing [.ref p0, .int a1, .int a2, .int a3]) [] S := by
  intro a1 a2 a3 S
  show z_J zeI V mX1_crossing (d + 1) (f_X1_crossing p0 a1 a2 a3 S) 0 [.ref p0, .int a1, .int a2, .int a3] [] S
  unfold f_X1_crossing
  refine d_st (fun _ k => zg_aload_n dX1_crossing_0 rfl (zs_getR dX1_crossing_1 zf_X1_19 rfl (zp_o h0 _) (by decide) (by decide) (zp_r2 h0) (zg_iload_n dX1_crossing_4 rfl k))) ?_
  refine d_gd (fun g5 => ?_)
  refine d_st (fun _ k => zs_iald dX1_crossing_5 (zp_p2 h0) (zp_2 h0 _) g5 rfl k) ?_
  refine d_st (fun _ k => zg_aload_n dX1_crossing_6 rfl (zs_getR dX1_crossing_7 zf_X1_19 rfl (zp_o h0 _) (by decide) (by decide) (zp_r2 h0) (zg_iload_n dX1_crossing_10 rfl k))) ?_
  refine d_gd (fun g11 => ?_)
  refine d_st (fun _ k => zs_iald dX1_crossing_11 (zp_p2 h0) (zp_2 h0 _) g11 rfl k) ?_
  refine d_br (fun _ => zg_icmp_gt 42 dX1_crossing_12 rfl) (fun c12 => ?_) (fun c12 => ?_)
  · exact d_fg (z_le_s (z_le_s (z_le_s (z_le_s z_le_n)))) (zd_X1_crossing_42 V h0 d _ _ _ _)
  · refine d_st (fun _ k => zg_aload_n dX1_crossing_15 rfl (zs_getR dX1_crossing_16 zf_X1_19 rfl (zp_o h0 _) (by decide) (by decide) (zp_r2 h0) (zg_iload_n dX1_crossing_19 rfl k))) ?_
    refine d_gd (fun g20 => ?_)
    refine d_st (fun _ k => zs_iald dX1_crossing_20 (zp_p2 h0) (zp_2 h0 _) g20 rfl k) ?_
    refine d_st (fun _ k => zg_aload_n dX1_crossing_21 rfl (zs_getR dX1_crossing_22 zf_X1_19 rfl (zp_o h0 _) (by decide) (by decide) (zp_r2 h0) (zg_iload_n dX1_crossing_25 rfl k))) ?_
    refine d_gd (fun g26 => ?_)
    refine d_st (fun _ k => zs_iald dX1_crossing_26 (zp_p2 h0) (zp_2 h0 _) g26 rfl k) ?_
    refine d_br (fun _ => zg_icmp_le 42 dX1_crossing_27 rfl) (fun c27 => ?_) (fun c27 => ?_)
    · exact d_fg (z_le_s (z_le_s (z_le_s (z_le_s z_le_n)))) (zd_X1_crossing_42 V h0 d _ _ _ _)
    · refine d_st (fun _ k => zg_aload_n dX1_crossing_30 rfl (zg_iload_n dX1_crossing_31 rfl (zg_iload_n dX1_crossing_32 rfl (zg_iload_n dX1_crossing_33 rfl k)))) ?_
      refine d_cVi (As := [_, _, _]) dX1_crossing_34 zk_X1_110 (zp_o h0 _) (by decide) ⟨_, _, rfl⟩ rfl rfl (Nat.le_of_ble_eq_true rfl) (Nat.le_of_ble_eq_true rfl) rfl (zd_X1_side V h0 d _ _ _ _) (fun r34 _ => ?_)
      refine d_br (fun _ => zg_if_le 42 dX1_crossing_37 rfl) (fun c37 => ?_) (fun c37 => ?_)
      · exact d_fg (z_le_s (z_le_s (z_le_s (z_le_s z_le_n)))) (zd_X1_crossing_42 V h0 d _ _ _ _)
      · refine d_st (fun _ k => zg_iconst 1 dX1_crossing_40 (by decide) k) ?_
        exact d_retI dX1_crossing_41 rfl
def f_X1_goesRound_5 (p0 : Nat) : Nat → Int32 → Int32 → Int32 → Int32 → zS → Option (Int32 × zS)
  | 0, _, _, _, _, _ => none
  | n + 1, v1, v2, v3, v4, S => if z_in v1 4 then (if (S.1 (p0 + 6) v1.toNatClampNeg) ≤ v4 then (if v3 = 0 then (some (0, S)) else (some (1, S))) else (if z_in v1 4 then (if z_in v4 5 then (if z_in v1 4 then ((f_X1_nextInRing p0 v1 v4 S).bind (fun r37 => if z_in r37.1 5 then ((f_X1_liesOn p0 v2 (S.1 (p0 + 8 + v1.toNatClampNeg) v4.toNatClampNeg) (r37.2.1 (p0 + 8 + v1.toNatClampNeg) r37.1.toNatClampNeg) r37.2).bind (fun r49 => if r49.1 = 0 then ((f_X1_crossing p0 v2 (S.1 (p0 + 8 + v1.toNatClampNeg) v4.toNatClampNeg) (r37.2.1 (p0 + 8 + v1.toNatClampNeg) r37.1.toNatClampNeg) r49.2).bind (fun r64 => f_X1_goesRound_5 p0 n v1 v2 (v3 + r64.1) (v4 + 1) r64.2)) else (some (0, r49.2)))) else none)) else none) else none) else none)) else none
set_option maxRecDepth 100000 in
set_option maxHeartbeats 4000000 in
theorem zd_X1_goesRound_5 (V : zV) {p0 : Nat} (h0 : z_isP p0) (d : Nat) : ∀ (n : Nat) (v1 : Int32) (v2 : Int32) (v3 : Int32) (v4 : Int32) (S : zS), z_J zeI V mX1_goesRound (d + 2) (f_X1_goesRound_5 p0 n v1 v2 v3 v4 S) 5 [.ref p0, .int v1, .int v2, .int v3, .int v4, .null, .null] [] S := by
  intro n
  induction n with
  | zero =>
    intro v1 v2 v3 v4 S r hr
    cases (show (none : Option (Int32 × zS)) = some r from hr)
  | succ n ih =>
    intro v1 v2 v3 v4 S
    rw [f_X1_goesRound_5]
    refine d_st (fun _ k => zg_iload dX1_goesRound_5 rfl (zg_aload_n dX1_goesRound_7 rfl (zs_getR dX1_goesRound_8 zf_X1_37 rfl (zp_o h0 _) (by decide) (by decide) (zp_r8 h0) (zg_iload_n dX1_goesRound_11 rfl k)))) ?_
    refine d_gd (fun g12 => ?_)
    refine d_st (fun _ k => zs_iald dX1_goesRound_12 (zp_p6 h0) (zp_6 h0 _) g12 rfl k) ?_
    refine d_br (fun _ => zg_icmp_ge 75 dX1_goesRound_13 rfl) (fun c13 => ?_) (fun c13 => ?_)
    · refine d_st (fun _ k => zg_iload_n dX1_goesRound_75 rfl k) ?_
      refine d_br (fun _ => zg_if_eq 83 dX1_goesRound_76 rfl) (fun c76 => ?_) (fun c76 => ?_)
      · refine d_st (fun _ k => zg_iconst 0 dX1_goesRound_83 (by decide) k) ?_
        exact d_retZ dX1_goesRound_84 rfl (by decide)
      · refine d_st (fun _ k => zg_iconst 1 dX1_goesRound_79 (by decide) (zg_goto 84 dX1_goesRound_80 rfl k)) ?_
        exact d_retZ dX1_goesRound_84 rfl (by decide)
    · refine d_st (fun _ k => zg_aload_n dX1_goesRound_16 rfl (zs_getR dX1_goesRound_17 zf_X1_42 rfl (zp_o h0 _) (by decide) (by decide) (zp_r9 h0) (zg_iload_n dX1_goesRound_20 rfl k))) ?_
      refine d_gd (fun g21 => ?_)
      refine d_st (fun _ k => zs_ring dX1_goesRound_21 h0 g21 k) ?_
      refine d_st (fun _ k => zg_iload dX1_goesRound_22 rfl k) ?_
      refine d_gd (fun g24 => ?_)
      refine d_st (fun _ k => zs_iald dX1_goesRound_24 zp_prow ((zp_ring (pl := 0) (dr := 0) h0 (z_in_lt g21)).2 _) g24 rfl k) ?_
      refine d_st (fun _ k => zg_istore (ls' := [_, _, _, _, _, _, _]) dX1_goesRound_25 (Nat.le_of_ble_eq_true rfl) rfl rfl (zg_aload_n dX1_goesRound_27 rfl (zs_getR dX1_goesRound_28 zf_X1_42 rfl (zp_o h0 _) (by decide) (by decide) (zp_r9 h0) (zg_iload_n dX1_goesRound_31 rfl k)))) ?_
      refine d_gd (fun g32 => ?_)
      refine d_st (fun _ k => zs_ring dX1_goesRound_32 h0 g32 k) ?_
      refine d_st (fun _ k => zg_aload_n dX1_goesRound_33 rfl (zg_iload_n dX1_goesRound_34 rfl (zg_iload dX1_goesRound_35 rfl k))) ?_
      refine d_cVi (As := [_, _]) dX1_goesRound_37 zk_X1_86 (zp_o h0 _) (by decide) ⟨_, _, rfl⟩ rfl rfl (Nat.le_of_ble_eq_true rfl) (Nat.le_of_ble_eq_true rfl) rfl (zd_X1_nextInRing V h0 (d + 1) _ _ _) (fun r37 _ => ?_)
      refine d_gd (fun g40 => ?_)
      refine d_st (fun _ k => zs_iald dX1_goesRound_40 zp_prow ((zp_ring (pl := 0) (dr := 0) h0 (z_in_lt g32)).2 _) g40 rfl k) ?_
      refine d_st (fun _ k => zg_istore (ls' := [_, _, _, _, _, _, _]) dX1_goesRound_41 (Nat.le_of_ble_eq_true rfl) rfl rfl (zg_aload_n dX1_goesRound_43 rfl (zg_iload_n dX1_goesRound_44 rfl (zg_iload dX1_goesRound_45 rfl (zg_iload dX1_goesRound_47 rfl k))))) ?_
      refine d_cVi (As := [_, _, _]) dX1_goesRound_49 zk_X1_102 (zp_o h0 _) (by decide) ⟨_, _, rfl⟩ rfl rfl (Nat.le_of_ble_eq_true rfl) (Nat.le_of_ble_eq_true rfl) rfl (zd_X1_liesOn V h0 d _ _ _ _) (fun r49 _ => ?_)
      refine d_br (fun _ => zg_if_eq 57 dX1_goesRound_52 rfl) (fun c52 => ?_) (fun c52 => ?_)
      · refine d_st (fun _ k => zg_iload_n dX1_goesRound_57 rfl (zg_aload_n dX1_goesRound_58 rfl (zg_iload_n dX1_goesRound_59 rfl (zg_iload dX1_goesRound_60 rfl (zg_iload dX1_goesRound_62 rfl k))))) ?_
        refine d_cVi (As := [_, _, _]) dX1_goesRound_64 zk_X1_106 (zp_o h0 _) (by decide) ⟨_, _, rfl⟩ rfl rfl (Nat.le_of_ble_eq_true rfl) (Nat.le_of_ble_eq_true rfl) rfl (zd_X1_crossing V h0 d _ _ _ _) (fun r64 _ => ?_)
        refine d_st (fun _ k => zg_iadd dX1_goesRound_67 (zg_istore_n (ls' := [_, _, _, _, _, _, _]) dX1_goesRound_68 (Nat.le_of_ble_eq_true rfl) rfl rfl (zg_iinc (ls' := [_, _, _, _, _, _, _]) 1 dX1_goesRound_69 rfl (by decide) (Nat.le_of_ble_eq_true rfl) rfl rfl (zg_goto 5 dX1_goesRound_72 rfl k)))) ?_
        exact d_fg (z_le_s (z_le_s (z_le_s (z_le_s (z_le_s (z_le_0 (z_le_0 z_le_n))))))) (ih _ _ _ _ _)
      · refine d_st (fun _ k => zg_iconst 0 dX1_goesRound_55 (by decide) k) ?_
        exact d_retZ dX1_goesRound_56 rfl (by decide)
def f_X1_goesRound (p0 : Nat) (a1 : Int32) (a2 : Int32) (S : zS) : Option (Int32 × zS) := f_X1_goesRound_5 p0 1000 a1 a2 0 0 S
set_option maxRecDepth 100000 in
set_option maxHeartbeats 4000000 in
theorem zd_X1_goesRound (V : zV) {p0 : Nat} (h0 : z_isP p0) (d : Nat) : ∀ (a1 : Int32) (a2 : Int32) (S : zS), z_J zeI V mX1_goesRound (d + 2) (f_X1_goesRound p0 a1 a2 S) 0 (z_ent mX1_goesRound [.ref p0, .int a1, .int a2]) [] S := by
  intro a1 a2 S
  show z_J zeI V mX1_goesRound (d + 2) (f_X1_goesRound p0 a1 a2 S) 0 [.ref p0, .int a1, .int a2, .null, .null, .null, .null] [] S
  unfold f_X1_goesRound
  refine d_st (fun _ k => zg_iconst 0 dX1_goesRound_0 (by decide) (zg_istore_n (ls' := [_, _, _, _, _, _, _]) dX1_goesRound_1 (Nat.le_of_ble_eq_true rfl) rfl rfl (zg_iconst 0 dX1_goesRound_2 (by decide) (zg_istore (ls' := [_, _, _, _, _, _, _]) dX1_goesRound_3 (Nat.le_of_ble_eq_true rfl) rfl rfl k)))) ?_
  exact d_fg (z_le_s (z_le_s (z_le_s (z_le_s (z_le_s (z_le_0 (z_le_0 z_le_n))))))) (zd_X1_goesRound_5 V h0 d 1000 _ _ _ _ _)
def f_X1_partsAround_4 (p0 : Nat) : Nat → Int32 → Int32 → Int32 → zS → Option (Int32 × zS)
  | 0, _, _, _, _ => none
  | n + 1, v1, v2, v3, S => if (S.1 p0 7) ≤ v3 then (some (v2, S)) else (if v3 = v1 then (f_X1_partsAround_4 p0 n v1 v2 (v3 + 1) S) else (if z_in v1 4 then ((f_X1_goesRound p0 v3 (S.1 (p0 + 8 + v1.toNatClampNeg) 0) S).bind (fun r27 => if r27.1 = 0 then (f_X1_partsAround_4 p0 n v1 v2 (v3 + 1) r27.2) else (f_X1_partsAround_4 p0 n v1 (v2 ||| ((1 : Int32) <<< (v3 &&& 31))) (v3 + 1) r27.2))) else none))
set_option maxRecDepth 100000 in
set_option maxHeartbeats 4000000 in
theorem zd_X1_partsAround_4 (V : zV) {p0 : Nat} (h0 : z_isP p0) (d : Nat) : ∀ (n : Nat) (v1 : Int32) (v2 : Int32) (v3 : Int32) (S : zS), z_J zeI V mX1_partsAround (d + 3) (f_X1_partsAround_4 p0 n v1 v2 v3 S) 4 [.ref p0, .int v1, .int v2, .int v3] [] S := by
  intro n
  induction n with
  | zero =>
    intro v1 v2 v3 S r hr
    cases (show (none : Option (Int32 × zS)) = some r from hr)
  | succ n ih =>
    intro v1 v2 v3 S
    rw [f_X1_partsAround_4]
    refine d_st (fun _ k => zg_iload_n dX1_partsAround_4 rfl (zg_aload_n dX1_partsAround_5 rfl (zs_getI dX1_partsAround_6 zf_X1_34 rfl (zp_o h0 _) (by decide) (by decide) k))) ?_
    refine d_br (fun _ => zg_icmp_ge 45 dX1_partsAround_9 rfl) (fun c9 => ?_) (fun c9 => ?_)
    · refine d_st (fun _ k => zg_iload_n dX1_partsAround_45 rfl k) ?_
      exact d_retI dX1_partsAround_46 rfl
    · refine d_st (fun _ k => zg_iload_n dX1_partsAround_12 rfl (zg_iload_n dX1_partsAround_13 rfl k)) ?_
      refine d_br (fun _ => zg_icmp_eq 39 dX1_partsAround_14 rfl) (fun c14 => ?_) (fun c14 => ?_)
      · refine d_st (fun _ k => zg_iinc (ls' := [_, _, _, _]) 1 dX1_partsAround_39 rfl (by decide) (Nat.le_of_ble_eq_true rfl) rfl rfl (zg_goto 4 dX1_partsAround_42 rfl k)) ?_
        exact d_fg (z_le_s (z_le_s (z_le_s (z_le_s z_le_n)))) (ih _ _ _ _)
      · refine d_st (fun _ k => zg_aload_n dX1_partsAround_17 rfl (zg_iload_n dX1_partsAround_18 rfl (zg_aload_n dX1_partsAround_19 rfl (zs_getR dX1_partsAround_20 zf_X1_42 rfl (zp_o h0 _) (by decide) (by decide) (zp_r9 h0) (zg_iload_n dX1_partsAround_23 rfl k))))) ?_
        refine d_gd (fun g24 => ?_)
        refine d_st (fun _ k => zs_ring dX1_partsAround_24 h0 g24 k) ?_
        refine d_st (fun _ k => zg_iconst 0 dX1_partsAround_25 (by decide) (zs_iald (j := 0) dX1_partsAround_26 zp_prow ((zp_ring (pl := 0) (dr := 0) h0 (z_in_lt g24)).2 _) (by decide) (by decide) k)) ?_
        refine d_cVi (As := [_, _]) dX1_partsAround_27 zk_X1_99 (zp_o h0 _) (by decide) ⟨_, _, rfl⟩ rfl rfl (Nat.le_of_ble_eq_true rfl) (Nat.le_of_ble_eq_true rfl) rfl (zd_X1_goesRound V h0 d _ _ _) (fun r27 _ => ?_)
        refine d_br (fun _ => zg_if_eq 39 dX1_partsAround_30 rfl) (fun c30 => ?_) (fun c30 => ?_)
        · refine d_st (fun _ k => zg_iinc (ls' := [_, _, _, _]) 1 dX1_partsAround_39 rfl (by decide) (Nat.le_of_ble_eq_true rfl) rfl rfl (zg_goto 4 dX1_partsAround_42 rfl k)) ?_
          exact d_fg (z_le_s (z_le_s (z_le_s (z_le_s z_le_n)))) (ih _ _ _ _)
        · refine d_st (fun _ k => zg_iload_n dX1_partsAround_33 rfl (zg_iconst 1 dX1_partsAround_34 (by decide) (zg_iload_n dX1_partsAround_35 rfl (zg_ishl dX1_partsAround_36 (zg_ior dX1_partsAround_37 (zg_istore_n (ls' := [_, _, _, _]) dX1_partsAround_38 (Nat.le_of_ble_eq_true rfl) rfl rfl (zg_iinc (ls' := [_, _, _, _]) 1 dX1_partsAround_39 rfl (by decide) (Nat.le_of_ble_eq_true rfl) rfl rfl (zg_goto 4 dX1_partsAround_42 rfl k)))))))) ?_
          exact d_fg (z_le_s (z_le_s (z_le_s (z_le_s z_le_n)))) (ih _ _ _ _)
def f_X1_partsAround (p0 : Nat) (a1 : Int32) (S : zS) : Option (Int32 × zS) := f_X1_partsAround_4 p0 1000 a1 0 0 S
set_option maxRecDepth 100000 in
set_option maxHeartbeats 4000000 in
theorem zd_X1_partsAround (V : zV) {p0 : Nat} (h0 : z_isP p0) (d : Nat) : ∀ (a1 : Int32) (S : zS), z_J zeI V mX1_partsAround (d + 3) (f_X1_partsAround p0 a1 S) 0 (z_ent mX1_partsAround [.ref p0, .int a1]) [] S := by
  intro a1 S
  show z_J zeI V mX1_partsAround (d + 3) (f_X1_partsAround p0 a1 S) 0 [.ref p0, .int a1, .null, .null] [] S
  unfold f_X1_partsAround
  refine d_st (fun _ k => zg_iconst 0 dX1_partsAround_0 (by decide) (zg_istore_n (ls' := [_, _, _, _]) dX1_partsAround_1 (Nat.le_of_ble_eq_true rfl) rfl rfl (zg_iconst 0 dX1_partsAround_2 (by decide) (zg_istore_n (ls' := [_, _, _, _]) dX1_partsAround_3 (Nat.le_of_ble_eq_true rfl) rfl rfl k)))) ?_
  exact d_fg (z_le_s (z_le_s (z_le_s (z_le_s z_le_n)))) (zd_X1_partsAround_4 V h0 d 1000 _ _ _ _)
def f_X1_settle_33 (p0 : Nat) : Nat → Int32 → zS → Option (Unit × zS)
  | 0, _, _ => none
  | n + 1, v1, S => if (S.1 p0 7) ≤ v1 then (some ((), S)) else ((f_X1_partsAround p0 v1 S).bind (fun r48 => if z_in v1 4 then (f_X1_settle_33 p0 n (v1 + 1) (z_w r48.2 (p0 + 13) v1.toNatClampNeg r48.1)) else none))
set_option maxRecDepth 100000 in
set_option maxHeartbeats 4000000 in
theorem zd_X1_settle_33 (V : zV) {p0 : Nat} (h0 : z_isP p0) (d : Nat) : ∀ (n : Nat) (v1 : Int32) (S : zS), z_J zeV V mX1_settle (d + 4) (f_X1_settle_33 p0 n v1 S) 33 [.ref p0, .int v1] [] S := by
  intro n
  induction n with
  | zero =>
    intro v1 S r hr
    cases (show (none : Option (Unit × zS)) = some r from hr)
  | succ n ih =>
    intro v1 S
    rw [f_X1_settle_33]
    refine d_st (fun _ k => zg_iload_n dX1_settle_33 rfl (zg_aload_n dX1_settle_34 rfl (zs_getI dX1_settle_35 zf_X1_34 rfl (zp_o h0 _) (by decide) (by decide) k))) ?_
    refine d_br (fun _ => zg_icmp_ge 58 dX1_settle_38 rfl) (fun c38 => ?_) (fun c38 => ?_)
    · exact d_retV dX1_settle_58 rfl
    · refine d_st (fun _ k => zg_aload_n dX1_settle_41 rfl (zs_getR dX1_settle_42 zf_X1_48 rfl (zp_o h0 _) (by decide) (by decide) (zp_r11 h0) (zg_iload_n dX1_settle_45 rfl (zg_aload_n dX1_settle_46 rfl (zg_iload_n dX1_settle_47 rfl k))))) ?_
      refine d_cVi (As := [_]) dX1_settle_48 zk_X1_83 (zp_o h0 _) (by decide) ⟨_, _, rfl⟩ rfl rfl (Nat.le_of_ble_eq_true rfl) (Nat.le_of_ble_eq_true rfl) rfl (zd_X1_partsAround V h0 d _ _) (fun r48 _ => ?_)
      refine d_gd (fun g51 => ?_)
      refine d_st (fun _ k => zs_iast dX1_settle_51 (zp_p13 h0) (zp_13 h0 _) g51 rfl k) ?_
      refine d_st (fun _ k => zg_iinc (ls' := [_, _]) 1 dX1_settle_52 rfl (by decide) (Nat.le_of_ble_eq_true rfl) rfl rfl (zg_goto 33 dX1_settle_55 rfl k)) ?_
      exact d_fg (z_le_s (z_le_s z_le_n)) (ih _ _)
def f_X1_settle_6 (p0 : Nat) : Nat → Int32 → zS → Option (Unit × zS)
  | 0, _, _ => none
  | n + 1, v1, S => if (S.1 p0 7) ≤ v1 then (f_X1_settle_33 p0 1000 0 S) else ((f_X1_cutsOfRing p0 v1 S).bind (fun r21 => if z_in v1 4 then (f_X1_settle_6 p0 n (v1 + 1) (z_w r21.2 (p0 + 12) v1.toNatClampNeg r21.1)) else none))
set_option maxRecDepth 100000 in
set_option maxHeartbeats 4000000 in
theorem zd_X1_settle_6 (V : zV) {p0 : Nat} (h0 : z_isP p0) (d : Nat) : ∀ (n : Nat) (v1 : Int32) (S : zS), z_J zeV V mX1_settle (d + 4) (f_X1_settle_6 p0 n v1 S) 6 [.ref p0, .int v1] [] S := by
  intro n
  induction n with
  | zero =>
    intro v1 S r hr
    cases (show (none : Option (Unit × zS)) = some r from hr)
  | succ n ih =>
    intro v1 S
    rw [f_X1_settle_6]
    refine d_st (fun _ k => zg_iload_n dX1_settle_6 rfl (zg_aload_n dX1_settle_7 rfl (zs_getI dX1_settle_8 zf_X1_34 rfl (zp_o h0 _) (by decide) (by decide) k))) ?_
    refine d_br (fun _ => zg_icmp_ge 31 dX1_settle_11 rfl) (fun c11 => ?_) (fun c11 => ?_)
    · refine d_st (fun _ k => zg_iconst 0 dX1_settle_31 (by decide) (zg_istore_n (ls' := [_, _]) dX1_settle_32 (Nat.le_of_ble_eq_true rfl) rfl rfl k)) ?_
      exact d_fg (z_le_s (z_le_s z_le_n)) (zd_X1_settle_33 V h0 d 1000 _ _)
    · refine d_st (fun _ k => zg_aload_n dX1_settle_14 rfl (zs_getR dX1_settle_15 zf_X1_45 rfl (zp_o h0 _) (by decide) (by decide) (zp_r10 h0) (zg_iload_n dX1_settle_18 rfl (zg_aload_n dX1_settle_19 rfl (zg_iload_n dX1_settle_20 rfl k))))) ?_
      refine d_cVi (As := [_]) dX1_settle_21 zk_X1_80 (zp_o h0 _) (by decide) ⟨_, _, rfl⟩ rfl rfl (Nat.le_of_ble_eq_true rfl) (Nat.le_of_ble_eq_true rfl) rfl (zd_X1_cutsOfRing V h0 (d + 1) _ _) (fun r21 _ => ?_)
      refine d_gd (fun g24 => ?_)
      refine d_st (fun _ k => zs_iast dX1_settle_24 (zp_p12 h0) (zp_12 h0 _) g24 rfl k) ?_
      refine d_st (fun _ k => zg_iinc (ls' := [_, _]) 1 dX1_settle_25 rfl (by decide) (Nat.le_of_ble_eq_true rfl) rfl rfl (zg_goto 6 dX1_settle_28 rfl k)) ?_
      exact d_fg (z_le_s (z_le_s z_le_n)) (ih _ _)
def f_X1_settle (p0 : Nat) (S : zS) : Option (Unit × zS) := (f_X1_numberCuts p0 S).bind (fun r1 => f_X1_settle_6 p0 1000 0 r1.2)
set_option maxRecDepth 100000 in
set_option maxHeartbeats 4000000 in
theorem zd_X1_settle (V : zV) {p0 : Nat} (h0 : z_isP p0) (d : Nat) : ∀ (S : zS), z_J zeV V mX1_settle (d + 4) (f_X1_settle p0 S) 0 (z_ent mX1_settle [.ref p0]) [] S := by
  intro S
  show z_J zeV V mX1_settle (d + 4) (f_X1_settle p0 S) 0 [.ref p0, .null] [] S
  unfold f_X1_settle
  refine d_st (fun _ k => zg_aload_n dX1_settle_0 rfl k) ?_
  refine d_cVv (As := []) dX1_settle_1 zk_X1_77 (zp_o h0 _) (by decide) ⟨_, _, rfl⟩ rfl rfl (Nat.le_of_ble_eq_true rfl) (Nat.le_of_ble_eq_true rfl) rfl (zd_X1_numberCuts V h0 (d + 2) _) (fun r1 _ => ?_)
  refine d_st (fun _ k => zg_iconst 0 dX1_settle_4 (by decide) (zg_istore_n (ls' := [_, _]) dX1_settle_5 (Nat.le_of_ble_eq_true rfl) rfl rfl k)) ?_
  exact d_fg (z_le_s (z_le_s z_le_n)) (zd_X1_settle_6 V h0 d 1000 _ _)
def f_X3_read_63 (p3 : Nat) (v2 : Int32) (S : zS) : Option (Int32 × zS) := if (S.1 31 4) = 0 then ((f_X1_settle p3 S).bind (fun r73 => some ((-1), r73.2))) else (some (v2, S))
set_option maxRecDepth 100000 in
set_option maxHeartbeats 4000000 in
theorem zd_X3_read_63 (V : zV) {p3 : Nat} (h3 : z_isP p3) (d : Nat) : ∀ (v2 : Int32) (S : zS), z_J zeI V mX3_read (d + 5) (f_X3_read_63 p3 v2 S) 63 [.ref 31, .null, .int v2, .ref p3, .null] [] S := by
  intro v2 S
  unfold f_X3_read_63
  refine d_st (fun _ k => zg_aload_n dX3_read_63 rfl (zs_getI dX3_read_64 zf_X3_24 rfl (zq_31 _) (by decide) (by decide) k)) ?_
  refine d_br (fun _ => zg_if_eq 72 dX3_read_67 rfl) (fun c67 => ?_) (fun c67 => ?_)
  · refine d_st (fun _ k => zg_aload_n dX3_read_72 rfl k) ?_
    refine d_cVv (As := []) dX3_read_73 zk_X3_53 (zp_o h3 _) (by decide) ⟨_, _, rfl⟩ rfl rfl (Nat.le_of_ble_eq_true rfl) (Nat.le_of_ble_eq_true rfl) rfl (zd_X1_settle V h3 d _) (fun r73 _ => ?_)
    refine d_st (fun _ k => zg_iconst (-1) dX3_read_76 (by decide) k) ?_
    exact d_retI dX3_read_77 rfl
  · refine d_st (fun _ k => zg_iload_n dX3_read_70 rfl k) ?_
    exact d_retI dX3_read_71 rfl
def f_X3_read_22 (p3 : Nat) : Nat → Int32 → Int32 → zS → Option (Int32 × zS)
  | 0, _, _, _ => none
  | n + 1, v2, v4, S => if v2 < v4 then (f_X3_read_63 p3 v2 S) else ((f_X3_readToken v2 S).bind (fun r31 => if (r31.2.1 31 2) = 0 then (f_X3_read_63 p3 v2 r31.2) else ((f_X3_takesToken p3 r31.2).bind (fun r46 => if r46.1 = 0 then (some (r46.2.1 31 0, r46.2)) else (f_X3_read_22 p3 n v2 (v4 + 1) r46.2)))))
set_option maxRecDepth 100000 in
set_option maxHeartbeats 4000000 in
theorem zd_X3_read_22 (V : zV) {p3 : Nat} (h3 : z_isP p3) (d : Nat) : ∀ (n : Nat) (v2 : Int32) (v4 : Int32) (S : zS), z_J zeI V mX3_read (d + 5) (f_X3_read_22 p3 n v2 v4 S) 22 [.ref 31, .ref 2, .int v2, .ref p3, .int v4] [] S := by
  intro n
  induction n with
  | zero =>
    intro v2 v4 S r hr
    cases (show (none : Option (Int32 × zS)) = some r from hr)
  | succ n ih =>
    intro v2 v4 S
    rw [f_X3_read_22]
    refine d_st (fun _ k => zg_iload dX3_read_22 rfl (zg_iload_n dX3_read_24 rfl k)) ?_
    refine d_br (fun _ => zg_icmp_gt 63 dX3_read_25 rfl) (fun c25 => ?_) (fun c25 => ?_)
    · exact d_fg (z_le_s (z_le_0 (z_le_s (z_le_s (z_le_0 z_le_n))))) (zd_X3_read_63 V h3 d _ _)
    · refine d_st (fun _ k => zg_aload_n dX3_read_28 rfl (zg_aload_n dX3_read_29 rfl (zg_iload_n dX3_read_30 rfl k))) ?_
      refine d_cVv (As := [_, _]) dX3_read_31 zk_X3_45 (zq_31 _) (by decide) ⟨_, _, rfl⟩ rfl rfl (Nat.le_of_ble_eq_true rfl) (Nat.le_of_ble_eq_true rfl) rfl (zd_X3_readToken V (d + 2) _ _) (fun r31 _ => ?_)
      refine d_st (fun _ k => zg_aload_n dX3_read_34 rfl (zs_getI dX3_read_35 zf_X3_18 rfl (zq_31 _) (by decide) (by decide) k)) ?_
      refine d_br (fun _ => zg_if_ne 44 dX3_read_38 rfl) (fun c38 => ?_) (fun c38 => ?_)
      · refine d_st (fun _ k => zg_goto 63 dX3_read_41 rfl k) ?_
        exact d_fg (z_le_s (z_le_0 (z_le_s (z_le_s (z_le_0 z_le_n))))) (zd_X3_read_63 V h3 d _ _)
      · refine d_st (fun _ k => zg_aload_n dX3_read_44 rfl (zg_aload_n dX3_read_45 rfl k)) ?_
        refine d_cVi (As := [_]) dX3_read_46 zk_X3_49 (zq_31 _) (by decide) ⟨_, _, rfl⟩ rfl rfl (Nat.le_of_ble_eq_true rfl) (Nat.le_of_ble_eq_true rfl) rfl (zd_X3_takesToken V h3 d _) (fun r46 _ => ?_)
        refine d_br (fun _ => zg_if_ne 57 dX3_read_49 rfl) (fun c49 => ?_) (fun c49 => ?_)
        · refine d_st (fun _ k => zg_aload_n dX3_read_52 rfl (zs_getI dX3_read_53 zf_X3_9 rfl (zq_31 _) (by decide) (by decide) k)) ?_
          exact d_retI dX3_read_56 rfl
        · refine d_st (fun _ k => zg_iinc (ls' := [_, _, _, _, _]) 1 dX3_read_57 rfl (by decide) (Nat.le_of_ble_eq_true rfl) rfl rfl (zg_goto 22 dX3_read_60 rfl k)) ?_
          exact d_fg (z_le_s (z_le_s (z_le_s (z_le_s (z_le_s z_le_n))))) (ih _ _ _)
def f_X3_read (a2 : Int32) (p3 : Nat) (S : zS) : Option (Int32 × zS) := (f_X1_wipe p3 (z_w (z_w (z_w S 31 1 0) 31 4 0) 31 8 0)).bind (fun r16 => f_X3_read_22 p3 1000 a2 0 r16.2)
set_option maxRecDepth 100000 in
set_option maxHeartbeats 4000000 in
theorem zd_X3_read (V : zV) {p3 : Nat} (h3 : z_isP p3) (d : Nat) : ∀ (a2 : Int32) (S : zS), z_J zeI V mX3_read (d + 5) (f_X3_read a2 p3 S) 0 (z_ent mX3_read [.ref 31, .ref 2, .int a2, .ref p3]) [] S := by
  intro a2 S
  show z_J zeI V mX3_read (d + 5) (f_X3_read a2 p3 S) 0 [.ref 31, .ref 2, .int a2, .ref p3, .null] [] S
  unfold f_X3_read
  refine d_st (fun _ k => zg_aload_n dX3_read_0 rfl (zg_iconst 0 dX3_read_1 (by decide) (zs_putI dX3_read_2 zf_X3_15 rfl (zq_31 _) (by decide) (by decide) (zg_aload_n dX3_read_5 rfl (zg_iconst 0 dX3_read_6 (by decide) (zs_putI dX3_read_7 zf_X3_24 rfl (zq_31 _) (by decide) (by decide) (zg_aload_n dX3_read_10 rfl (zg_iconst 0 dX3_read_11 (by decide) (zs_putZ dX3_read_12 zf_X3_36 rfl (by decide) (zq_31 _) (by decide) (by decide) (zg_aload_n dX3_read_15 rfl k)))))))))) ?_
  refine d_cVv (As := []) dX3_read_16 zk_X3_40 (zp_o h3 _) (by decide) ⟨_, _, rfl⟩ rfl rfl (Nat.le_of_ble_eq_true rfl) (Nat.le_of_ble_eq_true rfl) rfl (zd_X1_wipe V h3 (d + 3) _) (fun r16 _ => ?_)
  refine d_st (fun _ k => zg_iconst 0 dX3_read_19 (by decide) (zg_istore (ls' := [_, _, _, _, _]) dX3_read_20 (Nat.le_of_ble_eq_true rfl) rfl rfl k)) ?_
  exact d_fg (z_le_s (z_le_s (z_le_s (z_le_s (z_le_s z_le_n))))) (zd_X3_read_22 V h3 d 1000 _ _ _)
def f_X2_beginOn_26 (p0 : Nat) (p1 : Nat) (t0 : Int32) (S : zS) : Option (Unit × zS) := (f_J7_fill_53178 (p0 + 1) 9 (-9) (z_w (z_w (z_w S p0 1 t0) p0 2 0) p0 3 0)).bind (fun r45 => some ((), r45.2))
set_option maxRecDepth 100000 in
set_option maxHeartbeats 4000000 in
theorem zd_X2_beginOn_26 (V : zV) {p0 : Nat} {p1 : Nat} (h0 : z_isQ p0) (h1 : z_isP p1) (d : Nat) : ∀ (t0 : Int32) (S : zS), z_J zeV V mX2_beginOn (d + 1) (f_X2_beginOn_26 p0 p1 t0 S) 26 [.ref p0, .null] [.int t0, .ref p0] S := by
  intro t0 S
  unfold f_X2_beginOn_26
  refine d_st (fun _ k => zs_putI dX2_beginOn_26 zf_X2_15 rfl (zl_o h0 _).1 (by decide) (by decide) (zg_aload_n dX2_beginOn_29 rfl (zg_iconst 0 dX2_beginOn_30 (by decide) (zs_putI dX2_beginOn_31 zf_X2_18 rfl (zl_o h0 _).1 (by decide) (by decide) (zg_aload_n dX2_beginOn_34 rfl (zg_iconst 0 dX2_beginOn_35 (by decide) (zs_putZ dX2_beginOn_36 zf_X2_21 rfl (by decide) (zl_o h0 _).1 (by decide) (by decide) (zg_aload_n dX2_beginOn_39 rfl (zs_getR dX2_beginOn_40 zf_X2_25 rfl (zl_o h0 _).1 (by decide) (by decide) (zl_r h0) (zg_bipush (-9) dX2_beginOn_43 (by decide) k)))))))))) ?_
  refine d_cSv (As := [_, _]) dX2_beginOn_45 zk_X2_37 rfl rfl (Nat.le_of_ble_eq_true rfl) (Nat.le_of_ble_eq_true rfl) rfl (zd_J7_fill_53178 V ⟨(Nat.succ_pos _), fun _ => (zl_o h0 _).2⟩ d _ _) (fun r45 _ => ?_)
  exact d_retV dX2_beginOn_48 rfl
def f_X2_beginOn (p0 : Nat) (p1 : Nat) (S : zS) : Option (Unit × zS) := if ((z_w S p0 0 (((1 : Int32) <<< ((S.1 p1 4) &&& 31)) - 1)).1 p1 0) ≤ 0 then (f_X2_beginOn_26 p0 p1 (-9) (z_w S p0 0 (((1 : Int32) <<< ((S.1 p1 4) &&& 31)) - 1))) else (f_X2_beginOn_26 p0 p1 0 (z_w S p0 0 (((1 : Int32) <<< ((S.1 p1 4) &&& 31)) - 1)))
set_option maxRecDepth 100000 in
set_option maxHeartbeats 4000000 in
theorem zd_X2_beginOn (V : zV) {p0 : Nat} {p1 : Nat} (h0 : z_isQ p0) (h1 : z_isP p1) (d : Nat) : ∀ (S : zS), z_J zeV V mX2_beginOn (d + 1) (f_X2_beginOn p0 p1 S) 0 (z_ent mX2_beginOn [.ref p0, .ref p1]) [] S := by
  intro S
  show z_J zeV V mX2_beginOn (d + 1) (f_X2_beginOn p0 p1 S) 0 [.ref p0, .ref p1] [] S
  unfold f_X2_beginOn
  refine d_st (fun _ k => zg_aload_n dX2_beginOn_0 rfl (zg_iconst 1 dX2_beginOn_1 (by decide) (zg_aload_n dX2_beginOn_2 rfl (zs_getI dX2_beginOn_3 zf_X2_29 rfl (zp_o h1 _) (by decide) (by decide) (zg_ishl dX2_beginOn_6 (zg_iconst 1 dX2_beginOn_7 (by decide) (zg_isub dX2_beginOn_8 (zs_putI dX2_beginOn_9 zf_X2_9 rfl (zl_o h0 _).1 (by decide) (by decide) (zg_aload_n dX2_beginOn_12 rfl (zg_aload_n dX2_beginOn_13 rfl (zs_getI dX2_beginOn_14 zf_X2_34 rfl (zp_o h1 _) (by decide) (by decide) k))))))))))) ?_
  refine d_br (fun _ => zg_if_le 24 dX2_beginOn_17 rfl) (fun c17 => ?_) (fun c17 => ?_)
  · refine d_st (fun _ k => zg_bipush (-9) dX2_beginOn_24 (by decide) k) ?_
    exact d_fg (z_le_s (z_le_0 z_le_n)) (zd_X2_beginOn_26 V h0 h1 d _ _)
  · refine d_st (fun _ k => zg_iconst 0 dX2_beginOn_20 (by decide) (zg_goto 26 dX2_beginOn_21 rfl k)) ?_
    exact d_fg (z_le_s (z_le_0 z_le_n)) (zd_X2_beginOn_26 V h0 h1 d _ _)
def f_X0_lose (S : zS) : Option (Unit × zS) := some ((), (z_w S 34 2 0))
set_option maxRecDepth 100000 in
set_option maxHeartbeats 4000000 in
theorem zd_X0_lose (V : zV) (d : Nat) : ∀ (S : zS), z_J zeV V mX0_lose (d) (f_X0_lose  S) 0 (z_ent mX0_lose [.ref 34]) [] S := by
  intro S
  show z_J zeV V mX0_lose (d) (f_X0_lose  S) 0 [.ref 34] [] S
  unfold f_X0_lose
  refine d_st (fun _ k => zg_aload_n dX0_lose_0 rfl (zg_iconst 0 dX0_lose_1 (by decide) (zs_putI dX0_lose_2 zf_X0_21 rfl (zq_34 _) (by decide) (by decide) k))) ?_
  exact d_retV dX0_lose_5 rfl
def f_X7_lose (S : zS) : Option (Unit × zS) := some ((), (z_w S 75 0 0))
set_option maxRecDepth 100000 in
set_option maxHeartbeats 4000000 in
theorem zd_X7_lose (V : zV) (d : Nat) : ∀ (S : zS), z_J zeV V mX7_lose (d) (f_X7_lose  S) 0 (z_ent mX7_lose [.ref 75]) [] S := by
  intro S
  show z_J zeV V mX7_lose (d) (f_X7_lose  S) 0 [.ref 75] [] S
  unfold f_X7_lose
  refine d_st (fun _ k => zg_aload_n dX7_lose_0 rfl (zg_iconst 0 dX7_lose_1 (by decide) (zs_putI dX7_lose_2 zf_X7_9 rfl (zq_75 _) (by decide) (by decide) k))) ?_
  exact d_retV dX7_lose_5 rfl
def f_X8_outdate (S : zS) : Option (Unit × zS) := some ((), (z_w (z_w S 57 0 0) 69 0 (-9)))
set_option maxRecDepth 100000 in
set_option maxHeartbeats 4000000 in
theorem zd_X8_outdate (V : zV) (d : Nat) : ∀ (S : zS), z_J zeV V mX8_outdate (d) (f_X8_outdate  S) 0 (z_ent mX8_outdate [.ref 1]) [] S := by
  intro S
  show z_J zeV V mX8_outdate (d) (f_X8_outdate  S) 0 [.ref 1] [] S
  unfold f_X8_outdate
  refine d_st (fun _ k => zg_aload_n dX8_outdate_0 rfl (zs_getR dX8_outdate_1 zf_X8_58 rfl (zq_1 _) (by decide) (by decide) zr_1_9 (zg_iconst 0 dX8_outdate_4 (by decide) (zs_putZ dX8_outdate_5 zf_X8_269 rfl (by decide) (zq_57 _) (by decide) (by decide) (zg_aload_n dX8_outdate_8 rfl (zs_getR dX8_outdate_9 zf_X8_65 rfl (zq_1 _) (by decide) (by decide) zr_1_10 (zg_bipush (-9) dX8_outdate_12 (by decide) (zs_putI dX8_outdate_14 zf_X8_273 rfl (zq_69 _) (by decide) (by decide) k)))))))) ?_
  exact d_retV dX8_outdate_17 rfl
def f_X8_plate (S : zS) : Option (Int32 × zS) := if z_isP S.2.2 then ((f_X3_read (S.1 1 1) S.2.2 S).bind (fun r16 => if r16.1 = (-1) then (if z_isP r16.2.2.1 then (if z_isP r16.2.2.2 then (if z_isP ((z_w ((r16.2.1, r16.2.2.2, r16.2.2.2).1, (r16.2.1, r16.2.2.2, r16.2.2.2).2.1, r16.2.2.1) 1 1 0).2.1) then ((f_X2_beginOn 32 ((z_w ((r16.2.1, r16.2.2.2, r16.2.2.2).1, (r16.2.1, r16.2.2.2, r16.2.2.2).2.1, r16.2.2.1) 1 1 0).2.1) (z_w ((r16.2.1, r16.2.2.2, r16.2.2.2).1, (r16.2.1, r16.2.2.2, r16.2.2.2).2.1, r16.2.2.1) 1 1 0)).bind (fun r61 => (f_X0_lose  r61.2).bind (fun r68 => (f_X7_lose  r68.2).bind (fun r75 => (f_X8_outdate  (z_w r75.2 1 8 0)).bind (fun r84 => if z_isP r84.2.2.1 then (some (r84.2.1 r84.2.2.1 13, r84.2)) else none))))) else none) else none) else none) else (some ((-10) - r16.1, r16.2)))) else none
set_option maxRecDepth 100000 in
set_option maxHeartbeats 4000000 in
theorem zd_X8_plate (V : zV) (d : Nat) : ∀ (S : zS), z_J zeI V mX8_plate (d + 6) (f_X8_plate  S) 0 (z_ent mX8_plate [.ref 1]) [] S := by
  intro S
  show z_J zeI V mX8_plate (d + 6) (f_X8_plate  S) 0 [.ref 1, .null, .null] [] S
  unfold f_X8_plate
  refine d_st (fun _ k => zg_aload_n dX8_plate_0 rfl (zs_getR dX8_plate_1 zf_X8_30 rfl (zq_1 _) (by decide) (by decide) zr_1_4 (zg_aload_n dX8_plate_4 rfl (zs_getR dX8_plate_5 zf_X8_9 rfl (zq_1 _) (by decide) (by decide) zr_1_0 (zg_aload_n dX8_plate_8 rfl (zs_getI dX8_plate_9 zf_X8_13 rfl (zq_1 _) (by decide) (by decide) (zg_aload_n dX8_plate_12 rfl k))))))) ?_
  refine d_gd (fun g13 => ?_)
  refine d_st (fun _ k => zs_getR dX8_plate_13 zf_X8_24 rfl (zq_1 _) (by decide) (by decide) zr_dr k) ?_
  refine d_cVi (As := [_, _, _]) dX8_plate_16 zk_X8_80 (zq_31 _) (by decide) ⟨_, _, rfl⟩ rfl rfl (Nat.le_of_ble_eq_true rfl) (Nat.le_of_ble_eq_true rfl) rfl (zd_X3_read V g13 d _ _) (fun r16 _ => ?_)
  refine d_st (fun _ k => zg_istore_n (ls' := [_, _, _]) dX8_plate_19 (Nat.le_of_ble_eq_true rfl) rfl rfl (zg_iload_n dX8_plate_20 rfl (zg_iconst (-1) dX8_plate_21 (by decide) k))) ?_
  refine d_br (fun _ => zg_icmp_eq 30 dX8_plate_22 rfl) (fun c22 => ?_) (fun c22 => ?_)
  · refine d_st (fun _ k => zg_aload_n dX8_plate_30 rfl k) ?_
    refine d_gd (fun g31 => ?_)
    refine d_st (fun _ k => zs_getR dX8_plate_31 zf_X8_20 rfl (zq_1 _) (by decide) (by decide) zr_pl k) ?_
    refine d_st (fun _ k => zg_astore_n (ls' := [_, _, _]) dX8_plate_34 (Nat.le_of_ble_eq_true rfl) rfl rfl (zg_aload_n dX8_plate_35 rfl (zg_aload_n dX8_plate_36 rfl k))) ?_
    refine d_gd (fun g37 => ?_)
    refine d_st (fun _ k => zs_getR dX8_plate_37 zf_X8_24 rfl (zq_1 _) (by decide) (by decide) zr_dr k) ?_
    refine d_st (fun _ k => zs_putPl dX8_plate_40 zf_X8_20 (zg_aload_n dX8_plate_43 rfl (zg_aload_n dX8_plate_44 rfl (zs_putDr dX8_plate_45 zf_X8_24 (zg_aload_n dX8_plate_48 rfl (zg_iconst 0 dX8_plate_49 (by decide) (zs_putI dX8_plate_50 zf_X8_13 rfl (zq_1 _) (by decide) (by decide) (zg_aload_n dX8_plate_53 rfl (zs_getR dX8_plate_54 zf_X8_37 rfl (zq_1 _) (by decide) (by decide) zr_1_5 (zg_aload_n dX8_plate_57 rfl k)))))))))) ?_
    refine d_gd (fun g58 => ?_)
    refine d_st (fun _ k => zs_getR dX8_plate_58 zf_X8_20 rfl (zq_1 _) (by decide) (by decide) zr_pl k) ?_
    refine d_cVv (As := [_]) dX8_plate_61 zk_X8_76 (zq_32 _) (by decide) ⟨_, _, rfl⟩ rfl rfl (Nat.le_of_ble_eq_true rfl) (Nat.le_of_ble_eq_true rfl) rfl (zd_X2_beginOn V (by decide) g58 (d + 4) _) (fun r61 _ => ?_)
    refine d_st (fun _ k => zg_aload_n dX8_plate_64 rfl (zs_getR dX8_plate_65 zf_X8_44 rfl (zq_1 _) (by decide) (by decide) zr_1_6 k)) ?_
    refine d_cVv (As := []) dX8_plate_68 zk_X8_84 (zq_34 _) (by decide) ⟨_, _, rfl⟩ rfl rfl (Nat.le_of_ble_eq_true rfl) (Nat.le_of_ble_eq_true rfl) rfl (zd_X0_lose V (d + 5) _) (fun r68 _ => ?_)
    refine d_st (fun _ k => zg_aload_n dX8_plate_71 rfl (zs_getR dX8_plate_72 zf_X8_72 rfl (zq_1 _) (by decide) (by decide) zr_1_11 k)) ?_
    refine d_cVv (As := []) dX8_plate_75 zk_X8_87 (zq_75 _) (by decide) ⟨_, _, rfl⟩ rfl rfl (Nat.le_of_ble_eq_true rfl) (Nat.le_of_ble_eq_true rfl) rfl (zd_X7_lose V (d + 5) _) (fun r75 _ => ?_)
    refine d_st (fun _ k => zg_aload_n dX8_plate_78 rfl (zg_iconst 0 dX8_plate_79 (by decide) (zs_putI dX8_plate_80 zf_X8_52 rfl (zq_1 _) (by decide) (by decide) (zg_aload_n dX8_plate_83 rfl k)))) ?_
    refine d_cVv (As := []) dX8_plate_84 zk_X8_88 (zq_1 _) (by decide) ⟨_, _, rfl⟩ rfl rfl (Nat.le_of_ble_eq_true rfl) (Nat.le_of_ble_eq_true rfl) rfl (zd_X8_outdate V (d + 5) _) (fun r84 _ => ?_)
    refine d_st (fun _ k => zg_aload_n dX8_plate_87 rfl k) ?_
    refine d_gd (fun g88 => ?_)
    refine d_st (fun _ k => zs_getR dX8_plate_88 zf_X8_20 rfl (zq_1 _) (by decide) (by decide) zr_pl k) ?_
    refine d_st (fun _ k => zs_getI dX8_plate_91 zf_X8_91 rfl (zp_o g88 _) (by decide) (by decide) k) ?_
    exact d_retI dX8_plate_94 rfl
  · refine d_st (fun _ k => zg_bipush (-10) dX8_plate_25 (by decide) (zg_iload_n dX8_plate_27 rfl (zg_isub dX8_plate_28 k))) ?_
    exact d_retI dX8_plate_29 rfl
def f_X9_begins_2 : Nat → Int32 → zS → Option (Unit × zS)
  | 0, _, _ => none
  | n + 1, v1, S => if 74 ≤ v1 then (some ((), (z_w S 87 8 0))) else (if z_in v1 74 then (f_X9_begins_2 n (v1 + 1) (z_w S 90 v1.toNatClampNeg 0)) else none)
set_option maxRecDepth 100000 in
set_option maxHeartbeats 4000000 in
theorem zd_X9_begins_2 (V : zV) (d : Nat) : ∀ (n : Nat) (v1 : Int32) (S : zS), z_J zeV V mX9_begins (d) (f_X9_begins_2 n v1 S) 2 [.ref 87, .int v1] [] S := by
  intro n
  induction n with
  | zero =>
    intro v1 S r hr
    cases (show (none : Option (Unit × zS)) = some r from hr)
  | succ n ih =>
    intro v1 S
    rw [f_X9_begins_2]
    refine d_st (fun _ k => zg_iload_n dX9_begins_2 rfl (zg_bipush 74 dX9_begins_3 (by decide) k)) ?_
    refine d_br (fun _ => zg_icmp_ge 21 dX9_begins_5 rfl) (fun c5 => ?_) (fun c5 => ?_)
    · refine d_st (fun _ k => zg_aload_n dX9_begins_21 rfl (zg_iconst 0 dX9_begins_22 (by decide) (zs_putZ dX9_begins_23 zf_X9_121 rfl (by decide) (zq_87 _) (by decide) (by decide) k))) ?_
      exact d_retV dX9_begins_26 rfl
    · refine d_st (fun _ k => zg_aload_n dX9_begins_8 rfl (zs_getR dX9_begins_9 zf_X9_16 rfl (zq_87 _) (by decide) (by decide) zr_87_10 (zg_iload_n dX9_begins_12 rfl (zg_iconst 0 dX9_begins_13 (by decide) k)))) ?_
      refine d_gd (fun g14 => ?_)
      refine d_st (fun _ k => zs_iast dX9_begins_14 (by decide) (zq_90 _) g14 rfl k) ?_
      refine d_st (fun _ k => zg_iinc (ls' := [_, _]) 1 dX9_begins_15 rfl (by decide) (Nat.le_of_ble_eq_true rfl) rfl rfl (zg_goto 2 dX9_begins_18 rfl k)) ?_
      exact d_fg (z_le_s (z_le_s z_le_n)) (ih _ _)
def f_X9_begins (S : zS) : Option (Unit × zS) := f_X9_begins_2 1000 0 S
set_option maxRecDepth 100000 in
set_option maxHeartbeats 4000000 in
theorem zd_X9_begins (V : zV) (d : Nat) : ∀ (S : zS), z_J zeV V mX9_begins (d) (f_X9_begins  S) 0 (z_ent mX9_begins [.ref 87]) [] S := by
  intro S
  show z_J zeV V mX9_begins (d) (f_X9_begins  S) 0 [.ref 87, .null] [] S
  unfold f_X9_begins
  refine d_st (fun _ k => zg_iconst 0 dX9_begins_0 (by decide) (zg_istore_n (ls' := [_, _]) dX9_begins_1 (Nat.le_of_ble_eq_true rfl) rfl rfl k)) ?_
  exact d_fg (z_le_s (z_le_s z_le_n)) (zd_X9_begins_2 V d 1000 _ _)
def f_X9_letterAt (a1 : Int32) (S : zS) : Option (Int32 × zS) := if (S.1 87 2) ≤ a1 then (some ((-1), S)) else (if z_in a1 110 then (some (S.1 88 a1.toNatClampNeg, S)) else none)
set_option maxRecDepth 100000 in
set_option maxHeartbeats 4000000 in
theorem zd_X9_letterAt (V : zV) (d : Nat) : ∀ (a1 : Int32) (S : zS), z_J zeI V mX9_letterAt (d) (f_X9_letterAt a1 S) 0 (z_ent mX9_letterAt [.ref 87, .int a1]) [] S := by
  intro a1 S
  show z_J zeI V mX9_letterAt (d) (f_X9_letterAt a1 S) 0 [.ref 87, .int a1] [] S
  unfold f_X9_letterAt
  refine d_st (fun _ k => zg_iload_n dX9_letterAt_0 rfl (zg_aload_n dX9_letterAt_1 rfl (zs_getI dX9_letterAt_2 zf_X9_92 rfl (zq_87 _) (by decide) (by decide) k))) ?_
  refine d_br (fun _ => zg_icmp_ge 17 dX9_letterAt_5 rfl) (fun c5 => ?_) (fun c5 => ?_)
  · refine d_st (fun _ k => zg_iconst (-1) dX9_letterAt_17 (by decide) k) ?_
    exact d_retI dX9_letterAt_18 rfl
  · refine d_st (fun _ k => zg_aload_n dX9_letterAt_8 rfl (zs_getR dX9_letterAt_9 zf_X9_7 rfl (zq_87 _) (by decide) (by decide) zr_87_1 (zg_iload_n dX9_letterAt_12 rfl k))) ?_
    refine d_gd (fun g13 => ?_)
    refine d_st (fun _ k => zs_iald dX9_letterAt_13 (by decide) (zq_88 _) g13 rfl k) ?_
    refine d_st (fun _ k => zg_goto 18 dX9_letterAt_14 rfl k) ?_
    exact d_retI dX9_letterAt_18 rfl
def f_X9_advances_71 : Nat → Int32 → zS → Option (Unit × zS)
  | 0, _, _ => none
  | n + 1, v1, S => (f_X9_letterAt (S.1 87 3) S).bind (fun r76 => (f_X9_in r76.1 48 57 r76.2).bind (fun r83 => if r83.1 = 0 then (if 99 < (r83.2.1 87 6) then (some ((), (z_w r83.2 87 4 4))) else (if v1 = 48 then (if ((r83.2.1 87 3) - (r83.2.1 87 5)) ≤ 1 then (some ((), (z_w r83.2 87 4 2))) else (some ((), (z_w r83.2 87 4 4)))) else (some ((), (z_w r83.2 87 4 2))))) else (if (r83.2.1 87 6) ≤ 99 then ((f_X9_letterAt (r83.2.1 87 3) r83.2).bind (fun r118 => f_X9_advances_71 n v1 (z_w (z_w r118.2 87 6 (((10 * (r83.2.1 87 6)) + r118.1) - 48)) 87 3 (((z_w r118.2 87 6 (((10 * (r83.2.1 87 6)) + r118.1) - 48)).1 87 3) + 1)))) else (f_X9_advances_71 n v1 (z_w (z_w r83.2 87 6 (r83.2.1 87 6)) 87 3 (((z_w r83.2 87 6 (r83.2.1 87 6)).1 87 3) + 1))))))
set_option maxRecDepth 100000 in
set_option maxHeartbeats 4000000 in
theorem zd_X9_advances_71 (V : zV) (d : Nat) : ∀ (n : Nat) (v1 : Int32) (S : zS), z_J zeV V mX9_advances (d + 1) (f_X9_advances_71 n v1 S) 71 [.ref 87, .int v1] [] S := by
  intro n
  induction n with
  | zero =>
    intro v1 S r hr
    cases (show (none : Option (Unit × zS)) = some r from hr)
  | succ n ih =>
    intro v1 S
    rw [f_X9_advances_71]
    refine d_st (fun _ k => zg_aload_n dX9_advances_71 rfl (zg_aload_n dX9_advances_72 rfl (zs_getI dX9_advances_73 zf_X9_95 rfl (zq_87 _) (by decide) (by decide) k))) ?_
    refine d_cVi (As := [_]) dX9_advances_76 zk_X9_98 (zq_87 _) (by decide) ⟨_, _, rfl⟩ rfl rfl (Nat.le_of_ble_eq_true rfl) (Nat.le_of_ble_eq_true rfl) rfl (zd_X9_letterAt V d _ _) (fun r76 _ => ?_)
    refine d_st (fun _ k => zg_bipush 48 dX9_advances_79 (by decide) (zg_bipush 57 dX9_advances_81 (by decide) k)) ?_
    refine d_cSi (As := [_, _, _]) dX9_advances_83 zk_X9_88 rfl rfl (Nat.le_of_ble_eq_true rfl) (Nat.le_of_ble_eq_true rfl) rfl (zd_X9_in V d _ _ _ _) (fun r83 _ => ?_)
    refine d_br (fun _ => zg_if_eq 141 dX9_advances_86 rfl) (fun c86 => ?_) (fun c86 => ?_)
    · refine d_st (fun _ k => zg_aload_n dX9_advances_141 rfl (zg_aload_n dX9_advances_142 rfl (zs_getI dX9_advances_143 zf_X9_108 rfl (zq_87 _) (by decide) (by decide) (zg_bipush 99 dX9_advances_146 (by decide) k)))) ?_
      refine d_br (fun _ => zg_icmp_gt 170 dX9_advances_148 rfl) (fun c148 => ?_) (fun c148 => ?_)
      · refine d_st (fun _ k => zg_iconst 4 dX9_advances_170 (by decide) (zg_goto 175 dX9_advances_171 rfl (zs_putI dX9_advances_175 zf_X9_105 rfl (zq_87 _) (by decide) (by decide) (zg_goto 239 dX9_advances_178 rfl k)))) ?_
        exact d_retV dX9_advances_239 rfl
      · refine d_st (fun _ k => zg_iload_n dX9_advances_151 rfl (zg_bipush 48 dX9_advances_152 (by decide) k)) ?_
        refine d_br (fun _ => zg_icmp_ne 174 dX9_advances_154 rfl) (fun c154 => ?_) (fun c154 => ?_)
        · refine d_st (fun _ k => zg_aload_n dX9_advances_157 rfl (zs_getI dX9_advances_158 zf_X9_95 rfl (zq_87 _) (by decide) (by decide) (zg_aload_n dX9_advances_161 rfl (zs_getI dX9_advances_162 zf_X9_102 rfl (zq_87 _) (by decide) (by decide) (zg_isub dX9_advances_165 (zg_iconst 1 dX9_advances_166 (by decide) k)))))) ?_
          refine d_br (fun _ => zg_icmp_le 174 dX9_advances_167 rfl) (fun c167 => ?_) (fun c167 => ?_)
          · refine d_st (fun _ k => zg_iconst 2 dX9_advances_174 (by decide) (zs_putI dX9_advances_175 zf_X9_105 rfl (zq_87 _) (by decide) (by decide) (zg_goto 239 dX9_advances_178 rfl k))) ?_
            exact d_retV dX9_advances_239 rfl
          · refine d_st (fun _ k => zg_iconst 4 dX9_advances_170 (by decide) (zg_goto 175 dX9_advances_171 rfl (zs_putI dX9_advances_175 zf_X9_105 rfl (zq_87 _) (by decide) (by decide) (zg_goto 239 dX9_advances_178 rfl k)))) ?_
            exact d_retV dX9_advances_239 rfl
        · refine d_st (fun _ k => zg_iconst 2 dX9_advances_174 (by decide) (zs_putI dX9_advances_175 zf_X9_105 rfl (zq_87 _) (by decide) (by decide) (zg_goto 239 dX9_advances_178 rfl k))) ?_
          exact d_retV dX9_advances_239 rfl
    · refine d_st (fun _ k => zg_aload_n dX9_advances_89 rfl (zg_aload_n dX9_advances_90 rfl (zs_getI dX9_advances_91 zf_X9_108 rfl (zq_87 _) (by decide) (by decide) (zg_bipush 99 dX9_advances_94 (by decide) k)))) ?_
      refine d_br (fun _ => zg_icmp_le 106 dX9_advances_96 rfl) (fun c96 => ?_) (fun c96 => ?_)
      · refine d_st (fun _ k => zg_bipush 10 dX9_advances_106 (by decide) (zg_aload_n dX9_advances_108 rfl (zs_getI dX9_advances_109 zf_X9_108 rfl (zq_87 _) (by decide) (by decide) (zg_imul dX9_advances_112 (zg_aload_n dX9_advances_113 rfl (zg_aload_n dX9_advances_114 rfl (zs_getI dX9_advances_115 zf_X9_95 rfl (zq_87 _) (by decide) (by decide) k))))))) ?_
        refine d_cVi (As := [_]) dX9_advances_118 zk_X9_98 (zq_87 _) (by decide) ⟨_, _, rfl⟩ rfl rfl (Nat.le_of_ble_eq_true rfl) (Nat.le_of_ble_eq_true rfl) rfl (zd_X9_letterAt V d _ _) (fun r118 _ => ?_)
        refine d_st (fun _ k => zg_iadd dX9_advances_121 (zg_bipush 48 dX9_advances_122 (by decide) (zg_isub dX9_advances_124 (zs_putI dX9_advances_125 zf_X9_108 rfl (zq_87 _) (by decide) (by decide) (zg_aload_n dX9_advances_128 rfl (zg_dupr dX9_advances_129 (zs_getI dX9_advances_130 zf_X9_95 rfl (zq_87 _) (by decide) (by decide) (zg_iconst 1 dX9_advances_133 (by decide) (zg_iadd dX9_advances_134 (zs_putI dX9_advances_135 zf_X9_95 rfl (zq_87 _) (by decide) (by decide) (zg_goto 71 dX9_advances_138 rfl k))))))))))) ?_
        exact d_fg (z_le_s (z_le_s z_le_n)) (ih _ _)
      · refine d_st (fun _ k => zg_aload_n dX9_advances_99 rfl (zs_getI dX9_advances_100 zf_X9_108 rfl (zq_87 _) (by decide) (by decide) (zg_goto 125 dX9_advances_103 rfl (zs_putI dX9_advances_125 zf_X9_108 rfl (zq_87 _) (by decide) (by decide) (zg_aload_n dX9_advances_128 rfl (zg_dupr dX9_advances_129 (zs_getI dX9_advances_130 zf_X9_95 rfl (zq_87 _) (by decide) (by decide) (zg_iconst 1 dX9_advances_133 (by decide) (zg_iadd dX9_advances_134 (zs_putI dX9_advances_135 zf_X9_95 rfl (zq_87 _) (by decide) (by decide) (zg_goto 71 dX9_advances_138 rfl k))))))))))) ?_
        exact d_fg (z_le_s (z_le_s z_le_n)) (ih _ _)
def f_X9_advances_0 : Nat → zS → Option (Unit × zS)
  | 0, _ => none
  | n + 1, S => (f_X9_letterAt (S.1 87 3) S).bind (fun r5 => if r5.1 = 32 then (f_X9_advances_0 n  (z_w r5.2 87 3 ((r5.2.1 87 3) + 1))) else ((f_X9_letterAt ((z_w r5.2 87 5 (r5.2.1 87 3)).1 87 3) (z_w r5.2 87 5 (r5.2.1 87 3))).bind (fun r39 => if 0 ≤ r39.1 then ((f_X9_in r39.1 48 57 r39.2).bind (fun r60 => if r60.1 = 0 then (if r39.1 = 59 then (some ((), (z_w (z_w (z_w r60.2 87 3 ((r60.2.1 87 3) + 1)) 87 6 r39.1) 87 4 3))) else (if r39.1 = 104 then (some ((), (z_w (z_w (z_w r60.2 87 3 ((r60.2.1 87 3) + 1)) 87 6 r39.1) 87 4 1))) else (if r39.1 = 107 then (some ((), (z_w (z_w (z_w r60.2 87 3 ((r60.2.1 87 3) + 1)) 87 6 r39.1) 87 4 1))) else (if r39.1 = 112 then (some ((), (z_w (z_w (z_w r60.2 87 3 ((r60.2.1 87 3) + 1)) 87 6 r39.1) 87 4 1))) else (if r39.1 = 115 then (some ((), (z_w (z_w (z_w r60.2 87 3 ((r60.2.1 87 3) + 1)) 87 6 r39.1) 87 4 1))) else (some ((), (z_w (z_w (z_w r60.2 87 3 ((r60.2.1 87 3) + 1)) 87 6 r39.1) 87 4 4)))))))) else (f_X9_advances_71 1000 r39.1 (z_w r60.2 87 6 0)))) else (some ((), (z_w r39.2 87 4 0))))))
set_option maxRecDepth 100000 in
set_option maxHeartbeats 4000000 in
theorem zd_X9_advances_0 (V : zV) (d : Nat) : ∀ (n : Nat) (S : zS), z_J zeV V mX9_advances (d + 1) (f_X9_advances_0 n  S) 0 [.ref 87, .null] [] S := by
  intro n
  induction n with
  | zero =>
    intro S r hr
    cases (show (none : Option (Unit × zS)) = some r from hr)
  | succ n ih =>
    intro S
    rw [f_X9_advances_0]
    refine d_st (fun _ k => zg_aload_n dX9_advances_0 rfl (zg_aload_n dX9_advances_1 rfl (zs_getI dX9_advances_2 zf_X9_95 rfl (zq_87 _) (by decide) (by decide) k))) ?_
    refine d_cVi (As := [_]) dX9_advances_5 zk_X9_98 (zq_87 _) (by decide) ⟨_, _, rfl⟩ rfl rfl (Nat.le_of_ble_eq_true rfl) (Nat.le_of_ble_eq_true rfl) rfl (zd_X9_letterAt V d _ _) (fun r5 _ => ?_)
    refine d_st (fun _ k => zg_bipush 32 dX9_advances_8 (by decide) k) ?_
    refine d_br (fun _ => zg_icmp_ne 26 dX9_advances_10 rfl) (fun c10 => ?_) (fun c10 => ?_)
    · refine d_st (fun _ k => zg_aload_n dX9_advances_13 rfl (zg_dupr dX9_advances_14 (zs_getI dX9_advances_15 zf_X9_95 rfl (zq_87 _) (by decide) (by decide) (zg_iconst 1 dX9_advances_18 (by decide) (zg_iadd dX9_advances_19 (zs_putI dX9_advances_20 zf_X9_95 rfl (zq_87 _) (by decide) (by decide) (zg_goto 0 dX9_advances_23 rfl k))))))) ?_
      exact d_fg (z_le_s (z_le_0 z_le_n)) (ih _)
    · refine d_st (fun _ k => zg_aload_n dX9_advances_26 rfl (zg_aload_n dX9_advances_27 rfl (zs_getI dX9_advances_28 zf_X9_95 rfl (zq_87 _) (by decide) (by decide) (zs_putI dX9_advances_31 zf_X9_102 rfl (zq_87 _) (by decide) (by decide) (zg_aload_n dX9_advances_34 rfl (zg_aload_n dX9_advances_35 rfl (zs_getI dX9_advances_36 zf_X9_95 rfl (zq_87 _) (by decide) (by decide) k))))))) ?_
      refine d_cVi (As := [_]) dX9_advances_39 zk_X9_98 (zq_87 _) (by decide) ⟨_, _, rfl⟩ rfl rfl (Nat.le_of_ble_eq_true rfl) (Nat.le_of_ble_eq_true rfl) rfl (zd_X9_letterAt V d _ _) (fun r39 _ => ?_)
      refine d_st (fun _ k => zg_istore_n (ls' := [_, _]) dX9_advances_42 (Nat.le_of_ble_eq_true rfl) rfl rfl (zg_iload_n dX9_advances_43 rfl k)) ?_
      refine d_br (fun _ => zg_if_ge 55 dX9_advances_44 rfl) (fun c44 => ?_) (fun c44 => ?_)
      · refine d_st (fun _ k => zg_iload_n dX9_advances_55 rfl (zg_bipush 48 dX9_advances_56 (by decide) (zg_bipush 57 dX9_advances_58 (by decide) k))) ?_
        refine d_cSi (As := [_, _, _]) dX9_advances_60 zk_X9_88 rfl rfl (Nat.le_of_ble_eq_true rfl) (Nat.le_of_ble_eq_true rfl) rfl (zd_X9_in V d _ _ _ _) (fun r60 _ => ?_)
        refine d_br (fun _ => zg_if_eq 181 dX9_advances_63 rfl) (fun c63 => ?_) (fun c63 => ?_)
        · refine d_st (fun _ k => zg_aload_n dX9_advances_181 rfl (zg_dupr dX9_advances_182 (zs_getI dX9_advances_183 zf_X9_95 rfl (zq_87 _) (by decide) (by decide) (zg_iconst 1 dX9_advances_186 (by decide) (zg_iadd dX9_advances_187 (zs_putI dX9_advances_188 zf_X9_95 rfl (zq_87 _) (by decide) (by decide) (zg_aload_n dX9_advances_191 rfl (zg_iload_n dX9_advances_192 rfl (zs_putI dX9_advances_193 zf_X9_108 rfl (zq_87 _) (by decide) (by decide) (zg_aload_n dX9_advances_196 rfl (zg_iload_n dX9_advances_197 rfl (zg_bipush 59 dX9_advances_198 (by decide) k)))))))))))) ?_
          refine d_br (fun _ => zg_icmp_ne 207 dX9_advances_200 rfl) (fun c200 => ?_) (fun c200 => ?_)
          · refine d_st (fun _ k => zg_iconst 3 dX9_advances_203 (by decide) (zg_goto 236 dX9_advances_204 rfl (zs_putI dX9_advances_236 zf_X9_105 rfl (zq_87 _) (by decide) (by decide) k))) ?_
            exact d_retV dX9_advances_239 rfl
          · refine d_st (fun _ k => zg_iload_n dX9_advances_207 rfl (zg_bipush 104 dX9_advances_208 (by decide) k)) ?_
            refine d_br (fun _ => zg_icmp_eq 231 dX9_advances_210 rfl) (fun c210 => ?_) (fun c210 => ?_)
            · refine d_st (fun _ k => zg_iconst 1 dX9_advances_231 (by decide) (zg_goto 236 dX9_advances_232 rfl (zs_putI dX9_advances_236 zf_X9_105 rfl (zq_87 _) (by decide) (by decide) k))) ?_
              exact d_retV dX9_advances_239 rfl
            · refine d_st (fun _ k => zg_iload_n dX9_advances_213 rfl (zg_bipush 107 dX9_advances_214 (by decide) k)) ?_
              refine d_br (fun _ => zg_icmp_eq 231 dX9_advances_216 rfl) (fun c216 => ?_) (fun c216 => ?_)
              · refine d_st (fun _ k => zg_iconst 1 dX9_advances_231 (by decide) (zg_goto 236 dX9_advances_232 rfl (zs_putI dX9_advances_236 zf_X9_105 rfl (zq_87 _) (by decide) (by decide) k))) ?_
                exact d_retV dX9_advances_239 rfl
              · refine d_st (fun _ k => zg_iload_n dX9_advances_219 rfl (zg_bipush 112 dX9_advances_220 (by decide) k)) ?_
                refine d_br (fun _ => zg_icmp_eq 231 dX9_advances_222 rfl) (fun c222 => ?_) (fun c222 => ?_)
                · refine d_st (fun _ k => zg_iconst 1 dX9_advances_231 (by decide) (zg_goto 236 dX9_advances_232 rfl (zs_putI dX9_advances_236 zf_X9_105 rfl (zq_87 _) (by decide) (by decide) k))) ?_
                  exact d_retV dX9_advances_239 rfl
                · refine d_st (fun _ k => zg_iload_n dX9_advances_225 rfl (zg_bipush 115 dX9_advances_226 (by decide) k)) ?_
                  refine d_br (fun _ => zg_icmp_ne 235 dX9_advances_228 rfl) (fun c228 => ?_) (fun c228 => ?_)
                  · refine d_st (fun _ k => zg_iconst 1 dX9_advances_231 (by decide) (zg_goto 236 dX9_advances_232 rfl (zs_putI dX9_advances_236 zf_X9_105 rfl (zq_87 _) (by decide) (by decide) k))) ?_
                    exact d_retV dX9_advances_239 rfl
                  · refine d_st (fun _ k => zg_iconst 4 dX9_advances_235 (by decide) (zs_putI dX9_advances_236 zf_X9_105 rfl (zq_87 _) (by decide) (by decide) k)) ?_
                    exact d_retV dX9_advances_239 rfl
        · refine d_st (fun _ k => zg_aload_n dX9_advances_66 rfl (zg_iconst 0 dX9_advances_67 (by decide) (zs_putI dX9_advances_68 zf_X9_108 rfl (zq_87 _) (by decide) (by decide) k))) ?_
          exact d_fg (z_le_s (z_le_s z_le_n)) (zd_X9_advances_71 V d 1000 _ _)
      · refine d_st (fun _ k => zg_aload_n dX9_advances_47 rfl (zg_iconst 0 dX9_advances_48 (by decide) (zs_putI dX9_advances_49 zf_X9_105 rfl (zq_87 _) (by decide) (by decide) (zg_goto 239 dX9_advances_52 rfl k)))) ?_
        exact d_retV dX9_advances_239 rfl
def f_X9_advances (S : zS) : Option (Unit × zS) := f_X9_advances_0 1000  S
set_option maxRecDepth 100000 in
set_option maxHeartbeats 4000000 in
theorem zd_X9_advances (V : zV) (d : Nat) : ∀ (S : zS), z_J zeV V mX9_advances (d + 1) (f_X9_advances  S) 0 (z_ent mX9_advances [.ref 87]) [] S := by
  intro S
  show z_J zeV V mX9_advances (d + 1) (f_X9_advances  S) 0 [.ref 87, .null] [] S
  unfold f_X9_advances
  exact d_fg (z_le_s (z_le_0 z_le_n)) (zd_X9_advances_0 V d 1000 _)
def f_X9_isWell (S : zS) : Option (Int32 × zS) := if 0 ≤ (S.1 87 7) then (some (0, S)) else (some (1, S))
set_option maxRecDepth 100000 in
set_option maxHeartbeats 4000000 in
theorem zd_X9_isWell (V : zV) (d : Nat) : ∀ (S : zS), z_J zeI V mX9_isWell (d) (f_X9_isWell  S) 0 (z_ent mX9_isWell [.ref 87]) [] S := by
  intro S
  show z_J zeI V mX9_isWell (d) (f_X9_isWell  S) 0 [.ref 87] [] S
  unfold f_X9_isWell
  refine d_st (fun _ k => zg_aload_n dX9_isWell_0 rfl (zs_getI dX9_isWell_1 zf_X9_111 rfl (zq_87 _) (by decide) (by decide) k)) ?_
  refine d_br (fun _ => zg_if_ge 11 dX9_isWell_4 rfl) (fun c4 => ?_) (fun c4 => ?_)
  · refine d_st (fun _ k => zg_iconst 0 dX9_isWell_11 (by decide) k) ?_
    exact d_retZ dX9_isWell_12 rfl (by decide)
  · refine d_st (fun _ k => zg_iconst 1 dX9_isWell_7 (by decide) (zg_goto 12 dX9_isWell_8 rfl k)) ?_
    exact d_retZ dX9_isWell_12 rfl (by decide)
def f_X9_mayBegin (S : zS) : Option (Int32 × zS) := if (S.1 87 6) = 104 then (if (S.1 87 8) = 0 then (some (1, S)) else (some (0, S))) else (if (S.1 87 6) = 107 then (if 9 ≤ (S.1 90 0) then (some (0, S)) else (some (1, S))) else (if (S.1 87 6) = 115 then (some (1, S)) else (if 4 ≤ (S.1 90 2) then (some (0, S)) else (some (1, S)))))
set_option maxRecDepth 100000 in
set_option maxHeartbeats 4000000 in
theorem zd_X9_mayBegin (V : zV) (d : Nat) : ∀ (S : zS), z_J zeI V mX9_mayBegin (d) (f_X9_mayBegin  S) 0 (z_ent mX9_mayBegin [.ref 87]) [] S := by
  intro S
  show z_J zeI V mX9_mayBegin (d) (f_X9_mayBegin  S) 0 [.ref 87] [] S
  unfold f_X9_mayBegin
  refine d_st (fun _ k => zg_aload_n dX9_mayBegin_0 rfl (zs_getI dX9_mayBegin_1 zf_X9_108 rfl (zq_87 _) (by decide) (by decide) (zg_bipush 104 dX9_mayBegin_4 (by decide) k))) ?_
  refine d_br (fun _ => zg_icmp_ne 24 dX9_mayBegin_6 rfl) (fun c6 => ?_) (fun c6 => ?_)
  · refine d_st (fun _ k => zg_aload_n dX9_mayBegin_9 rfl (zs_getI dX9_mayBegin_10 zf_X9_121 rfl (zq_87 _) (by decide) (by decide) k)) ?_
    refine d_br (fun _ => zg_if_ne 20 dX9_mayBegin_13 rfl) (fun c13 => ?_) (fun c13 => ?_)
    · refine d_st (fun _ k => zg_iconst 1 dX9_mayBegin_16 (by decide) (zg_goto 76 dX9_mayBegin_17 rfl k)) ?_
      exact d_retZ dX9_mayBegin_76 rfl (by decide)
    · refine d_st (fun _ k => zg_iconst 0 dX9_mayBegin_20 (by decide) (zg_goto 76 dX9_mayBegin_21 rfl k)) ?_
      exact d_retZ dX9_mayBegin_76 rfl (by decide)
  · refine d_st (fun _ k => zg_aload_n dX9_mayBegin_24 rfl (zs_getI dX9_mayBegin_25 zf_X9_108 rfl (zq_87 _) (by decide) (by decide) (zg_bipush 107 dX9_mayBegin_28 (by decide) k))) ?_
    refine d_br (fun _ => zg_icmp_ne 52 dX9_mayBegin_30 rfl) (fun c30 => ?_) (fun c30 => ?_)
    · refine d_st (fun _ k => zg_aload_n dX9_mayBegin_33 rfl (zs_getR dX9_mayBegin_34 zf_X9_16 rfl (zq_87 _) (by decide) (by decide) zr_87_10 (zg_iconst 0 dX9_mayBegin_37 (by decide) (zs_iald (j := 0) dX9_mayBegin_38 (by decide) (zq_90 _) (by decide) (by decide) (zg_bipush 9 dX9_mayBegin_39 (by decide) k))))) ?_
      refine d_br (fun _ => zg_icmp_ge 48 dX9_mayBegin_41 rfl) (fun c41 => ?_) (fun c41 => ?_)
      · refine d_st (fun _ k => zg_iconst 0 dX9_mayBegin_48 (by decide) (zg_goto 76 dX9_mayBegin_49 rfl k)) ?_
        exact d_retZ dX9_mayBegin_76 rfl (by decide)
      · refine d_st (fun _ k => zg_iconst 1 dX9_mayBegin_44 (by decide) (zg_goto 76 dX9_mayBegin_45 rfl k)) ?_
        exact d_retZ dX9_mayBegin_76 rfl (by decide)
    · refine d_st (fun _ k => zg_aload_n dX9_mayBegin_52 rfl (zs_getI dX9_mayBegin_53 zf_X9_108 rfl (zq_87 _) (by decide) (by decide) (zg_bipush 115 dX9_mayBegin_56 (by decide) k))) ?_
      refine d_br (fun _ => zg_icmp_eq 71 dX9_mayBegin_58 rfl) (fun c58 => ?_) (fun c58 => ?_)
      · refine d_st (fun _ k => zg_iconst 1 dX9_mayBegin_71 (by decide) (zg_goto 76 dX9_mayBegin_72 rfl k)) ?_
        exact d_retZ dX9_mayBegin_76 rfl (by decide)
      · refine d_st (fun _ k => zg_aload_n dX9_mayBegin_61 rfl (zs_getR dX9_mayBegin_62 zf_X9_16 rfl (zq_87 _) (by decide) (by decide) zr_87_10 (zg_iconst 2 dX9_mayBegin_65 (by decide) (zs_iald (j := 2) dX9_mayBegin_66 (by decide) (zq_90 _) (by decide) (by decide) (zg_iconst 4 dX9_mayBegin_67 (by decide) k))))) ?_
        refine d_br (fun _ => zg_icmp_ge 75 dX9_mayBegin_68 rfl) (fun c68 => ?_) (fun c68 => ?_)
        · refine d_st (fun _ k => zg_iconst 0 dX9_mayBegin_75 (by decide) k) ?_
          exact d_retZ dX9_mayBegin_76 rfl (by decide)
        · refine d_st (fun _ k => zg_iconst 1 dX9_mayBegin_71 (by decide) (zg_goto 76 dX9_mayBegin_72 rfl k)) ?_
          exact d_retZ dX9_mayBegin_76 rfl (by decide)
def f_X9_takes (a1 : Int32) (S : zS) : Option (Int32 × zS) := (f_X9_isWell  S).bind (fun r1 => if r1.1 = 0 then (some (0, r1.2)) else (if a1 = 0 then (some (0, (z_w r1.2 87 7 (r1.2.1 87 5)))) else ((f_X9_advances  r1.2).bind (fun r29 => some (r1.2.1 87 6, r29.2)))))
set_option maxRecDepth 100000 in
set_option maxHeartbeats 4000000 in
theorem zd_X9_takes (V : zV) (d : Nat) : ∀ (a1 : Int32) (S : zS), z_J zeI V mX9_takes (d + 2) (f_X9_takes a1 S) 0 (z_ent mX9_takes [.ref 87, .int a1]) [] S := by
  intro a1 S
  show z_J zeI V mX9_takes (d + 2) (f_X9_takes a1 S) 0 [.ref 87, .int a1, .null] [] S
  unfold f_X9_takes
  refine d_st (fun _ k => zg_aload_n dX9_takes_0 rfl k) ?_
  refine d_cVi (As := []) dX9_takes_1 zk_X9_114 (zq_87 _) (by decide) ⟨_, _, rfl⟩ rfl rfl (Nat.le_of_ble_eq_true rfl) (Nat.le_of_ble_eq_true rfl) rfl (zd_X9_isWell V (d + 1) _) (fun r1 _ => ?_)
  refine d_br (fun _ => zg_if_ne 9 dX9_takes_4 rfl) (fun c4 => ?_) (fun c4 => ?_)
  · refine d_st (fun _ k => zg_iconst 0 dX9_takes_7 (by decide) k) ?_
    exact d_retI dX9_takes_8 rfl
  · refine d_st (fun _ k => zg_iload_n dX9_takes_9 rfl k) ?_
    refine d_br (fun _ => zg_if_ne 23 dX9_takes_10 rfl) (fun c10 => ?_) (fun c10 => ?_)
    · refine d_st (fun _ k => zg_aload_n dX9_takes_13 rfl (zg_aload_n dX9_takes_14 rfl (zs_getI dX9_takes_15 zf_X9_102 rfl (zq_87 _) (by decide) (by decide) (zs_putI dX9_takes_18 zf_X9_111 rfl (zq_87 _) (by decide) (by decide) (zg_iconst 0 dX9_takes_21 (by decide) k))))) ?_
      exact d_retI dX9_takes_22 rfl
    · refine d_st (fun _ k => zg_aload_n dX9_takes_23 rfl (zs_getI dX9_takes_24 zf_X9_108 rfl (zq_87 _) (by decide) (by decide) (zg_istore_n (ls' := [_, _, _]) dX9_takes_27 (Nat.le_of_ble_eq_true rfl) rfl rfl (zg_aload_n dX9_takes_28 rfl k)))) ?_
      refine d_cVv (As := []) dX9_takes_29 zk_X9_118 (zq_87 _) (by decide) ⟨_, _, rfl⟩ rfl rfl (Nat.le_of_ble_eq_true rfl) (Nat.le_of_ble_eq_true rfl) rfl (zd_X9_advances V d _) (fun r29 _ => ?_)
      refine d_st (fun _ k => zg_iload_n dX9_takes_32 rfl k) ?_
      exact d_retI dX9_takes_33 rfl
def f_X9_isNumber (a1 : Int32) (a2 : Int32) (S : zS) : Option (Int32 × zS) := if (S.1 87 4) = 2 then ((f_X9_in (S.1 87 6) a1 a2 S).bind (fun r14 => if r14.1 = 0 then (some (0, r14.2)) else (some (1, r14.2)))) else (some (0, S))
set_option maxRecDepth 100000 in
set_option maxHeartbeats 4000000 in
theorem zd_X9_isNumber (V : zV) (d : Nat) : ∀ (a1 : Int32) (a2 : Int32) (S : zS), z_J zeI V mX9_isNumber (d + 1) (f_X9_isNumber a1 a2 S) 0 (z_ent mX9_isNumber [.ref 87, .int a1, .int a2]) [] S := by
  intro a1 a2 S
  show z_J zeI V mX9_isNumber (d + 1) (f_X9_isNumber a1 a2 S) 0 [.ref 87, .int a1, .int a2] [] S
  unfold f_X9_isNumber
  refine d_st (fun _ k => zg_aload_n dX9_isNumber_0 rfl (zs_getI dX9_isNumber_1 zf_X9_105 rfl (zq_87 _) (by decide) (by decide) (zg_iconst 2 dX9_isNumber_4 (by decide) k))) ?_
  refine d_br (fun _ => zg_icmp_ne 24 dX9_isNumber_5 rfl) (fun c5 => ?_) (fun c5 => ?_)
  · refine d_st (fun _ k => zg_aload_n dX9_isNumber_8 rfl (zs_getI dX9_isNumber_9 zf_X9_108 rfl (zq_87 _) (by decide) (by decide) (zg_iload_n dX9_isNumber_12 rfl (zg_iload_n dX9_isNumber_13 rfl k)))) ?_
    refine d_cSi (As := [_, _, _]) dX9_isNumber_14 zk_X9_88 rfl rfl (Nat.le_of_ble_eq_true rfl) (Nat.le_of_ble_eq_true rfl) rfl (zd_X9_in V d _ _ _ _) (fun r14 _ => ?_)
    refine d_br (fun _ => zg_if_eq 24 dX9_isNumber_17 rfl) (fun c17 => ?_) (fun c17 => ?_)
    · refine d_st (fun _ k => zg_iconst 0 dX9_isNumber_24 (by decide) k) ?_
      exact d_retZ dX9_isNumber_25 rfl (by decide)
    · refine d_st (fun _ k => zg_iconst 1 dX9_isNumber_20 (by decide) (zg_goto 25 dX9_isNumber_21 rfl k)) ?_
      exact d_retZ dX9_isNumber_25 rfl (by decide)
  · refine d_st (fun _ k => zg_iconst 0 dX9_isNumber_24 (by decide) k) ?_
    exact d_retZ dX9_isNumber_25 rfl (by decide)
def f_X9_isFreeAt_5 : Nat → Int32 → Int32 → Int32 → Int32 → zS → Option (Int32 × zS)
  | 0, _, _, _, _, _ => none
  | n + 1, v1, v2, v3, v4, S => if (S.1 90 0) ≤ v4 then (if v3 = 0 ∨ v3 = 1 then some (v3, S) else none) else (if v3 = 0 then (f_X9_isFreeAt_5 n v1 v2 0 (v4 + 1) S) else (if z_in (4 + v4) 74 then (if (S.1 90 (4 + v4).toNatClampNeg) = v1 then (if z_in (13 + v4) 74 then (if (S.1 90 (13 + v4).toNatClampNeg) = v2 then (f_X9_isFreeAt_5 n v1 v2 0 (v4 + 1) S) else (f_X9_isFreeAt_5 n v1 v2 1 (v4 + 1) S)) else none) else (f_X9_isFreeAt_5 n v1 v2 1 (v4 + 1) S)) else none))
set_option maxRecDepth 100000 in
set_option maxHeartbeats 4000000 in
theorem zd_X9_isFreeAt_5 (V : zV) (d : Nat) : ∀ (n : Nat) (v1 : Int32) (v2 : Int32) (v3 : Int32) (v4 : Int32) (S : zS), z_J zeI V mX9_isFreeAt (d) (f_X9_isFreeAt_5 n v1 v2 v3 v4 S) 5 [.ref 87, .int v1, .int v2, .int v3, .int v4] [] S := by
  intro n
  induction n with
  | zero =>
    intro v1 v2 v3 v4 S r hr
    cases (show (none : Option (Int32 × zS)) = some r from hr)
  | succ n ih =>
    intro v1 v2 v3 v4 S
    rw [f_X9_isFreeAt_5]
    refine d_st (fun _ k => zg_iload dX9_isFreeAt_5 rfl (zg_aload_n dX9_isFreeAt_7 rfl (zs_getR dX9_isFreeAt_8 zf_X9_16 rfl (zq_87 _) (by decide) (by decide) zr_87_10 (zg_iconst 0 dX9_isFreeAt_11 (by decide) (zs_iald (j := 0) dX9_isFreeAt_12 (by decide) (zq_90 _) (by decide) (by decide) k))))) ?_
    refine d_br (fun _ => zg_icmp_ge 59 dX9_isFreeAt_13 rfl) (fun c13 => ?_) (fun c13 => ?_)
    · refine d_st (fun _ k => zg_iload_n dX9_isFreeAt_59 rfl k) ?_
      refine d_gd (fun g60 => ?_)
      exact d_retZ dX9_isFreeAt_60 rfl g60
    · refine d_st (fun _ k => zg_iload_n dX9_isFreeAt_16 rfl k) ?_
      refine d_br (fun _ => zg_if_eq 51 dX9_isFreeAt_17 rfl) (fun c17 => ?_) (fun c17 => ?_)
      · refine d_st (fun _ k => zg_iconst 0 dX9_isFreeAt_51 (by decide) (zg_istore_n (ls' := [_, _, _, _, _]) dX9_isFreeAt_52 (Nat.le_of_ble_eq_true rfl) rfl rfl (zg_iinc (ls' := [_, _, _, _, _]) 1 dX9_isFreeAt_53 rfl (by decide) (Nat.le_of_ble_eq_true rfl) rfl rfl (zg_goto 5 dX9_isFreeAt_56 rfl k)))) ?_
        exact d_fg (z_le_s (z_le_s (z_le_s (z_le_s (z_le_s z_le_n))))) (ih _ _ _ _ _)
      · refine d_st (fun _ k => zg_aload_n dX9_isFreeAt_20 rfl (zs_getR dX9_isFreeAt_21 zf_X9_16 rfl (zq_87 _) (by decide) (by decide) zr_87_10 (zg_iconst 4 dX9_isFreeAt_24 (by decide) (zg_iload dX9_isFreeAt_25 rfl (zg_iadd dX9_isFreeAt_27 k))))) ?_
        refine d_gd (fun g28 => ?_)
        refine d_st (fun _ k => zs_iald dX9_isFreeAt_28 (by decide) (zq_90 _) g28 rfl k) ?_
        refine d_st (fun _ k => zg_iload_n dX9_isFreeAt_29 rfl k) ?_
        refine d_br (fun _ => zg_icmp_ne 47 dX9_isFreeAt_30 rfl) (fun c30 => ?_) (fun c30 => ?_)
        · refine d_st (fun _ k => zg_aload_n dX9_isFreeAt_33 rfl (zs_getR dX9_isFreeAt_34 zf_X9_16 rfl (zq_87 _) (by decide) (by decide) zr_87_10 (zg_bipush 13 dX9_isFreeAt_37 (by decide) (zg_iload dX9_isFreeAt_39 rfl (zg_iadd dX9_isFreeAt_41 k))))) ?_
          refine d_gd (fun g42 => ?_)
          refine d_st (fun _ k => zs_iald dX9_isFreeAt_42 (by decide) (zq_90 _) g42 rfl k) ?_
          refine d_st (fun _ k => zg_iload_n dX9_isFreeAt_43 rfl k) ?_
          refine d_br (fun _ => zg_icmp_eq 51 dX9_isFreeAt_44 rfl) (fun c44 => ?_) (fun c44 => ?_)
          · refine d_st (fun _ k => zg_iconst 0 dX9_isFreeAt_51 (by decide) (zg_istore_n (ls' := [_, _, _, _, _]) dX9_isFreeAt_52 (Nat.le_of_ble_eq_true rfl) rfl rfl (zg_iinc (ls' := [_, _, _, _, _]) 1 dX9_isFreeAt_53 rfl (by decide) (Nat.le_of_ble_eq_true rfl) rfl rfl (zg_goto 5 dX9_isFreeAt_56 rfl k)))) ?_
            exact d_fg (z_le_s (z_le_s (z_le_s (z_le_s (z_le_s z_le_n))))) (ih _ _ _ _ _)
          · refine d_st (fun _ k => zg_iconst 1 dX9_isFreeAt_47 (by decide) (zg_goto 52 dX9_isFreeAt_48 rfl (zg_istore_n (ls' := [_, _, _, _, _]) dX9_isFreeAt_52 (Nat.le_of_ble_eq_true rfl) rfl rfl (zg_iinc (ls' := [_, _, _, _, _]) 1 dX9_isFreeAt_53 rfl (by decide) (Nat.le_of_ble_eq_true rfl) rfl rfl (zg_goto 5 dX9_isFreeAt_56 rfl k))))) ?_
            exact d_fg (z_le_s (z_le_s (z_le_s (z_le_s (z_le_s z_le_n))))) (ih _ _ _ _ _)
        · refine d_st (fun _ k => zg_iconst 1 dX9_isFreeAt_47 (by decide) (zg_goto 52 dX9_isFreeAt_48 rfl (zg_istore_n (ls' := [_, _, _, _, _]) dX9_isFreeAt_52 (Nat.le_of_ble_eq_true rfl) rfl rfl (zg_iinc (ls' := [_, _, _, _, _]) 1 dX9_isFreeAt_53 rfl (by decide) (Nat.le_of_ble_eq_true rfl) rfl rfl (zg_goto 5 dX9_isFreeAt_56 rfl k))))) ?_
          exact d_fg (z_le_s (z_le_s (z_le_s (z_le_s (z_le_s z_le_n))))) (ih _ _ _ _ _)
def f_X9_isFreeAt (a1 : Int32) (a2 : Int32) (S : zS) : Option (Int32 × zS) := f_X9_isFreeAt_5 1000 a1 a2 1 0 S
set_option maxRecDepth 100000 in
set_option maxHeartbeats 4000000 in
theorem zd_X9_isFreeAt (V : zV) (d : Nat) : ∀ (a1 : Int32) (a2 : Int32) (S : zS), z_J zeI V mX9_isFreeAt (d) (f_X9_isFreeAt a1 a2 S) 0 (z_ent mX9_isFreeAt [.ref 87, .int a1, .int a2]) [] S := by
  intro a1 a2 S
  show z_J zeI V mX9_isFreeAt (d) (f_X9_isFreeAt a1 a2 S) 0 [.ref 87, .int a1, .int a2, .null, .null] [] S
  unfold f_X9_isFreeAt
  refine d_st (fun _ k => zg_iconst 1 dX9_isFreeAt_0 (by decide) (zg_istore_n (ls' := [_, _, _, _, _]) dX9_isFreeAt_1 (Nat.le_of_ble_eq_true rfl) rfl rfl (zg_iconst 0 dX9_isFreeAt_2 (by decide) (zg_istore (ls' := [_, _, _, _, _]) dX9_isFreeAt_3 (Nat.le_of_ble_eq_true rfl) rfl rfl k)))) ?_
  exact d_fg (z_le_s (z_le_s (z_le_s (z_le_s (z_le_s z_le_n))))) (zd_X9_isFreeAt_5 V d 1000 _ _ _ _ _)
