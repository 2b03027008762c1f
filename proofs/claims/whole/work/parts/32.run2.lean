def f_X9_readsCorner_40 (v1 : Int32) (t0 : Int32) (S : zS) : Option (Unit × zS) := (f_X9_takes t0 S).bind (fun r40 => if z_in (4 + (r40.2.1 90 0)) 74 then (if z_in (13 + ((z_w r40.2 90 ((4 + (r40.2.1 90 0)).toNatClampNeg) v1).1 90 0)) 74 then (some ((), (z_w (z_w (z_w r40.2 90 ((4 + (r40.2.1 90 0)).toNatClampNeg) v1) 90 ((13 + ((z_w r40.2 90 ((4 + (r40.2.1 90 0)).toNatClampNeg) v1).1 90 0)).toNatClampNeg) r40.1) 90 0 (((z_w (z_w r40.2 90 ((4 + (r40.2.1 90 0)).toNatClampNeg) v1) 90 ((13 + ((z_w r40.2 90 ((4 + (r40.2.1 90 0)).toNatClampNeg) v1).1 90 0)).toNatClampNeg) r40.1).1 90 0) + 1)))) else none) else none)
set_option maxRecDepth 100000 in
set_option maxHeartbeats 4000000 in
theorem zd_X9_readsCorner_40 (V : zV) (d : Nat) : ∀ (v1 : Int32) (t0 : Int32) (S : zS), z_J zeV V mX9_readsCorner (d + 3) (f_X9_readsCorner_40 v1 t0 S) 40 [.ref 87, .int v1, .null] [.int t0, .ref 87] S := by
  intro v1 t0 S
  unfold f_X9_readsCorner_40
  refine d_cVi (As := [_]) dX9_readsCorner_40 zk_X9_132 (zq_87 _) (by decide) ⟨_, _, rfl⟩ rfl rfl (Nat.le_of_ble_eq_true rfl) (Nat.le_of_ble_eq_true rfl) rfl (zd_X9_takes V d _ _) (fun r40 _ => ?_)
  refine d_st (fun _ k => zg_istore_n (ls' := [_, _, _]) dX9_readsCorner_43 (Nat.le_of_ble_eq_true rfl) rfl rfl (zg_aload_n dX9_readsCorner_44 rfl (zs_getR dX9_readsCorner_45 zf_X9_16 rfl (zq_87 _) (by decide) (by decide) zr_87_10 (zg_iconst 4 dX9_readsCorner_48 (by decide) (zg_aload_n dX9_readsCorner_49 rfl (zs_getR dX9_readsCorner_50 zf_X9_16 rfl (zq_87 _) (by decide) (by decide) zr_87_10 (zg_iconst 0 dX9_readsCorner_53 (by decide) (zs_iald (j := 0) dX9_readsCorner_54 (by decide) (zq_90 _) (by decide) (by decide) (zg_iadd dX9_readsCorner_55 (zg_iload_n dX9_readsCorner_56 rfl k)))))))))) ?_
  refine d_gd (fun g57 => ?_)
  refine d_st (fun _ k => zs_iast dX9_readsCorner_57 (by decide) (zq_90 _) g57 rfl k) ?_
  refine d_st (fun _ k => zg_aload_n dX9_readsCorner_58 rfl (zs_getR dX9_readsCorner_59 zf_X9_16 rfl (zq_87 _) (by decide) (by decide) zr_87_10 (zg_bipush 13 dX9_readsCorner_62 (by decide) (zg_aload_n dX9_readsCorner_64 rfl (zs_getR dX9_readsCorner_65 zf_X9_16 rfl (zq_87 _) (by decide) (by decide) zr_87_10 (zg_iconst 0 dX9_readsCorner_68 (by decide) (zs_iald (j := 0) dX9_readsCorner_69 (by decide) (zq_90 _) (by decide) (by decide) (zg_iadd dX9_readsCorner_70 (zg_iload_n dX9_readsCorner_71 rfl k))))))))) ?_
  refine d_gd (fun g72 => ?_)
  refine d_st (fun _ k => zs_iast dX9_readsCorner_72 (by decide) (zq_90 _) g72 rfl k) ?_
  refine d_st (fun _ k => zg_aload_n dX9_readsCorner_73 rfl (zs_getR dX9_readsCorner_74 zf_X9_16 rfl (zq_87 _) (by decide) (by decide) zr_87_10 (zg_iconst 0 dX9_readsCorner_77 (by decide) (zg_dup2 dX9_readsCorner_78 (zs_iald (j := 0) dX9_readsCorner_79 (by decide) (zq_90 _) (by decide) (by decide) (zg_iconst 1 dX9_readsCorner_80 (by decide) (zg_iadd dX9_readsCorner_81 (zs_iast (j := 0) dX9_readsCorner_82 (by decide) (zq_90 _) (by decide) (by decide) k)))))))) ?_
  exact d_retV dX9_readsCorner_83 rfl
def f_X9_readsCorner (S : zS) : Option (Unit × zS) := (f_X9_isNumber 0 20 S).bind (fun r5 => (f_X9_takes r5.1 r5.2).bind (fun r8 => (f_X9_isNumber 0 20 r8.2).bind (fun r17 => if r17.1 = 0 then (f_X9_readsCorner_40 r8.1 0 r17.2) else ((f_X9_isFreeAt r8.1 (r17.2.1 87 6) r17.2).bind (fun r29 => if r29.1 = 0 then (f_X9_readsCorner_40 r8.1 0 r29.2) else (f_X9_readsCorner_40 r8.1 1 r29.2))))))
set_option maxRecDepth 100000 in
set_option maxHeartbeats 4000000 in
theorem zd_X9_readsCorner (V : zV) (d : Nat) : ∀ (S : zS), z_J zeV V mX9_readsCorner (d + 3) (f_X9_readsCorner  S) 0 (z_ent mX9_readsCorner [.ref 87]) [] S := by
  intro S
  show z_J zeV V mX9_readsCorner (d + 3) (f_X9_readsCorner  S) 0 [.ref 87, .null, .null] [] S
  unfold f_X9_readsCorner
  refine d_st (fun _ k => zg_aload_n dX9_readsCorner_0 rfl (zg_aload_n dX9_readsCorner_1 rfl (zg_iconst 0 dX9_readsCorner_2 (by decide) (zg_bipush 20 dX9_readsCorner_3 (by decide) k)))) ?_
  refine d_cVi (As := [_, _]) dX9_readsCorner_5 zk_X9_129 (zq_87 _) (by decide) ⟨_, _, rfl⟩ rfl rfl (Nat.le_of_ble_eq_true rfl) (Nat.le_of_ble_eq_true rfl) rfl (zd_X9_isNumber V (d + 1) _ _ _) (fun r5 _ => ?_)
  refine d_cVi (As := [_]) dX9_readsCorner_8 zk_X9_132 (zq_87 _) (by decide) ⟨_, _, rfl⟩ rfl rfl (Nat.le_of_ble_eq_true rfl) (Nat.le_of_ble_eq_true rfl) rfl (zd_X9_takes V d _ _) (fun r8 _ => ?_)
  refine d_st (fun _ k => zg_istore_n (ls' := [_, _, _]) dX9_readsCorner_11 (Nat.le_of_ble_eq_true rfl) rfl rfl (zg_aload_n dX9_readsCorner_12 rfl (zg_aload_n dX9_readsCorner_13 rfl (zg_iconst 0 dX9_readsCorner_14 (by decide) (zg_bipush 20 dX9_readsCorner_15 (by decide) k))))) ?_
  refine d_cVi (As := [_, _]) dX9_readsCorner_17 zk_X9_129 (zq_87 _) (by decide) ⟨_, _, rfl⟩ rfl rfl (Nat.le_of_ble_eq_true rfl) (Nat.le_of_ble_eq_true rfl) rfl (zd_X9_isNumber V (d + 1) _ _ _) (fun r17 _ => ?_)
  refine d_br (fun _ => zg_if_eq 39 dX9_readsCorner_20 rfl) (fun c20 => ?_) (fun c20 => ?_)
  · refine d_st (fun _ k => zg_iconst 0 dX9_readsCorner_39 (by decide) k) ?_
    exact d_fg (z_le_s (z_le_s (z_le_0 z_le_n))) (zd_X9_readsCorner_40 V d _ _ _)
  · refine d_st (fun _ k => zg_aload_n dX9_readsCorner_23 rfl (zg_iload_n dX9_readsCorner_24 rfl (zg_aload_n dX9_readsCorner_25 rfl (zs_getI dX9_readsCorner_26 zf_X9_108 rfl (zq_87 _) (by decide) (by decide) k)))) ?_
    refine d_cVi (As := [_, _]) dX9_readsCorner_29 zk_X9_136 (zq_87 _) (by decide) ⟨_, _, rfl⟩ rfl rfl (Nat.le_of_ble_eq_true rfl) (Nat.le_of_ble_eq_true rfl) rfl (zd_X9_isFreeAt V (d + 2) _ _ _) (fun r29 _ => ?_)
    refine d_br (fun _ => zg_if_eq 39 dX9_readsCorner_32 rfl) (fun c32 => ?_) (fun c32 => ?_)
    · refine d_st (fun _ k => zg_iconst 0 dX9_readsCorner_39 (by decide) k) ?_
      exact d_fg (z_le_s (z_le_s (z_le_0 z_le_n))) (zd_X9_readsCorner_40 V d _ _ _)
    · refine d_st (fun _ k => zg_iconst 1 dX9_readsCorner_35 (by decide) (zg_goto 40 dX9_readsCorner_36 rfl k)) ?_
      exact d_fg (z_le_s (z_le_s (z_le_0 z_le_n))) (zd_X9_readsCorner_40 V d _ _ _)
def f_X9_isCorner (S : zS) : Option (Int32 × zS) := (f_X9_isNumber 0 ((S.1 90 0) - 1) S).bind (fun r10 => if r10.1 = 0 ∨ r10.1 = 1 then some (r10.1, r10.2) else none)
set_option maxRecDepth 100000 in
set_option maxHeartbeats 4000000 in
theorem zd_X9_isCorner (V : zV) (d : Nat) : ∀ (S : zS), z_J zeI V mX9_isCorner (d + 2) (f_X9_isCorner  S) 0 (z_ent mX9_isCorner [.ref 87]) [] S := by
  intro S
  show z_J zeI V mX9_isCorner (d + 2) (f_X9_isCorner  S) 0 [.ref 87] [] S
  unfold f_X9_isCorner
  refine d_st (fun _ k => zg_aload_n dX9_isCorner_0 rfl (zg_iconst 0 dX9_isCorner_1 (by decide) (zg_aload_n dX9_isCorner_2 rfl (zs_getR dX9_isCorner_3 zf_X9_16 rfl (zq_87 _) (by decide) (by decide) zr_87_10 (zg_iconst 0 dX9_isCorner_6 (by decide) (zs_iald (j := 0) dX9_isCorner_7 (by decide) (zq_90 _) (by decide) (by decide) (zg_iconst 1 dX9_isCorner_8 (by decide) (zg_isub dX9_isCorner_9 k)))))))) ?_
  refine d_cVi (As := [_, _]) dX9_isCorner_10 zk_X9_129 (zq_87 _) (by decide) ⟨_, _, rfl⟩ rfl rfl (Nat.le_of_ble_eq_true rfl) (Nat.le_of_ble_eq_true rfl) rfl (zd_X9_isNumber V d _ _ _) (fun r10 _ => ?_)
  refine d_gd (fun g13 => ?_)
  exact d_retZ dX9_isCorner_13 rfl g13
def f_X9_has (a0 : Int32) (a1 : Int32) (S : zS) : Option (Int32 × zS) := if ((a0 >>> (a1 &&& 31)) &&& 1) = 1 then (some (1, S)) else (some (0, S))
set_option maxRecDepth 100000 in
set_option maxHeartbeats 4000000 in
theorem zd_X9_has (V : zV) (d : Nat) : ∀ (a0 : Int32) (a1 : Int32) (S : zS), z_J zeI V mX9_has (d) (f_X9_has a0 a1 S) 0 (z_ent mX9_has [.int a0, .int a1]) [] S := by
  intro a0 a1 S
  show z_J zeI V mX9_has (d) (f_X9_has a0 a1 S) 0 [.int a0, .int a1] [] S
  unfold f_X9_has
  refine d_st (fun _ k => zg_iload_n dX9_has_0 rfl (zg_iload_n dX9_has_1 rfl (zg_ishr dX9_has_2 (zg_iconst 1 dX9_has_3 (by decide) (zg_iand dX9_has_4 (zg_iconst 1 dX9_has_5 (by decide) k)))))) ?_
  refine d_br (fun _ => zg_icmp_ne 13 dX9_has_6 rfl) (fun c6 => ?_) (fun c6 => ?_)
  · refine d_st (fun _ k => zg_iconst 1 dX9_has_9 (by decide) (zg_goto 14 dX9_has_10 rfl k)) ?_
    exact d_retZ dX9_has_14 rfl (by decide)
  · refine d_st (fun _ k => zg_iconst 0 dX9_has_13 (by decide) k) ?_
    exact d_retZ dX9_has_14 rfl (by decide)
def f_X9_cutOf_62 (p0 : Nat) (K5 : Int32 → Int32 → Int32 → Int32 → zS → Option (Int32 × zS)) (v1 : Int32) (v2 : Int32) (v3 : Int32) (v4 : Int32) (t0 : Int32) (S : zS) : Option (Int32 × zS) := if t0 = 0 then (K5 v1 v2 v3 (v4 + 1) S) else (K5 v1 v2 v4 (v4 + 1) S)
set_option maxRecDepth 100000 in
set_option maxHeartbeats 4000000 in
theorem zd_X9_cutOf_62 (V : zV) {p0 : Nat} (h0 : z_isA p0 74) (d : Nat) {K5 : Int32 → Int32 → Int32 → Int32 → zS → Option (Int32 × zS)} (hK5 : ∀ (v1 : Int32) (v2 : Int32) (v3 : Int32) (v4 : Int32) (S : zS), z_J zeI V mX9_cutOf (d) (K5 v1 v2 v3 v4 S) 5 [.ref p0, .int v1, .int v2, .int v3, .int v4, .null] [] S) : ∀ (v1 : Int32) (v2 : Int32) (v3 : Int32) (v4 : Int32) (t0 : Int32) (S : zS), z_J zeI V mX9_cutOf (d) (f_X9_cutOf_62 p0 K5 v1 v2 v3 v4 t0 S) 62 [.ref p0, .int v1, .int v2, .int v3, .int v4, .null] [.int t0] S := by
  intro v1 v2 v3 v4 t0 S
  unfold f_X9_cutOf_62
  refine d_st (fun _ k => zg_istore (ls' := [_, _, _, _, _, _]) dX9_cutOf_62 (Nat.le_of_ble_eq_true rfl) rfl rfl (zg_iload dX9_cutOf_64 rfl k)) ?_
  refine d_br (fun _ => zg_if_eq 74 dX9_cutOf_66 rfl) (fun c66 => ?_) (fun c66 => ?_)
  · refine d_st (fun _ k => zg_iload_n dX9_cutOf_74 rfl (zg_istore_n (ls' := [_, _, _, _, _, _]) dX9_cutOf_75 (Nat.le_of_ble_eq_true rfl) rfl rfl (zg_iinc (ls' := [_, _, _, _, _, _]) 1 dX9_cutOf_76 rfl (by decide) (Nat.le_of_ble_eq_true rfl) rfl rfl (zg_goto 5 dX9_cutOf_79 rfl k)))) ?_
    exact d_fg (z_le_s (z_le_s (z_le_s (z_le_s (z_le_s (z_le_0 z_le_n)))))) (hK5 _ _ _ _ _)
  · refine d_st (fun _ k => zg_iload dX9_cutOf_69 rfl (zg_goto 75 dX9_cutOf_71 rfl (zg_istore_n (ls' := [_, _, _, _, _, _]) dX9_cutOf_75 (Nat.le_of_ble_eq_true rfl) rfl rfl (zg_iinc (ls' := [_, _, _, _, _, _]) 1 dX9_cutOf_76 rfl (by decide) (Nat.le_of_ble_eq_true rfl) rfl rfl (zg_goto 5 dX9_cutOf_79 rfl k))))) ?_
    exact d_fg (z_le_s (z_le_s (z_le_s (z_le_s (z_le_s (z_le_0 z_le_n)))))) (hK5 _ _ _ _ _)
def f_X9_cutOf_35 (p0 : Nat) (K5 : Int32 → Int32 → Int32 → Int32 → zS → Option (Int32 × zS)) (v1 : Int32) (v2 : Int32) (v3 : Int32) (v4 : Int32) (S : zS) : Option (Int32 × zS) := if z_in (22 + v4) 74 then (if (S.1 p0 (22 + v4).toNatClampNeg) = v2 then (if z_in (36 + v4) 74 then (if (S.1 p0 (36 + v4).toNatClampNeg) = v1 then (f_X9_cutOf_62 p0 K5 v1 v2 v3 v4 1 S) else (f_X9_cutOf_62 p0 K5 v1 v2 v3 v4 0 S)) else none) else (f_X9_cutOf_62 p0 K5 v1 v2 v3 v4 0 S)) else none
set_option maxRecDepth 100000 in
set_option maxHeartbeats 4000000 in
theorem zd_X9_cutOf_35 (V : zV) {p0 : Nat} (h0 : z_isA p0 74) (d : Nat) {K5 : Int32 → Int32 → Int32 → Int32 → zS → Option (Int32 × zS)} (hK5 : ∀ (v1 : Int32) (v2 : Int32) (v3 : Int32) (v4 : Int32) (S : zS), z_J zeI V mX9_cutOf (d) (K5 v1 v2 v3 v4 S) 5 [.ref p0, .int v1, .int v2, .int v3, .int v4, .null] [] S) : ∀ (v1 : Int32) (v2 : Int32) (v3 : Int32) (v4 : Int32) (S : zS), z_J zeI V mX9_cutOf (d) (f_X9_cutOf_35 p0 K5 v1 v2 v3 v4 S) 35 [.ref p0, .int v1, .int v2, .int v3, .int v4, .null] [] S := by
  intro v1 v2 v3 v4 S
  unfold f_X9_cutOf_35
  refine d_st (fun _ k => zg_aload_n dX9_cutOf_35 rfl (zg_bipush 22 dX9_cutOf_36 (by decide) (zg_iload dX9_cutOf_38 rfl (zg_iadd dX9_cutOf_40 k)))) ?_
  refine d_gd (fun g41 => ?_)
  refine d_st (fun _ k => zs_iald dX9_cutOf_41 h0.1 (h0.2 _) g41 rfl k) ?_
  refine d_st (fun _ k => zg_iload_n dX9_cutOf_42 rfl k) ?_
  refine d_br (fun _ => zg_icmp_ne 61 dX9_cutOf_43 rfl) (fun c43 => ?_) (fun c43 => ?_)
  · refine d_st (fun _ k => zg_aload_n dX9_cutOf_46 rfl (zg_bipush 36 dX9_cutOf_47 (by decide) (zg_iload dX9_cutOf_49 rfl (zg_iadd dX9_cutOf_51 k)))) ?_
    refine d_gd (fun g52 => ?_)
    refine d_st (fun _ k => zs_iald dX9_cutOf_52 h0.1 (h0.2 _) g52 rfl k) ?_
    refine d_st (fun _ k => zg_iload_n dX9_cutOf_53 rfl k) ?_
    refine d_br (fun _ => zg_icmp_ne 61 dX9_cutOf_54 rfl) (fun c54 => ?_) (fun c54 => ?_)
    · refine d_st (fun _ k => zg_iconst 1 dX9_cutOf_57 (by decide) (zg_goto 62 dX9_cutOf_58 rfl k)) ?_
      exact d_fg (z_le_s (z_le_s (z_le_s (z_le_s (z_le_s (z_le_0 z_le_n)))))) (zd_X9_cutOf_62 V h0 d hK5 _ _ _ _ _ _)
    · refine d_st (fun _ k => zg_iconst 0 dX9_cutOf_61 (by decide) k) ?_
      exact d_fg (z_le_s (z_le_s (z_le_s (z_le_s (z_le_s (z_le_0 z_le_n)))))) (zd_X9_cutOf_62 V h0 d hK5 _ _ _ _ _ _)
  · refine d_st (fun _ k => zg_iconst 0 dX9_cutOf_61 (by decide) k) ?_
    exact d_fg (z_le_s (z_le_s (z_le_s (z_le_s (z_le_s (z_le_0 z_le_n)))))) (zd_X9_cutOf_62 V h0 d hK5 _ _ _ _ _ _)
def f_X9_cutOf_5 (p0 : Nat) : Nat → Int32 → Int32 → Int32 → Int32 → zS → Option (Int32 × zS)
  | 0, _, _, _, _, _ => none
  | n + 1, v1, v2, v3, v4, S => if (S.1 p0 1) ≤ v4 then (some (v3, S)) else (if z_in (22 + v4) 74 then (if (S.1 p0 (22 + v4).toNatClampNeg) = v1 then (if z_in (36 + v4) 74 then (if (S.1 p0 (36 + v4).toNatClampNeg) = v2 then (f_X9_cutOf_62 p0 (f_X9_cutOf_5 p0 n) v1 v2 v3 v4 1 S) else (f_X9_cutOf_35 p0 (f_X9_cutOf_5 p0 n) v1 v2 v3 v4 S)) else none) else (f_X9_cutOf_35 p0 (f_X9_cutOf_5 p0 n) v1 v2 v3 v4 S)) else none)
set_option maxRecDepth 100000 in
set_option maxHeartbeats 4000000 in
theorem zd_X9_cutOf_5 (V : zV) {p0 : Nat} (h0 : z_isA p0 74) (d : Nat) : ∀ (n : Nat) (v1 : Int32) (v2 : Int32) (v3 : Int32) (v4 : Int32) (S : zS), z_J zeI V mX9_cutOf (d) (f_X9_cutOf_5 p0 n v1 v2 v3 v4 S) 5 [.ref p0, .int v1, .int v2, .int v3, .int v4, .null] [] S := by
  intro n
  induction n with
  | zero =>
    intro v1 v2 v3 v4 S r hr
    cases (show (none : Option (Int32 × zS)) = some r from hr)
  | succ n ih =>
    intro v1 v2 v3 v4 S
    rw [f_X9_cutOf_5]
    refine d_st (fun _ k => zg_iload dX9_cutOf_5 rfl (zg_aload_n dX9_cutOf_7 rfl (zg_iconst 1 dX9_cutOf_8 (by decide) (zs_iald (j := 1) dX9_cutOf_9 h0.1 (h0.2 _) (by decide) (by decide) k)))) ?_
    refine d_br (fun _ => zg_icmp_ge 82 dX9_cutOf_10 rfl) (fun c10 => ?_) (fun c10 => ?_)
    · refine d_st (fun _ k => zg_iload_n dX9_cutOf_82 rfl k) ?_
      exact d_retI dX9_cutOf_83 rfl
    · refine d_st (fun _ k => zg_aload_n dX9_cutOf_13 rfl (zg_bipush 22 dX9_cutOf_14 (by decide) (zg_iload dX9_cutOf_16 rfl (zg_iadd dX9_cutOf_18 k)))) ?_
      refine d_gd (fun g19 => ?_)
      refine d_st (fun _ k => zs_iald dX9_cutOf_19 h0.1 (h0.2 _) g19 rfl k) ?_
      refine d_st (fun _ k => zg_iload_n dX9_cutOf_20 rfl k) ?_
      refine d_br (fun _ => zg_icmp_ne 35 dX9_cutOf_21 rfl) (fun c21 => ?_) (fun c21 => ?_)
      · refine d_st (fun _ k => zg_aload_n dX9_cutOf_24 rfl (zg_bipush 36 dX9_cutOf_25 (by decide) (zg_iload dX9_cutOf_27 rfl (zg_iadd dX9_cutOf_29 k)))) ?_
        refine d_gd (fun g30 => ?_)
        refine d_st (fun _ k => zs_iald dX9_cutOf_30 h0.1 (h0.2 _) g30 rfl k) ?_
        refine d_st (fun _ k => zg_iload_n dX9_cutOf_31 rfl k) ?_
        refine d_br (fun _ => zg_icmp_eq 57 dX9_cutOf_32 rfl) (fun c32 => ?_) (fun c32 => ?_)
        · refine d_st (fun _ k => zg_iconst 1 dX9_cutOf_57 (by decide) (zg_goto 62 dX9_cutOf_58 rfl k)) ?_
          exact d_fg (z_le_s (z_le_s (z_le_s (z_le_s (z_le_s (z_le_0 z_le_n)))))) (zd_X9_cutOf_62 V h0 d ih _ _ _ _ _ _)
        · exact d_fg (z_le_s (z_le_s (z_le_s (z_le_s (z_le_s (z_le_0 z_le_n)))))) (zd_X9_cutOf_35 V h0 d ih _ _ _ _ _)
      · exact d_fg (z_le_s (z_le_s (z_le_s (z_le_s (z_le_s (z_le_0 z_le_n)))))) (zd_X9_cutOf_35 V h0 d ih _ _ _ _ _)
def f_X9_cutOf (p0 : Nat) (a1 : Int32) (a2 : Int32) (S : zS) : Option (Int32 × zS) := f_X9_cutOf_5 p0 1000 a1 a2 (-1) 0 S
set_option maxRecDepth 100000 in
set_option maxHeartbeats 4000000 in
theorem zd_X9_cutOf (V : zV) {p0 : Nat} (h0 : z_isA p0 74) (d : Nat) : ∀ (a1 : Int32) (a2 : Int32) (S : zS), z_J zeI V mX9_cutOf (d) (f_X9_cutOf p0 a1 a2 S) 0 (z_ent mX9_cutOf [.ref p0, .int a1, .int a2]) [] S := by
  intro a1 a2 S
  show z_J zeI V mX9_cutOf (d) (f_X9_cutOf p0 a1 a2 S) 0 [.ref p0, .int a1, .int a2, .null, .null, .null] [] S
  unfold f_X9_cutOf
  refine d_st (fun _ k => zg_iconst (-1) dX9_cutOf_0 (by decide) (zg_istore_n (ls' := [_, _, _, _, _, _]) dX9_cutOf_1 (Nat.le_of_ble_eq_true rfl) rfl rfl (zg_iconst 0 dX9_cutOf_2 (by decide) (zg_istore (ls' := [_, _, _, _, _, _]) dX9_cutOf_3 (Nat.le_of_ble_eq_true rfl) rfl rfl k)))) ?_
  exact d_fg (z_le_s (z_le_s (z_le_s (z_le_s (z_le_s (z_le_0 z_le_n)))))) (zd_X9_cutOf_5 V h0 d 1000 _ _ _ _ _)
def f_X9_hasRoom (a1 : Int32) (a2 : Int32) (S : zS) : Option (Int32 × zS) := (f_X9_cutOf 90 a1 a2 S).bind (fun r6 => if 0 ≤ r6.1 then (some (1, r6.2)) else (if 14 ≤ (r6.2.1 90 1) then (some (0, r6.2)) else (some (1, r6.2))))
set_option maxRecDepth 100000 in
set_option maxHeartbeats 4000000 in
theorem zd_X9_hasRoom (V : zV) (d : Nat) : ∀ (a1 : Int32) (a2 : Int32) (S : zS), z_J zeI V mX9_hasRoom (d + 1) (f_X9_hasRoom a1 a2 S) 0 (z_ent mX9_hasRoom [.ref 87, .int a1, .int a2]) [] S := by
  intro a1 a2 S
  show z_J zeI V mX9_hasRoom (d + 1) (f_X9_hasRoom a1 a2 S) 0 [.ref 87, .int a1, .int a2] [] S
  unfold f_X9_hasRoom
  refine d_st (fun _ k => zg_aload_n dX9_hasRoom_0 rfl (zs_getR dX9_hasRoom_1 zf_X9_16 rfl (zq_87 _) (by decide) (by decide) zr_87_10 (zg_iload_n dX9_hasRoom_4 rfl (zg_iload_n dX9_hasRoom_5 rfl k)))) ?_
  refine d_cSi (As := [_, _, _]) dX9_hasRoom_6 zk_X9_125 rfl rfl (Nat.le_of_ble_eq_true rfl) (Nat.le_of_ble_eq_true rfl) rfl (zd_X9_cutOf V ⟨(by decide), fun _ => (zq_90 _)⟩ d _ _ _) (fun r6 _ => ?_)
  refine d_br (fun _ => zg_if_ge 23 dX9_hasRoom_9 rfl) (fun c9 => ?_) (fun c9 => ?_)
  · refine d_st (fun _ k => zg_iconst 1 dX9_hasRoom_23 (by decide) (zg_goto 28 dX9_hasRoom_24 rfl k)) ?_
    exact d_retZ dX9_hasRoom_28 rfl (by decide)
  · refine d_st (fun _ k => zg_aload_n dX9_hasRoom_12 rfl (zs_getR dX9_hasRoom_13 zf_X9_16 rfl (zq_87 _) (by decide) (by decide) zr_87_10 (zg_iconst 1 dX9_hasRoom_16 (by decide) (zs_iald (j := 1) dX9_hasRoom_17 (by decide) (zq_90 _) (by decide) (by decide) (zg_bipush 14 dX9_hasRoom_18 (by decide) k))))) ?_
    refine d_br (fun _ => zg_icmp_ge 27 dX9_hasRoom_20 rfl) (fun c20 => ?_) (fun c20 => ?_)
    · refine d_st (fun _ k => zg_iconst 0 dX9_hasRoom_27 (by decide) k) ?_
      exact d_retZ dX9_hasRoom_28 rfl (by decide)
    · refine d_st (fun _ k => zg_iconst 1 dX9_hasRoom_23 (by decide) (zg_goto 28 dX9_hasRoom_24 rfl k)) ?_
      exact d_retZ dX9_hasRoom_28 rfl (by decide)
def f_X9_cuts_63 (t0 : Int32) (t1 : Int32) (S : zS) : Option (Unit × zS) := if z_in t1 74 then (some ((), (z_w (z_w S 90 t1.toNatClampNeg t0) 90 1 (((z_w S 90 t1.toNatClampNeg t0).1 90 1) + 1)))) else none
set_option maxRecDepth 100000 in
set_option maxHeartbeats 4000000 in
theorem zd_X9_cuts_63 (V : zV) (d : Nat) : ∀ (t0 : Int32) (t1 : Int32) (S : zS), z_J zeV V mX9_cuts (d + 1) (f_X9_cuts_63 t0 t1 S) 63 [.ref 87, .null, .null, .null] [.int t0, .int t1, .ref 90] S := by
  intro t0 t1 S
  unfold f_X9_cuts_63
  refine d_gd (fun g63 => ?_)
  refine d_st (fun _ k => zs_iast dX9_cuts_63 (by decide) (zq_90 _) g63 rfl k) ?_
  refine d_st (fun _ k => zg_aload_n dX9_cuts_64 rfl (zs_getR dX9_cuts_65 zf_X9_16 rfl (zq_87 _) (by decide) (by decide) zr_87_10 (zg_iconst 1 dX9_cuts_68 (by decide) (zg_dup2 dX9_cuts_69 (zs_iald (j := 1) dX9_cuts_70 (by decide) (zq_90 _) (by decide) (by decide) (zg_iconst 1 dX9_cuts_71 (by decide) (zg_iadd dX9_cuts_72 (zs_iast (j := 1) dX9_cuts_73 (by decide) (zq_90 _) (by decide) (by decide) k)))))))) ?_
  exact d_retV dX9_cuts_74 rfl
def f_X9_cuts_44 (v1 : Int32) (v2 : Int32) (v3 : Int32) (t0 : Int32) (t1 : Int32) (S : zS) : Option (Unit × zS) := if z_in t1 74 then (if v2 ≤ v1 then (f_X9_cuts_63 v1 (36 + v3) (z_w S 90 t1.toNatClampNeg t0)) else (f_X9_cuts_63 v2 (36 + v3) (z_w S 90 t1.toNatClampNeg t0))) else none
set_option maxRecDepth 100000 in
set_option maxHeartbeats 4000000 in
theorem zd_X9_cuts_44 (V : zV) (d : Nat) : ∀ (v1 : Int32) (v2 : Int32) (v3 : Int32) (t0 : Int32) (t1 : Int32) (S : zS), z_J zeV V mX9_cuts (d + 1) (f_X9_cuts_44 v1 v2 v3 t0 t1 S) 44 [.ref 87, .int v1, .int v2, .int v3] [.int t0, .int t1, .ref 90] S := by
  intro v1 v2 v3 t0 t1 S
  unfold f_X9_cuts_44
  refine d_gd (fun g44 => ?_)
  refine d_st (fun _ k => zs_iast dX9_cuts_44 (by decide) (zq_90 _) g44 rfl k) ?_
  refine d_st (fun _ k => zg_aload_n dX9_cuts_45 rfl (zs_getR dX9_cuts_46 zf_X9_16 rfl (zq_87 _) (by decide) (by decide) zr_87_10 (zg_bipush 36 dX9_cuts_49 (by decide) (zg_iload_n dX9_cuts_51 rfl (zg_iadd dX9_cuts_52 (zg_iload_n dX9_cuts_53 rfl (zg_iload_n dX9_cuts_54 rfl k))))))) ?_
  refine d_br (fun _ => zg_icmp_ge 62 dX9_cuts_55 rfl) (fun c55 => ?_) (fun c55 => ?_)
  · refine d_st (fun _ k => zg_iload_n dX9_cuts_62 rfl k) ?_
    exact d_fg (z_le_s (z_le_0 (z_le_0 (z_le_0 z_le_n)))) (zd_X9_cuts_63 V d _ _ _)
  · refine d_st (fun _ k => zg_iload_n dX9_cuts_58 rfl (zg_goto 63 dX9_cuts_59 rfl k)) ?_
    exact d_fg (z_le_s (z_le_0 (z_le_0 (z_le_0 z_le_n)))) (zd_X9_cuts_63 V d _ _ _)
def f_X9_cuts (a1 : Int32) (a2 : Int32) (S : zS) : Option (Unit × zS) := (f_X9_isWell  S).bind (fun r1 => if r1.1 = 0 then (some ((), r1.2)) else ((f_X9_cutOf 90 a1 a2 r1.2).bind (fun r13 => if 0 ≤ r13.1 then (some ((), r13.2)) else (if a2 ≤ a1 then (f_X9_cuts_44 a1 a2 (r13.2.1 90 1) a2 (22 + (r13.2.1 90 1)) r13.2) else (f_X9_cuts_44 a1 a2 (r13.2.1 90 1) a1 (22 + (r13.2.1 90 1)) r13.2)))))
set_option maxRecDepth 100000 in
set_option maxHeartbeats 4000000 in
theorem zd_X9_cuts (V : zV) (d : Nat) : ∀ (a1 : Int32) (a2 : Int32) (S : zS), z_J zeV V mX9_cuts (d + 1) (f_X9_cuts a1 a2 S) 0 (z_ent mX9_cuts [.ref 87, .int a1, .int a2]) [] S := by
  intro a1 a2 S
  show z_J zeV V mX9_cuts (d + 1) (f_X9_cuts a1 a2 S) 0 [.ref 87, .int a1, .int a2, .null] [] S
  unfold f_X9_cuts
  refine d_st (fun _ k => zg_aload_n dX9_cuts_0 rfl k) ?_
  refine d_cVi (As := []) dX9_cuts_1 zk_X9_114 (zq_87 _) (by decide) ⟨_, _, rfl⟩ rfl rfl (Nat.le_of_ble_eq_true rfl) (Nat.le_of_ble_eq_true rfl) rfl (zd_X9_isWell V d _) (fun r1 _ => ?_)
  refine d_br (fun _ => zg_if_eq 74 dX9_cuts_4 rfl) (fun c4 => ?_) (fun c4 => ?_)
  · exact d_retV dX9_cuts_74 rfl
  · refine d_st (fun _ k => zg_aload_n dX9_cuts_7 rfl (zs_getR dX9_cuts_8 zf_X9_16 rfl (zq_87 _) (by decide) (by decide) zr_87_10 (zg_iload_n dX9_cuts_11 rfl (zg_iload_n dX9_cuts_12 rfl k)))) ?_
    refine d_cSi (As := [_, _, _]) dX9_cuts_13 zk_X9_125 rfl rfl (Nat.le_of_ble_eq_true rfl) (Nat.le_of_ble_eq_true rfl) rfl (zd_X9_cutOf V ⟨(by decide), fun _ => (zq_90 _)⟩ d _ _ _) (fun r13 _ => ?_)
    refine d_br (fun _ => zg_if_ge 74 dX9_cuts_16 rfl) (fun c16 => ?_) (fun c16 => ?_)
    · exact d_retV dX9_cuts_74 rfl
    · refine d_st (fun _ k => zg_aload_n dX9_cuts_19 rfl (zs_getR dX9_cuts_20 zf_X9_16 rfl (zq_87 _) (by decide) (by decide) zr_87_10 (zg_iconst 1 dX9_cuts_23 (by decide) (zs_iald (j := 1) dX9_cuts_24 (by decide) (zq_90 _) (by decide) (by decide) (zg_istore_n (ls' := [_, _, _, _]) dX9_cuts_25 (Nat.le_of_ble_eq_true rfl) rfl rfl (zg_aload_n dX9_cuts_26 rfl (zs_getR dX9_cuts_27 zf_X9_16 rfl (zq_87 _) (by decide) (by decide) zr_87_10 (zg_bipush 22 dX9_cuts_30 (by decide) (zg_iload_n dX9_cuts_32 rfl (zg_iadd dX9_cuts_33 (zg_iload_n dX9_cuts_34 rfl (zg_iload_n dX9_cuts_35 rfl k)))))))))))) ?_
      refine d_br (fun _ => zg_icmp_ge 43 dX9_cuts_36 rfl) (fun c36 => ?_) (fun c36 => ?_)
      · refine d_st (fun _ k => zg_iload_n dX9_cuts_43 rfl k) ?_
        exact d_fg (z_le_s (z_le_s (z_le_s (z_le_s z_le_n)))) (zd_X9_cuts_44 V d _ _ _ _ _ _)
      · refine d_st (fun _ k => zg_iload_n dX9_cuts_39 rfl (zg_goto 44 dX9_cuts_40 rfl k)) ?_
        exact d_fg (z_le_s (z_le_s (z_le_s (z_le_s z_le_n)))) (zd_X9_cuts_44 V d _ _ _ _ _ _)
def f_X9_readsPart_222 (v1 : Int32) (v2 : Int32) (S : zS) : Option (Unit × zS) := if z_in (50 + v1) 74 then (some ((), (z_w (z_w S 90 ((50 + v1).toNatClampNeg) v2) 90 2 (((z_w S 90 ((50 + v1).toNatClampNeg) v2).1 90 2) + 1)))) else none
set_option maxRecDepth 100000 in
set_option maxHeartbeats 4000000 in
theorem zd_X9_readsPart_222 (V : zV) (d : Nat) : ∀ (v1 : Int32) (v2 : Int32) (S : zS), z_J zeV V mX9_readsPart (d + 3) (f_X9_readsPart_222 v1 v2 S) 222 [.ref 87, .int v1, .int v2, .null, .null, .null, .null] [] S := by
  intro v1 v2 S
  unfold f_X9_readsPart_222
  refine d_st (fun _ k => zg_aload_n dX9_readsPart_222 rfl (zs_getR dX9_readsPart_223 zf_X9_16 rfl (zq_87 _) (by decide) (by decide) zr_87_10 (zg_bipush 50 dX9_readsPart_226 (by decide) (zg_iload_n dX9_readsPart_228 rfl (zg_iadd dX9_readsPart_229 (zg_iload_n dX9_readsPart_230 rfl k)))))) ?_
  refine d_gd (fun g231 => ?_)
  refine d_st (fun _ k => zs_iast dX9_readsPart_231 (by decide) (zq_90 _) g231 rfl k) ?_
  refine d_st (fun _ k => zg_aload_n dX9_readsPart_232 rfl (zs_getR dX9_readsPart_233 zf_X9_16 rfl (zq_87 _) (by decide) (by decide) zr_87_10 (zg_iconst 2 dX9_readsPart_236 (by decide) (zg_dup2 dX9_readsPart_237 (zs_iald (j := 2) dX9_readsPart_238 (by decide) (zq_90 _) (by decide) (by decide) (zg_iconst 1 dX9_readsPart_239 (by decide) (zg_iadd dX9_readsPart_240 (zs_iast (j := 2) dX9_readsPart_241 (by decide) (zq_90 _) (by decide) (by decide) k)))))))) ?_
  exact d_retV dX9_readsPart_242 rfl
def f_X9_readsPart_214 (v1 : Int32) (v2 : Int32) (v4 : Int32) (v5 : Int32) (S : zS) : Option (Unit × zS) := (f_X9_cuts v5 v4 S).bind (fun r219 => f_X9_readsPart_222 v1 v2 r219.2)
set_option maxRecDepth 100000 in
set_option maxHeartbeats 4000000 in
theorem zd_X9_readsPart_214 (V : zV) (d : Nat) : ∀ (v1 : Int32) (v2 : Int32) (v4 : Int32) (v5 : Int32) (S : zS), z_J zeV V mX9_readsPart (d + 3) (f_X9_readsPart_214 v1 v2 v4 v5 S) 214 [.ref 87, .int v1, .int v2, .null, .int v4, .int v5, .null] [] S := by
  intro v1 v2 v4 v5 S
  unfold f_X9_readsPart_214
  refine d_st (fun _ k => zg_aload_n dX9_readsPart_214 rfl (zg_iload dX9_readsPart_215 rfl (zg_iload dX9_readsPart_217 rfl k))) ?_
  refine d_cVv (As := [_, _]) dX9_readsPart_219 zk_X9_145 (zq_87 _) (by decide) ⟨_, _, rfl⟩ rfl rfl (Nat.le_of_ble_eq_true rfl) (Nat.le_of_ble_eq_true rfl) rfl (zd_X9_cuts V (d + 1) _ _ _) (fun r219 _ => ?_)
  exact d_fg (z_le_s (z_le_s (z_le_s (z_le_0 (z_le_0 (z_le_0 (z_le_0 z_le_n))))))) (zd_X9_readsPart_222 V d _ _ _)
def f_X9_readsPart_158 (v1 : Int32) (v2 : Int32) (S : zS) : Option (Unit × zS) := (f_X9_isWell  S).bind (fun r159 => if r159.1 = 0 then (f_X9_readsPart_222 v1 v2 r159.2) else (if z_in (54 + (5 * v1)) 74 then (if z_in (((54 + (5 * v1)) + v2) - 1) 74 then ((f_X9_hasRoom (r159.2.1 90 (((54 + (5 * v1)) + v2) - 1).toNatClampNeg) (r159.2.1 90 (54 + (5 * v1)).toNatClampNeg) r159.2).bind (fun r200 => if r200.1 = 0 then (f_X9_readsPart_214 v1 v2 (r159.2.1 90 (54 + (5 * v1)).toNatClampNeg) (r159.2.1 90 (((54 + (5 * v1)) + v2) - 1).toNatClampNeg) (z_w r200.2 87 7 (r200.2.1 87 5))) else (f_X9_readsPart_214 v1 v2 (r159.2.1 90 (54 + (5 * v1)).toNatClampNeg) (r159.2.1 90 (((54 + (5 * v1)) + v2) - 1).toNatClampNeg) r200.2))) else none) else none))
set_option maxRecDepth 100000 in
set_option maxHeartbeats 4000000 in
theorem zd_X9_readsPart_158 (V : zV) (d : Nat) : ∀ (v1 : Int32) (v2 : Int32) (S : zS), z_J zeV V mX9_readsPart (d + 3) (f_X9_readsPart_158 v1 v2 S) 158 [.ref 87, .int v1, .int v2, .null, .null, .null, .null] [] S := by
  intro v1 v2 S
  unfold f_X9_readsPart_158
  refine d_st (fun _ k => zg_aload_n dX9_readsPart_158 rfl k) ?_
  refine d_cVi (As := []) dX9_readsPart_159 zk_X9_114 (zq_87 _) (by decide) ⟨_, _, rfl⟩ rfl rfl (Nat.le_of_ble_eq_true rfl) (Nat.le_of_ble_eq_true rfl) rfl (zd_X9_isWell V (d + 2) _) (fun r159 _ => ?_)
  refine d_br (fun _ => zg_if_eq 222 dX9_readsPart_162 rfl) (fun c162 => ?_) (fun c162 => ?_)
  · exact d_fg (z_le_s (z_le_s (z_le_s (z_le_0 (z_le_0 (z_le_0 (z_le_0 z_le_n))))))) (zd_X9_readsPart_222 V d _ _ _)
  · refine d_st (fun _ k => zg_aload_n dX9_readsPart_165 rfl (zs_getR dX9_readsPart_166 zf_X9_16 rfl (zq_87 _) (by decide) (by decide) zr_87_10 (zg_bipush 54 dX9_readsPart_169 (by decide) (zg_iconst 5 dX9_readsPart_171 (by decide) (zg_iload_n dX9_readsPart_172 rfl (zg_imul dX9_readsPart_173 (zg_iadd dX9_readsPart_174 k))))))) ?_
    refine d_gd (fun g175 => ?_)
    refine d_st (fun _ k => zs_iald dX9_readsPart_175 (by decide) (zq_90 _) g175 rfl k) ?_
    refine d_st (fun _ k => zg_istore (ls' := [_, _, _, _, _, _, _]) dX9_readsPart_176 (Nat.le_of_ble_eq_true rfl) rfl rfl (zg_aload_n dX9_readsPart_178 rfl (zs_getR dX9_readsPart_179 zf_X9_16 rfl (zq_87 _) (by decide) (by decide) zr_87_10 (zg_bipush 54 dX9_readsPart_182 (by decide) (zg_iconst 5 dX9_readsPart_184 (by decide) (zg_iload_n dX9_readsPart_185 rfl (zg_imul dX9_readsPart_186 (zg_iadd dX9_readsPart_187 (zg_iload_n dX9_readsPart_188 rfl (zg_iadd dX9_readsPart_189 (zg_iconst 1 dX9_readsPart_190 (by decide) (zg_isub dX9_readsPart_191 k)))))))))))) ?_
    refine d_gd (fun g192 => ?_)
    refine d_st (fun _ k => zs_iald dX9_readsPart_192 (by decide) (zq_90 _) g192 rfl k) ?_
    refine d_st (fun _ k => zg_istore (ls' := [_, _, _, _, _, _, _]) dX9_readsPart_193 (Nat.le_of_ble_eq_true rfl) rfl rfl (zg_aload_n dX9_readsPart_195 rfl (zg_iload dX9_readsPart_196 rfl (zg_iload dX9_readsPart_198 rfl k)))) ?_
    refine d_cVi (As := [_, _]) dX9_readsPart_200 zk_X9_142 (zq_87 _) (by decide) ⟨_, _, rfl⟩ rfl rfl (Nat.le_of_ble_eq_true rfl) (Nat.le_of_ble_eq_true rfl) rfl (zd_X9_hasRoom V (d + 1) _ _ _) (fun r200 _ => ?_)
    refine d_br (fun _ => zg_if_ne 214 dX9_readsPart_203 rfl) (fun c203 => ?_) (fun c203 => ?_)
    · refine d_st (fun _ k => zg_aload_n dX9_readsPart_206 rfl (zg_aload_n dX9_readsPart_207 rfl (zs_getI dX9_readsPart_208 zf_X9_102 rfl (zq_87 _) (by decide) (by decide) (zs_putI dX9_readsPart_211 zf_X9_111 rfl (zq_87 _) (by decide) (by decide) k)))) ?_
      exact d_fg (z_le_s (z_le_s (z_le_s (z_le_0 (z_le_s (z_le_s (z_le_0 z_le_n))))))) (zd_X9_readsPart_214 V d _ _ _ _ _)
    · exact d_fg (z_le_s (z_le_s (z_le_s (z_le_0 (z_le_s (z_le_s (z_le_0 z_le_n))))))) (zd_X9_readsPart_214 V d _ _ _ _ _)
def f_X9_readsPart_130 (K11 : Int32 → Int32 → Int32 → zS → Option (Unit × zS)) (v1 : Int32) (v2 : Int32) (v3 : Int32) (v6 : Int32) (S : zS) : Option (Unit × zS) := if z_in ((54 + (5 * v1)) + v2) 74 then (K11 v1 (v2 + 1) (v3 ||| ((1 : Int32) <<< (v6 &&& 31))) (z_w S 90 (((54 + (5 * v1)) + v2).toNatClampNeg) v6)) else none
set_option maxRecDepth 100000 in
set_option maxHeartbeats 4000000 in
theorem zd_X9_readsPart_130 (V : zV) (d : Nat) {K11 : Int32 → Int32 → Int32 → zS → Option (Unit × zS)} (hK11 : ∀ (v1 : Int32) (v2 : Int32) (v3 : Int32) (S : zS), z_J zeV V mX9_readsPart (d + 3) (K11 v1 v2 v3 S) 11 [.ref 87, .int v1, .int v2, .int v3, .null, .null, .null] [] S) : ∀ (v1 : Int32) (v2 : Int32) (v3 : Int32) (v6 : Int32) (S : zS), z_J zeV V mX9_readsPart (d + 3) (f_X9_readsPart_130 K11 v1 v2 v3 v6 S) 130 [.ref 87, .int v1, .int v2, .int v3, .null, .null, .int v6] [] S := by
  intro v1 v2 v3 v6 S
  unfold f_X9_readsPart_130
  refine d_st (fun _ k => zg_aload_n dX9_readsPart_130 rfl (zs_getR dX9_readsPart_131 zf_X9_16 rfl (zq_87 _) (by decide) (by decide) zr_87_10 (zg_bipush 54 dX9_readsPart_134 (by decide) (zg_iconst 5 dX9_readsPart_136 (by decide) (zg_iload_n dX9_readsPart_137 rfl (zg_imul dX9_readsPart_138 (zg_iadd dX9_readsPart_139 (zg_iload_n dX9_readsPart_140 rfl (zg_iadd dX9_readsPart_141 (zg_iload dX9_readsPart_142 rfl k)))))))))) ?_
  refine d_gd (fun g144 => ?_)
  refine d_st (fun _ k => zs_iast dX9_readsPart_144 (by decide) (zq_90 _) g144 rfl k) ?_
  refine d_st (fun _ k => zg_iload_n dX9_readsPart_145 rfl (zg_iconst 1 dX9_readsPart_146 (by decide) (zg_iload dX9_readsPart_147 rfl (zg_ishl dX9_readsPart_149 (zg_ior dX9_readsPart_150 (zg_istore_n (ls' := [_, _, _, _, _, _, _]) dX9_readsPart_151 (Nat.le_of_ble_eq_true rfl) rfl rfl (zg_iinc (ls' := [_, _, _, _, _, _, _]) 1 dX9_readsPart_152 rfl (by decide) (Nat.le_of_ble_eq_true rfl) rfl rfl (zg_goto 11 dX9_readsPart_155 rfl k)))))))) ?_
  exact d_fg (z_le_s (z_le_s (z_le_s (z_le_s (z_le_0 (z_le_0 (z_le_0 z_le_n))))))) (hK11 _ _ _ _)
def f_X9_readsPart_101 (K11 : Int32 → Int32 → Int32 → zS → Option (Unit × zS)) (v1 : Int32) (v2 : Int32) (v3 : Int32) (v4 : Int32) (t0 : Int32) (S : zS) : Option (Unit × zS) := (f_X9_takes t0 S).bind (fun r106 => (f_X9_isWell  r106.2).bind (fun r112 => if r112.1 = 0 then (K11 v1 v2 v3 r112.2) else (if v2 ≤ 0 then (f_X9_readsPart_130 K11 v1 v2 v3 r106.1 r112.2) else ((f_X9_cuts v4 r106.1 r112.2).bind (fun r127 => f_X9_readsPart_130 K11 v1 v2 v3 r106.1 r127.2)))))
set_option maxRecDepth 100000 in
set_option maxHeartbeats 4000000 in
theorem zd_X9_readsPart_101 (V : zV) (d : Nat) {K11 : Int32 → Int32 → Int32 → zS → Option (Unit × zS)} (hK11 : ∀ (v1 : Int32) (v2 : Int32) (v3 : Int32) (S : zS), z_J zeV V mX9_readsPart (d + 3) (K11 v1 v2 v3 S) 11 [.ref 87, .int v1, .int v2, .int v3, .null, .null, .null] [] S) : ∀ (v1 : Int32) (v2 : Int32) (v3 : Int32) (v4 : Int32) (t0 : Int32) (S : zS), z_J zeV V mX9_readsPart (d + 3) (f_X9_readsPart_101 K11 v1 v2 v3 v4 t0 S) 101 [.ref 87, .int v1, .int v2, .int v3, .int v4, .null, .null] [.int t0] S := by
  intro v1 v2 v3 v4 t0 S
  unfold f_X9_readsPart_101
  refine d_st (fun _ k => zg_istore (ls' := [_, _, _, _, _, _, _]) dX9_readsPart_101 (Nat.le_of_ble_eq_true rfl) rfl rfl (zg_aload_n dX9_readsPart_103 rfl (zg_iload dX9_readsPart_104 rfl k))) ?_
  refine d_cVi (As := [_]) dX9_readsPart_106 zk_X9_132 (zq_87 _) (by decide) ⟨_, _, rfl⟩ rfl rfl (Nat.le_of_ble_eq_true rfl) (Nat.le_of_ble_eq_true rfl) rfl (zd_X9_takes V d _ _) (fun r106 _ => ?_)
  refine d_st (fun _ k => zg_istore (ls' := [_, _, _, _, _, _, _]) dX9_readsPart_109 (Nat.le_of_ble_eq_true rfl) rfl rfl (zg_aload_n dX9_readsPart_111 rfl k)) ?_
  refine d_cVi (As := []) dX9_readsPart_112 zk_X9_114 (zq_87 _) (by decide) ⟨_, _, rfl⟩ rfl rfl (Nat.le_of_ble_eq_true rfl) (Nat.le_of_ble_eq_true rfl) rfl (zd_X9_isWell V (d + 2) _) (fun r112 _ => ?_)
  refine d_br (fun _ => zg_if_eq 155 dX9_readsPart_115 rfl) (fun c115 => ?_) (fun c115 => ?_)
  · refine d_st (fun _ k => zg_goto 11 dX9_readsPart_155 rfl k) ?_
    exact d_fg (z_le_s (z_le_s (z_le_s (z_le_s (z_le_0 (z_le_0 (z_le_0 z_le_n))))))) (hK11 _ _ _ _)
  · refine d_st (fun _ k => zg_iload_n dX9_readsPart_118 rfl k) ?_
    refine d_br (fun _ => zg_if_le 130 dX9_readsPart_119 rfl) (fun c119 => ?_) (fun c119 => ?_)
    · exact d_fg (z_le_s (z_le_s (z_le_s (z_le_s (z_le_0 (z_le_0 (z_le_s z_le_n))))))) (zd_X9_readsPart_130 V d hK11 _ _ _ _ _)
    · refine d_st (fun _ k => zg_aload_n dX9_readsPart_122 rfl (zg_iload dX9_readsPart_123 rfl (zg_iload dX9_readsPart_125 rfl k))) ?_
      refine d_cVv (As := [_, _]) dX9_readsPart_127 zk_X9_145 (zq_87 _) (by decide) ⟨_, _, rfl⟩ rfl rfl (Nat.le_of_ble_eq_true rfl) (Nat.le_of_ble_eq_true rfl) rfl (zd_X9_cuts V (d + 1) _ _ _) (fun r127 _ => ?_)
      exact d_fg (z_le_s (z_le_s (z_le_s (z_le_s (z_le_0 (z_le_0 (z_le_s z_le_n))))))) (zd_X9_readsPart_130 V d hK11 _ _ _ _ _)
def f_X9_readsPart_54 (K11 : Int32 → Int32 → Int32 → zS → Option (Unit × zS)) (v1 : Int32) (v2 : Int32) (v3 : Int32) (t0 : Int32) (S : zS) : Option (Unit × zS) := if 5 ≤ v2 then (f_X9_readsPart_101 K11 v1 v2 v3 t0 0 S) else ((f_X9_isCorner  S).bind (fun r62 => if r62.1 = 0 then (f_X9_readsPart_101 K11 v1 v2 v3 t0 0 r62.2) else ((f_X9_has v3 (r62.2.1 87 6) r62.2).bind (fun r73 => if r73.1 = 0 then (if v2 = 0 then (f_X9_readsPart_101 K11 v1 v2 v3 t0 1 r73.2) else ((f_X9_hasRoom t0 (r73.2.1 87 6) r73.2).bind (fun r90 => if r90.1 = 0 then (f_X9_readsPart_101 K11 v1 v2 v3 t0 0 r90.2) else (f_X9_readsPart_101 K11 v1 v2 v3 t0 1 r90.2)))) else (f_X9_readsPart_101 K11 v1 v2 v3 t0 0 r73.2)))))
set_option maxRecDepth 100000 in
set_option maxHeartbeats 4000000 in
theorem zd_X9_readsPart_54 (V : zV) (d : Nat) {K11 : Int32 → Int32 → Int32 → zS → Option (Unit × zS)} (hK11 : ∀ (v1 : Int32) (v2 : Int32) (v3 : Int32) (S : zS), z_J zeV V mX9_readsPart (d + 3) (K11 v1 v2 v3 S) 11 [.ref 87, .int v1, .int v2, .int v3, .null, .null, .null] [] S) : ∀ (v1 : Int32) (v2 : Int32) (v3 : Int32) (t0 : Int32) (S : zS), z_J zeV V mX9_readsPart (d + 3) (f_X9_readsPart_54 K11 v1 v2 v3 t0 S) 54 [.ref 87, .int v1, .int v2, .int v3, .null, .null, .null] [.int t0] S := by
  intro v1 v2 v3 t0 S
  unfold f_X9_readsPart_54
  refine d_st (fun _ k => zg_istore (ls' := [_, _, _, _, _, _, _]) dX9_readsPart_54 (Nat.le_of_ble_eq_true rfl) rfl rfl (zg_iload_n dX9_readsPart_56 rfl (zg_iconst 5 dX9_readsPart_57 (by decide) k))) ?_
  refine d_br (fun _ => zg_icmp_ge 100 dX9_readsPart_58 rfl) (fun c58 => ?_) (fun c58 => ?_)
  · refine d_st (fun _ k => zg_iconst 0 dX9_readsPart_100 (by decide) k) ?_
    exact d_fg (z_le_s (z_le_s (z_le_s (z_le_s (z_le_s (z_le_0 (z_le_0 z_le_n))))))) (zd_X9_readsPart_101 V d hK11 _ _ _ _ _ _)
  · refine d_st (fun _ k => zg_aload_n dX9_readsPart_61 rfl k) ?_
    refine d_cVi (As := []) dX9_readsPart_62 zk_X9_139 (zq_87 _) (by decide) ⟨_, _, rfl⟩ rfl rfl (Nat.le_of_ble_eq_true rfl) (Nat.le_of_ble_eq_true rfl) rfl (zd_X9_isCorner V d _) (fun r62 _ => ?_)
    refine d_br (fun _ => zg_if_eq 100 dX9_readsPart_65 rfl) (fun c65 => ?_) (fun c65 => ?_)
    · refine d_st (fun _ k => zg_iconst 0 dX9_readsPart_100 (by decide) k) ?_
      exact d_fg (z_le_s (z_le_s (z_le_s (z_le_s (z_le_s (z_le_0 (z_le_0 z_le_n))))))) (zd_X9_readsPart_101 V d hK11 _ _ _ _ _ _)
    · refine d_st (fun _ k => zg_iload_n dX9_readsPart_68 rfl (zg_aload_n dX9_readsPart_69 rfl (zs_getI dX9_readsPart_70 zf_X9_108 rfl (zq_87 _) (by decide) (by decide) k))) ?_
      refine d_cSi (As := [_, _]) dX9_readsPart_73 zk_X9_84 rfl rfl (Nat.le_of_ble_eq_true rfl) (Nat.le_of_ble_eq_true rfl) rfl (zd_X9_has V (d + 2) _ _ _) (fun r73 _ => ?_)
      refine d_br (fun _ => zg_if_ne 100 dX9_readsPart_76 rfl) (fun c76 => ?_) (fun c76 => ?_)
      · refine d_st (fun _ k => zg_iload_n dX9_readsPart_79 rfl k) ?_
        refine d_br (fun _ => zg_if_eq 96 dX9_readsPart_80 rfl) (fun c80 => ?_) (fun c80 => ?_)
        · refine d_st (fun _ k => zg_iconst 1 dX9_readsPart_96 (by decide) (zg_goto 101 dX9_readsPart_97 rfl k)) ?_
          exact d_fg (z_le_s (z_le_s (z_le_s (z_le_s (z_le_s (z_le_0 (z_le_0 z_le_n))))))) (zd_X9_readsPart_101 V d hK11 _ _ _ _ _ _)
        · refine d_st (fun _ k => zg_aload_n dX9_readsPart_83 rfl (zg_iload dX9_readsPart_84 rfl (zg_aload_n dX9_readsPart_86 rfl (zs_getI dX9_readsPart_87 zf_X9_108 rfl (zq_87 _) (by decide) (by decide) k)))) ?_
          refine d_cVi (As := [_, _]) dX9_readsPart_90 zk_X9_142 (zq_87 _) (by decide) ⟨_, _, rfl⟩ rfl rfl (Nat.le_of_ble_eq_true rfl) (Nat.le_of_ble_eq_true rfl) rfl (zd_X9_hasRoom V (d + 1) _ _ _) (fun r90 _ => ?_)
          refine d_br (fun _ => zg_if_eq 100 dX9_readsPart_93 rfl) (fun c93 => ?_) (fun c93 => ?_)
          · refine d_st (fun _ k => zg_iconst 0 dX9_readsPart_100 (by decide) k) ?_
            exact d_fg (z_le_s (z_le_s (z_le_s (z_le_s (z_le_s (z_le_0 (z_le_0 z_le_n))))))) (zd_X9_readsPart_101 V d hK11 _ _ _ _ _ _)
          · refine d_st (fun _ k => zg_iconst 1 dX9_readsPart_96 (by decide) (zg_goto 101 dX9_readsPart_97 rfl k)) ?_
            exact d_fg (z_le_s (z_le_s (z_le_s (z_le_s (z_le_s (z_le_0 (z_le_0 z_le_n))))))) (zd_X9_readsPart_101 V d hK11 _ _ _ _ _ _)
      · refine d_st (fun _ k => zg_iconst 0 dX9_readsPart_100 (by decide) k) ?_
        exact d_fg (z_le_s (z_le_s (z_le_s (z_le_s (z_le_s (z_le_0 (z_le_0 z_le_n))))))) (zd_X9_readsPart_101 V d hK11 _ _ _ _ _ _)
def f_X9_readsPart_31 (K11 : Int32 → Int32 → Int32 → zS → Option (Unit × zS)) (v1 : Int32) (v2 : Int32) (v3 : Int32) (S : zS) : Option (Unit × zS) := if v2 = 0 then (f_X9_readsPart_54 K11 v1 v2 v3 0 S) else (if z_in (((54 + (5 * v1)) + v2) - 1) 74 then (f_X9_readsPart_54 K11 v1 v2 v3 (S.1 90 (((54 + (5 * v1)) + v2) - 1).toNatClampNeg) S) else none)
set_option maxRecDepth 100000 in
set_option maxHeartbeats 4000000 in
theorem zd_X9_readsPart_31 (V : zV) (d : Nat) {K11 : Int32 → Int32 → Int32 → zS → Option (Unit × zS)} (hK11 : ∀ (v1 : Int32) (v2 : Int32) (v3 : Int32) (S : zS), z_J zeV V mX9_readsPart (d + 3) (K11 v1 v2 v3 S) 11 [.ref 87, .int v1, .int v2, .int v3, .null, .null, .null] [] S) : ∀ (v1 : Int32) (v2 : Int32) (v3 : Int32) (S : zS), z_J zeV V mX9_readsPart (d + 3) (f_X9_readsPart_31 K11 v1 v2 v3 S) 31 [.ref 87, .int v1, .int v2, .int v3, .null, .null, .null] [] S := by
  intro v1 v2 v3 S
  unfold f_X9_readsPart_31
  refine d_st (fun _ k => zg_iload_n dX9_readsPart_31 rfl k) ?_
  refine d_br (fun _ => zg_if_ne 39 dX9_readsPart_32 rfl) (fun c32 => ?_) (fun c32 => ?_)
  · refine d_st (fun _ k => zg_iconst 0 dX9_readsPart_35 (by decide) (zg_goto 54 dX9_readsPart_36 rfl k)) ?_
    exact d_fg (z_le_s (z_le_s (z_le_s (z_le_s (z_le_0 (z_le_0 (z_le_0 z_le_n))))))) (zd_X9_readsPart_54 V d hK11 _ _ _ _ _)
  · refine d_st (fun _ k => zg_aload_n dX9_readsPart_39 rfl (zs_getR dX9_readsPart_40 zf_X9_16 rfl (zq_87 _) (by decide) (by decide) zr_87_10 (zg_bipush 54 dX9_readsPart_43 (by decide) (zg_iconst 5 dX9_readsPart_45 (by decide) (zg_iload_n dX9_readsPart_46 rfl (zg_imul dX9_readsPart_47 (zg_iadd dX9_readsPart_48 (zg_iload_n dX9_readsPart_49 rfl (zg_iadd dX9_readsPart_50 (zg_iconst 1 dX9_readsPart_51 (by decide) (zg_isub dX9_readsPart_52 k))))))))))) ?_
    refine d_gd (fun g53 => ?_)
    refine d_st (fun _ k => zs_iald dX9_readsPart_53 (by decide) (zq_90 _) g53 rfl k) ?_
    exact d_fg (z_le_s (z_le_s (z_le_s (z_le_s (z_le_0 (z_le_0 (z_le_0 z_le_n))))))) (zd_X9_readsPart_54 V d hK11 _ _ _ _ _)
def f_X9_readsPart_11 : Nat → Int32 → Int32 → Int32 → zS → Option (Unit × zS)
  | 0, _, _, _, _ => none
  | n + 1, v1, v2, v3, S => (f_X9_isWell  S).bind (fun r12 => if r12.1 = 0 then (f_X9_readsPart_158 v1 v2 r12.2) else (if v2 < 3 then (f_X9_readsPart_31 (f_X9_readsPart_11 n) v1 v2 v3 r12.2) else (if (r12.2.1 87 4) = 3 then (f_X9_readsPart_158 v1 v2 r12.2) else (f_X9_readsPart_31 (f_X9_readsPart_11 n) v1 v2 v3 r12.2))))
set_option maxRecDepth 100000 in
set_option maxHeartbeats 4000000 in
theorem zd_X9_readsPart_11 (V : zV) (d : Nat) : ∀ (n : Nat) (v1 : Int32) (v2 : Int32) (v3 : Int32) (S : zS), z_J zeV V mX9_readsPart (d + 3) (f_X9_readsPart_11 n v1 v2 v3 S) 11 [.ref 87, .int v1, .int v2, .int v3, .null, .null, .null] [] S := by
  intro n
  induction n with
  | zero =>
    intro v1 v2 v3 S r hr
    cases (show (none : Option (Unit × zS)) = some r from hr)
  | succ n ih =>
    intro v1 v2 v3 S
    rw [f_X9_readsPart_11]
    refine d_st (fun _ k => zg_aload_n dX9_readsPart_11 rfl k) ?_
    refine d_cVi (As := []) dX9_readsPart_12 zk_X9_114 (zq_87 _) (by decide) ⟨_, _, rfl⟩ rfl rfl (Nat.le_of_ble_eq_true rfl) (Nat.le_of_ble_eq_true rfl) rfl (zd_X9_isWell V (d + 2) _) (fun r12 _ => ?_)
    refine d_br (fun _ => zg_if_eq 158 dX9_readsPart_15 rfl) (fun c15 => ?_) (fun c15 => ?_)
    · exact d_fg (z_le_s (z_le_s (z_le_s (z_le_0 (z_le_0 (z_le_0 (z_le_0 z_le_n))))))) (zd_X9_readsPart_158 V d _ _ _)
    · refine d_st (fun _ k => zg_iload_n dX9_readsPart_18 rfl (zg_iconst 3 dX9_readsPart_19 (by decide) k)) ?_
      refine d_br (fun _ => zg_icmp_lt 31 dX9_readsPart_20 rfl) (fun c20 => ?_) (fun c20 => ?_)
      · exact d_fg (z_le_s (z_le_s (z_le_s (z_le_s (z_le_0 (z_le_0 (z_le_0 z_le_n))))))) (zd_X9_readsPart_31 V d ih _ _ _ _)
      · refine d_st (fun _ k => zg_aload_n dX9_readsPart_23 rfl (zs_getI dX9_readsPart_24 zf_X9_105 rfl (zq_87 _) (by decide) (by decide) (zg_iconst 3 dX9_readsPart_27 (by decide) k))) ?_
        refine d_br (fun _ => zg_icmp_eq 158 dX9_readsPart_28 rfl) (fun c28 => ?_) (fun c28 => ?_)
        · exact d_fg (z_le_s (z_le_s (z_le_s (z_le_0 (z_le_0 (z_le_0 (z_le_0 z_le_n))))))) (zd_X9_readsPart_158 V d _ _ _)
        · exact d_fg (z_le_s (z_le_s (z_le_s (z_le_s (z_le_0 (z_le_0 (z_le_0 z_le_n))))))) (zd_X9_readsPart_31 V d ih _ _ _ _)
def f_X9_readsPart (S : zS) : Option (Unit × zS) := f_X9_readsPart_11 1000 (S.1 90 2) 0 0 S
set_option maxRecDepth 100000 in
set_option maxHeartbeats 4000000 in
theorem zd_X9_readsPart (V : zV) (d : Nat) : ∀ (S : zS), z_J zeV V mX9_readsPart (d + 3) (f_X9_readsPart  S) 0 (z_ent mX9_readsPart [.ref 87]) [] S := by
  intro S
  show z_J zeV V mX9_readsPart (d + 3) (f_X9_readsPart  S) 0 [.ref 87, .null, .null, .null, .null, .null, .null] [] S
  unfold f_X9_readsPart
  refine d_st (fun _ k => zg_aload_n dX9_readsPart_0 rfl (zs_getR dX9_readsPart_1 zf_X9_16 rfl (zq_87 _) (by decide) (by decide) zr_87_10 (zg_iconst 2 dX9_readsPart_4 (by decide) (zs_iald (j := 2) dX9_readsPart_5 (by decide) (zq_90 _) (by decide) (by decide) (zg_istore_n (ls' := [_, _, _, _, _, _, _]) dX9_readsPart_6 (Nat.le_of_ble_eq_true rfl) rfl rfl (zg_iconst 0 dX9_readsPart_7 (by decide) (zg_istore_n (ls' := [_, _, _, _, _, _, _]) dX9_readsPart_8 (Nat.le_of_ble_eq_true rfl) rfl rfl (zg_iconst 0 dX9_readsPart_9 (by decide) (zg_istore_n (ls' := [_, _, _, _, _, _, _]) dX9_readsPart_10 (Nat.le_of_ble_eq_true rfl) rfl rfl k))))))))) ?_
  exact d_fg (z_le_s (z_le_s (z_le_s (z_le_s (z_le_0 (z_le_0 (z_le_0 z_le_n))))))) (zd_X9_readsPart_11 V d 1000 _ _ _ _)
def f_X9_readsSeam_49 (v1 : Int32) (t0 : Int32) (S : zS) : Option (Unit × zS) := (f_X9_takes t0 S).bind (fun r49 => (f_X9_cuts v1 r49.1 r49.2).bind (fun r56 => some ((), r56.2)))
set_option maxRecDepth 100000 in
set_option maxHeartbeats 4000000 in
theorem zd_X9_readsSeam_49 (V : zV) (d : Nat) : ∀ (v1 : Int32) (t0 : Int32) (S : zS), z_J zeV V mX9_readsSeam (d + 3) (f_X9_readsSeam_49 v1 t0 S) 49 [.ref 87, .int v1, .null] [.int t0, .ref 87] S := by
  intro v1 t0 S
  unfold f_X9_readsSeam_49
  refine d_cVi (As := [_]) dX9_readsSeam_49 zk_X9_132 (zq_87 _) (by decide) ⟨_, _, rfl⟩ rfl rfl (Nat.le_of_ble_eq_true rfl) (Nat.le_of_ble_eq_true rfl) rfl (zd_X9_takes V d _ _) (fun r49 _ => ?_)
  refine d_st (fun _ k => zg_istore_n (ls' := [_, _, _]) dX9_readsSeam_52 (Nat.le_of_ble_eq_true rfl) rfl rfl (zg_aload_n dX9_readsSeam_53 rfl (zg_iload_n dX9_readsSeam_54 rfl (zg_iload_n dX9_readsSeam_55 rfl k)))) ?_
  refine d_cVv (As := [_, _]) dX9_readsSeam_56 zk_X9_145 (zq_87 _) (by decide) ⟨_, _, rfl⟩ rfl rfl (Nat.le_of_ble_eq_true rfl) (Nat.le_of_ble_eq_true rfl) rfl (zd_X9_cuts V (d + 1) _ _ _) (fun r56 _ => ?_)
  exact d_retV dX9_readsSeam_59 rfl
def f_X9_readsSeam (S : zS) : Option (Unit × zS) := (f_X9_isCorner  S).bind (fun r2 => (f_X9_takes r2.1 r2.2).bind (fun r5 => (f_X9_isWell  r5.2).bind (fun r11 => if r11.1 = 0 then (f_X9_readsSeam_49 r5.1 0 r11.2) else ((f_X9_isCorner  r11.2).bind (fun r18 => if r18.1 = 0 then (f_X9_readsSeam_49 r5.1 0 r18.2) else (if (r18.2.1 87 6) = r5.1 then (f_X9_readsSeam_49 r5.1 0 r18.2) else ((f_X9_hasRoom r5.1 (r18.2.1 87 6) r18.2).bind (fun r38 => if r38.1 = 0 then (f_X9_readsSeam_49 r5.1 0 r38.2) else (f_X9_readsSeam_49 r5.1 1 r38.2)))))))))
set_option maxRecDepth 100000 in
set_option maxHeartbeats 4000000 in
theorem zd_X9_readsSeam (V : zV) (d : Nat) : ∀ (S : zS), z_J zeV V mX9_readsSeam (d + 3) (f_X9_readsSeam  S) 0 (z_ent mX9_readsSeam [.ref 87]) [] S := by
  intro S
  show z_J zeV V mX9_readsSeam (d + 3) (f_X9_readsSeam  S) 0 [.ref 87, .null, .null] [] S
  unfold f_X9_readsSeam
  refine d_st (fun _ k => zg_aload_n dX9_readsSeam_0 rfl (zg_aload_n dX9_readsSeam_1 rfl k)) ?_
  refine d_cVi (As := []) dX9_readsSeam_2 zk_X9_139 (zq_87 _) (by decide) ⟨_, _, rfl⟩ rfl rfl (Nat.le_of_ble_eq_true rfl) (Nat.le_of_ble_eq_true rfl) rfl (zd_X9_isCorner V d _) (fun r2 _ => ?_)
  refine d_cVi (As := [_]) dX9_readsSeam_5 zk_X9_132 (zq_87 _) (by decide) ⟨_, _, rfl⟩ rfl rfl (Nat.le_of_ble_eq_true rfl) (Nat.le_of_ble_eq_true rfl) rfl (zd_X9_takes V d _ _) (fun r5 _ => ?_)
  refine d_st (fun _ k => zg_istore_n (ls' := [_, _, _]) dX9_readsSeam_8 (Nat.le_of_ble_eq_true rfl) rfl rfl (zg_aload_n dX9_readsSeam_9 rfl (zg_aload_n dX9_readsSeam_10 rfl k))) ?_
  refine d_cVi (As := []) dX9_readsSeam_11 zk_X9_114 (zq_87 _) (by decide) ⟨_, _, rfl⟩ rfl rfl (Nat.le_of_ble_eq_true rfl) (Nat.le_of_ble_eq_true rfl) rfl (zd_X9_isWell V (d + 2) _) (fun r11 _ => ?_)
  refine d_br (fun _ => zg_if_eq 48 dX9_readsSeam_14 rfl) (fun c14 => ?_) (fun c14 => ?_)
  · refine d_st (fun _ k => zg_iconst 0 dX9_readsSeam_48 (by decide) k) ?_
    exact d_fg (z_le_s (z_le_s (z_le_0 z_le_n))) (zd_X9_readsSeam_49 V d _ _ _)
  · refine d_st (fun _ k => zg_aload_n dX9_readsSeam_17 rfl k) ?_
    refine d_cVi (As := []) dX9_readsSeam_18 zk_X9_139 (zq_87 _) (by decide) ⟨_, _, rfl⟩ rfl rfl (Nat.le_of_ble_eq_true rfl) (Nat.le_of_ble_eq_true rfl) rfl (zd_X9_isCorner V d _) (fun r18 _ => ?_)
    refine d_br (fun _ => zg_if_eq 48 dX9_readsSeam_21 rfl) (fun c21 => ?_) (fun c21 => ?_)
    · refine d_st (fun _ k => zg_iconst 0 dX9_readsSeam_48 (by decide) k) ?_
      exact d_fg (z_le_s (z_le_s (z_le_0 z_le_n))) (zd_X9_readsSeam_49 V d _ _ _)
    · refine d_st (fun _ k => zg_aload_n dX9_readsSeam_24 rfl (zs_getI dX9_readsSeam_25 zf_X9_108 rfl (zq_87 _) (by decide) (by decide) (zg_iload_n dX9_readsSeam_28 rfl k))) ?_
      refine d_br (fun _ => zg_icmp_eq 48 dX9_readsSeam_29 rfl) (fun c29 => ?_) (fun c29 => ?_)
      · refine d_st (fun _ k => zg_iconst 0 dX9_readsSeam_48 (by decide) k) ?_
        exact d_fg (z_le_s (z_le_s (z_le_0 z_le_n))) (zd_X9_readsSeam_49 V d _ _ _)
      · refine d_st (fun _ k => zg_aload_n dX9_readsSeam_32 rfl (zg_iload_n dX9_readsSeam_33 rfl (zg_aload_n dX9_readsSeam_34 rfl (zs_getI dX9_readsSeam_35 zf_X9_108 rfl (zq_87 _) (by decide) (by decide) k)))) ?_
        refine d_cVi (As := [_, _]) dX9_readsSeam_38 zk_X9_142 (zq_87 _) (by decide) ⟨_, _, rfl⟩ rfl rfl (Nat.le_of_ble_eq_true rfl) (Nat.le_of_ble_eq_true rfl) rfl (zd_X9_hasRoom V (d + 1) _ _ _) (fun r38 _ => ?_)
        refine d_br (fun _ => zg_if_eq 48 dX9_readsSeam_41 rfl) (fun c41 => ?_) (fun c41 => ?_)
        · refine d_st (fun _ k => zg_iconst 0 dX9_readsSeam_48 (by decide) k) ?_
          exact d_fg (z_le_s (z_le_s (z_le_0 z_le_n))) (zd_X9_readsSeam_49 V d _ _ _)
        · refine d_st (fun _ k => zg_iconst 1 dX9_readsSeam_44 (by decide) (zg_goto 49 dX9_readsSeam_45 rfl k)) ?_
          exact d_fg (z_le_s (z_le_s (z_le_0 z_le_n))) (zd_X9_readsSeam_49 V d _ _ _)
def f_X9_readsItem (a1 : Int32) (S : zS) : Option (Unit × zS) := if a1 = 104 then ((f_X9_isNumber 0 20 (z_w S 87 8 1)).bind (fun r21 => (f_X9_takes r21.1 r21.2).bind (fun r24 => some ((), (z_w r24.2 90 3 r24.1))))) else (if a1 = 107 then ((f_X9_readsCorner  S).bind (fun r38 => some ((), r38.2))) else (if a1 = 112 then ((f_X9_readsPart  S).bind (fun r51 => some ((), r51.2))) else ((f_X9_readsSeam  S).bind (fun r58 => some ((), r58.2)))))
set_option maxRecDepth 100000 in
set_option maxHeartbeats 4000000 in
theorem zd_X9_readsItem (V : zV) (d : Nat) : ∀ (a1 : Int32) (S : zS), z_J zeV V mX9_readsItem (d + 4) (f_X9_readsItem a1 S) 0 (z_ent mX9_readsItem [.ref 87, .int a1]) [] S := by
  intro a1 S
  show z_J zeV V mX9_readsItem (d + 4) (f_X9_readsItem a1 S) 0 [.ref 87, .int a1] [] S
  unfold f_X9_readsItem
  refine d_st (fun _ k => zg_iload_n dX9_readsItem_0 rfl (zg_bipush 104 dX9_readsItem_1 (by decide) k)) ?_
  refine d_br (fun _ => zg_icmp_ne 31 dX9_readsItem_3 rfl) (fun c3 => ?_) (fun c3 => ?_)
  · refine d_st (fun _ k => zg_aload_n dX9_readsItem_6 rfl (zg_iconst 1 dX9_readsItem_7 (by decide) (zs_putZ dX9_readsItem_8 zf_X9_121 rfl (by decide) (zq_87 _) (by decide) (by decide) (zg_aload_n dX9_readsItem_11 rfl (zs_getR dX9_readsItem_12 zf_X9_16 rfl (zq_87 _) (by decide) (by decide) zr_87_10 (zg_iconst 3 dX9_readsItem_15 (by decide) (zg_aload_n dX9_readsItem_16 rfl (zg_aload_n dX9_readsItem_17 rfl (zg_iconst 0 dX9_readsItem_18 (by decide) (zg_bipush 20 dX9_readsItem_19 (by decide) k)))))))))) ?_
    refine d_cVi (As := [_, _]) dX9_readsItem_21 zk_X9_129 (zq_87 _) (by decide) ⟨_, _, rfl⟩ rfl rfl (Nat.le_of_ble_eq_true rfl) (Nat.le_of_ble_eq_true rfl) rfl (zd_X9_isNumber V (d + 2) _ _ _) (fun r21 _ => ?_)
    refine d_cVi (As := [_]) dX9_readsItem_24 zk_X9_132 (zq_87 _) (by decide) ⟨_, _, rfl⟩ rfl rfl (Nat.le_of_ble_eq_true rfl) (Nat.le_of_ble_eq_true rfl) rfl (zd_X9_takes V (d + 1) _ _) (fun r24 _ => ?_)
    refine d_st (fun _ k => zs_iast (j := 3) dX9_readsItem_27 (by decide) (zq_90 _) (by decide) (by decide) (zg_goto 61 dX9_readsItem_28 rfl k)) ?_
    exact d_retV dX9_readsItem_61 rfl
  · refine d_st (fun _ k => zg_iload_n dX9_readsItem_31 rfl (zg_bipush 107 dX9_readsItem_32 (by decide) k)) ?_
    refine d_br (fun _ => zg_icmp_ne 44 dX9_readsItem_34 rfl) (fun c34 => ?_) (fun c34 => ?_)
    · refine d_st (fun _ k => zg_aload_n dX9_readsItem_37 rfl k) ?_
      refine d_cVv (As := []) dX9_readsItem_38 zk_X9_149 (zq_87 _) (by decide) ⟨_, _, rfl⟩ rfl rfl (Nat.le_of_ble_eq_true rfl) (Nat.le_of_ble_eq_true rfl) rfl (zd_X9_readsCorner V d _) (fun r38 _ => ?_)
      refine d_st (fun _ k => zg_goto 61 dX9_readsItem_41 rfl k) ?_
      exact d_retV dX9_readsItem_61 rfl
    · refine d_st (fun _ k => zg_iload_n dX9_readsItem_44 rfl (zg_bipush 112 dX9_readsItem_45 (by decide) k)) ?_
      refine d_br (fun _ => zg_icmp_ne 57 dX9_readsItem_47 rfl) (fun c47 => ?_) (fun c47 => ?_)
      · refine d_st (fun _ k => zg_aload_n dX9_readsItem_50 rfl k) ?_
        refine d_cVv (As := []) dX9_readsItem_51 zk_X9_152 (zq_87 _) (by decide) ⟨_, _, rfl⟩ rfl rfl (Nat.le_of_ble_eq_true rfl) (Nat.le_of_ble_eq_true rfl) rfl (zd_X9_readsPart V d _) (fun r51 _ => ?_)
        refine d_st (fun _ k => zg_goto 61 dX9_readsItem_54 rfl k) ?_
        exact d_retV dX9_readsItem_61 rfl
      · refine d_st (fun _ k => zg_aload_n dX9_readsItem_57 rfl k) ?_
        refine d_cVv (As := []) dX9_readsItem_58 zk_X9_155 (zq_87 _) (by decide) ⟨_, _, rfl⟩ rfl rfl (Nat.le_of_ble_eq_true rfl) (Nat.le_of_ble_eq_true rfl) rfl (zd_X9_readsSeam V d _) (fun r58 _ => ?_)
        exact d_retV dX9_readsItem_61 rfl
def f_X9_sorts_14 (K2 : Int32 → zS → Option (Unit × zS)) : Nat → Int32 → Int32 → zS → Option (Unit × zS)
  | 0, _, _, _ => none
  | n + 1, v1, v2, S => if (S.1 90 1) ≤ (v2 + 1) then (K2 (v1 + 1) S) else (if z_in (22 + v2) 74 then (if z_in (36 + v2) 74 then (if z_in ((22 + v2) + 1) 74 then (if z_in ((36 + v2) + 1) 74 then (if ((16 * (S.1 90 (22 + v2).toNatClampNeg)) + (S.1 90 (36 + v2).toNatClampNeg)) ≤ ((16 * (S.1 90 ((22 + v2) + 1).toNatClampNeg)) + (S.1 90 ((36 + v2) + 1).toNatClampNeg)) then (f_X9_sorts_14 K2 n v1 (v2 + 1) S) else (if z_in (22 + v2) 74 then (if z_in (36 + v2) 74 then (if z_in ((22 + v2) + 1) 74 then (if z_in (22 + v2) 74 then (if z_in ((36 + v2) + 1) 74 then (if z_in (36 + v2) 74 then (if z_in ((22 + v2) + 1) 74 then (if z_in ((36 + v2) + 1) 74 then (f_X9_sorts_14 K2 n v1 (v2 + 1) (z_w (z_w (z_w (z_w S 90 ((22 + v2).toNatClampNeg) (S.1 90 ((22 + v2) + 1).toNatClampNeg)) 90 ((36 + v2).toNatClampNeg) ((z_w S 90 ((22 + v2).toNatClampNeg) (S.1 90 ((22 + v2) + 1).toNatClampNeg)).1 90 ((36 + v2) + 1).toNatClampNeg)) 90 (((22 + v2) + 1).toNatClampNeg) (S.1 90 (22 + v2).toNatClampNeg)) 90 (((36 + v2) + 1).toNatClampNeg) (S.1 90 (36 + v2).toNatClampNeg))) else none) else none) else none) else none) else none) else none) else none) else none)) else none) else none) else none) else none)
set_option maxRecDepth 100000 in
set_option maxHeartbeats 4000000 in
theorem zd_X9_sorts_14 (V : zV) (d : Nat) {K2 : Int32 → zS → Option (Unit × zS)} (hK2 : ∀ (v1 : Int32) (S : zS), z_J zeV V mX9_sorts (d) (K2 v1 S) 2 [.ref 87, .int v1, .null, .null, .null] [] S) : ∀ (n : Nat) (v1 : Int32) (v2 : Int32) (S : zS), z_J zeV V mX9_sorts (d) (f_X9_sorts_14 K2 n v1 v2 S) 14 [.ref 87, .int v1, .int v2, .null, .null] [] S := by
  intro n
  induction n with
  | zero =>
    intro v1 v2 S r hr
    cases (show (none : Option (Unit × zS)) = some r from hr)
  | succ n ih =>
    intro v1 v2 S
    rw [f_X9_sorts_14]
    refine d_st (fun _ k => zg_iload_n dX9_sorts_14 rfl (zg_iconst 1 dX9_sorts_15 (by decide) (zg_iadd dX9_sorts_16 (zg_aload_n dX9_sorts_17 rfl (zs_getR dX9_sorts_18 zf_X9_16 rfl (zq_87 _) (by decide) (by decide) zr_87_10 (zg_iconst 1 dX9_sorts_21 (by decide) (zs_iald (j := 1) dX9_sorts_22 (by decide) (zq_90 _) (by decide) (by decide) k))))))) ?_
    refine d_br (fun _ => zg_icmp_ge 169 dX9_sorts_23 rfl) (fun c23 => ?_) (fun c23 => ?_)
    · refine d_st (fun _ k => zg_iinc (ls' := [_, _, _, _, _]) 1 dX9_sorts_169 rfl (by decide) (Nat.le_of_ble_eq_true rfl) rfl rfl (zg_goto 2 dX9_sorts_172 rfl k)) ?_
      exact d_fg (z_le_s (z_le_s (z_le_0 (z_le_0 (z_le_0 z_le_n))))) (hK2 _ _)
    · refine d_st (fun _ k => zg_bipush 16 dX9_sorts_26 (by decide) (zg_aload_n dX9_sorts_28 rfl (zs_getR dX9_sorts_29 zf_X9_16 rfl (zq_87 _) (by decide) (by decide) zr_87_10 (zg_bipush 22 dX9_sorts_32 (by decide) (zg_iload_n dX9_sorts_34 rfl (zg_iadd dX9_sorts_35 k)))))) ?_
      refine d_gd (fun g36 => ?_)
      refine d_st (fun _ k => zs_iald dX9_sorts_36 (by decide) (zq_90 _) g36 rfl k) ?_
      refine d_st (fun _ k => zg_imul dX9_sorts_37 (zg_aload_n dX9_sorts_38 rfl (zs_getR dX9_sorts_39 zf_X9_16 rfl (zq_87 _) (by decide) (by decide) zr_87_10 (zg_bipush 36 dX9_sorts_42 (by decide) (zg_iload_n dX9_sorts_44 rfl (zg_iadd dX9_sorts_45 k)))))) ?_
      refine d_gd (fun g46 => ?_)
      refine d_st (fun _ k => zs_iald dX9_sorts_46 (by decide) (zq_90 _) g46 rfl k) ?_
      refine d_st (fun _ k => zg_iadd dX9_sorts_47 (zg_bipush 16 dX9_sorts_48 (by decide) (zg_aload_n dX9_sorts_50 rfl (zs_getR dX9_sorts_51 zf_X9_16 rfl (zq_87 _) (by decide) (by decide) zr_87_10 (zg_bipush 22 dX9_sorts_54 (by decide) (zg_iload_n dX9_sorts_56 rfl (zg_iadd dX9_sorts_57 (zg_iconst 1 dX9_sorts_58 (by decide) (zg_iadd dX9_sorts_59 k))))))))) ?_
      refine d_gd (fun g60 => ?_)
      refine d_st (fun _ k => zs_iald dX9_sorts_60 (by decide) (zq_90 _) g60 rfl k) ?_
      refine d_st (fun _ k => zg_imul dX9_sorts_61 (zg_aload_n dX9_sorts_62 rfl (zs_getR dX9_sorts_63 zf_X9_16 rfl (zq_87 _) (by decide) (by decide) zr_87_10 (zg_bipush 36 dX9_sorts_66 (by decide) (zg_iload_n dX9_sorts_68 rfl (zg_iadd dX9_sorts_69 (zg_iconst 1 dX9_sorts_70 (by decide) (zg_iadd dX9_sorts_71 k)))))))) ?_
      refine d_gd (fun g72 => ?_)
      refine d_st (fun _ k => zs_iald dX9_sorts_72 (by decide) (zq_90 _) g72 rfl k) ?_
      refine d_st (fun _ k => zg_iadd dX9_sorts_73 k) ?_
      refine d_br (fun _ => zg_icmp_le 163 dX9_sorts_74 rfl) (fun c74 => ?_) (fun c74 => ?_)
      · refine d_st (fun _ k => zg_iinc (ls' := [_, _, _, _, _]) 1 dX9_sorts_163 rfl (by decide) (Nat.le_of_ble_eq_true rfl) rfl rfl (zg_goto 14 dX9_sorts_166 rfl k)) ?_
        exact d_fg (z_le_s (z_le_s (z_le_s (z_le_0 (z_le_0 z_le_n))))) (ih _ _ _)
      · refine d_st (fun _ k => zg_aload_n dX9_sorts_77 rfl (zs_getR dX9_sorts_78 zf_X9_16 rfl (zq_87 _) (by decide) (by decide) zr_87_10 (zg_bipush 22 dX9_sorts_81 (by decide) (zg_iload_n dX9_sorts_83 rfl (zg_iadd dX9_sorts_84 k))))) ?_
        refine d_gd (fun g85 => ?_)
        refine d_st (fun _ k => zs_iald dX9_sorts_85 (by decide) (zq_90 _) g85 rfl k) ?_
        refine d_st (fun _ k => zg_istore_n (ls' := [_, _, _, _, _]) dX9_sorts_86 (Nat.le_of_ble_eq_true rfl) rfl rfl (zg_aload_n dX9_sorts_87 rfl (zs_getR dX9_sorts_88 zf_X9_16 rfl (zq_87 _) (by decide) (by decide) zr_87_10 (zg_bipush 36 dX9_sorts_91 (by decide) (zg_iload_n dX9_sorts_93 rfl (zg_iadd dX9_sorts_94 k)))))) ?_
        refine d_gd (fun g95 => ?_)
        refine d_st (fun _ k => zs_iald dX9_sorts_95 (by decide) (zq_90 _) g95 rfl k) ?_
        refine d_st (fun _ k => zg_istore (ls' := [_, _, _, _, _]) dX9_sorts_96 (Nat.le_of_ble_eq_true rfl) rfl rfl (zg_aload_n dX9_sorts_98 rfl (zs_getR dX9_sorts_99 zf_X9_16 rfl (zq_87 _) (by decide) (by decide) zr_87_10 (zg_bipush 22 dX9_sorts_102 (by decide) (zg_iload_n dX9_sorts_104 rfl (zg_iadd dX9_sorts_105 (zg_aload_n dX9_sorts_106 rfl (zs_getR dX9_sorts_107 zf_X9_16 rfl (zq_87 _) (by decide) (by decide) zr_87_10 (zg_bipush 22 dX9_sorts_110 (by decide) (zg_iload_n dX9_sorts_112 rfl (zg_iadd dX9_sorts_113 (zg_iconst 1 dX9_sorts_114 (by decide) (zg_iadd dX9_sorts_115 k))))))))))))) ?_
        refine d_gd (fun g116 => ?_)
        refine d_st (fun _ k => zs_iald dX9_sorts_116 (by decide) (zq_90 _) g116 rfl k) ?_
        refine d_gd (fun g117 => ?_)
        refine d_st (fun _ k => zs_iast dX9_sorts_117 (by decide) (zq_90 _) g117 rfl k) ?_
        refine d_st (fun _ k => zg_aload_n dX9_sorts_118 rfl (zs_getR dX9_sorts_119 zf_X9_16 rfl (zq_87 _) (by decide) (by decide) zr_87_10 (zg_bipush 36 dX9_sorts_122 (by decide) (zg_iload_n dX9_sorts_124 rfl (zg_iadd dX9_sorts_125 (zg_aload_n dX9_sorts_126 rfl (zs_getR dX9_sorts_127 zf_X9_16 rfl (zq_87 _) (by decide) (by decide) zr_87_10 (zg_bipush 36 dX9_sorts_130 (by decide) (zg_iload_n dX9_sorts_132 rfl (zg_iadd dX9_sorts_133 (zg_iconst 1 dX9_sorts_134 (by decide) (zg_iadd dX9_sorts_135 k)))))))))))) ?_
        refine d_gd (fun g136 => ?_)
        refine d_st (fun _ k => zs_iald dX9_sorts_136 (by decide) (zq_90 _) g136 rfl k) ?_
        refine d_gd (fun g137 => ?_)
        refine d_st (fun _ k => zs_iast dX9_sorts_137 (by decide) (zq_90 _) g137 rfl k) ?_
        refine d_st (fun _ k => zg_aload_n dX9_sorts_138 rfl (zs_getR dX9_sorts_139 zf_X9_16 rfl (zq_87 _) (by decide) (by decide) zr_87_10 (zg_bipush 22 dX9_sorts_142 (by decide) (zg_iload_n dX9_sorts_144 rfl (zg_iadd dX9_sorts_145 (zg_iconst 1 dX9_sorts_146 (by decide) (zg_iadd dX9_sorts_147 (zg_iload_n dX9_sorts_148 rfl k)))))))) ?_
        refine d_gd (fun g149 => ?_)
        refine d_st (fun _ k => zs_iast dX9_sorts_149 (by decide) (zq_90 _) g149 rfl k) ?_
        refine d_st (fun _ k => zg_aload_n dX9_sorts_150 rfl (zs_getR dX9_sorts_151 zf_X9_16 rfl (zq_87 _) (by decide) (by decide) zr_87_10 (zg_bipush 36 dX9_sorts_154 (by decide) (zg_iload_n dX9_sorts_156 rfl (zg_iadd dX9_sorts_157 (zg_iconst 1 dX9_sorts_158 (by decide) (zg_iadd dX9_sorts_159 (zg_iload dX9_sorts_160 rfl k)))))))) ?_
        refine d_gd (fun g162 => ?_)
        refine d_st (fun _ k => zs_iast dX9_sorts_162 (by decide) (zq_90 _) g162 rfl k) ?_
        refine d_st (fun _ k => zg_iinc (ls' := [_, _, _, _, _]) 1 dX9_sorts_163 rfl (by decide) (Nat.le_of_ble_eq_true rfl) rfl rfl (zg_goto 14 dX9_sorts_166 rfl k)) ?_
        exact d_fg (z_le_s (z_le_s (z_le_s (z_le_0 (z_le_0 z_le_n))))) (ih _ _ _)
def f_X9_sorts_2 : Nat → Int32 → zS → Option (Unit × zS)
  | 0, _, _ => none
  | n + 1, v1, S => if (S.1 90 1) ≤ v1 then (some ((), S)) else (f_X9_sorts_14 (f_X9_sorts_2 n) 1000 v1 0 S)
set_option maxRecDepth 100000 in
set_option maxHeartbeats 4000000 in
theorem zd_X9_sorts_2 (V : zV) (d : Nat) : ∀ (n : Nat) (v1 : Int32) (S : zS), z_J zeV V mX9_sorts (d) (f_X9_sorts_2 n v1 S) 2 [.ref 87, .int v1, .null, .null, .null] [] S := by
  intro n
  induction n with
  | zero =>
    intro v1 S r hr
    cases (show (none : Option (Unit × zS)) = some r from hr)
  | succ n ih =>
    intro v1 S
    rw [f_X9_sorts_2]
    refine d_st (fun _ k => zg_iload_n dX9_sorts_2 rfl (zg_aload_n dX9_sorts_3 rfl (zs_getR dX9_sorts_4 zf_X9_16 rfl (zq_87 _) (by decide) (by decide) zr_87_10 (zg_iconst 1 dX9_sorts_7 (by decide) (zs_iald (j := 1) dX9_sorts_8 (by decide) (zq_90 _) (by decide) (by decide) k))))) ?_
    refine d_br (fun _ => zg_icmp_ge 175 dX9_sorts_9 rfl) (fun c9 => ?_) (fun c9 => ?_)
    · exact d_retV dX9_sorts_175 rfl
    · refine d_st (fun _ k => zg_iconst 0 dX9_sorts_12 (by decide) (zg_istore_n (ls' := [_, _, _, _, _]) dX9_sorts_13 (Nat.le_of_ble_eq_true rfl) rfl rfl k)) ?_
      exact d_fg (z_le_s (z_le_s (z_le_s (z_le_0 (z_le_0 z_le_n))))) (zd_X9_sorts_14 V d ih 1000 _ _ _)
def f_X9_sorts (S : zS) : Option (Unit × zS) := f_X9_sorts_2 1000 0 S
set_option maxRecDepth 100000 in
set_option maxHeartbeats 4000000 in
theorem zd_X9_sorts (V : zV) (d : Nat) : ∀ (S : zS), z_J zeV V mX9_sorts (d) (f_X9_sorts  S) 0 (z_ent mX9_sorts [.ref 87]) [] S := by
  intro S
  show z_J zeV V mX9_sorts (d) (f_X9_sorts  S) 0 [.ref 87, .null, .null, .null, .null] [] S
  unfold f_X9_sorts
  refine d_st (fun _ k => zg_iconst 0 dX9_sorts_0 (by decide) (zg_istore_n (ls' := [_, _, _, _, _]) dX9_sorts_1 (Nat.le_of_ble_eq_true rfl) rfl rfl k)) ?_
  exact d_fg (z_le_s (z_le_s (z_le_0 (z_le_0 (z_le_0 z_le_n))))) (zd_X9_sorts_2 V d 1000 _ _)
def f_X9_ringAt (a1 : Int32) (a2 : Int32) (S : zS) : Option (Int32 × zS) := if z_in (50 + a1) 74 then (if S.1 89 (50 + a1).toNatClampNeg = 0 then none else if z_in ((54 + (5 * a1)) + (a2 - a2 / (S.1 89 (50 + a1).toNatClampNeg) * (S.1 89 (50 + a1).toNatClampNeg))) 74 then (some (S.1 89 ((54 + (5 * a1)) + (a2 - a2 / (S.1 89 (50 + a1).toNatClampNeg) * (S.1 89 (50 + a1).toNatClampNeg))).toNatClampNeg, S)) else none) else none
set_option maxRecDepth 100000 in
set_option maxHeartbeats 4000000 in
theorem zd_X9_ringAt (V : zV) (d : Nat) : ∀ (a1 : Int32) (a2 : Int32) (S : zS), z_J zeI V mX9_ringAt (d) (f_X9_ringAt a1 a2 S) 0 (z_ent mX9_ringAt [.ref 87, .int a1, .int a2]) [] S := by
  intro a1 a2 S
  show z_J zeI V mX9_ringAt (d) (f_X9_ringAt a1 a2 S) 0 [.ref 87, .int a1, .int a2] [] S
  unfold f_X9_ringAt
  refine d_st (fun _ k => zg_aload_n dX9_ringAt_0 rfl (zs_getR dX9_ringAt_1 zf_X9_13 rfl (zq_87 _) (by decide) (by decide) zr_87_9 (zg_bipush 54 dX9_ringAt_4 (by decide) (zg_iconst 5 dX9_ringAt_6 (by decide) (zg_iload_n dX9_ringAt_7 rfl (zg_imul dX9_ringAt_8 (zg_iadd dX9_ringAt_9 (zg_iload_n dX9_ringAt_10 rfl (zg_aload_n dX9_ringAt_11 rfl (zs_getR dX9_ringAt_12 zf_X9_13 rfl (zq_87 _) (by decide) (by decide) zr_87_9 (zg_bipush 50 dX9_ringAt_15 (by decide) (zg_iload_n dX9_ringAt_17 rfl (zg_iadd dX9_ringAt_18 k))))))))))))) ?_
  refine d_gd (fun g19 => ?_)
  refine d_st (fun _ k => zs_iald dX9_ringAt_19 (by decide) (zq_89 _) g19 rfl k) ?_
  refine d_no (fun g20 => ?_)
  refine d_st (fun _ k => zg_irem dX9_ringAt_20 g20 k) ?_
  refine d_st (fun _ k => zg_iadd dX9_ringAt_21 k) ?_
  refine d_gd (fun g22 => ?_)
  refine d_st (fun _ k => zs_iald dX9_ringAt_22 (by decide) (zq_89 _) g22 rfl k) ?_
  exact d_retI dX9_ringAt_23 rfl
def f_X9_side (a1 : Int32) (a2 : Int32) (a3 : Int32) (S : zS) : Option (Int32 × zS) := if z_in (4 + a2) 74 then (if z_in (4 + a1) 74 then (if z_in (13 + a3) 74 then (if z_in (13 + a1) 74 then (if z_in (4 + a3) 74 then (if z_in (4 + a1) 74 then (if z_in (13 + a2) 74 then (if z_in (13 + a1) 74 then (some ((((S.1 89 (4 + a2).toNatClampNeg) - (S.1 89 (4 + a1).toNatClampNeg)) * ((S.1 89 (13 + a3).toNatClampNeg) - (S.1 89 (13 + a1).toNatClampNeg))) - (((S.1 89 (4 + a3).toNatClampNeg) - (S.1 89 (4 + a1).toNatClampNeg)) * ((S.1 89 (13 + a2).toNatClampNeg) - (S.1 89 (13 + a1).toNatClampNeg))), S)) else none) else none) else none) else none) else none) else none) else none) else none
set_option maxRecDepth 100000 in
set_option maxHeartbeats 4000000 in
theorem zd_X9_side (V : zV) (d : Nat) : ∀ (a1 : Int32) (a2 : Int32) (a3 : Int32) (S : zS), z_J zeI V mX9_side (d) (f_X9_side a1 a2 a3 S) 0 (z_ent mX9_side [.ref 87, .int a1, .int a2, .int a3]) [] S := by
  intro a1 a2 a3 S
  show z_J zeI V mX9_side (d) (f_X9_side a1 a2 a3 S) 0 [.ref 87, .int a1, .int a2, .int a3] [] S
  unfold f_X9_side
  refine d_st (fun _ k => zg_aload_n dX9_side_0 rfl (zs_getR dX9_side_1 zf_X9_13 rfl (zq_87 _) (by decide) (by decide) zr_87_9 (zg_iconst 4 dX9_side_4 (by decide) (zg_iload_n dX9_side_5 rfl (zg_iadd dX9_side_6 k))))) ?_
  refine d_gd (fun g7 => ?_)
  refine d_st (fun _ k => zs_iald dX9_side_7 (by decide) (zq_89 _) g7 rfl k) ?_
  refine d_st (fun _ k => zg_aload_n dX9_side_8 rfl (zs_getR dX9_side_9 zf_X9_13 rfl (zq_87 _) (by decide) (by decide) zr_87_9 (zg_iconst 4 dX9_side_12 (by decide) (zg_iload_n dX9_side_13 rfl (zg_iadd dX9_side_14 k))))) ?_
  refine d_gd (fun g15 => ?_)
  refine d_st (fun _ k => zs_iald dX9_side_15 (by decide) (zq_89 _) g15 rfl k) ?_
  refine d_st (fun _ k => zg_isub dX9_side_16 (zg_aload_n dX9_side_17 rfl (zs_getR dX9_side_18 zf_X9_13 rfl (zq_87 _) (by decide) (by decide) zr_87_9 (zg_bipush 13 dX9_side_21 (by decide) (zg_iload_n dX9_side_23 rfl (zg_iadd dX9_side_24 k)))))) ?_
  refine d_gd (fun g25 => ?_)
  refine d_st (fun _ k => zs_iald dX9_side_25 (by decide) (zq_89 _) g25 rfl k) ?_
  refine d_st (fun _ k => zg_aload_n dX9_side_26 rfl (zs_getR dX9_side_27 zf_X9_13 rfl (zq_87 _) (by decide) (by decide) zr_87_9 (zg_bipush 13 dX9_side_30 (by decide) (zg_iload_n dX9_side_32 rfl (zg_iadd dX9_side_33 k))))) ?_
  refine d_gd (fun g34 => ?_)
  refine d_st (fun _ k => zs_iald dX9_side_34 (by decide) (zq_89 _) g34 rfl k) ?_
  refine d_st (fun _ k => zg_isub dX9_side_35 (zg_imul dX9_side_36 (zg_aload_n dX9_side_37 rfl (zs_getR dX9_side_38 zf_X9_13 rfl (zq_87 _) (by decide) (by decide) zr_87_9 (zg_iconst 4 dX9_side_41 (by decide) (zg_iload_n dX9_side_42 rfl (zg_iadd dX9_side_43 k))))))) ?_
  refine d_gd (fun g44 => ?_)
  refine d_st (fun _ k => zs_iald dX9_side_44 (by decide) (zq_89 _) g44 rfl k) ?_
  refine d_st (fun _ k => zg_aload_n dX9_side_45 rfl (zs_getR dX9_side_46 zf_X9_13 rfl (zq_87 _) (by decide) (by decide) zr_87_9 (zg_iconst 4 dX9_side_49 (by decide) (zg_iload_n dX9_side_50 rfl (zg_iadd dX9_side_51 k))))) ?_
  refine d_gd (fun g52 => ?_)
  refine d_st (fun _ k => zs_iald dX9_side_52 (by decide) (zq_89 _) g52 rfl k) ?_
  refine d_st (fun _ k => zg_isub dX9_side_53 (zg_aload_n dX9_side_54 rfl (zs_getR dX9_side_55 zf_X9_13 rfl (zq_87 _) (by decide) (by decide) zr_87_9 (zg_bipush 13 dX9_side_58 (by decide) (zg_iload_n dX9_side_60 rfl (zg_iadd dX9_side_61 k)))))) ?_
  refine d_gd (fun g62 => ?_)
  refine d_st (fun _ k => zs_iald dX9_side_62 (by decide) (zq_89 _) g62 rfl k) ?_
  refine d_st (fun _ k => zg_aload_n dX9_side_63 rfl (zs_getR dX9_side_64 zf_X9_13 rfl (zq_87 _) (by decide) (by decide) zr_87_9 (zg_bipush 13 dX9_side_67 (by decide) (zg_iload_n dX9_side_69 rfl (zg_iadd dX9_side_70 k))))) ?_
  refine d_gd (fun g71 => ?_)
  refine d_st (fun _ k => zs_iald dX9_side_71 (by decide) (zq_89 _) g71 rfl k) ?_
  refine d_st (fun _ k => zg_isub dX9_side_72 (zg_imul dX9_side_73 (zg_isub dX9_side_74 k))) ?_
  exact d_retI dX9_side_75 rfl
def f_X9_isOn_138 (v1 : Int32) (v2 : Int32) (v3 : Int32) (v4 : Int32) (t0 : Int32) (S : zS) : Option (Int32 × zS) := if v4 = 0 then (some (0, S)) else (if t0 = 0 then (some (0, S)) else ((f_X9_side v1 v2 v3 S).bind (fun r154 => if r154.1 = 0 then (some (1, r154.2)) else (some (0, r154.2)))))
set_option maxRecDepth 100000 in
set_option maxHeartbeats 4000000 in
theorem zd_X9_isOn_138 (V : zV) (d : Nat) : ∀ (v1 : Int32) (v2 : Int32) (v3 : Int32) (v4 : Int32) (t0 : Int32) (S : zS), z_J zeI V mX9_isOn (d + 1) (f_X9_isOn_138 v1 v2 v3 v4 t0 S) 138 [.ref 87, .int v1, .int v2, .int v3, .int v4, .null] [.int t0] S := by
  intro v1 v2 v3 v4 t0 S
  unfold f_X9_isOn_138
  refine d_st (fun _ k => zg_istore (ls' := [_, _, _, _, _, _]) dX9_isOn_138 (Nat.le_of_ble_eq_true rfl) rfl rfl (zg_iload dX9_isOn_140 rfl k)) ?_
  refine d_br (fun _ => zg_if_eq 164 dX9_isOn_142 rfl) (fun c142 => ?_) (fun c142 => ?_)
  · refine d_st (fun _ k => zg_iconst 0 dX9_isOn_164 (by decide) k) ?_
    exact d_retZ dX9_isOn_165 rfl (by decide)
  · refine d_st (fun _ k => zg_iload dX9_isOn_145 rfl k) ?_
    refine d_br (fun _ => zg_if_eq 164 dX9_isOn_147 rfl) (fun c147 => ?_) (fun c147 => ?_)
    · refine d_st (fun _ k => zg_iconst 0 dX9_isOn_164 (by decide) k) ?_
      exact d_retZ dX9_isOn_165 rfl (by decide)
    · refine d_st (fun _ k => zg_aload_n dX9_isOn_150 rfl (zg_iload_n dX9_isOn_151 rfl (zg_iload_n dX9_isOn_152 rfl (zg_iload_n dX9_isOn_153 rfl k)))) ?_
      refine d_cVi (As := [_, _, _]) dX9_isOn_154 zk_X9_177 (zq_87 _) (by decide) ⟨_, _, rfl⟩ rfl rfl (Nat.le_of_ble_eq_true rfl) (Nat.le_of_ble_eq_true rfl) rfl (zd_X9_side V d _ _ _ _) (fun r154 _ => ?_)
      refine d_br (fun _ => zg_if_ne 164 dX9_isOn_157 rfl) (fun c157 => ?_) (fun c157 => ?_)
      · refine d_st (fun _ k => zg_iconst 1 dX9_isOn_160 (by decide) (zg_goto 165 dX9_isOn_161 rfl k)) ?_
        exact d_retZ dX9_isOn_165 rfl (by decide)
      · refine d_st (fun _ k => zg_iconst 0 dX9_isOn_164 (by decide) k) ?_
        exact d_retZ dX9_isOn_165 rfl (by decide)
def f_X9_isOn_65 (v1 : Int32) (v2 : Int32) (v3 : Int32) (t0 : Int32) (S : zS) : Option (Int32 × zS) := if z_in (13 + v3) 74 then (if z_in (13 + v1) 74 then (if z_in (13 + v2) 74 then ((f_X9_in (S.1 89 (13 + v3).toNatClampNeg) (S.1 89 (13 + v1).toNatClampNeg) (S.1 89 (13 + v2).toNatClampNeg) S).bind (fun r94 => if r94.1 = 0 then (if z_in (13 + v3) 74 then (if z_in (13 + v2) 74 then (if z_in (13 + v1) 74 then ((f_X9_in (r94.2.1 89 (13 + v3).toNatClampNeg) (r94.2.1 89 (13 + v2).toNatClampNeg) (r94.2.1 89 (13 + v1).toNatClampNeg) r94.2).bind (fun r127 => if r127.1 = 0 then (f_X9_isOn_138 v1 v2 v3 t0 0 r127.2) else (f_X9_isOn_138 v1 v2 v3 t0 1 r127.2))) else none) else none) else none) else (f_X9_isOn_138 v1 v2 v3 t0 1 r94.2))) else none) else none) else none
set_option maxRecDepth 100000 in
set_option maxHeartbeats 4000000 in
theorem zd_X9_isOn_65 (V : zV) (d : Nat) : ∀ (v1 : Int32) (v2 : Int32) (v3 : Int32) (t0 : Int32) (S : zS), z_J zeI V mX9_isOn (d + 1) (f_X9_isOn_65 v1 v2 v3 t0 S) 65 [.ref 87, .int v1, .int v2, .int v3, .null, .null] [.int t0] S := by
  intro v1 v2 v3 t0 S
  unfold f_X9_isOn_65
  refine d_st (fun _ k => zg_istore (ls' := [_, _, _, _, _, _]) dX9_isOn_65 (Nat.le_of_ble_eq_true rfl) rfl rfl (zg_aload_n dX9_isOn_67 rfl (zs_getR dX9_isOn_68 zf_X9_13 rfl (zq_87 _) (by decide) (by decide) zr_87_9 (zg_bipush 13 dX9_isOn_71 (by decide) (zg_iload_n dX9_isOn_73 rfl (zg_iadd dX9_isOn_74 k)))))) ?_
  refine d_gd (fun g75 => ?_)
  refine d_st (fun _ k => zs_iald dX9_isOn_75 (by decide) (zq_89 _) g75 rfl k) ?_
  refine d_st (fun _ k => zg_aload_n dX9_isOn_76 rfl (zs_getR dX9_isOn_77 zf_X9_13 rfl (zq_87 _) (by decide) (by decide) zr_87_9 (zg_bipush 13 dX9_isOn_80 (by decide) (zg_iload_n dX9_isOn_82 rfl (zg_iadd dX9_isOn_83 k))))) ?_
  refine d_gd (fun g84 => ?_)
  refine d_st (fun _ k => zs_iald dX9_isOn_84 (by decide) (zq_89 _) g84 rfl k) ?_
  refine d_st (fun _ k => zg_aload_n dX9_isOn_85 rfl (zs_getR dX9_isOn_86 zf_X9_13 rfl (zq_87 _) (by decide) (by decide) zr_87_9 (zg_bipush 13 dX9_isOn_89 (by decide) (zg_iload_n dX9_isOn_91 rfl (zg_iadd dX9_isOn_92 k))))) ?_
  refine d_gd (fun g93 => ?_)
  refine d_st (fun _ k => zs_iald dX9_isOn_93 (by decide) (zq_89 _) g93 rfl k) ?_
  refine d_cSi (As := [_, _, _]) dX9_isOn_94 zk_X9_88 rfl rfl (Nat.le_of_ble_eq_true rfl) (Nat.le_of_ble_eq_true rfl) rfl (zd_X9_in V d _ _ _ _) (fun r94 _ => ?_)
  refine d_br (fun _ => zg_if_ne 133 dX9_isOn_97 rfl) (fun c97 => ?_) (fun c97 => ?_)
  · refine d_st (fun _ k => zg_aload_n dX9_isOn_100 rfl (zs_getR dX9_isOn_101 zf_X9_13 rfl (zq_87 _) (by decide) (by decide) zr_87_9 (zg_bipush 13 dX9_isOn_104 (by decide) (zg_iload_n dX9_isOn_106 rfl (zg_iadd dX9_isOn_107 k))))) ?_
    refine d_gd (fun g108 => ?_)
    refine d_st (fun _ k => zs_iald dX9_isOn_108 (by decide) (zq_89 _) g108 rfl k) ?_
    refine d_st (fun _ k => zg_aload_n dX9_isOn_109 rfl (zs_getR dX9_isOn_110 zf_X9_13 rfl (zq_87 _) (by decide) (by decide) zr_87_9 (zg_bipush 13 dX9_isOn_113 (by decide) (zg_iload_n dX9_isOn_115 rfl (zg_iadd dX9_isOn_116 k))))) ?_
    refine d_gd (fun g117 => ?_)
    refine d_st (fun _ k => zs_iald dX9_isOn_117 (by decide) (zq_89 _) g117 rfl k) ?_
    refine d_st (fun _ k => zg_aload_n dX9_isOn_118 rfl (zs_getR dX9_isOn_119 zf_X9_13 rfl (zq_87 _) (by decide) (by decide) zr_87_9 (zg_bipush 13 dX9_isOn_122 (by decide) (zg_iload_n dX9_isOn_124 rfl (zg_iadd dX9_isOn_125 k))))) ?_
    refine d_gd (fun g126 => ?_)
    refine d_st (fun _ k => zs_iald dX9_isOn_126 (by decide) (zq_89 _) g126 rfl k) ?_
    refine d_cSi (As := [_, _, _]) dX9_isOn_127 zk_X9_88 rfl rfl (Nat.le_of_ble_eq_true rfl) (Nat.le_of_ble_eq_true rfl) rfl (zd_X9_in V d _ _ _ _) (fun r127 _ => ?_)
    refine d_br (fun _ => zg_if_eq 137 dX9_isOn_130 rfl) (fun c130 => ?_) (fun c130 => ?_)
    · refine d_st (fun _ k => zg_iconst 0 dX9_isOn_137 (by decide) k) ?_
      exact d_fg (z_le_s (z_le_s (z_le_s (z_le_s (z_le_s (z_le_0 z_le_n)))))) (zd_X9_isOn_138 V d _ _ _ _ _ _)
    · refine d_st (fun _ k => zg_iconst 1 dX9_isOn_133 (by decide) (zg_goto 138 dX9_isOn_134 rfl k)) ?_
      exact d_fg (z_le_s (z_le_s (z_le_s (z_le_s (z_le_s (z_le_0 z_le_n)))))) (zd_X9_isOn_138 V d _ _ _ _ _ _)
  · refine d_st (fun _ k => zg_iconst 1 dX9_isOn_133 (by decide) (zg_goto 138 dX9_isOn_134 rfl k)) ?_
    exact d_fg (z_le_s (z_le_s (z_le_s (z_le_s (z_le_s (z_le_0 z_le_n)))))) (zd_X9_isOn_138 V d _ _ _ _ _ _)
def f_X9_isOn (a1 : Int32) (a2 : Int32) (a3 : Int32) (S : zS) : Option (Int32 × zS) := if z_in (4 + a3) 74 then (if z_in (4 + a1) 74 then (if z_in (4 + a2) 74 then ((f_X9_in (S.1 89 (4 + a3).toNatClampNeg) (S.1 89 (4 + a1).toNatClampNeg) (S.1 89 (4 + a2).toNatClampNeg) S).bind (fun r24 => if r24.1 = 0 then (if z_in (4 + a3) 74 then (if z_in (4 + a2) 74 then (if z_in (4 + a1) 74 then ((f_X9_in (r24.2.1 89 (4 + a3).toNatClampNeg) (r24.2.1 89 (4 + a2).toNatClampNeg) (r24.2.1 89 (4 + a1).toNatClampNeg) r24.2).bind (fun r54 => if r54.1 = 0 then (f_X9_isOn_65 a1 a2 a3 0 r54.2) else (f_X9_isOn_65 a1 a2 a3 1 r54.2))) else none) else none) else none) else (f_X9_isOn_65 a1 a2 a3 1 r24.2))) else none) else none) else none
set_option maxRecDepth 100000 in
set_option maxHeartbeats 4000000 in
theorem zd_X9_isOn (V : zV) (d : Nat) : ∀ (a1 : Int32) (a2 : Int32) (a3 : Int32) (S : zS), z_J zeI V mX9_isOn (d + 1) (f_X9_isOn a1 a2 a3 S) 0 (z_ent mX9_isOn [.ref 87, .int a1, .int a2, .int a3]) [] S := by
  intro a1 a2 a3 S
  show z_J zeI V mX9_isOn (d + 1) (f_X9_isOn a1 a2 a3 S) 0 [.ref 87, .int a1, .int a2, .int a3, .null, .null] [] S
  unfold f_X9_isOn
  refine d_st (fun _ k => zg_aload_n dX9_isOn_0 rfl (zs_getR dX9_isOn_1 zf_X9_13 rfl (zq_87 _) (by decide) (by decide) zr_87_9 (zg_iconst 4 dX9_isOn_4 (by decide) (zg_iload_n dX9_isOn_5 rfl (zg_iadd dX9_isOn_6 k))))) ?_
  refine d_gd (fun g7 => ?_)
  refine d_st (fun _ k => zs_iald dX9_isOn_7 (by decide) (zq_89 _) g7 rfl k) ?_
  refine d_st (fun _ k => zg_aload_n dX9_isOn_8 rfl (zs_getR dX9_isOn_9 zf_X9_13 rfl (zq_87 _) (by decide) (by decide) zr_87_9 (zg_iconst 4 dX9_isOn_12 (by decide) (zg_iload_n dX9_isOn_13 rfl (zg_iadd dX9_isOn_14 k))))) ?_
  refine d_gd (fun g15 => ?_)
  refine d_st (fun _ k => zs_iald dX9_isOn_15 (by decide) (zq_89 _) g15 rfl k) ?_
  refine d_st (fun _ k => zg_aload_n dX9_isOn_16 rfl (zs_getR dX9_isOn_17 zf_X9_13 rfl (zq_87 _) (by decide) (by decide) zr_87_9 (zg_iconst 4 dX9_isOn_20 (by decide) (zg_iload_n dX9_isOn_21 rfl (zg_iadd dX9_isOn_22 k))))) ?_
  refine d_gd (fun g23 => ?_)
  refine d_st (fun _ k => zs_iald dX9_isOn_23 (by decide) (zq_89 _) g23 rfl k) ?_
  refine d_cSi (As := [_, _, _]) dX9_isOn_24 zk_X9_88 rfl rfl (Nat.le_of_ble_eq_true rfl) (Nat.le_of_ble_eq_true rfl) rfl (zd_X9_in V d _ _ _ _) (fun r24 _ => ?_)
  refine d_br (fun _ => zg_if_ne 60 dX9_isOn_27 rfl) (fun c27 => ?_) (fun c27 => ?_)
  · refine d_st (fun _ k => zg_aload_n dX9_isOn_30 rfl (zs_getR dX9_isOn_31 zf_X9_13 rfl (zq_87 _) (by decide) (by decide) zr_87_9 (zg_iconst 4 dX9_isOn_34 (by decide) (zg_iload_n dX9_isOn_35 rfl (zg_iadd dX9_isOn_36 k))))) ?_
    refine d_gd (fun g37 => ?_)
    refine d_st (fun _ k => zs_iald dX9_isOn_37 (by decide) (zq_89 _) g37 rfl k) ?_
    refine d_st (fun _ k => zg_aload_n dX9_isOn_38 rfl (zs_getR dX9_isOn_39 zf_X9_13 rfl (zq_87 _) (by decide) (by decide) zr_87_9 (zg_iconst 4 dX9_isOn_42 (by decide) (zg_iload_n dX9_isOn_43 rfl (zg_iadd dX9_isOn_44 k))))) ?_
    refine d_gd (fun g45 => ?_)
    refine d_st (fun _ k => zs_iald dX9_isOn_45 (by decide) (zq_89 _) g45 rfl k) ?_
    refine d_st (fun _ k => zg_aload_n dX9_isOn_46 rfl (zs_getR dX9_isOn_47 zf_X9_13 rfl (zq_87 _) (by decide) (by decide) zr_87_9 (zg_iconst 4 dX9_isOn_50 (by decide) (zg_iload_n dX9_isOn_51 rfl (zg_iadd dX9_isOn_52 k))))) ?_
    refine d_gd (fun g53 => ?_)
    refine d_st (fun _ k => zs_iald dX9_isOn_53 (by decide) (zq_89 _) g53 rfl k) ?_
    refine d_cSi (As := [_, _, _]) dX9_isOn_54 zk_X9_88 rfl rfl (Nat.le_of_ble_eq_true rfl) (Nat.le_of_ble_eq_true rfl) rfl (zd_X9_in V d _ _ _ _) (fun r54 _ => ?_)
    refine d_br (fun _ => zg_if_eq 64 dX9_isOn_57 rfl) (fun c57 => ?_) (fun c57 => ?_)
    · refine d_st (fun _ k => zg_iconst 0 dX9_isOn_64 (by decide) k) ?_
      exact d_fg (z_le_s (z_le_s (z_le_s (z_le_s (z_le_0 (z_le_0 z_le_n)))))) (zd_X9_isOn_65 V d _ _ _ _ _)
    · refine d_st (fun _ k => zg_iconst 1 dX9_isOn_60 (by decide) (zg_goto 65 dX9_isOn_61 rfl k)) ?_
      exact d_fg (z_le_s (z_le_s (z_le_s (z_le_s (z_le_0 (z_le_0 z_le_n)))))) (zd_X9_isOn_65 V d _ _ _ _ _)
  · refine d_st (fun _ k => zg_iconst 1 dX9_isOn_60 (by decide) (zg_goto 65 dX9_isOn_61 rfl k)) ?_
    exact d_fg (z_le_s (z_le_s (z_le_s (z_le_s (z_le_0 (z_le_0 z_le_n)))))) (zd_X9_isOn_65 V d _ _ _ _ _)
def f_X9_isWithin_153 (K13 : Int32 → Int32 → Int32 → Int32 → zS → Option (Int32 × zS)) (v2 : Int32) (v3 : Int32) (v5 : Int32) (v6 : Int32) (v7 : Int32) (v8 : Int32) (v9 : Int32) (t0 : Int32) (S : zS) : Option (Int32 × zS) := if v8 = 0 then (if v9 = 0 then (K13 v2 v3 (t0 + 0) (v5 + 1) S) else ((f_X9_side v6 v7 v3 S).bind (fun r169 => if 0 ≤ r169.1 then (K13 v2 v3 (t0 + 0) (v5 + 1) r169.2) else (K13 v2 v3 (t0 + (-1)) (v5 + 1) r169.2)))) else (K13 v2 v3 (t0 + 0) (v5 + 1) S)
set_option maxRecDepth 100000 in
set_option maxHeartbeats 4000000 in
theorem zd_X9_isWithin_153 (V : zV) (d : Nat) {K13 : Int32 → Int32 → Int32 → Int32 → zS → Option (Int32 × zS)} (hK13 : ∀ (v2 : Int32) (v3 : Int32) (v4 : Int32) (v5 : Int32) (S : zS), z_J zeI V mX9_isWithin (d + 2) (K13 v2 v3 v4 v5 S) 13 [.ref 87, .null, .int v2, .int v3, .int v4, .int v5, .null, .null, .null, .null] [] S) : ∀ (v2 : Int32) (v3 : Int32) (v5 : Int32) (v6 : Int32) (v7 : Int32) (v8 : Int32) (v9 : Int32) (t0 : Int32) (S : zS), z_J zeI V mX9_isWithin (d + 2) (f_X9_isWithin_153 K13 v2 v3 v5 v6 v7 v8 v9 t0 S) 153 [.ref 87, .null, .int v2, .int v3, .null, .int v5, .int v6, .int v7, .int v8, .int v9] [.int t0] S := by
  intro v2 v3 v5 v6 v7 v8 v9 t0 S
  unfold f_X9_isWithin_153
  refine d_st (fun _ k => zg_iload dX9_isWithin_153 rfl k) ?_
  refine d_br (fun _ => zg_if_ne 179 dX9_isWithin_155 rfl) (fun c155 => ?_) (fun c155 => ?_)
  · refine d_st (fun _ k => zg_iload dX9_isWithin_158 rfl k) ?_
    refine d_br (fun _ => zg_if_eq 179 dX9_isWithin_160 rfl) (fun c160 => ?_) (fun c160 => ?_)
    · refine d_st (fun _ k => zg_iconst 0 dX9_isWithin_179 (by decide) (zg_iadd dX9_isWithin_180 (zg_istore (ls' := [_, _, _, _, _, _, _, _, _, _]) dX9_isWithin_181 (Nat.le_of_ble_eq_true rfl) rfl rfl (zg_iinc (ls' := [_, _, _, _, _, _, _, _, _, _]) 1 dX9_isWithin_183 rfl (by decide) (Nat.le_of_ble_eq_true rfl) rfl rfl (zg_goto 13 dX9_isWithin_186 rfl k))))) ?_
      exact d_fg (z_le_s (z_le_0 (z_le_s (z_le_s (z_le_s (z_le_s (z_le_0 (z_le_0 (z_le_0 (z_le_0 z_le_n)))))))))) (hK13 _ _ _ _ _)
    · refine d_st (fun _ k => zg_aload_n dX9_isWithin_163 rfl (zg_iload dX9_isWithin_164 rfl (zg_iload dX9_isWithin_166 rfl (zg_iload_n dX9_isWithin_168 rfl k)))) ?_
      refine d_cVi (As := [_, _, _]) dX9_isWithin_169 zk_X9_177 (zq_87 _) (by decide) ⟨_, _, rfl⟩ rfl rfl (Nat.le_of_ble_eq_true rfl) (Nat.le_of_ble_eq_true rfl) rfl (zd_X9_side V (d + 1) _ _ _ _) (fun r169 _ => ?_)
      refine d_br (fun _ => zg_if_ge 179 dX9_isWithin_172 rfl) (fun c172 => ?_) (fun c172 => ?_)
      · refine d_st (fun _ k => zg_iconst 0 dX9_isWithin_179 (by decide) (zg_iadd dX9_isWithin_180 (zg_istore (ls' := [_, _, _, _, _, _, _, _, _, _]) dX9_isWithin_181 (Nat.le_of_ble_eq_true rfl) rfl rfl (zg_iinc (ls' := [_, _, _, _, _, _, _, _, _, _]) 1 dX9_isWithin_183 rfl (by decide) (Nat.le_of_ble_eq_true rfl) rfl rfl (zg_goto 13 dX9_isWithin_186 rfl k))))) ?_
        exact d_fg (z_le_s (z_le_0 (z_le_s (z_le_s (z_le_s (z_le_s (z_le_0 (z_le_0 (z_le_0 (z_le_0 z_le_n)))))))))) (hK13 _ _ _ _ _)
      · refine d_st (fun _ k => zg_iconst (-1) dX9_isWithin_175 (by decide) (zg_goto 180 dX9_isWithin_176 rfl (zg_iadd dX9_isWithin_180 (zg_istore (ls' := [_, _, _, _, _, _, _, _, _, _]) dX9_isWithin_181 (Nat.le_of_ble_eq_true rfl) rfl rfl (zg_iinc (ls' := [_, _, _, _, _, _, _, _, _, _]) 1 dX9_isWithin_183 rfl (by decide) (Nat.le_of_ble_eq_true rfl) rfl rfl (zg_goto 13 dX9_isWithin_186 rfl k)))))) ?_
        exact d_fg (z_le_s (z_le_0 (z_le_s (z_le_s (z_le_s (z_le_s (z_le_0 (z_le_0 (z_le_0 (z_le_0 z_le_n)))))))))) (hK13 _ _ _ _ _)
  · refine d_st (fun _ k => zg_iconst 0 dX9_isWithin_179 (by decide) (zg_iadd dX9_isWithin_180 (zg_istore (ls' := [_, _, _, _, _, _, _, _, _, _]) dX9_isWithin_181 (Nat.le_of_ble_eq_true rfl) rfl rfl (zg_iinc (ls' := [_, _, _, _, _, _, _, _, _, _]) 1 dX9_isWithin_183 rfl (by decide) (Nat.le_of_ble_eq_true rfl) rfl rfl (zg_goto 13 dX9_isWithin_186 rfl k))))) ?_
    exact d_fg (z_le_s (z_le_0 (z_le_s (z_le_s (z_le_s (z_le_s (z_le_0 (z_le_0 (z_le_0 (z_le_0 z_le_n)))))))))) (hK13 _ _ _ _ _)
def f_X9_isWithin_123 (K13 : Int32 → Int32 → Int32 → Int32 → zS → Option (Int32 × zS)) (v2 : Int32) (v3 : Int32) (v4 : Int32) (v5 : Int32) (v6 : Int32) (v7 : Int32) (v8 : Int32) (t0 : Int32) (S : zS) : Option (Int32 × zS) := if v8 = 0 then (f_X9_isWithin_153 K13 v2 v3 v5 v6 v7 v8 t0 v4 S) else (if t0 = 0 then ((f_X9_side v6 v7 v3 S).bind (fun r143 => if r143.1 ≤ 0 then (f_X9_isWithin_153 K13 v2 v3 v5 v6 v7 v8 t0 v4 r143.2) else (K13 v2 v3 (v4 + 1) (v5 + 1) r143.2))) else (f_X9_isWithin_153 K13 v2 v3 v5 v6 v7 v8 t0 v4 S))
set_option maxRecDepth 100000 in
set_option maxHeartbeats 4000000 in
theorem zd_X9_isWithin_123 (V : zV) (d : Nat) {K13 : Int32 → Int32 → Int32 → Int32 → zS → Option (Int32 × zS)} (hK13 : ∀ (v2 : Int32) (v3 : Int32) (v4 : Int32) (v5 : Int32) (S : zS), z_J zeI V mX9_isWithin (d + 2) (K13 v2 v3 v4 v5 S) 13 [.ref 87, .null, .int v2, .int v3, .int v4, .int v5, .null, .null, .null, .null] [] S) : ∀ (v2 : Int32) (v3 : Int32) (v4 : Int32) (v5 : Int32) (v6 : Int32) (v7 : Int32) (v8 : Int32) (t0 : Int32) (S : zS), z_J zeI V mX9_isWithin (d + 2) (f_X9_isWithin_123 K13 v2 v3 v4 v5 v6 v7 v8 t0 S) 123 [.ref 87, .null, .int v2, .int v3, .int v4, .int v5, .int v6, .int v7, .int v8, .null] [.int t0] S := by
  intro v2 v3 v4 v5 v6 v7 v8 t0 S
  unfold f_X9_isWithin_123
  refine d_st (fun _ k => zg_istore (ls' := [_, _, _, _, _, _, _, _, _, _]) dX9_isWithin_123 (Nat.le_of_ble_eq_true rfl) rfl rfl (zg_iload dX9_isWithin_125 rfl (zg_iload dX9_isWithin_127 rfl k))) ?_
  refine d_br (fun _ => zg_if_eq 153 dX9_isWithin_129 rfl) (fun c129 => ?_) (fun c129 => ?_)
  · exact d_fg (z_le_s (z_le_0 (z_le_s (z_le_s (z_le_0 (z_le_s (z_le_s (z_le_s (z_le_s (z_le_s z_le_n)))))))))) (zd_X9_isWithin_153 V d hK13 _ _ _ _ _ _ _ _ _)
  · refine d_st (fun _ k => zg_iload dX9_isWithin_132 rfl k) ?_
    refine d_br (fun _ => zg_if_ne 153 dX9_isWithin_134 rfl) (fun c134 => ?_) (fun c134 => ?_)
    · refine d_st (fun _ k => zg_aload_n dX9_isWithin_137 rfl (zg_iload dX9_isWithin_138 rfl (zg_iload dX9_isWithin_140 rfl (zg_iload_n dX9_isWithin_142 rfl k)))) ?_
      refine d_cVi (As := [_, _, _]) dX9_isWithin_143 zk_X9_177 (zq_87 _) (by decide) ⟨_, _, rfl⟩ rfl rfl (Nat.le_of_ble_eq_true rfl) (Nat.le_of_ble_eq_true rfl) rfl (zd_X9_side V (d + 1) _ _ _ _) (fun r143 _ => ?_)
      refine d_br (fun _ => zg_if_le 153 dX9_isWithin_146 rfl) (fun c146 => ?_) (fun c146 => ?_)
      · exact d_fg (z_le_s (z_le_0 (z_le_s (z_le_s (z_le_0 (z_le_s (z_le_s (z_le_s (z_le_s (z_le_s z_le_n)))))))))) (zd_X9_isWithin_153 V d hK13 _ _ _ _ _ _ _ _ _)
      · refine d_st (fun _ k => zg_iconst 1 dX9_isWithin_149 (by decide) (zg_goto 180 dX9_isWithin_150 rfl (zg_iadd dX9_isWithin_180 (zg_istore (ls' := [_, _, _, _, _, _, _, _, _, _]) dX9_isWithin_181 (Nat.le_of_ble_eq_true rfl) rfl rfl (zg_iinc (ls' := [_, _, _, _, _, _, _, _, _, _]) 1 dX9_isWithin_183 rfl (by decide) (Nat.le_of_ble_eq_true rfl) rfl rfl (zg_goto 13 dX9_isWithin_186 rfl k)))))) ?_
        exact d_fg (z_le_s (z_le_0 (z_le_s (z_le_s (z_le_s (z_le_s (z_le_0 (z_le_0 (z_le_0 (z_le_0 z_le_n)))))))))) (hK13 _ _ _ _ _)
    · exact d_fg (z_le_s (z_le_0 (z_le_s (z_le_s (z_le_0 (z_le_s (z_le_s (z_le_s (z_le_s (z_le_s z_le_n)))))))))) (zd_X9_isWithin_153 V d hK13 _ _ _ _ _ _ _ _ _)
def f_X9_isWithin_94 (K13 : Int32 → Int32 → Int32 → Int32 → zS → Option (Int32 × zS)) (v2 : Int32) (v3 : Int32) (v4 : Int32) (v5 : Int32) (v6 : Int32) (v7 : Int32) (t0 : Int32) (S : zS) : Option (Int32 × zS) := if z_in (13 + v7) 74 then (if z_in (13 + v3) 74 then (if (S.1 89 (13 + v3).toNatClampNeg) < (S.1 89 (13 + v7).toNatClampNeg) then (f_X9_isWithin_123 K13 v2 v3 v4 v5 v6 v7 t0 0 S) else (f_X9_isWithin_123 K13 v2 v3 v4 v5 v6 v7 t0 1 S)) else none) else none
set_option maxRecDepth 100000 in
set_option maxHeartbeats 4000000 in
theorem zd_X9_isWithin_94 (V : zV) (d : Nat) {K13 : Int32 → Int32 → Int32 → Int32 → zS → Option (Int32 × zS)} (hK13 : ∀ (v2 : Int32) (v3 : Int32) (v4 : Int32) (v5 : Int32) (S : zS), z_J zeI V mX9_isWithin (d + 2) (K13 v2 v3 v4 v5 S) 13 [.ref 87, .null, .int v2, .int v3, .int v4, .int v5, .null, .null, .null, .null] [] S) : ∀ (v2 : Int32) (v3 : Int32) (v4 : Int32) (v5 : Int32) (v6 : Int32) (v7 : Int32) (t0 : Int32) (S : zS), z_J zeI V mX9_isWithin (d + 2) (f_X9_isWithin_94 K13 v2 v3 v4 v5 v6 v7 t0 S) 94 [.ref 87, .null, .int v2, .int v3, .int v4, .int v5, .int v6, .int v7, .null, .null] [.int t0] S := by
  intro v2 v3 v4 v5 v6 v7 t0 S
  unfold f_X9_isWithin_94
  refine d_st (fun _ k => zg_istore (ls' := [_, _, _, _, _, _, _, _, _, _]) dX9_isWithin_94 (Nat.le_of_ble_eq_true rfl) rfl rfl (zg_aload_n dX9_isWithin_96 rfl (zs_getR dX9_isWithin_97 zf_X9_13 rfl (zq_87 _) (by decide) (by decide) zr_87_9 (zg_bipush 13 dX9_isWithin_100 (by decide) (zg_iload dX9_isWithin_102 rfl (zg_iadd dX9_isWithin_104 k)))))) ?_
  refine d_gd (fun g105 => ?_)
  refine d_st (fun _ k => zs_iald dX9_isWithin_105 (by decide) (zq_89 _) g105 rfl k) ?_
  refine d_st (fun _ k => zg_aload_n dX9_isWithin_106 rfl (zs_getR dX9_isWithin_107 zf_X9_13 rfl (zq_87 _) (by decide) (by decide) zr_87_9 (zg_bipush 13 dX9_isWithin_110 (by decide) (zg_iload_n dX9_isWithin_112 rfl (zg_iadd dX9_isWithin_113 k))))) ?_
  refine d_gd (fun g114 => ?_)
  refine d_st (fun _ k => zs_iald dX9_isWithin_114 (by decide) (zq_89 _) g114 rfl k) ?_
  refine d_br (fun _ => zg_icmp_gt 122 dX9_isWithin_115 rfl) (fun c115 => ?_) (fun c115 => ?_)
  · refine d_st (fun _ k => zg_iconst 0 dX9_isWithin_122 (by decide) k) ?_
    exact d_fg (z_le_s (z_le_0 (z_le_s (z_le_s (z_le_s (z_le_s (z_le_s (z_le_s (z_le_s (z_le_0 z_le_n)))))))))) (zd_X9_isWithin_123 V d hK13 _ _ _ _ _ _ _ _ _)
  · refine d_st (fun _ k => zg_iconst 1 dX9_isWithin_118 (by decide) (zg_goto 123 dX9_isWithin_119 rfl k)) ?_
    exact d_fg (z_le_s (z_le_0 (z_le_s (z_le_s (z_le_s (z_le_s (z_le_s (z_le_s (z_le_s (z_le_0 z_le_n)))))))))) (zd_X9_isWithin_123 V d hK13 _ _ _ _ _ _ _ _ _)
def f_X9_isWithin_13 : Nat → Int32 → Int32 → Int32 → Int32 → zS → Option (Int32 × zS)
  | 0, _, _, _, _, _ => none
  | n + 1, v2, v3, v4, v5, S => if z_in (50 + v2) 74 then (if (S.1 89 (50 + v2).toNatClampNeg) ≤ v5 then (if v4 = 0 then (some (0, S)) else (some (1, S))) else ((f_X9_ringAt v2 v5 S).bind (fun r31 => (f_X9_ringAt v2 (v5 + 1) r31.2).bind (fun r42 => if r31.1 = v3 then (some (0, r42.2)) else ((f_X9_isOn r31.1 r42.1 v3 r42.2).bind (fun r59 => if r59.1 = 0 then (if z_in (13 + r31.1) 74 then (if z_in (13 + v3) 74 then (if (r59.2.1 89 (13 + v3).toNatClampNeg) < (r59.2.1 89 (13 + r31.1).toNatClampNeg) then (f_X9_isWithin_94 (f_X9_isWithin_13 n) v2 v3 v4 v5 r31.1 r42.1 0 r59.2) else (f_X9_isWithin_94 (f_X9_isWithin_13 n) v2 v3 v4 v5 r31.1 r42.1 1 r59.2)) else none) else none) else (some (0, r59.2)))))))) else none
set_option maxRecDepth 100000 in
set_option maxHeartbeats 4000000 in
theorem zd_X9_isWithin_13 (V : zV) (d : Nat) : ∀ (n : Nat) (v2 : Int32) (v3 : Int32) (v4 : Int32) (v5 : Int32) (S : zS), z_J zeI V mX9_isWithin (d + 2) (f_X9_isWithin_13 n v2 v3 v4 v5 S) 13 [.ref 87, .null, .int v2, .int v3, .int v4, .int v5, .null, .null, .null, .null] [] S := by
  intro n
  induction n with
  | zero =>
    intro v2 v3 v4 v5 S r hr
    cases (show (none : Option (Int32 × zS)) = some r from hr)
  | succ n ih =>
    intro v2 v3 v4 v5 S
    rw [f_X9_isWithin_13]
    refine d_st (fun _ k => zg_iload dX9_isWithin_13 rfl (zg_aload_n dX9_isWithin_15 rfl (zs_getR dX9_isWithin_16 zf_X9_13 rfl (zq_87 _) (by decide) (by decide) zr_87_9 (zg_bipush 50 dX9_isWithin_19 (by decide) (zg_iload_n dX9_isWithin_21 rfl (zg_iadd dX9_isWithin_22 k)))))) ?_
    refine d_gd (fun g23 => ?_)
    refine d_st (fun _ k => zs_iald dX9_isWithin_23 (by decide) (zq_89 _) g23 rfl k) ?_
    refine d_br (fun _ => zg_icmp_ge 189 dX9_isWithin_24 rfl) (fun c24 => ?_) (fun c24 => ?_)
    · refine d_st (fun _ k => zg_iload dX9_isWithin_189 rfl k) ?_
      refine d_br (fun _ => zg_if_eq 198 dX9_isWithin_191 rfl) (fun c191 => ?_) (fun c191 => ?_)
      · refine d_st (fun _ k => zg_iconst 0 dX9_isWithin_198 (by decide) k) ?_
        exact d_retZ dX9_isWithin_199 rfl (by decide)
      · refine d_st (fun _ k => zg_iconst 1 dX9_isWithin_194 (by decide) (zg_goto 199 dX9_isWithin_195 rfl k)) ?_
        exact d_retZ dX9_isWithin_199 rfl (by decide)
    · refine d_st (fun _ k => zg_aload_n dX9_isWithin_27 rfl (zg_iload_n dX9_isWithin_28 rfl (zg_iload dX9_isWithin_29 rfl k))) ?_
      refine d_cVi (As := [_, _]) dX9_isWithin_31 zk_X9_181 (zq_87 _) (by decide) ⟨_, _, rfl⟩ rfl rfl (Nat.le_of_ble_eq_true rfl) (Nat.le_of_ble_eq_true rfl) rfl (zd_X9_ringAt V (d + 1) _ _ _) (fun r31 _ => ?_)
      refine d_st (fun _ k => zg_istore (ls' := [_, _, _, _, _, _, _, _, _, _]) dX9_isWithin_34 (Nat.le_of_ble_eq_true rfl) rfl rfl (zg_aload_n dX9_isWithin_36 rfl (zg_iload_n dX9_isWithin_37 rfl (zg_iload dX9_isWithin_38 rfl (zg_iconst 1 dX9_isWithin_40 (by decide) (zg_iadd dX9_isWithin_41 k)))))) ?_
      refine d_cVi (As := [_, _]) dX9_isWithin_42 zk_X9_181 (zq_87 _) (by decide) ⟨_, _, rfl⟩ rfl rfl (Nat.le_of_ble_eq_true rfl) (Nat.le_of_ble_eq_true rfl) rfl (zd_X9_ringAt V (d + 1) _ _ _) (fun r42 _ => ?_)
      refine d_st (fun _ k => zg_istore (ls' := [_, _, _, _, _, _, _, _, _, _]) dX9_isWithin_45 (Nat.le_of_ble_eq_true rfl) rfl rfl (zg_iload dX9_isWithin_47 rfl (zg_iload_n dX9_isWithin_49 rfl k))) ?_
      refine d_br (fun _ => zg_icmp_eq 65 dX9_isWithin_50 rfl) (fun c50 => ?_) (fun c50 => ?_)
      · refine d_st (fun _ k => zg_iconst 0 dX9_isWithin_65 (by decide) k) ?_
        exact d_retZ dX9_isWithin_66 rfl (by decide)
      · refine d_st (fun _ k => zg_aload_n dX9_isWithin_53 rfl (zg_iload dX9_isWithin_54 rfl (zg_iload dX9_isWithin_56 rfl (zg_iload_n dX9_isWithin_58 rfl k)))) ?_
        refine d_cVi (As := [_, _, _]) dX9_isWithin_59 zk_X9_185 (zq_87 _) (by decide) ⟨_, _, rfl⟩ rfl rfl (Nat.le_of_ble_eq_true rfl) (Nat.le_of_ble_eq_true rfl) rfl (zd_X9_isOn V d _ _ _ _) (fun r59 _ => ?_)
        refine d_br (fun _ => zg_if_eq 67 dX9_isWithin_62 rfl) (fun c62 => ?_) (fun c62 => ?_)
        · refine d_st (fun _ k => zg_aload_n dX9_isWithin_67 rfl (zs_getR dX9_isWithin_68 zf_X9_13 rfl (zq_87 _) (by decide) (by decide) zr_87_9 (zg_bipush 13 dX9_isWithin_71 (by decide) (zg_iload dX9_isWithin_73 rfl (zg_iadd dX9_isWithin_75 k))))) ?_
          refine d_gd (fun g76 => ?_)
          refine d_st (fun _ k => zs_iald dX9_isWithin_76 (by decide) (zq_89 _) g76 rfl k) ?_
          refine d_st (fun _ k => zg_aload_n dX9_isWithin_77 rfl (zs_getR dX9_isWithin_78 zf_X9_13 rfl (zq_87 _) (by decide) (by decide) zr_87_9 (zg_bipush 13 dX9_isWithin_81 (by decide) (zg_iload_n dX9_isWithin_83 rfl (zg_iadd dX9_isWithin_84 k))))) ?_
          refine d_gd (fun g85 => ?_)
          refine d_st (fun _ k => zs_iald dX9_isWithin_85 (by decide) (zq_89 _) g85 rfl k) ?_
          refine d_br (fun _ => zg_icmp_gt 93 dX9_isWithin_86 rfl) (fun c86 => ?_) (fun c86 => ?_)
          · refine d_st (fun _ k => zg_iconst 0 dX9_isWithin_93 (by decide) k) ?_
            exact d_fg (z_le_s (z_le_0 (z_le_s (z_le_s (z_le_s (z_le_s (z_le_s (z_le_s (z_le_0 (z_le_0 z_le_n)))))))))) (zd_X9_isWithin_94 V d ih _ _ _ _ _ _ _ _)
          · refine d_st (fun _ k => zg_iconst 1 dX9_isWithin_89 (by decide) (zg_goto 94 dX9_isWithin_90 rfl k)) ?_
            exact d_fg (z_le_s (z_le_0 (z_le_s (z_le_s (z_le_s (z_le_s (z_le_s (z_le_s (z_le_0 (z_le_0 z_le_n)))))))))) (zd_X9_isWithin_94 V d ih _ _ _ _ _ _ _ _)
        · refine d_st (fun _ k => zg_iconst 0 dX9_isWithin_65 (by decide) k) ?_
          exact d_retZ dX9_isWithin_66 rfl (by decide)
def f_X9_isWithin (a1 : Int32) (a2 : Int32) (S : zS) : Option (Int32 × zS) := (f_X9_ringAt a1 0 S).bind (fun r3 => f_X9_isWithin_13 1000 a2 r3.1 0 0 r3.2)
set_option maxRecDepth 100000 in
set_option maxHeartbeats 4000000 in
theorem zd_X9_isWithin (V : zV) (d : Nat) : ∀ (a1 : Int32) (a2 : Int32) (S : zS), z_J zeI V mX9_isWithin (d + 2) (f_X9_isWithin a1 a2 S) 0 (z_ent mX9_isWithin [.ref 87, .int a1, .int a2]) [] S := by
  intro a1 a2 S
  show z_J zeI V mX9_isWithin (d + 2) (f_X9_isWithin a1 a2 S) 0 [.ref 87, .int a1, .int a2, .null, .null, .null, .null, .null, .null, .null] [] S
  unfold f_X9_isWithin
  refine d_st (fun _ k => zg_aload_n dX9_isWithin_0 rfl (zg_iload_n dX9_isWithin_1 rfl (zg_iconst 0 dX9_isWithin_2 (by decide) k))) ?_
  refine d_cVi (As := [_, _]) dX9_isWithin_3 zk_X9_181 (zq_87 _) (by decide) ⟨_, _, rfl⟩ rfl rfl (Nat.le_of_ble_eq_true rfl) (Nat.le_of_ble_eq_true rfl) rfl (zd_X9_ringAt V (d + 1) _ _ _) (fun r3 _ => ?_)
  refine d_st (fun _ k => zg_istore_n (ls' := [_, _, _, _, _, _, _, _, _, _]) dX9_isWithin_6 (Nat.le_of_ble_eq_true rfl) rfl rfl (zg_iconst 0 dX9_isWithin_7 (by decide) (zg_istore (ls' := [_, _, _, _, _, _, _, _, _, _]) dX9_isWithin_8 (Nat.le_of_ble_eq_true rfl) rfl rfl (zg_iconst 0 dX9_isWithin_10 (by decide) (zg_istore (ls' := [_, _, _, _, _, _, _, _, _, _]) dX9_isWithin_11 (Nat.le_of_ble_eq_true rfl) rfl rfl k))))) ?_
  exact d_fg (z_le_s (z_le_0 (z_le_s (z_le_s (z_le_s (z_le_s (z_le_0 (z_le_0 (z_le_0 (z_le_0 z_le_n)))))))))) (zd_X9_isWithin_13 V d 1000 _ _ _ _ _)
