def f_X9_oddOf_4 : Nat → Int32 → Int32 → Int32 → zS → Option (Int32 × zS)
  | 0, _, _, _, _ => none
  | n + 1, v1, v2, v3, S => if (S.1 89 0) ≤ v3 then (some (v2, S)) else (if z_in v3 9 then (if z_in v1 9 then (if (S.1 99 v3.toNatClampNeg) = (S.1 100 v1.toNatClampNeg) then ((f_X9_endsAt 89 v3 (S.1 91 0) S).bind (fun r41 => if (r41.1 - r41.1 / 2 * 2) = 1 then (f_X9_oddOf_4 n v1 (v2 ||| ((1 : Int32) <<< (v3 &&& 31))) (v3 + 1) r41.2) else (f_X9_oddOf_4 n v1 (v2 ||| 0) (v3 + 1) r41.2))) else (f_X9_oddOf_4 n v1 (v2 ||| 0) (v3 + 1) S)) else none) else none)
set_option maxRecDepth 100000 in
set_option maxHeartbeats 4000000 in
theorem zd_X9_oddOf_4 (V : zV) (d : Nat) : ∀ (n : Nat) (v1 : Int32) (v2 : Int32) (v3 : Int32) (S : zS), z_J zeI V mX9_oddOf (d + 2) (f_X9_oddOf_4 n v1 v2 v3 S) 4 [.ref 87, .int v1, .int v2, .int v3] [] S := by
  intro n
  induction n with
  | zero =>
    intro v1 v2 v3 S r hr
    cases (show (none : Option (Int32 × zS)) = some r from hr)
  | succ n ih =>
    intro v1 v2 v3 S
    rw [f_X9_oddOf_4]
    refine d_st (fun _ k => zg_iload_n dX9_oddOf_4 rfl (zg_aload_n dX9_oddOf_5 rfl (zs_getR dX9_oddOf_6 zf_X9_13 rfl (zq_87 _) (by decide) (by decide) zr_87_9 (zg_iconst 0 dX9_oddOf_9 (by decide) (zs_iald (j := 0) dX9_oddOf_10 (by decide) (zq_89 _) (by decide) (by decide) k))))) ?_
    refine d_br (fun _ => zg_icmp_ge 65 dX9_oddOf_11 rfl) (fun c11 => ?_) (fun c11 => ?_)
    · refine d_st (fun _ k => zg_iload_n dX9_oddOf_65 rfl k) ?_
      exact d_retI dX9_oddOf_66 rfl
    · refine d_st (fun _ k => zg_iload_n dX9_oddOf_14 rfl (zg_aload_n dX9_oddOf_15 rfl (zs_getR dX9_oddOf_16 zf_X9_44 rfl (zq_87 _) (by decide) (by decide) zr_87_21 (zg_iload_n dX9_oddOf_19 rfl k)))) ?_
      refine d_gd (fun g20 => ?_)
      refine d_st (fun _ k => zs_iald dX9_oddOf_20 (by decide) (zq_99 _) g20 rfl k) ?_
      refine d_st (fun _ k => zg_aload_n dX9_oddOf_21 rfl (zs_getR dX9_oddOf_22 zf_X9_47 rfl (zq_87 _) (by decide) (by decide) zr_87_22 (zg_iload_n dX9_oddOf_25 rfl k))) ?_
      refine d_gd (fun g26 => ?_)
      refine d_st (fun _ k => zs_iald dX9_oddOf_26 (by decide) (zq_100 _) g26 rfl k) ?_
      refine d_br (fun _ => zg_icmp_ne 56 dX9_oddOf_27 rfl) (fun c27 => ?_) (fun c27 => ?_)
      · refine d_st (fun _ k => zg_aload_n dX9_oddOf_30 rfl (zs_getR dX9_oddOf_31 zf_X9_13 rfl (zq_87 _) (by decide) (by decide) zr_87_9 (zg_iload_n dX9_oddOf_34 rfl (zg_aload_n dX9_oddOf_35 rfl (zs_getR dX9_oddOf_36 zf_X9_19 rfl (zq_87 _) (by decide) (by decide) zr_87_11 (zg_iconst 0 dX9_oddOf_39 (by decide) (zs_iald (j := 0) dX9_oddOf_40 (by decide) (zq_91 _) (by decide) (by decide) k))))))) ?_
        refine d_cSi (As := [_, _, _]) dX9_oddOf_41 zk_X9_192 rfl rfl (Nat.le_of_ble_eq_true rfl) (Nat.le_of_ble_eq_true rfl) rfl (zd_X9_endsAt V ⟨(by decide), fun _ => (zq_89 _)⟩ d _ _ _) (fun r41 _ => ?_)
        refine d_st (fun _ k => zg_iconst 2 dX9_oddOf_44 (by decide) (zg_irem dX9_oddOf_45 (by decide) (zg_iconst 1 dX9_oddOf_46 (by decide) k))) ?_
        refine d_br (fun _ => zg_icmp_ne 56 dX9_oddOf_47 rfl) (fun c47 => ?_) (fun c47 => ?_)
        · refine d_st (fun _ k => zg_iconst 1 dX9_oddOf_50 (by decide) (zg_iload_n dX9_oddOf_51 rfl (zg_ishl dX9_oddOf_52 (zg_goto 57 dX9_oddOf_53 rfl (zg_ior dX9_oddOf_57 (zg_istore_n (ls' := [_, _, _, _]) dX9_oddOf_58 (Nat.le_of_ble_eq_true rfl) rfl rfl (zg_iinc (ls' := [_, _, _, _]) 1 dX9_oddOf_59 rfl (by decide) (Nat.le_of_ble_eq_true rfl) rfl rfl (zg_goto 4 dX9_oddOf_62 rfl k)))))))) ?_
          exact d_fg (z_le_s (z_le_s (z_le_s (z_le_s z_le_n)))) (ih _ _ _ _)
        · refine d_st (fun _ k => zg_iconst 0 dX9_oddOf_56 (by decide) (zg_ior dX9_oddOf_57 (zg_istore_n (ls' := [_, _, _, _]) dX9_oddOf_58 (Nat.le_of_ble_eq_true rfl) rfl rfl (zg_iinc (ls' := [_, _, _, _]) 1 dX9_oddOf_59 rfl (by decide) (Nat.le_of_ble_eq_true rfl) rfl rfl (zg_goto 4 dX9_oddOf_62 rfl k))))) ?_
          exact d_fg (z_le_s (z_le_s (z_le_s (z_le_s z_le_n)))) (ih _ _ _ _)
      · refine d_st (fun _ k => zg_iconst 0 dX9_oddOf_56 (by decide) (zg_ior dX9_oddOf_57 (zg_istore_n (ls' := [_, _, _, _]) dX9_oddOf_58 (Nat.le_of_ble_eq_true rfl) rfl rfl (zg_iinc (ls' := [_, _, _, _]) 1 dX9_oddOf_59 rfl (by decide) (Nat.le_of_ble_eq_true rfl) rfl rfl (zg_goto 4 dX9_oddOf_62 rfl k))))) ?_
        exact d_fg (z_le_s (z_le_s (z_le_s (z_le_s z_le_n)))) (ih _ _ _ _)
def f_X9_oddOf (a1 : Int32) (S : zS) : Option (Int32 × zS) := f_X9_oddOf_4 1000 a1 0 0 S
set_option maxRecDepth 100000 in
set_option maxHeartbeats 4000000 in
theorem zd_X9_oddOf (V : zV) (d : Nat) : ∀ (a1 : Int32) (S : zS), z_J zeI V mX9_oddOf (d + 2) (f_X9_oddOf a1 S) 0 (z_ent mX9_oddOf [.ref 87, .int a1]) [] S := by
  intro a1 S
  show z_J zeI V mX9_oddOf (d + 2) (f_X9_oddOf a1 S) 0 [.ref 87, .int a1, .null, .null] [] S
  unfold f_X9_oddOf
  refine d_st (fun _ k => zg_iconst 0 dX9_oddOf_0 (by decide) (zg_istore_n (ls' := [_, _, _, _]) dX9_oddOf_1 (Nat.le_of_ble_eq_true rfl) rfl rfl (zg_iconst 0 dX9_oddOf_2 (by decide) (zg_istore_n (ls' := [_, _, _, _]) dX9_oddOf_3 (Nat.le_of_ble_eq_true rfl) rfl rfl k)))) ?_
  exact d_fg (z_le_s (z_le_s (z_le_s (z_le_s z_le_n)))) (zd_X9_oddOf_4 V d 1000 _ _ _ _)
def f_X9_lowest_2 : Nat → Int32 → Int32 → zS → Option (Int32 × zS)
  | 0, _, _, _ => none
  | n + 1, v0, v1, S => (f_X9_has v0 v1 S).bind (fun r4 => if r4.1 = 0 then (f_X9_lowest_2 n v0 (v1 + 1) r4.2) else (some (v1, r4.2)))
set_option maxRecDepth 100000 in
set_option maxHeartbeats 4000000 in
theorem zd_X9_lowest_2 (V : zV) (d : Nat) : ∀ (n : Nat) (v0 : Int32) (v1 : Int32) (S : zS), z_J zeI V mX9_lowest (d + 1) (f_X9_lowest_2 n v0 v1 S) 2 [.int v0, .int v1] [] S := by
  intro n
  induction n with
  | zero =>
    intro v0 v1 S r hr
    cases (show (none : Option (Int32 × zS)) = some r from hr)
  | succ n ih =>
    intro v0 v1 S
    rw [f_X9_lowest_2]
    refine d_st (fun _ k => zg_iload_n dX9_lowest_2 rfl (zg_iload_n dX9_lowest_3 rfl k)) ?_
    refine d_cSi (As := [_, _]) dX9_lowest_4 zk_X9_84 rfl rfl (Nat.le_of_ble_eq_true rfl) (Nat.le_of_ble_eq_true rfl) rfl (zd_X9_has V d _ _ _) (fun r4 _ => ?_)
    refine d_br (fun _ => zg_if_ne 16 dX9_lowest_7 rfl) (fun c7 => ?_) (fun c7 => ?_)
    · refine d_st (fun _ k => zg_iinc (ls' := [_, _]) 1 dX9_lowest_10 rfl (by decide) (Nat.le_of_ble_eq_true rfl) rfl rfl (zg_goto 2 dX9_lowest_13 rfl k)) ?_
      exact d_fg (z_le_s (z_le_s z_le_n)) (ih _ _ _)
    · refine d_st (fun _ k => zg_iload_n dX9_lowest_16 rfl k) ?_
      exact d_retI dX9_lowest_17 rfl
def f_X9_lowest (a0 : Int32) (S : zS) : Option (Int32 × zS) := f_X9_lowest_2 1000 a0 0 S
set_option maxRecDepth 100000 in
set_option maxHeartbeats 4000000 in
theorem zd_X9_lowest (V : zV) (d : Nat) : ∀ (a0 : Int32) (S : zS), z_J zeI V mX9_lowest (d + 1) (f_X9_lowest a0 S) 0 (z_ent mX9_lowest [.int a0]) [] S := by
  intro a0 S
  show z_J zeI V mX9_lowest (d + 1) (f_X9_lowest a0 S) 0 [.int a0, .null] [] S
  unfold f_X9_lowest
  refine d_st (fun _ k => zg_iconst 0 dX9_lowest_0 (by decide) (zg_istore_n (ls' := [_, _]) dX9_lowest_1 (Nat.le_of_ble_eq_true rfl) rfl rfl k)) ?_
  exact d_fg (z_le_s (z_le_s z_le_n)) (zd_X9_lowest_2 V d 1000 _ _ _)
def f_X9_pairs_123 (K9 : Int32 → Int32 → zS → Option (Unit × zS)) (K51 : Int32 → Int32 → Int32 → Int32 → zS → Option (Unit × zS)) (v1 : Int32) (v2 : Int32) (v3 : Int32) (v4 : Int32) (t0 : Int32) (t1 : Int32) (S : zS) : Option (Unit × zS) := if z_in t1 512 then (K51 v1 v2 v3 (v4 + 1) (z_w S 102 t1.toNatClampNeg t0)) else none
set_option maxRecDepth 100000 in
set_option maxHeartbeats 4000000 in
theorem zd_X9_pairs_123 (V : zV) (d : Nat) {K9 : Int32 → Int32 → zS → Option (Unit × zS)} (hK9 : ∀ (v1 : Int32) (v2 : Int32) (S : zS), z_J zeV V mX9_pairs (d + 2) (K9 v1 v2 S) 9 [.ref 87, .int v1, .int v2, .null, .null, .null] [] S) {K51 : Int32 → Int32 → Int32 → Int32 → zS → Option (Unit × zS)} (hK51 : ∀ (v1 : Int32) (v2 : Int32) (v3 : Int32) (v4 : Int32) (S : zS), z_J zeV V mX9_pairs (d + 2) (K51 v1 v2 v3 v4 S) 51 [.ref 87, .int v1, .int v2, .int v3, .int v4, .null] [] S) : ∀ (v1 : Int32) (v2 : Int32) (v3 : Int32) (v4 : Int32) (t0 : Int32) (t1 : Int32) (S : zS), z_J zeV V mX9_pairs (d + 2) (f_X9_pairs_123 K9 K51 v1 v2 v3 v4 t0 t1 S) 123 [.ref 87, .int v1, .int v2, .int v3, .int v4, .null] [.int t0, .int t1, .ref 102] S := by
  intro v1 v2 v3 v4 t0 t1 S
  unfold f_X9_pairs_123
  refine d_gd (fun g123 => ?_)
  refine d_st (fun _ k => zs_iast dX9_pairs_123 (by decide) (zq_102 _) g123 rfl k) ?_
  refine d_st (fun _ k => zg_iinc (ls' := [_, _, _, _, _, _]) 1 dX9_pairs_124 rfl (by decide) (Nat.le_of_ble_eq_true rfl) rfl rfl (zg_goto 51 dX9_pairs_127 rfl k)) ?_
  exact d_fg (z_le_s (z_le_s (z_le_s (z_le_s (z_le_s (z_le_0 z_le_n)))))) (hK51 _ _ _ _ _)
def f_X9_pairs_51 (K9 : Int32 → Int32 → zS → Option (Unit × zS)) : Nat → Int32 → Int32 → Int32 → Int32 → zS → Option (Unit × zS)
  | 0, _, _, _, _, _ => none
  | n + 1, v1, v2, v3, v4, S => if 9 ≤ v4 then (K9 v1 (v2 + 1) S) else ((f_X9_has v2 v4 S).bind (fun r61 => if r61.1 = 0 then (f_X9_pairs_51 K9 n v1 v2 v3 (v4 + 1) r61.2) else ((f_X9_way v3 v4 r61.2).bind (fun r71 => if z_in ((v2 &&& (((1 : Int32) <<< (v3 &&& 31)) ^^^ (-1))) &&& (((1 : Int32) <<< (v4 &&& 31)) ^^^ (-1))) 512 then (if z_in v2 512 then (if (r71.2.1 102 v2.toNatClampNeg) ≤ (r71.1 + (r71.2.1 102 ((v2 &&& (((1 : Int32) <<< (v3 &&& 31)) ^^^ (-1))) &&& (((1 : Int32) <<< (v4 &&& 31)) ^^^ (-1))).toNatClampNeg)) then (if z_in v2 512 then (f_X9_pairs_123 K9 (f_X9_pairs_51 K9 n) v1 v2 v3 v4 (r71.2.1 102 v2.toNatClampNeg) v2 r71.2) else none) else (f_X9_pairs_123 K9 (f_X9_pairs_51 K9 n) v1 v2 v3 v4 (r71.1 + (r71.2.1 102 ((v2 &&& (((1 : Int32) <<< (v3 &&& 31)) ^^^ (-1))) &&& (((1 : Int32) <<< (v4 &&& 31)) ^^^ (-1))).toNatClampNeg)) v2 r71.2)) else none) else none))))
set_option maxRecDepth 100000 in
set_option maxHeartbeats 4000000 in
theorem zd_X9_pairs_51 (V : zV) (d : Nat) {K9 : Int32 → Int32 → zS → Option (Unit × zS)} (hK9 : ∀ (v1 : Int32) (v2 : Int32) (S : zS), z_J zeV V mX9_pairs (d + 2) (K9 v1 v2 S) 9 [.ref 87, .int v1, .int v2, .null, .null, .null] [] S) : ∀ (n : Nat) (v1 : Int32) (v2 : Int32) (v3 : Int32) (v4 : Int32) (S : zS), z_J zeV V mX9_pairs (d + 2) (f_X9_pairs_51 K9 n v1 v2 v3 v4 S) 51 [.ref 87, .int v1, .int v2, .int v3, .int v4, .null] [] S := by
  intro n
  induction n with
  | zero =>
    intro v1 v2 v3 v4 S r hr
    cases (show (none : Option (Unit × zS)) = some r from hr)
  | succ n ih =>
    intro v1 v2 v3 v4 S
    rw [f_X9_pairs_51]
    refine d_st (fun _ k => zg_iload dX9_pairs_51 rfl (zg_bipush 9 dX9_pairs_53 (by decide) k)) ?_
    refine d_br (fun _ => zg_icmp_ge 130 dX9_pairs_55 rfl) (fun c55 => ?_) (fun c55 => ?_)
    · refine d_st (fun _ k => zg_iinc (ls' := [_, _, _, _, _, _]) 1 dX9_pairs_130 rfl (by decide) (Nat.le_of_ble_eq_true rfl) rfl rfl (zg_goto 9 dX9_pairs_133 rfl k)) ?_
      exact d_fg (z_le_s (z_le_s (z_le_s (z_le_0 (z_le_0 (z_le_0 z_le_n)))))) (hK9 _ _ _)
    · refine d_st (fun _ k => zg_iload_n dX9_pairs_58 rfl (zg_iload dX9_pairs_59 rfl k)) ?_
      refine d_cSi (As := [_, _]) dX9_pairs_61 zk_X9_84 rfl rfl (Nat.le_of_ble_eq_true rfl) (Nat.le_of_ble_eq_true rfl) rfl (zd_X9_has V (d + 1) _ _ _) (fun r61 _ => ?_)
      refine d_br (fun _ => zg_if_eq 124 dX9_pairs_64 rfl) (fun c64 => ?_) (fun c64 => ?_)
      · refine d_st (fun _ k => zg_iinc (ls' := [_, _, _, _, _, _]) 1 dX9_pairs_124 rfl (by decide) (Nat.le_of_ble_eq_true rfl) rfl rfl (zg_goto 51 dX9_pairs_127 rfl k)) ?_
        exact d_fg (z_le_s (z_le_s (z_le_s (z_le_s (z_le_s (z_le_0 z_le_n)))))) (ih _ _ _ _ _)
      · refine d_st (fun _ k => zg_aload_n dX9_pairs_67 rfl (zg_iload_n dX9_pairs_68 rfl (zg_iload dX9_pairs_69 rfl k))) ?_
        refine d_cVi (As := [_, _]) dX9_pairs_71 zk_X9_204 (zq_87 _) (by decide) ⟨_, _, rfl⟩ rfl rfl (Nat.le_of_ble_eq_true rfl) (Nat.le_of_ble_eq_true rfl) rfl (zd_X9_way V (d + 1) _ _ _) (fun r71 _ => ?_)
        refine d_st (fun _ k => zg_aload_n dX9_pairs_74 rfl (zs_getR dX9_pairs_75 zf_X9_53 rfl (zq_87 _) (by decide) (by decide) zr_87_25 (zg_iload_n dX9_pairs_78 rfl (zg_iconst 1 dX9_pairs_79 (by decide) (zg_iload_n dX9_pairs_80 rfl (zg_ishl dX9_pairs_81 (zg_iconst (-1) dX9_pairs_82 (by decide) (zg_ixor dX9_pairs_83 (zg_iand dX9_pairs_84 (zg_iconst 1 dX9_pairs_85 (by decide) (zg_iload dX9_pairs_86 rfl (zg_ishl dX9_pairs_88 (zg_iconst (-1) dX9_pairs_89 (by decide) (zg_ixor dX9_pairs_90 (zg_iand dX9_pairs_91 k))))))))))))))) ?_
        refine d_gd (fun g92 => ?_)
        refine d_st (fun _ k => zs_iald dX9_pairs_92 (by decide) (zq_102 _) g92 rfl k) ?_
        refine d_st (fun _ k => zg_iadd dX9_pairs_93 (zg_istore (ls' := [_, _, _, _, _, _]) dX9_pairs_94 (Nat.le_of_ble_eq_true rfl) rfl rfl (zg_aload_n dX9_pairs_96 rfl (zs_getR dX9_pairs_97 zf_X9_53 rfl (zq_87 _) (by decide) (by decide) zr_87_25 (zg_iload_n dX9_pairs_100 rfl (zg_iload dX9_pairs_101 rfl (zg_aload_n dX9_pairs_103 rfl (zs_getR dX9_pairs_104 zf_X9_53 rfl (zq_87 _) (by decide) (by decide) zr_87_25 (zg_iload_n dX9_pairs_107 rfl k))))))))) ?_
        refine d_gd (fun g108 => ?_)
        refine d_st (fun _ k => zs_iald dX9_pairs_108 (by decide) (zq_102 _) g108 rfl k) ?_
        refine d_br (fun _ => zg_icmp_ge 117 dX9_pairs_109 rfl) (fun c109 => ?_) (fun c109 => ?_)
        · refine d_st (fun _ k => zg_aload_n dX9_pairs_117 rfl (zs_getR dX9_pairs_118 zf_X9_53 rfl (zq_87 _) (by decide) (by decide) zr_87_25 (zg_iload_n dX9_pairs_121 rfl k))) ?_
          refine d_gd (fun g122 => ?_)
          refine d_st (fun _ k => zs_iald dX9_pairs_122 (by decide) (zq_102 _) g122 rfl k) ?_
          exact d_fg (z_le_s (z_le_s (z_le_s (z_le_s (z_le_s (z_le_0 z_le_n)))))) (zd_X9_pairs_123 V d hK9 ih _ _ _ _ _ _ _)
        · refine d_st (fun _ k => zg_iload dX9_pairs_112 rfl (zg_goto 123 dX9_pairs_114 rfl k)) ?_
          exact d_fg (z_le_s (z_le_s (z_le_s (z_le_s (z_le_s (z_le_0 z_le_n)))))) (zd_X9_pairs_123 V d hK9 ih _ _ _ _ _ _ _)
def f_X9_pairs_9 : Nat → Int32 → Int32 → zS → Option (Unit × zS)
  | 0, _, _, _ => none
  | n + 1, v1, v2, S => if 512 ≤ v2 then (some ((), S)) else (if z_in v2 512 then (if (v2 &&& (v1 ^^^ (-1))) = 0 then ((f_X9_ones v2 (z_w S 102 v2.toNatClampNeg 99999)).bind (fun r33 => if (r33.1 - r33.1 / 2 * 2) = 0 then ((f_X9_lowest v2 r33.2).bind (fun r42 => f_X9_pairs_51 (f_X9_pairs_9 n) 1000 v1 v2 r42.1 (r42.1 + 1) r42.2)) else (f_X9_pairs_9 n v1 (v2 + 1) r33.2))) else (f_X9_pairs_9 n v1 (v2 + 1) (z_w S 102 v2.toNatClampNeg 99999))) else none)
set_option maxRecDepth 100000 in
set_option maxHeartbeats 4000000 in
theorem zd_X9_pairs_9 (V : zV) (d : Nat) : ∀ (n : Nat) (v1 : Int32) (v2 : Int32) (S : zS), z_J zeV V mX9_pairs (d + 2) (f_X9_pairs_9 n v1 v2 S) 9 [.ref 87, .int v1, .int v2, .null, .null, .null] [] S := by
  intro n
  induction n with
  | zero =>
    intro v1 v2 S r hr
    cases (show (none : Option (Unit × zS)) = some r from hr)
  | succ n ih =>
    intro v1 v2 S
    rw [f_X9_pairs_9]
    refine d_st (fun _ k => zg_iload_n dX9_pairs_9 rfl (zg_sipush 512 dX9_pairs_10 (by decide) k)) ?_
    refine d_br (fun _ => zg_icmp_ge 136 dX9_pairs_13 rfl) (fun c13 => ?_) (fun c13 => ?_)
    · exact d_retV dX9_pairs_136 rfl
    · refine d_st (fun _ k => zg_aload_n dX9_pairs_16 rfl (zs_getR dX9_pairs_17 zf_X9_53 rfl (zq_87 _) (by decide) (by decide) zr_87_25 (zg_iload_n dX9_pairs_20 rfl (zg_ldc 99999 dX9_pairs_21 zt_5_145 k)))) ?_
      refine d_gd (fun g23 => ?_)
      refine d_st (fun _ k => zs_iast dX9_pairs_23 (by decide) (zq_102 _) g23 rfl k) ?_
      refine d_st (fun _ k => zg_iload_n dX9_pairs_24 rfl (zg_iload_n dX9_pairs_25 rfl (zg_iconst (-1) dX9_pairs_26 (by decide) (zg_ixor dX9_pairs_27 (zg_iand dX9_pairs_28 k))))) ?_
      refine d_br (fun _ => zg_if_ne 130 dX9_pairs_29 rfl) (fun c29 => ?_) (fun c29 => ?_)
      · refine d_st (fun _ k => zg_iload_n dX9_pairs_32 rfl k) ?_
        refine d_cSi (As := [_]) dX9_pairs_33 zk_X9_213 rfl rfl (Nat.le_of_ble_eq_true rfl) (Nat.le_of_ble_eq_true rfl) rfl (zd_X9_ones V (d + 1) _ _) (fun r33 _ => ?_)
        refine d_st (fun _ k => zg_iconst 2 dX9_pairs_36 (by decide) (zg_irem dX9_pairs_37 (by decide) k)) ?_
        refine d_br (fun _ => zg_if_ne 130 dX9_pairs_38 rfl) (fun c38 => ?_) (fun c38 => ?_)
        · refine d_st (fun _ k => zg_iload_n dX9_pairs_41 rfl k) ?_
          refine d_cSi (As := [_]) dX9_pairs_42 zk_X9_247 rfl rfl (Nat.le_of_ble_eq_true rfl) (Nat.le_of_ble_eq_true rfl) rfl (zd_X9_lowest V d _ _) (fun r42 _ => ?_)
          refine d_st (fun _ k => zg_istore_n (ls' := [_, _, _, _, _, _]) dX9_pairs_45 (Nat.le_of_ble_eq_true rfl) rfl rfl (zg_iload_n dX9_pairs_46 rfl (zg_iconst 1 dX9_pairs_47 (by decide) (zg_iadd dX9_pairs_48 (zg_istore (ls' := [_, _, _, _, _, _]) dX9_pairs_49 (Nat.le_of_ble_eq_true rfl) rfl rfl k))))) ?_
          exact d_fg (z_le_s (z_le_s (z_le_s (z_le_s (z_le_s (z_le_0 z_le_n)))))) (zd_X9_pairs_51 V d ih 1000 _ _ _ _ _)
        · refine d_st (fun _ k => zg_iinc (ls' := [_, _, _, _, _, _]) 1 dX9_pairs_130 rfl (by decide) (Nat.le_of_ble_eq_true rfl) rfl rfl (zg_goto 9 dX9_pairs_133 rfl k)) ?_
          exact d_fg (z_le_s (z_le_s (z_le_s (z_le_0 (z_le_0 (z_le_0 z_le_n)))))) (ih _ _ _)
      · refine d_st (fun _ k => zg_iinc (ls' := [_, _, _, _, _, _]) 1 dX9_pairs_130 rfl (by decide) (Nat.le_of_ble_eq_true rfl) rfl rfl (zg_goto 9 dX9_pairs_133 rfl k)) ?_
        exact d_fg (z_le_s (z_le_s (z_le_s (z_le_0 (z_le_0 (z_le_0 z_le_n)))))) (ih _ _ _)
def f_X9_pairs (a1 : Int32) (S : zS) : Option (Unit × zS) := f_X9_pairs_9 1000 a1 1 (z_w S 102 0 0)
set_option maxRecDepth 100000 in
set_option maxHeartbeats 4000000 in
theorem zd_X9_pairs (V : zV) (d : Nat) : ∀ (a1 : Int32) (S : zS), z_J zeV V mX9_pairs (d + 2) (f_X9_pairs a1 S) 0 (z_ent mX9_pairs [.ref 87, .int a1]) [] S := by
  intro a1 S
  show z_J zeV V mX9_pairs (d + 2) (f_X9_pairs a1 S) 0 [.ref 87, .int a1, .null, .null, .null, .null] [] S
  unfold f_X9_pairs
  refine d_st (fun _ k => zg_aload_n dX9_pairs_0 rfl (zs_getR dX9_pairs_1 zf_X9_53 rfl (zq_87 _) (by decide) (by decide) zr_87_25 (zg_iconst 0 dX9_pairs_4 (by decide) (zg_iconst 0 dX9_pairs_5 (by decide) (zs_iast (j := 0) dX9_pairs_6 (by decide) (zq_102 _) (by decide) (by decide) (zg_iconst 1 dX9_pairs_7 (by decide) (zg_istore_n (ls' := [_, _, _, _, _, _]) dX9_pairs_8 (Nat.le_of_ble_eq_true rfl) rfl rfl k))))))) ?_
  exact d_fg (z_le_s (z_le_s (z_le_s (z_le_0 (z_le_0 (z_le_0 z_le_n)))))) (zd_X9_pairs_9 V d 1000 _ _ _)
def f_X9_links_56 (K40 : Int32 → Int32 → zS → Option (Int32 × zS)) : Nat → Int32 → Int32 → Int32 → Int32 → zS → Option (Int32 × zS)
  | 0, _, _, _, _, _ => none
  | n + 1, v2, v3, v4, v5, S => (f_X9_has v2 v5 S).bind (fun r59 => if r59.1 = 0 then (f_X9_links_56 K40 n v2 v3 v4 (v5 + 1) r59.2) else ((f_X9_way v4 v5 r59.2).bind (fun r70 => if z_in ((v2 &&& (((1 : Int32) <<< (v4 &&& 31)) ^^^ (-1))) &&& (((1 : Int32) <<< (v5 &&& 31)) ^^^ (-1))) 512 then (if z_in v2 512 then (if (r70.1 + (r70.2.1 102 ((v2 &&& (((1 : Int32) <<< (v4 &&& 31)) ^^^ (-1))) &&& (((1 : Int32) <<< (v5 &&& 31)) ^^^ (-1))).toNatClampNeg)) = (r70.2.1 102 v2.toNatClampNeg) then (if z_in v4 9 then (if z_in v5 9 then (K40 (v2 &&& ((((1 : Int32) <<< (v4 &&& 31)) ^^^ (-1)) &&& (((1 : Int32) <<< (v5 &&& 31)) ^^^ (-1)))) v3 (z_w (z_w r70.2 101 v4.toNatClampNeg v5) 101 v5.toNatClampNeg v4)) else none) else none) else (f_X9_links_56 K40 n v2 v3 v4 (v5 + 1) r70.2)) else none) else none)))
set_option maxRecDepth 100000 in
set_option maxHeartbeats 4000000 in
theorem zd_X9_links_56 (V : zV) (d : Nat) {K40 : Int32 → Int32 → zS → Option (Int32 × zS)} (hK40 : ∀ (v2 : Int32) (v3 : Int32) (S : zS), z_J zeI V mX9_links (d + 3) (K40 v2 v3 S) 40 [.ref 87, .null, .int v2, .int v3, .null, .null] [] S) : ∀ (n : Nat) (v2 : Int32) (v3 : Int32) (v4 : Int32) (v5 : Int32) (S : zS), z_J zeI V mX9_links (d + 3) (f_X9_links_56 K40 n v2 v3 v4 v5 S) 56 [.ref 87, .null, .int v2, .int v3, .int v4, .int v5] [] S := by
  intro n
  induction n with
  | zero =>
    intro v2 v3 v4 v5 S r hr
    cases (show (none : Option (Int32 × zS)) = some r from hr)
  | succ n ih =>
    intro v2 v3 v4 v5 S
    rw [f_X9_links_56]
    refine d_st (fun _ k => zg_iload_n dX9_links_56 rfl (zg_iload dX9_links_57 rfl k)) ?_
    refine d_cSi (As := [_, _]) dX9_links_59 zk_X9_84 rfl rfl (Nat.le_of_ble_eq_true rfl) (Nat.le_of_ble_eq_true rfl) rfl (zd_X9_has V (d + 2) _ _ _) (fun r59 _ => ?_)
    refine d_br (fun _ => zg_if_eq 103 dX9_links_62 rfl) (fun c62 => ?_) (fun c62 => ?_)
    · refine d_st (fun _ k => zg_iinc (ls' := [_, _, _, _, _, _]) 1 dX9_links_103 rfl (by decide) (Nat.le_of_ble_eq_true rfl) rfl rfl (zg_goto 56 dX9_links_106 rfl k)) ?_
      exact d_fg (z_le_s (z_le_0 (z_le_s (z_le_s (z_le_s (z_le_s z_le_n)))))) (ih _ _ _ _ _)
    · refine d_st (fun _ k => zg_aload_n dX9_links_65 rfl (zg_iload dX9_links_66 rfl (zg_iload dX9_links_68 rfl k))) ?_
      refine d_cVi (As := [_, _]) dX9_links_70 zk_X9_204 (zq_87 _) (by decide) ⟨_, _, rfl⟩ rfl rfl (Nat.le_of_ble_eq_true rfl) (Nat.le_of_ble_eq_true rfl) rfl (zd_X9_way V (d + 2) _ _ _) (fun r70 _ => ?_)
      refine d_st (fun _ k => zg_aload_n dX9_links_73 rfl (zs_getR dX9_links_74 zf_X9_53 rfl (zq_87 _) (by decide) (by decide) zr_87_25 (zg_iload_n dX9_links_77 rfl (zg_iconst 1 dX9_links_78 (by decide) (zg_iload dX9_links_79 rfl (zg_ishl dX9_links_81 (zg_iconst (-1) dX9_links_82 (by decide) (zg_ixor dX9_links_83 (zg_iand dX9_links_84 (zg_iconst 1 dX9_links_85 (by decide) (zg_iload dX9_links_86 rfl (zg_ishl dX9_links_88 (zg_iconst (-1) dX9_links_89 (by decide) (zg_ixor dX9_links_90 (zg_iand dX9_links_91 k))))))))))))))) ?_
      refine d_gd (fun g92 => ?_)
      refine d_st (fun _ k => zs_iald dX9_links_92 (by decide) (zq_102 _) g92 rfl k) ?_
      refine d_st (fun _ k => zg_iadd dX9_links_93 (zg_aload_n dX9_links_94 rfl (zs_getR dX9_links_95 zf_X9_53 rfl (zq_87 _) (by decide) (by decide) zr_87_25 (zg_iload_n dX9_links_98 rfl k)))) ?_
      refine d_gd (fun g99 => ?_)
      refine d_st (fun _ k => zs_iald dX9_links_99 (by decide) (zq_102 _) g99 rfl k) ?_
      refine d_br (fun _ => zg_icmp_eq 109 dX9_links_100 rfl) (fun c100 => ?_) (fun c100 => ?_)
      · refine d_st (fun _ k => zg_aload_n dX9_links_109 rfl (zs_getR dX9_links_110 zf_X9_50 rfl (zq_87 _) (by decide) (by decide) zr_87_24 (zg_iload dX9_links_113 rfl (zg_iload dX9_links_115 rfl k)))) ?_
        refine d_gd (fun g117 => ?_)
        refine d_st (fun _ k => zs_iast dX9_links_117 (by decide) (zq_101 _) g117 rfl k) ?_
        refine d_st (fun _ k => zg_aload_n dX9_links_118 rfl (zs_getR dX9_links_119 zf_X9_50 rfl (zq_87 _) (by decide) (by decide) zr_87_24 (zg_iload dX9_links_122 rfl (zg_iload dX9_links_124 rfl k)))) ?_
        refine d_gd (fun g126 => ?_)
        refine d_st (fun _ k => zs_iast dX9_links_126 (by decide) (zq_101 _) g126 rfl k) ?_
        refine d_st (fun _ k => zg_iload_n dX9_links_127 rfl (zg_iconst 1 dX9_links_128 (by decide) (zg_iload dX9_links_129 rfl (zg_ishl dX9_links_131 (zg_iconst (-1) dX9_links_132 (by decide) (zg_ixor dX9_links_133 (zg_iconst 1 dX9_links_134 (by decide) (zg_iload dX9_links_135 rfl (zg_ishl dX9_links_137 (zg_iconst (-1) dX9_links_138 (by decide) (zg_ixor dX9_links_139 (zg_iand dX9_links_140 (zg_iand dX9_links_141 (zg_istore_n (ls' := [_, _, _, _, _, _]) dX9_links_142 (Nat.le_of_ble_eq_true rfl) rfl rfl (zg_goto 40 dX9_links_143 rfl k))))))))))))))) ?_
        exact d_fg (z_le_s (z_le_0 (z_le_s (z_le_s (z_le_0 (z_le_0 z_le_n)))))) (hK40 _ _ _)
      · refine d_st (fun _ k => zg_iinc (ls' := [_, _, _, _, _, _]) 1 dX9_links_103 rfl (by decide) (Nat.le_of_ble_eq_true rfl) rfl rfl (zg_goto 56 dX9_links_106 rfl k)) ?_
        exact d_fg (z_le_s (z_le_0 (z_le_s (z_le_s (z_le_s (z_le_s z_le_n)))))) (ih _ _ _ _ _)
def f_X9_links_40 : Nat → Int32 → Int32 → zS → Option (Int32 × zS)
  | 0, _, _, _ => none
  | n + 1, v2, v3, S => if v2 = 0 then (some (v3, S)) else ((f_X9_lowest v2 S).bind (fun r45 => f_X9_links_56 (f_X9_links_40 n) 1000 v2 v3 r45.1 (r45.1 + 1) r45.2))
set_option maxRecDepth 100000 in
set_option maxHeartbeats 4000000 in
theorem zd_X9_links_40 (V : zV) (d : Nat) : ∀ (n : Nat) (v2 : Int32) (v3 : Int32) (S : zS), z_J zeI V mX9_links (d + 3) (f_X9_links_40 n v2 v3 S) 40 [.ref 87, .null, .int v2, .int v3, .null, .null] [] S := by
  intro n
  induction n with
  | zero =>
    intro v2 v3 S r hr
    cases (show (none : Option (Int32 × zS)) = some r from hr)
  | succ n ih =>
    intro v2 v3 S
    rw [f_X9_links_40]
    refine d_st (fun _ k => zg_iload_n dX9_links_40 rfl k) ?_
    refine d_br (fun _ => zg_if_eq 146 dX9_links_41 rfl) (fun c41 => ?_) (fun c41 => ?_)
    · refine d_st (fun _ k => zg_iload_n dX9_links_146 rfl k) ?_
      exact d_retI dX9_links_147 rfl
    · refine d_st (fun _ k => zg_iload_n dX9_links_44 rfl k) ?_
      refine d_cSi (As := [_]) dX9_links_45 zk_X9_247 rfl rfl (Nat.le_of_ble_eq_true rfl) (Nat.le_of_ble_eq_true rfl) rfl (zd_X9_lowest V (d + 1) _ _) (fun r45 _ => ?_)
      refine d_st (fun _ k => zg_istore (ls' := [_, _, _, _, _, _]) dX9_links_48 (Nat.le_of_ble_eq_true rfl) rfl rfl (zg_iload dX9_links_50 rfl (zg_iconst 1 dX9_links_52 (by decide) (zg_iadd dX9_links_53 (zg_istore (ls' := [_, _, _, _, _, _]) dX9_links_54 (Nat.le_of_ble_eq_true rfl) rfl rfl k))))) ?_
      exact d_fg (z_le_s (z_le_0 (z_le_s (z_le_s (z_le_s (z_le_s z_le_n)))))) (zd_X9_links_56 V d ih 1000 _ _ _ _ _)
def f_X9_links_8 : Nat → Int32 → Int32 → zS → Option (Int32 × zS)
  | 0, _, _, _ => none
  | n + 1, v2, v3, S => if 9 ≤ v3 then ((f_X9_pairs v2 S).bind (fun r30 => if z_in v2 512 then (f_X9_links_40 1000 v2 (r30.2.1 102 v2.toNatClampNeg) r30.2) else none)) else (if z_in v3 9 then (f_X9_links_8 n v2 (v3 + 1) (z_w S 101 v3.toNatClampNeg (-9))) else none)
set_option maxRecDepth 100000 in
set_option maxHeartbeats 4000000 in
theorem zd_X9_links_8 (V : zV) (d : Nat) : ∀ (n : Nat) (v2 : Int32) (v3 : Int32) (S : zS), z_J zeI V mX9_links (d + 3) (f_X9_links_8 n v2 v3 S) 8 [.ref 87, .null, .int v2, .int v3, .null, .null] [] S := by
  intro n
  induction n with
  | zero =>
    intro v2 v3 S r hr
    cases (show (none : Option (Int32 × zS)) = some r from hr)
  | succ n ih =>
    intro v2 v3 S
    rw [f_X9_links_8]
    refine d_st (fun _ k => zg_iload_n dX9_links_8 rfl (zg_bipush 9 dX9_links_9 (by decide) k)) ?_
    refine d_br (fun _ => zg_icmp_ge 28 dX9_links_11 rfl) (fun c11 => ?_) (fun c11 => ?_)
    · refine d_st (fun _ k => zg_aload_n dX9_links_28 rfl (zg_iload_n dX9_links_29 rfl k)) ?_
      refine d_cVv (As := [_]) dX9_links_30 zk_X9_253 (zq_87 _) (by decide) ⟨_, _, rfl⟩ rfl rfl (Nat.le_of_ble_eq_true rfl) (Nat.le_of_ble_eq_true rfl) rfl (zd_X9_pairs V d _ _) (fun r30 _ => ?_)
      refine d_st (fun _ k => zg_aload_n dX9_links_33 rfl (zs_getR dX9_links_34 zf_X9_53 rfl (zq_87 _) (by decide) (by decide) zr_87_25 (zg_iload_n dX9_links_37 rfl k))) ?_
      refine d_gd (fun g38 => ?_)
      refine d_st (fun _ k => zs_iald dX9_links_38 (by decide) (zq_102 _) g38 rfl k) ?_
      refine d_st (fun _ k => zg_istore_n (ls' := [_, _, _, _, _, _]) dX9_links_39 (Nat.le_of_ble_eq_true rfl) rfl rfl k) ?_
      exact d_fg (z_le_s (z_le_0 (z_le_s (z_le_s (z_le_0 (z_le_0 z_le_n)))))) (zd_X9_links_40 V d 1000 _ _ _)
    · refine d_st (fun _ k => zg_aload_n dX9_links_14 rfl (zs_getR dX9_links_15 zf_X9_50 rfl (zq_87 _) (by decide) (by decide) zr_87_24 (zg_iload_n dX9_links_18 rfl (zg_bipush (-9) dX9_links_19 (by decide) k)))) ?_
      refine d_gd (fun g21 => ?_)
      refine d_st (fun _ k => zs_iast dX9_links_21 (by decide) (zq_101 _) g21 rfl k) ?_
      refine d_st (fun _ k => zg_iinc (ls' := [_, _, _, _, _, _]) 1 dX9_links_22 rfl (by decide) (Nat.le_of_ble_eq_true rfl) rfl rfl (zg_goto 8 dX9_links_25 rfl k)) ?_
      exact d_fg (z_le_s (z_le_0 (z_le_s (z_le_s (z_le_0 (z_le_0 z_le_n)))))) (ih _ _ _)
def f_X9_links (a1 : Int32) (S : zS) : Option (Int32 × zS) := (f_X9_oddOf a1 S).bind (fun r2 => f_X9_links_8 1000 r2.1 0 r2.2)
set_option maxRecDepth 100000 in
set_option maxHeartbeats 4000000 in
theorem zd_X9_links (V : zV) (d : Nat) : ∀ (a1 : Int32) (S : zS), z_J zeI V mX9_links (d + 3) (f_X9_links a1 S) 0 (z_ent mX9_links [.ref 87, .int a1]) [] S := by
  intro a1 S
  show z_J zeI V mX9_links (d + 3) (f_X9_links a1 S) 0 [.ref 87, .int a1, .null, .null, .null, .null] [] S
  unfold f_X9_links
  refine d_st (fun _ k => zg_aload_n dX9_links_0 rfl (zg_iload_n dX9_links_1 rfl k)) ?_
  refine d_cVi (As := [_]) dX9_links_2 zk_X9_250 (zq_87 _) (by decide) ⟨_, _, rfl⟩ rfl rfl (Nat.le_of_ble_eq_true rfl) (Nat.le_of_ble_eq_true rfl) rfl (zd_X9_oddOf V d _ _) (fun r2 _ => ?_)
  refine d_st (fun _ k => zg_istore_n (ls' := [_, _, _, _, _, _]) dX9_links_5 (Nat.le_of_ble_eq_true rfl) rfl rfl (zg_iconst 0 dX9_links_6 (by decide) (zg_istore_n (ls' := [_, _, _, _, _, _]) dX9_links_7 (Nat.le_of_ble_eq_true rfl) rfl rfl k))) ?_
  exact d_fg (z_le_s (z_le_0 (z_le_s (z_le_s (z_le_0 (z_le_0 z_le_n)))))) (zd_X9_links_8 V d 1000 _ _ _)
def f_X9_opens (a1 : Int32) (a2 : Int32) (a3 : Int32) (S : zS) : Option (Unit × zS) := if z_in (((81 * a3) + (9 * a1)) + a2) 162 then (if z_in (((81 * a3) + (9 * a2)) + a1) 162 then (some ((), (z_w (z_w S 105 ((((81 * a3) + (9 * a1)) + a2).toNatClampNeg) 1) 105 ((((81 * a3) + (9 * a2)) + a1).toNatClampNeg) 1))) else none) else none
set_option maxRecDepth 100000 in
set_option maxHeartbeats 4000000 in
theorem zd_X9_opens (V : zV) (d : Nat) : ∀ (a1 : Int32) (a2 : Int32) (a3 : Int32) (S : zS), z_J zeV V mX9_opens (d) (f_X9_opens a1 a2 a3 S) 0 (z_ent mX9_opens [.ref 87, .int a1, .int a2, .int a3]) [] S := by
  intro a1 a2 a3 S
  show z_J zeV V mX9_opens (d) (f_X9_opens a1 a2 a3 S) 0 [.ref 87, .int a1, .int a2, .int a3] [] S
  unfold f_X9_opens
  refine d_st (fun _ k => zg_aload_n dX9_opens_0 rfl (zs_getR dX9_opens_1 zf_X9_62 rfl (zq_87 _) (by decide) (by decide) zr_87_29 (zg_bipush 81 dX9_opens_4 (by decide) (zg_iload_n dX9_opens_6 rfl (zg_imul dX9_opens_7 (zg_bipush 9 dX9_opens_8 (by decide) (zg_iload_n dX9_opens_10 rfl (zg_imul dX9_opens_11 (zg_iadd dX9_opens_12 (zg_iload_n dX9_opens_13 rfl (zg_iadd dX9_opens_14 (zg_iconst 1 dX9_opens_15 (by decide) k)))))))))))) ?_
  refine d_gd (fun g16 => ?_)
  refine d_st (fun _ k => zs_iast dX9_opens_16 (by decide) (zq_105 _) g16 rfl k) ?_
  refine d_st (fun _ k => zg_aload_n dX9_opens_17 rfl (zs_getR dX9_opens_18 zf_X9_62 rfl (zq_87 _) (by decide) (by decide) zr_87_29 (zg_bipush 81 dX9_opens_21 (by decide) (zg_iload_n dX9_opens_23 rfl (zg_imul dX9_opens_24 (zg_bipush 9 dX9_opens_25 (by decide) (zg_iload_n dX9_opens_27 rfl (zg_imul dX9_opens_28 (zg_iadd dX9_opens_29 (zg_iload_n dX9_opens_30 rfl (zg_iadd dX9_opens_31 (zg_iconst 1 dX9_opens_32 (by decide) k)))))))))))) ?_
  refine d_gd (fun g33 => ?_)
  refine d_st (fun _ k => zs_iast dX9_opens_33 (by decide) (zq_105 _) g33 rfl k) ?_
  exact d_retV dX9_opens_34 rfl
def f_X9_isOpen (a1 : Int32) (a2 : Int32) (a3 : Int32) (S : zS) : Option (Int32 × zS) := if z_in (((81 * a3) + (9 * a1)) + a2) 162 then (if (S.1 105 (((81 * a3) + (9 * a1)) + a2).toNatClampNeg) = 1 then (some (1, S)) else (some (0, S))) else none
set_option maxRecDepth 100000 in
set_option maxHeartbeats 4000000 in
theorem zd_X9_isOpen (V : zV) (d : Nat) : ∀ (a1 : Int32) (a2 : Int32) (a3 : Int32) (S : zS), z_J zeI V mX9_isOpen (d) (f_X9_isOpen a1 a2 a3 S) 0 (z_ent mX9_isOpen [.ref 87, .int a1, .int a2, .int a3]) [] S := by
  intro a1 a2 a3 S
  show z_J zeI V mX9_isOpen (d) (f_X9_isOpen a1 a2 a3 S) 0 [.ref 87, .int a1, .int a2, .int a3] [] S
  unfold f_X9_isOpen
  refine d_st (fun _ k => zg_aload_n dX9_isOpen_0 rfl (zs_getR dX9_isOpen_1 zf_X9_62 rfl (zq_87 _) (by decide) (by decide) zr_87_29 (zg_bipush 81 dX9_isOpen_4 (by decide) (zg_iload_n dX9_isOpen_6 rfl (zg_imul dX9_isOpen_7 (zg_bipush 9 dX9_isOpen_8 (by decide) (zg_iload_n dX9_isOpen_10 rfl (zg_imul dX9_isOpen_11 (zg_iadd dX9_isOpen_12 (zg_iload_n dX9_isOpen_13 rfl (zg_iadd dX9_isOpen_14 k))))))))))) ?_
  refine d_gd (fun g15 => ?_)
  refine d_st (fun _ k => zs_iald dX9_isOpen_15 (by decide) (zq_105 _) g15 rfl k) ?_
  refine d_st (fun _ k => zg_iconst 1 dX9_isOpen_16 (by decide) k) ?_
  refine d_br (fun _ => zg_icmp_ne 24 dX9_isOpen_17 rfl) (fun c17 => ?_) (fun c17 => ?_)
  · refine d_st (fun _ k => zg_iconst 1 dX9_isOpen_20 (by decide) (zg_goto 25 dX9_isOpen_21 rfl k)) ?_
    exact d_retZ dX9_isOpen_25 rfl (by decide)
  · refine d_st (fun _ k => zg_iconst 0 dX9_isOpen_24 (by decide) k) ?_
    exact d_retZ dX9_isOpen_25 rfl (by decide)
def f_X9_shuts (a1 : Int32) (a2 : Int32) (a3 : Int32) (S : zS) : Option (Unit × zS) := if z_in (((81 * a3) + (9 * a1)) + a2) 162 then (if z_in (((81 * a3) + (9 * a2)) + a1) 162 then (some ((), (z_w (z_w S 105 ((((81 * a3) + (9 * a1)) + a2).toNatClampNeg) 0) 105 ((((81 * a3) + (9 * a2)) + a1).toNatClampNeg) 0))) else none) else none
set_option maxRecDepth 100000 in
set_option maxHeartbeats 4000000 in
theorem zd_X9_shuts (V : zV) (d : Nat) : ∀ (a1 : Int32) (a2 : Int32) (a3 : Int32) (S : zS), z_J zeV V mX9_shuts (d) (f_X9_shuts a1 a2 a3 S) 0 (z_ent mX9_shuts [.ref 87, .int a1, .int a2, .int a3]) [] S := by
  intro a1 a2 a3 S
  show z_J zeV V mX9_shuts (d) (f_X9_shuts a1 a2 a3 S) 0 [.ref 87, .int a1, .int a2, .int a3] [] S
  unfold f_X9_shuts
  refine d_st (fun _ k => zg_aload_n dX9_shuts_0 rfl (zs_getR dX9_shuts_1 zf_X9_62 rfl (zq_87 _) (by decide) (by decide) zr_87_29 (zg_bipush 81 dX9_shuts_4 (by decide) (zg_iload_n dX9_shuts_6 rfl (zg_imul dX9_shuts_7 (zg_bipush 9 dX9_shuts_8 (by decide) (zg_iload_n dX9_shuts_10 rfl (zg_imul dX9_shuts_11 (zg_iadd dX9_shuts_12 (zg_iload_n dX9_shuts_13 rfl (zg_iadd dX9_shuts_14 (zg_iconst 0 dX9_shuts_15 (by decide) k)))))))))))) ?_
  refine d_gd (fun g16 => ?_)
  refine d_st (fun _ k => zs_iast dX9_shuts_16 (by decide) (zq_105 _) g16 rfl k) ?_
  refine d_st (fun _ k => zg_aload_n dX9_shuts_17 rfl (zs_getR dX9_shuts_18 zf_X9_62 rfl (zq_87 _) (by decide) (by decide) zr_87_29 (zg_bipush 81 dX9_shuts_21 (by decide) (zg_iload_n dX9_shuts_23 rfl (zg_imul dX9_shuts_24 (zg_bipush 9 dX9_shuts_25 (by decide) (zg_iload_n dX9_shuts_27 rfl (zg_imul dX9_shuts_28 (zg_iadd dX9_shuts_29 (zg_iload_n dX9_shuts_30 rfl (zg_iadd dX9_shuts_31 (zg_iconst 0 dX9_shuts_32 (by decide) k)))))))))))) ?_
  refine d_gd (fun g33 => ?_)
  refine d_st (fun _ k => zs_iast dX9_shuts_33 (by decide) (zq_105 _) g33 rfl k) ?_
  exact d_retV dX9_shuts_34 rfl
def f_X9_isAllFrom_109 (K99 : Int32 → Int32 → Int32 → zS → Option (Int32 × zS)) : Nat → Int32 → Int32 → Int32 → Int32 → zS → Option (Int32 × zS)
  | 0, _, _, _, _, _ => none
  | n + 1, v2, v3, v4, v5, S => if 9 ≤ v5 then (K99 v2 v3 (v4 + 1) S) else (if v3 = 0 then (f_X9_isAllFrom_109 K99 n v2 0 v4 (v5 + 1) S) else ((f_X9_has v2 v4 S).bind (fun r123 => if r123.1 = 0 then ((f_X9_isOpen v4 v5 0 r123.2).bind (fun r135 => if r135.1 = 0 then ((f_X9_isOpen v4 v5 1 r135.2).bind (fun r147 => if r147.1 = 0 then (f_X9_isAllFrom_109 K99 n v2 1 v4 (v5 + 1) r147.2) else (f_X9_isAllFrom_109 K99 n v2 0 v4 (v5 + 1) r147.2))) else (f_X9_isAllFrom_109 K99 n v2 0 v4 (v5 + 1) r135.2))) else (f_X9_isAllFrom_109 K99 n v2 1 v4 (v5 + 1) r123.2))))
set_option maxRecDepth 100000 in
set_option maxHeartbeats 4000000 in
theorem zd_X9_isAllFrom_109 (V : zV) (d : Nat) {K99 : Int32 → Int32 → Int32 → zS → Option (Int32 × zS)} (hK99 : ∀ (v2 : Int32) (v3 : Int32) (v4 : Int32) (S : zS), z_J zeI V mX9_isAllFrom (d + 1) (K99 v2 v3 v4 S) 99 [.ref 87, .null, .int v2, .int v3, .int v4, .null] [] S) : ∀ (n : Nat) (v2 : Int32) (v3 : Int32) (v4 : Int32) (v5 : Int32) (S : zS), z_J zeI V mX9_isAllFrom (d + 1) (f_X9_isAllFrom_109 K99 n v2 v3 v4 v5 S) 109 [.ref 87, .null, .int v2, .int v3, .int v4, .int v5] [] S := by
  intro n
  induction n with
  | zero =>
    intro v2 v3 v4 v5 S r hr
    cases (show (none : Option (Int32 × zS)) = some r from hr)
  | succ n ih =>
    intro v2 v3 v4 v5 S
    rw [f_X9_isAllFrom_109]
    refine d_st (fun _ k => zg_iload dX9_isAllFrom_109 rfl (zg_bipush 9 dX9_isAllFrom_111 (by decide) k)) ?_
    refine d_br (fun _ => zg_icmp_ge 165 dX9_isAllFrom_113 rfl) (fun c113 => ?_) (fun c113 => ?_)
    · refine d_st (fun _ k => zg_iinc (ls' := [_, _, _, _, _, _]) 1 dX9_isAllFrom_165 rfl (by decide) (Nat.le_of_ble_eq_true rfl) rfl rfl (zg_goto 99 dX9_isAllFrom_168 rfl k)) ?_
      exact d_fg (z_le_s (z_le_0 (z_le_s (z_le_s (z_le_s (z_le_0 z_le_n)))))) (hK99 _ _ _ _)
    · refine d_st (fun _ k => zg_iload_n dX9_isAllFrom_116 rfl k) ?_
      refine d_br (fun _ => zg_if_eq 157 dX9_isAllFrom_117 rfl) (fun c117 => ?_) (fun c117 => ?_)
      · refine d_st (fun _ k => zg_iconst 0 dX9_isAllFrom_157 (by decide) (zg_istore_n (ls' := [_, _, _, _, _, _]) dX9_isAllFrom_158 (Nat.le_of_ble_eq_true rfl) rfl rfl (zg_iinc (ls' := [_, _, _, _, _, _]) 1 dX9_isAllFrom_159 rfl (by decide) (Nat.le_of_ble_eq_true rfl) rfl rfl (zg_goto 109 dX9_isAllFrom_162 rfl k)))) ?_
        exact d_fg (z_le_s (z_le_0 (z_le_s (z_le_s (z_le_s (z_le_s z_le_n)))))) (ih _ _ _ _ _)
      · refine d_st (fun _ k => zg_iload_n dX9_isAllFrom_120 rfl (zg_iload dX9_isAllFrom_121 rfl k)) ?_
        refine d_cSi (As := [_, _]) dX9_isAllFrom_123 zk_X9_84 rfl rfl (Nat.le_of_ble_eq_true rfl) (Nat.le_of_ble_eq_true rfl) rfl (zd_X9_has V d _ _ _) (fun r123 _ => ?_)
        refine d_br (fun _ => zg_if_ne 153 dX9_isAllFrom_126 rfl) (fun c126 => ?_) (fun c126 => ?_)
        · refine d_st (fun _ k => zg_aload_n dX9_isAllFrom_129 rfl (zg_iload dX9_isAllFrom_130 rfl (zg_iload dX9_isAllFrom_132 rfl (zg_iconst 0 dX9_isAllFrom_134 (by decide) k)))) ?_
          refine d_cVi (As := [_, _, _]) dX9_isAllFrom_135 zk_X9_259 (zq_87 _) (by decide) ⟨_, _, rfl⟩ rfl rfl (Nat.le_of_ble_eq_true rfl) (Nat.le_of_ble_eq_true rfl) rfl (zd_X9_isOpen V d _ _ _ _) (fun r135 _ => ?_)
          refine d_br (fun _ => zg_if_ne 157 dX9_isAllFrom_138 rfl) (fun c138 => ?_) (fun c138 => ?_)
          · refine d_st (fun _ k => zg_aload_n dX9_isAllFrom_141 rfl (zg_iload dX9_isAllFrom_142 rfl (zg_iload dX9_isAllFrom_144 rfl (zg_iconst 1 dX9_isAllFrom_146 (by decide) k)))) ?_
            refine d_cVi (As := [_, _, _]) dX9_isAllFrom_147 zk_X9_259 (zq_87 _) (by decide) ⟨_, _, rfl⟩ rfl rfl (Nat.le_of_ble_eq_true rfl) (Nat.le_of_ble_eq_true rfl) rfl (zd_X9_isOpen V d _ _ _ _) (fun r147 _ => ?_)
            refine d_br (fun _ => zg_if_ne 157 dX9_isAllFrom_150 rfl) (fun c150 => ?_) (fun c150 => ?_)
            · refine d_st (fun _ k => zg_iconst 1 dX9_isAllFrom_153 (by decide) (zg_goto 158 dX9_isAllFrom_154 rfl (zg_istore_n (ls' := [_, _, _, _, _, _]) dX9_isAllFrom_158 (Nat.le_of_ble_eq_true rfl) rfl rfl (zg_iinc (ls' := [_, _, _, _, _, _]) 1 dX9_isAllFrom_159 rfl (by decide) (Nat.le_of_ble_eq_true rfl) rfl rfl (zg_goto 109 dX9_isAllFrom_162 rfl k))))) ?_
              exact d_fg (z_le_s (z_le_0 (z_le_s (z_le_s (z_le_s (z_le_s z_le_n)))))) (ih _ _ _ _ _)
            · refine d_st (fun _ k => zg_iconst 0 dX9_isAllFrom_157 (by decide) (zg_istore_n (ls' := [_, _, _, _, _, _]) dX9_isAllFrom_158 (Nat.le_of_ble_eq_true rfl) rfl rfl (zg_iinc (ls' := [_, _, _, _, _, _]) 1 dX9_isAllFrom_159 rfl (by decide) (Nat.le_of_ble_eq_true rfl) rfl rfl (zg_goto 109 dX9_isAllFrom_162 rfl k)))) ?_
              exact d_fg (z_le_s (z_le_0 (z_le_s (z_le_s (z_le_s (z_le_s z_le_n)))))) (ih _ _ _ _ _)
          · refine d_st (fun _ k => zg_iconst 0 dX9_isAllFrom_157 (by decide) (zg_istore_n (ls' := [_, _, _, _, _, _]) dX9_isAllFrom_158 (Nat.le_of_ble_eq_true rfl) rfl rfl (zg_iinc (ls' := [_, _, _, _, _, _]) 1 dX9_isAllFrom_159 rfl (by decide) (Nat.le_of_ble_eq_true rfl) rfl rfl (zg_goto 109 dX9_isAllFrom_162 rfl k)))) ?_
            exact d_fg (z_le_s (z_le_0 (z_le_s (z_le_s (z_le_s (z_le_s z_le_n)))))) (ih _ _ _ _ _)
        · refine d_st (fun _ k => zg_iconst 1 dX9_isAllFrom_153 (by decide) (zg_goto 158 dX9_isAllFrom_154 rfl (zg_istore_n (ls' := [_, _, _, _, _, _]) dX9_isAllFrom_158 (Nat.le_of_ble_eq_true rfl) rfl rfl (zg_iinc (ls' := [_, _, _, _, _, _]) 1 dX9_isAllFrom_159 rfl (by decide) (Nat.le_of_ble_eq_true rfl) rfl rfl (zg_goto 109 dX9_isAllFrom_162 rfl k))))) ?_
          exact d_fg (z_le_s (z_le_0 (z_le_s (z_le_s (z_le_s (z_le_s z_le_n)))))) (ih _ _ _ _ _)
def f_X9_isAllFrom_99 : Nat → Int32 → Int32 → Int32 → zS → Option (Int32 × zS)
  | 0, _, _, _, _ => none
  | n + 1, v2, v3, v4, S => if 9 ≤ v4 then (if v3 = 0 ∨ v3 = 1 then some (v3, S) else none) else (f_X9_isAllFrom_109 (f_X9_isAllFrom_99 n) 1000 v2 v3 v4 0 S)
set_option maxRecDepth 100000 in
set_option maxHeartbeats 4000000 in
theorem zd_X9_isAllFrom_99 (V : zV) (d : Nat) : ∀ (n : Nat) (v2 : Int32) (v3 : Int32) (v4 : Int32) (S : zS), z_J zeI V mX9_isAllFrom (d + 1) (f_X9_isAllFrom_99 n v2 v3 v4 S) 99 [.ref 87, .null, .int v2, .int v3, .int v4, .null] [] S := by
  intro n
  induction n with
  | zero =>
    intro v2 v3 v4 S r hr
    cases (show (none : Option (Int32 × zS)) = some r from hr)
  | succ n ih =>
    intro v2 v3 v4 S
    rw [f_X9_isAllFrom_99]
    refine d_st (fun _ k => zg_iload dX9_isAllFrom_99 rfl (zg_bipush 9 dX9_isAllFrom_101 (by decide) k)) ?_
    refine d_br (fun _ => zg_icmp_ge 171 dX9_isAllFrom_103 rfl) (fun c103 => ?_) (fun c103 => ?_)
    · refine d_st (fun _ k => zg_iload_n dX9_isAllFrom_171 rfl k) ?_
      refine d_gd (fun g172 => ?_)
      exact d_retZ dX9_isAllFrom_172 rfl g172
    · refine d_st (fun _ k => zg_iconst 0 dX9_isAllFrom_106 (by decide) (zg_istore (ls' := [_, _, _, _, _, _]) dX9_isAllFrom_107 (Nat.le_of_ble_eq_true rfl) rfl rfl k)) ?_
      exact d_fg (z_le_s (z_le_0 (z_le_s (z_le_s (z_le_s (z_le_s z_le_n)))))) (zd_X9_isAllFrom_109 V d ih 1000 _ _ _ _ _)
def f_X9_isAllFrom_25 (K6 : Int32 → Int32 → zS → Option (Int32 × zS)) (K15 : Int32 → Int32 → Int32 → zS → Option (Int32 × zS)) : Nat → Int32 → Int32 → Int32 → Int32 → zS → Option (Int32 × zS)
  | 0, _, _, _, _, _ => none
  | n + 1, v2, v3, v4, v5, S => if 9 ≤ v5 then (K15 v2 v3 (v4 + 1) S) else ((f_X9_has v2 v4 S).bind (fun r36 => if r36.1 = 0 then (f_X9_isAllFrom_25 K6 K15 n (v2 ||| 0) v3 v4 (v5 + 1) r36.2) else ((f_X9_isOpen v4 v5 0 r36.2).bind (fun r48 => if r48.1 = 0 then ((f_X9_isOpen v4 v5 1 r48.2).bind (fun r60 => if r60.1 = 0 then (f_X9_isAllFrom_25 K6 K15 n (v2 ||| 0) v3 v4 (v5 + 1) r60.2) else (f_X9_isAllFrom_25 K6 K15 n (v2 ||| ((1 : Int32) <<< (v5 &&& 31))) v3 v4 (v5 + 1) r60.2))) else (f_X9_isAllFrom_25 K6 K15 n (v2 ||| ((1 : Int32) <<< (v5 &&& 31))) v3 v4 (v5 + 1) r48.2)))))
set_option maxRecDepth 100000 in
set_option maxHeartbeats 4000000 in
theorem zd_X9_isAllFrom_25 (V : zV) (d : Nat) {K6 : Int32 → Int32 → zS → Option (Int32 × zS)} (hK6 : ∀ (v2 : Int32) (v3 : Int32) (S : zS), z_J zeI V mX9_isAllFrom (d + 1) (K6 v2 v3 S) 6 [.ref 87, .null, .int v2, .int v3, .null, .null] [] S) {K15 : Int32 → Int32 → Int32 → zS → Option (Int32 × zS)} (hK15 : ∀ (v2 : Int32) (v3 : Int32) (v4 : Int32) (S : zS), z_J zeI V mX9_isAllFrom (d + 1) (K15 v2 v3 v4 S) 15 [.ref 87, .null, .int v2, .int v3, .int v4, .null] [] S) : ∀ (n : Nat) (v2 : Int32) (v3 : Int32) (v4 : Int32) (v5 : Int32) (S : zS), z_J zeI V mX9_isAllFrom (d + 1) (f_X9_isAllFrom_25 K6 K15 n v2 v3 v4 v5 S) 25 [.ref 87, .null, .int v2, .int v3, .int v4, .int v5] [] S := by
  intro n
  induction n with
  | zero =>
    intro v2 v3 v4 v5 S r hr
    cases (show (none : Option (Int32 × zS)) = some r from hr)
  | succ n ih =>
    intro v2 v3 v4 v5 S
    rw [f_X9_isAllFrom_25]
    refine d_st (fun _ k => zg_iload dX9_isAllFrom_25 rfl (zg_bipush 9 dX9_isAllFrom_27 (by decide) k)) ?_
    refine d_br (fun _ => zg_icmp_ge 82 dX9_isAllFrom_29 rfl) (fun c29 => ?_) (fun c29 => ?_)
    · refine d_st (fun _ k => zg_iinc (ls' := [_, _, _, _, _, _]) 1 dX9_isAllFrom_82 rfl (by decide) (Nat.le_of_ble_eq_true rfl) rfl rfl (zg_goto 15 dX9_isAllFrom_85 rfl k)) ?_
      exact d_fg (z_le_s (z_le_0 (z_le_s (z_le_s (z_le_s (z_le_0 z_le_n)))))) (hK15 _ _ _ _)
    · refine d_st (fun _ k => zg_iload_n dX9_isAllFrom_32 rfl (zg_iload_n dX9_isAllFrom_33 rfl (zg_iload dX9_isAllFrom_34 rfl k))) ?_
      refine d_cSi (As := [_, _]) dX9_isAllFrom_36 zk_X9_84 rfl rfl (Nat.le_of_ble_eq_true rfl) (Nat.le_of_ble_eq_true rfl) rfl (zd_X9_has V d _ _ _) (fun r36 _ => ?_)
      refine d_br (fun _ => zg_if_eq 73 dX9_isAllFrom_39 rfl) (fun c39 => ?_) (fun c39 => ?_)
      · refine d_st (fun _ k => zg_iconst 0 dX9_isAllFrom_73 (by decide) (zg_ior dX9_isAllFrom_74 (zg_istore_n (ls' := [_, _, _, _, _, _]) dX9_isAllFrom_75 (Nat.le_of_ble_eq_true rfl) rfl rfl (zg_iinc (ls' := [_, _, _, _, _, _]) 1 dX9_isAllFrom_76 rfl (by decide) (Nat.le_of_ble_eq_true rfl) rfl rfl (zg_goto 25 dX9_isAllFrom_79 rfl k))))) ?_
        exact d_fg (z_le_s (z_le_0 (z_le_s (z_le_s (z_le_s (z_le_s z_le_n)))))) (ih _ _ _ _ _)
      · refine d_st (fun _ k => zg_aload_n dX9_isAllFrom_42 rfl (zg_iload dX9_isAllFrom_43 rfl (zg_iload dX9_isAllFrom_45 rfl (zg_iconst 0 dX9_isAllFrom_47 (by decide) k)))) ?_
        refine d_cVi (As := [_, _, _]) dX9_isAllFrom_48 zk_X9_259 (zq_87 _) (by decide) ⟨_, _, rfl⟩ rfl rfl (Nat.le_of_ble_eq_true rfl) (Nat.le_of_ble_eq_true rfl) rfl (zd_X9_isOpen V d _ _ _ _) (fun r48 _ => ?_)
        refine d_br (fun _ => zg_if_ne 66 dX9_isAllFrom_51 rfl) (fun c51 => ?_) (fun c51 => ?_)
        · refine d_st (fun _ k => zg_aload_n dX9_isAllFrom_54 rfl (zg_iload dX9_isAllFrom_55 rfl (zg_iload dX9_isAllFrom_57 rfl (zg_iconst 1 dX9_isAllFrom_59 (by decide) k)))) ?_
          refine d_cVi (As := [_, _, _]) dX9_isAllFrom_60 zk_X9_259 (zq_87 _) (by decide) ⟨_, _, rfl⟩ rfl rfl (Nat.le_of_ble_eq_true rfl) (Nat.le_of_ble_eq_true rfl) rfl (zd_X9_isOpen V d _ _ _ _) (fun r60 _ => ?_)
          refine d_br (fun _ => zg_if_eq 73 dX9_isAllFrom_63 rfl) (fun c63 => ?_) (fun c63 => ?_)
          · refine d_st (fun _ k => zg_iconst 0 dX9_isAllFrom_73 (by decide) (zg_ior dX9_isAllFrom_74 (zg_istore_n (ls' := [_, _, _, _, _, _]) dX9_isAllFrom_75 (Nat.le_of_ble_eq_true rfl) rfl rfl (zg_iinc (ls' := [_, _, _, _, _, _]) 1 dX9_isAllFrom_76 rfl (by decide) (Nat.le_of_ble_eq_true rfl) rfl rfl (zg_goto 25 dX9_isAllFrom_79 rfl k))))) ?_
            exact d_fg (z_le_s (z_le_0 (z_le_s (z_le_s (z_le_s (z_le_s z_le_n)))))) (ih _ _ _ _ _)
          · refine d_st (fun _ k => zg_iconst 1 dX9_isAllFrom_66 (by decide) (zg_iload dX9_isAllFrom_67 rfl (zg_ishl dX9_isAllFrom_69 (zg_goto 74 dX9_isAllFrom_70 rfl (zg_ior dX9_isAllFrom_74 (zg_istore_n (ls' := [_, _, _, _, _, _]) dX9_isAllFrom_75 (Nat.le_of_ble_eq_true rfl) rfl rfl (zg_iinc (ls' := [_, _, _, _, _, _]) 1 dX9_isAllFrom_76 rfl (by decide) (Nat.le_of_ble_eq_true rfl) rfl rfl (zg_goto 25 dX9_isAllFrom_79 rfl k)))))))) ?_
            exact d_fg (z_le_s (z_le_0 (z_le_s (z_le_s (z_le_s (z_le_s z_le_n)))))) (ih _ _ _ _ _)
        · refine d_st (fun _ k => zg_iconst 1 dX9_isAllFrom_66 (by decide) (zg_iload dX9_isAllFrom_67 rfl (zg_ishl dX9_isAllFrom_69 (zg_goto 74 dX9_isAllFrom_70 rfl (zg_ior dX9_isAllFrom_74 (zg_istore_n (ls' := [_, _, _, _, _, _]) dX9_isAllFrom_75 (Nat.le_of_ble_eq_true rfl) rfl rfl (zg_iinc (ls' := [_, _, _, _, _, _]) 1 dX9_isAllFrom_76 rfl (by decide) (Nat.le_of_ble_eq_true rfl) rfl rfl (zg_goto 25 dX9_isAllFrom_79 rfl k)))))))) ?_
          exact d_fg (z_le_s (z_le_0 (z_le_s (z_le_s (z_le_s (z_le_s z_le_n)))))) (ih _ _ _ _ _)
def f_X9_isAllFrom_15 (K6 : Int32 → Int32 → zS → Option (Int32 × zS)) : Nat → Int32 → Int32 → Int32 → zS → Option (Int32 × zS)
  | 0, _, _, _, _ => none
  | n + 1, v2, v3, v4, S => if 9 ≤ v4 then (K6 v2 (v3 + 1) S) else (f_X9_isAllFrom_25 K6 (f_X9_isAllFrom_15 K6 n) 1000 v2 v3 v4 0 S)
set_option maxRecDepth 100000 in
set_option maxHeartbeats 4000000 in
theorem zd_X9_isAllFrom_15 (V : zV) (d : Nat) {K6 : Int32 → Int32 → zS → Option (Int32 × zS)} (hK6 : ∀ (v2 : Int32) (v3 : Int32) (S : zS), z_J zeI V mX9_isAllFrom (d + 1) (K6 v2 v3 S) 6 [.ref 87, .null, .int v2, .int v3, .null, .null] [] S) : ∀ (n : Nat) (v2 : Int32) (v3 : Int32) (v4 : Int32) (S : zS), z_J zeI V mX9_isAllFrom (d + 1) (f_X9_isAllFrom_15 K6 n v2 v3 v4 S) 15 [.ref 87, .null, .int v2, .int v3, .int v4, .null] [] S := by
  intro n
  induction n with
  | zero =>
    intro v2 v3 v4 S r hr
    cases (show (none : Option (Int32 × zS)) = some r from hr)
  | succ n ih =>
    intro v2 v3 v4 S
    rw [f_X9_isAllFrom_15]
    refine d_st (fun _ k => zg_iload dX9_isAllFrom_15 rfl (zg_bipush 9 dX9_isAllFrom_17 (by decide) k)) ?_
    refine d_br (fun _ => zg_icmp_ge 88 dX9_isAllFrom_19 rfl) (fun c19 => ?_) (fun c19 => ?_)
    · refine d_st (fun _ k => zg_iinc (ls' := [_, _, _, _, _, _]) 1 dX9_isAllFrom_88 rfl (by decide) (Nat.le_of_ble_eq_true rfl) rfl rfl (zg_goto 6 dX9_isAllFrom_91 rfl k)) ?_
      exact d_fg (z_le_s (z_le_0 (z_le_s (z_le_s (z_le_0 (z_le_0 z_le_n)))))) (hK6 _ _ _)
    · refine d_st (fun _ k => zg_iconst 0 dX9_isAllFrom_22 (by decide) (zg_istore (ls' := [_, _, _, _, _, _]) dX9_isAllFrom_23 (Nat.le_of_ble_eq_true rfl) rfl rfl k)) ?_
      exact d_fg (z_le_s (z_le_0 (z_le_s (z_le_s (z_le_s (z_le_s z_le_n)))))) (zd_X9_isAllFrom_25 V d hK6 ih 1000 _ _ _ _ _)
def f_X9_isAllFrom_6 : Nat → Int32 → Int32 → zS → Option (Int32 × zS)
  | 0, _, _, _ => none
  | n + 1, v2, v3, S => if 9 ≤ v3 then (f_X9_isAllFrom_99 1000 v2 1 0 S) else (f_X9_isAllFrom_15 (f_X9_isAllFrom_6 n) 1000 v2 v3 0 S)
set_option maxRecDepth 100000 in
set_option maxHeartbeats 4000000 in
theorem zd_X9_isAllFrom_6 (V : zV) (d : Nat) : ∀ (n : Nat) (v2 : Int32) (v3 : Int32) (S : zS), z_J zeI V mX9_isAllFrom (d + 1) (f_X9_isAllFrom_6 n v2 v3 S) 6 [.ref 87, .null, .int v2, .int v3, .null, .null] [] S := by
  intro n
  induction n with
  | zero =>
    intro v2 v3 S r hr
    cases (show (none : Option (Int32 × zS)) = some r from hr)
  | succ n ih =>
    intro v2 v3 S
    rw [f_X9_isAllFrom_6]
    refine d_st (fun _ k => zg_iload_n dX9_isAllFrom_6 rfl (zg_bipush 9 dX9_isAllFrom_7 (by decide) k)) ?_
    refine d_br (fun _ => zg_icmp_ge 94 dX9_isAllFrom_9 rfl) (fun c9 => ?_) (fun c9 => ?_)
    · refine d_st (fun _ k => zg_iconst 1 dX9_isAllFrom_94 (by decide) (zg_istore_n (ls' := [_, _, _, _, _, _]) dX9_isAllFrom_95 (Nat.le_of_ble_eq_true rfl) rfl rfl (zg_iconst 0 dX9_isAllFrom_96 (by decide) (zg_istore (ls' := [_, _, _, _, _, _]) dX9_isAllFrom_97 (Nat.le_of_ble_eq_true rfl) rfl rfl k)))) ?_
      exact d_fg (z_le_s (z_le_0 (z_le_s (z_le_s (z_le_s (z_le_0 z_le_n)))))) (zd_X9_isAllFrom_99 V d 1000 _ _ _ _)
    · refine d_st (fun _ k => zg_iconst 0 dX9_isAllFrom_12 (by decide) (zg_istore (ls' := [_, _, _, _, _, _]) dX9_isAllFrom_13 (Nat.le_of_ble_eq_true rfl) rfl rfl k)) ?_
      exact d_fg (z_le_s (z_le_0 (z_le_s (z_le_s (z_le_s (z_le_0 z_le_n)))))) (zd_X9_isAllFrom_15 V d ih 1000 _ _ _ _)
def f_X9_isAllFrom (a1 : Int32) (S : zS) : Option (Int32 × zS) := f_X9_isAllFrom_6 1000 ((1 : Int32) <<< (a1 &&& 31)) 0 S
set_option maxRecDepth 100000 in
set_option maxHeartbeats 4000000 in
theorem zd_X9_isAllFrom (V : zV) (d : Nat) : ∀ (a1 : Int32) (S : zS), z_J zeI V mX9_isAllFrom (d + 1) (f_X9_isAllFrom a1 S) 0 (z_ent mX9_isAllFrom [.ref 87, .int a1]) [] S := by
  intro a1 S
  show z_J zeI V mX9_isAllFrom (d + 1) (f_X9_isAllFrom a1 S) 0 [.ref 87, .int a1, .null, .null, .null, .null] [] S
  unfold f_X9_isAllFrom
  refine d_st (fun _ k => zg_iconst 1 dX9_isAllFrom_0 (by decide) (zg_iload_n dX9_isAllFrom_1 rfl (zg_ishl dX9_isAllFrom_2 (zg_istore_n (ls' := [_, _, _, _, _, _]) dX9_isAllFrom_3 (Nat.le_of_ble_eq_true rfl) rfl rfl (zg_iconst 0 dX9_isAllFrom_4 (by decide) (zg_istore_n (ls' := [_, _, _, _, _, _]) dX9_isAllFrom_5 (Nat.le_of_ble_eq_true rfl) rfl rfl k)))))) ?_
  exact d_fg (z_le_s (z_le_0 (z_le_s (z_le_s (z_le_0 (z_le_0 z_le_n)))))) (zd_X9_isAllFrom_6 V d 1000 _ _ _)
def f_X9_goesOn (a1 : Int32) (a2 : Int32) (a3 : Int32) (S : zS) : Option (Int32 × zS) := (f_X9_isOpen a1 a2 a3 S).bind (fun r4 => if r4.1 = 0 then (some (0, r4.2)) else ((f_X9_shuts a1 a2 a3 r4.2).bind (fun r16 => (f_X9_isAllFrom a2 r16.2).bind (fun r21 => if r21.1 = 0 then ((f_X9_opens a1 a2 a3 r21.2).bind (fun r33 => some (0, r33.2))) else (some (1, r21.2))))))
set_option maxRecDepth 100000 in
set_option maxHeartbeats 4000000 in
theorem zd_X9_goesOn (V : zV) (d : Nat) : ∀ (a1 : Int32) (a2 : Int32) (a3 : Int32) (S : zS), z_J zeI V mX9_goesOn (d + 2) (f_X9_goesOn a1 a2 a3 S) 0 (z_ent mX9_goesOn [.ref 87, .int a1, .int a2, .int a3]) [] S := by
  intro a1 a2 a3 S
  show z_J zeI V mX9_goesOn (d + 2) (f_X9_goesOn a1 a2 a3 S) 0 [.ref 87, .int a1, .int a2, .int a3] [] S
  unfold f_X9_goesOn
  refine d_st (fun _ k => zg_aload_n dX9_goesOn_0 rfl (zg_iload_n dX9_goesOn_1 rfl (zg_iload_n dX9_goesOn_2 rfl (zg_iload_n dX9_goesOn_3 rfl k)))) ?_
  refine d_cVi (As := [_, _, _]) dX9_goesOn_4 zk_X9_259 (zq_87 _) (by decide) ⟨_, _, rfl⟩ rfl rfl (Nat.le_of_ble_eq_true rfl) (Nat.le_of_ble_eq_true rfl) rfl (zd_X9_isOpen V (d + 1) _ _ _ _) (fun r4 _ => ?_)
  refine d_br (fun _ => zg_if_ne 12 dX9_goesOn_7 rfl) (fun c7 => ?_) (fun c7 => ?_)
  · refine d_st (fun _ k => zg_iconst 0 dX9_goesOn_10 (by decide) k) ?_
    exact d_retZ dX9_goesOn_11 rfl (by decide)
  · refine d_st (fun _ k => zg_aload_n dX9_goesOn_12 rfl (zg_iload_n dX9_goesOn_13 rfl (zg_iload_n dX9_goesOn_14 rfl (zg_iload_n dX9_goesOn_15 rfl k)))) ?_
    refine d_cVv (As := [_, _, _]) dX9_goesOn_16 zk_X9_262 (zq_87 _) (by decide) ⟨_, _, rfl⟩ rfl rfl (Nat.le_of_ble_eq_true rfl) (Nat.le_of_ble_eq_true rfl) rfl (zd_X9_shuts V (d + 1) _ _ _ _) (fun r16 _ => ?_)
    refine d_st (fun _ k => zg_aload_n dX9_goesOn_19 rfl (zg_iload_n dX9_goesOn_20 rfl k)) ?_
    refine d_cVi (As := [_]) dX9_goesOn_21 zk_X9_266 (zq_87 _) (by decide) ⟨_, _, rfl⟩ rfl rfl (Nat.le_of_ble_eq_true rfl) (Nat.le_of_ble_eq_true rfl) rfl (zd_X9_isAllFrom V d _ _) (fun r21 _ => ?_)
    refine d_br (fun _ => zg_if_eq 29 dX9_goesOn_24 rfl) (fun c24 => ?_) (fun c24 => ?_)
    · refine d_st (fun _ k => zg_aload_n dX9_goesOn_29 rfl (zg_iload_n dX9_goesOn_30 rfl (zg_iload_n dX9_goesOn_31 rfl (zg_iload_n dX9_goesOn_32 rfl k)))) ?_
      refine d_cVv (As := [_, _, _]) dX9_goesOn_33 zk_X9_269 (zq_87 _) (by decide) ⟨_, _, rfl⟩ rfl rfl (Nat.le_of_ble_eq_true rfl) (Nat.le_of_ble_eq_true rfl) rfl (zd_X9_opens V (d + 1) _ _ _ _) (fun r33 _ => ?_)
      refine d_st (fun _ k => zg_iconst 0 dX9_goesOn_36 (by decide) k) ?_
      exact d_retZ dX9_goesOn_37 rfl (by decide)
    · refine d_st (fun _ k => zg_iconst 1 dX9_goesOn_27 (by decide) k) ?_
      exact d_retZ dX9_goesOn_28 rfl (by decide)
def f_X9_rounds_194 (K148 : Int32 → Int32 → Int32 → zS → Option (Int32 × zS)) (K170 : Int32 → Int32 → Int32 → Int32 → Int32 → zS → Option (Int32 × zS)) (v2 : Int32) (v3 : Int32) (v4 : Int32) (v5 : Int32) (S : zS) : Option (Int32 × zS) := (f_X9_goesOn v4 (v5 + 1) 0 S).bind (fun r203 => K170 v2 v3 v4 (v5 + 1) r203.1 r203.2)
set_option maxRecDepth 100000 in
set_option maxHeartbeats 4000000 in
theorem zd_X9_rounds_194 (V : zV) (d : Nat) {K148 : Int32 → Int32 → Int32 → zS → Option (Int32 × zS)} (hK148 : ∀ (v2 : Int32) (v3 : Int32) (v4 : Int32) (S : zS), z_J zeI V mX9_rounds (d + 4) (K148 v2 v3 v4 S) 148 [.ref 87, .null, .int v2, .int v3, .int v4, .null, .null] [] S) {K170 : Int32 → Int32 → Int32 → Int32 → Int32 → zS → Option (Int32 × zS)} (hK170 : ∀ (v2 : Int32) (v3 : Int32) (v4 : Int32) (v5 : Int32) (v6 : Int32) (S : zS), z_J zeI V mX9_rounds (d + 4) (K170 v2 v3 v4 v5 v6 S) 170 [.ref 87, .null, .int v2, .int v3, .int v4, .int v5, .int v6] [] S) : ∀ (v2 : Int32) (v3 : Int32) (v4 : Int32) (v5 : Int32) (S : zS), z_J zeI V mX9_rounds (d + 4) (f_X9_rounds_194 K148 K170 v2 v3 v4 v5 S) 194 [.ref 87, .null, .int v2, .int v3, .int v4, .int v5, .null] [] S := by
  intro v2 v3 v4 v5 S
  unfold f_X9_rounds_194
  refine d_st (fun _ k => zg_iinc (ls' := [_, _, _, _, _, _, _]) 1 dX9_rounds_194 rfl (by decide) (Nat.le_of_ble_eq_true rfl) rfl rfl (zg_aload_n dX9_rounds_197 rfl (zg_iload dX9_rounds_198 rfl (zg_iload dX9_rounds_200 rfl (zg_iconst 0 dX9_rounds_202 (by decide) k))))) ?_
  refine d_cVi (As := [_, _, _]) dX9_rounds_203 zk_X9_278 (zq_87 _) (by decide) ⟨_, _, rfl⟩ rfl rfl (Nat.le_of_ble_eq_true rfl) (Nat.le_of_ble_eq_true rfl) rfl (zd_X9_goesOn V (d + 1) _ _ _ _) (fun r203 _ => ?_)
  refine d_st (fun _ k => zg_istore (ls' := [_, _, _, _, _, _, _]) dX9_rounds_206 (Nat.le_of_ble_eq_true rfl) rfl rfl (zg_goto 170 dX9_rounds_208 rfl k)) ?_
  exact d_fg (z_le_s (z_le_0 (z_le_s (z_le_s (z_le_s (z_le_s (z_le_s z_le_n))))))) (hK170 _ _ _ _ _ _)
def f_X9_rounds_211 (K148 : Int32 → Int32 → Int32 → zS → Option (Int32 × zS)) (v2 : Int32) (v3 : Int32) (v5 : Int32) (v6 : Int32) (S : zS) : Option (Int32 × zS) := if z_in (S.1 87 28) 20 then (if v6 = 0 ∨ v6 = 1 then (if z_in ((z_w S 103 ((S.1 87 28).toNatClampNeg) v5).1 87 28) 20 then (K148 v2 v3 v5 (z_w (z_w (z_w S 103 ((S.1 87 28).toNatClampNeg) v5) 104 (((z_w S 103 ((S.1 87 28).toNatClampNeg) v5).1 87 28).toNatClampNeg) v6) 87 28 (((z_w (z_w S 103 ((S.1 87 28).toNatClampNeg) v5) 104 (((z_w S 103 ((S.1 87 28).toNatClampNeg) v5).1 87 28).toNatClampNeg) v6).1 87 28) + 1))) else none) else none) else none
set_option maxRecDepth 100000 in
set_option maxHeartbeats 4000000 in
theorem zd_X9_rounds_211 (V : zV) (d : Nat) {K148 : Int32 → Int32 → Int32 → zS → Option (Int32 × zS)} (hK148 : ∀ (v2 : Int32) (v3 : Int32) (v4 : Int32) (S : zS), z_J zeI V mX9_rounds (d + 4) (K148 v2 v3 v4 S) 148 [.ref 87, .null, .int v2, .int v3, .int v4, .null, .null] [] S) : ∀ (v2 : Int32) (v3 : Int32) (v5 : Int32) (v6 : Int32) (S : zS), z_J zeI V mX9_rounds (d + 4) (f_X9_rounds_211 K148 v2 v3 v5 v6 S) 211 [.ref 87, .null, .int v2, .int v3, .null, .int v5, .int v6] [] S := by
  intro v2 v3 v5 v6 S
  unfold f_X9_rounds_211
  refine d_st (fun _ k => zg_aload_n dX9_rounds_211 rfl (zs_getR dX9_rounds_212 zf_X9_56 rfl (zq_87 _) (by decide) (by decide) zr_87_26 (zg_aload_n dX9_rounds_215 rfl (zs_getI dX9_rounds_216 zf_X9_272 rfl (zq_87 _) (by decide) (by decide) (zg_iload dX9_rounds_219 rfl k))))) ?_
  refine d_gd (fun g221 => ?_)
  refine d_st (fun _ k => zs_iast dX9_rounds_221 (by decide) (zq_103 _) g221 rfl k) ?_
  refine d_st (fun _ k => zg_aload_n dX9_rounds_222 rfl (zs_getR dX9_rounds_223 zf_X9_59 rfl (zq_87 _) (by decide) (by decide) zr_87_27 (zg_aload_n dX9_rounds_226 rfl (zs_getI dX9_rounds_227 zf_X9_272 rfl (zq_87 _) (by decide) (by decide) (zg_iload dX9_rounds_230 rfl k))))) ?_
  refine d_gd (fun b232 => ?_)
  refine d_gd (fun g232 => ?_)
  refine d_st (fun _ k => zs_zast dX9_rounds_232 b232 (by decide) (zq_104 _) g232 rfl k) ?_
  refine d_st (fun _ k => zg_aload_n dX9_rounds_233 rfl (zg_dupr dX9_rounds_234 (zs_getI dX9_rounds_235 zf_X9_272 rfl (zq_87 _) (by decide) (by decide) (zg_iconst 1 dX9_rounds_238 (by decide) (zg_iadd dX9_rounds_239 (zs_putI dX9_rounds_240 zf_X9_272 rfl (zq_87 _) (by decide) (by decide) (zg_iload dX9_rounds_243 rfl (zg_istore (ls' := [_, _, _, _, _, _, _]) dX9_rounds_245 (Nat.le_of_ble_eq_true rfl) rfl rfl (zg_goto 148 dX9_rounds_247 rfl k))))))))) ?_
  exact d_fg (z_le_s (z_le_0 (z_le_s (z_le_s (z_le_s (z_le_0 (z_le_0 z_le_n))))))) (hK148 _ _ _ _)
def f_X9_rounds_170 (K148 : Int32 → Int32 → Int32 → zS → Option (Int32 × zS)) : Nat → Int32 → Int32 → Int32 → Int32 → Int32 → zS → Option (Int32 × zS)
  | 0, _, _, _, _, _, _ => none
  | n + 1, v2, v3, v4, v5, v6, S => if v6 = 0 then (if (S.1 87 28) = 0 then (f_X9_rounds_194 K148 (f_X9_rounds_170 K148 n) v2 v3 v4 v5 S) else ((f_X9_goesOn v4 v5 1 S).bind (fun r188 => if r188.1 = 0 then (f_X9_rounds_194 K148 (f_X9_rounds_170 K148 n) v2 v3 v4 v5 r188.2) else (f_X9_rounds_211 K148 v2 v3 v5 v6 r188.2)))) else (f_X9_rounds_211 K148 v2 v3 v5 v6 S)
set_option maxRecDepth 100000 in
set_option maxHeartbeats 4000000 in
theorem zd_X9_rounds_170 (V : zV) (d : Nat) {K148 : Int32 → Int32 → Int32 → zS → Option (Int32 × zS)} (hK148 : ∀ (v2 : Int32) (v3 : Int32) (v4 : Int32) (S : zS), z_J zeI V mX9_rounds (d + 4) (K148 v2 v3 v4 S) 148 [.ref 87, .null, .int v2, .int v3, .int v4, .null, .null] [] S) : ∀ (n : Nat) (v2 : Int32) (v3 : Int32) (v4 : Int32) (v5 : Int32) (v6 : Int32) (S : zS), z_J zeI V mX9_rounds (d + 4) (f_X9_rounds_170 K148 n v2 v3 v4 v5 v6 S) 170 [.ref 87, .null, .int v2, .int v3, .int v4, .int v5, .int v6] [] S := by
  intro n
  induction n with
  | zero =>
    intro v2 v3 v4 v5 v6 S r hr
    cases (show (none : Option (Int32 × zS)) = some r from hr)
  | succ n ih =>
    intro v2 v3 v4 v5 v6 S
    rw [f_X9_rounds_170]
    refine d_st (fun _ k => zg_iload dX9_rounds_170 rfl k) ?_
    refine d_br (fun _ => zg_if_ne 211 dX9_rounds_172 rfl) (fun c172 => ?_) (fun c172 => ?_)
    · refine d_st (fun _ k => zg_aload_n dX9_rounds_175 rfl (zs_getI dX9_rounds_176 zf_X9_272 rfl (zq_87 _) (by decide) (by decide) k)) ?_
      refine d_br (fun _ => zg_if_eq 194 dX9_rounds_179 rfl) (fun c179 => ?_) (fun c179 => ?_)
      · exact d_fg (z_le_s (z_le_0 (z_le_s (z_le_s (z_le_s (z_le_s (z_le_0 z_le_n))))))) (zd_X9_rounds_194 V d hK148 ih _ _ _ _ _)
      · refine d_st (fun _ k => zg_aload_n dX9_rounds_182 rfl (zg_iload dX9_rounds_183 rfl (zg_iload dX9_rounds_185 rfl (zg_iconst 1 dX9_rounds_187 (by decide) k)))) ?_
        refine d_cVi (As := [_, _, _]) dX9_rounds_188 zk_X9_278 (zq_87 _) (by decide) ⟨_, _, rfl⟩ rfl rfl (Nat.le_of_ble_eq_true rfl) (Nat.le_of_ble_eq_true rfl) rfl (zd_X9_goesOn V (d + 1) _ _ _ _) (fun r188 _ => ?_)
        refine d_br (fun _ => zg_if_ne 211 dX9_rounds_191 rfl) (fun c191 => ?_) (fun c191 => ?_)
        · exact d_fg (z_le_s (z_le_0 (z_le_s (z_le_s (z_le_s (z_le_s (z_le_0 z_le_n))))))) (zd_X9_rounds_194 V d hK148 ih _ _ _ _ _)
        · exact d_fg (z_le_s (z_le_0 (z_le_s (z_le_s (z_le_0 (z_le_s (z_le_s z_le_n))))))) (zd_X9_rounds_211 V d hK148 _ _ _ _ _)
    · exact d_fg (z_le_s (z_le_0 (z_le_s (z_le_s (z_le_0 (z_le_s (z_le_s z_le_n))))))) (zd_X9_rounds_211 V d hK148 _ _ _ _ _)
def f_X9_rounds_148 : Nat → Int32 → Int32 → Int32 → zS → Option (Int32 × zS)
  | 0, _, _, _, _ => none
  | n + 1, v2, v3, v4, S => if v3 ≤ (S.1 87 28) then (some (v2, S)) else ((f_X9_goesOn v4 0 0 S).bind (fun r165 => f_X9_rounds_170 (f_X9_rounds_148 n) 1000 v2 v3 v4 0 r165.1 r165.2))
set_option maxRecDepth 100000 in
set_option maxHeartbeats 4000000 in
theorem zd_X9_rounds_148 (V : zV) (d : Nat) : ∀ (n : Nat) (v2 : Int32) (v3 : Int32) (v4 : Int32) (S : zS), z_J zeI V mX9_rounds (d + 4) (f_X9_rounds_148 n v2 v3 v4 S) 148 [.ref 87, .null, .int v2, .int v3, .int v4, .null, .null] [] S := by
  intro n
  induction n with
  | zero =>
    intro v2 v3 v4 S r hr
    cases (show (none : Option (Int32 × zS)) = some r from hr)
  | succ n ih =>
    intro v2 v3 v4 S
    rw [f_X9_rounds_148]
    refine d_st (fun _ k => zg_aload_n dX9_rounds_148 rfl (zs_getI dX9_rounds_149 zf_X9_272 rfl (zq_87 _) (by decide) (by decide) (zg_iload_n dX9_rounds_152 rfl k))) ?_
    refine d_br (fun _ => zg_icmp_ge 250 dX9_rounds_153 rfl) (fun c153 => ?_) (fun c153 => ?_)
    · refine d_st (fun _ k => zg_iload_n dX9_rounds_250 rfl k) ?_
      exact d_retI dX9_rounds_251 rfl
    · refine d_st (fun _ k => zg_iconst 0 dX9_rounds_156 (by decide) (zg_istore (ls' := [_, _, _, _, _, _, _]) dX9_rounds_157 (Nat.le_of_ble_eq_true rfl) rfl rfl (zg_aload_n dX9_rounds_159 rfl (zg_iload dX9_rounds_160 rfl (zg_iload dX9_rounds_162 rfl (zg_iconst 0 dX9_rounds_164 (by decide) k)))))) ?_
      refine d_cVi (As := [_, _, _]) dX9_rounds_165 zk_X9_278 (zq_87 _) (by decide) ⟨_, _, rfl⟩ rfl rfl (Nat.le_of_ble_eq_true rfl) (Nat.le_of_ble_eq_true rfl) rfl (zd_X9_goesOn V (d + 1) _ _ _ _) (fun r165 _ => ?_)
      refine d_st (fun _ k => zg_istore (ls' := [_, _, _, _, _, _, _]) dX9_rounds_168 (Nat.le_of_ble_eq_true rfl) rfl rfl k) ?_
      exact d_fg (z_le_s (z_le_0 (z_le_s (z_le_s (z_le_s (z_le_s (z_le_s z_le_n))))))) (zd_X9_rounds_170 V d ih 1000 _ _ _ _ _ _)
def f_X9_rounds_99 : Nat → Int32 → Int32 → Int32 → Int32 → zS → Option (Int32 × zS)
  | 0, _, _, _, _, _ => none
  | n + 1, v1, v2, v3, v4, S => if 9 ≤ v4 then ((f_X9_startOf v1 S).bind (fun r143 => f_X9_rounds_148 1000 v2 v3 r143.1 r143.2)) else (if z_in v4 9 then (if (S.1 101 v4.toNatClampNeg) ≤ v4 then (f_X9_rounds_99 n v1 v2 v3 (v4 + 1) S) else (if z_in v4 9 then ((f_X9_opens v4 (S.1 101 v4.toNatClampNeg) 1 S).bind (fun r129 => f_X9_rounds_99 n v1 v2 (v3 + 1) (v4 + 1) r129.2)) else none)) else none)
set_option maxRecDepth 100000 in
set_option maxHeartbeats 4000000 in
theorem zd_X9_rounds_99 (V : zV) (d : Nat) : ∀ (n : Nat) (v1 : Int32) (v2 : Int32) (v3 : Int32) (v4 : Int32) (S : zS), z_J zeI V mX9_rounds (d + 4) (f_X9_rounds_99 n v1 v2 v3 v4 S) 99 [.ref 87, .int v1, .int v2, .int v3, .int v4, .null, .null] [] S := by
  intro n
  induction n with
  | zero =>
    intro v1 v2 v3 v4 S r hr
    cases (show (none : Option (Int32 × zS)) = some r from hr)
  | succ n ih =>
    intro v1 v2 v3 v4 S
    rw [f_X9_rounds_99]
    refine d_st (fun _ k => zg_iload dX9_rounds_99 rfl (zg_bipush 9 dX9_rounds_101 (by decide) k)) ?_
    refine d_br (fun _ => zg_icmp_ge 141 dX9_rounds_103 rfl) (fun c103 => ?_) (fun c103 => ?_)
    · refine d_st (fun _ k => zg_aload_n dX9_rounds_141 rfl (zg_iload_n dX9_rounds_142 rfl k)) ?_
      refine d_cVi (As := [_]) dX9_rounds_143 zk_X9_240 (zq_87 _) (by decide) ⟨_, _, rfl⟩ rfl rfl (Nat.le_of_ble_eq_true rfl) (Nat.le_of_ble_eq_true rfl) rfl (zd_X9_startOf V (d + 1) _ _) (fun r143 _ => ?_)
      refine d_st (fun _ k => zg_istore (ls' := [_, _, _, _, _, _, _]) dX9_rounds_146 (Nat.le_of_ble_eq_true rfl) rfl rfl k) ?_
      exact d_fg (z_le_s (z_le_0 (z_le_s (z_le_s (z_le_s (z_le_0 (z_le_0 z_le_n))))))) (zd_X9_rounds_148 V d 1000 _ _ _ _)
    · refine d_st (fun _ k => zg_aload_n dX9_rounds_106 rfl (zs_getR dX9_rounds_107 zf_X9_50 rfl (zq_87 _) (by decide) (by decide) zr_87_24 (zg_iload dX9_rounds_110 rfl k))) ?_
      refine d_gd (fun g112 => ?_)
      refine d_st (fun _ k => zs_iald dX9_rounds_112 (by decide) (zq_101 _) g112 rfl k) ?_
      refine d_st (fun _ k => zg_iload dX9_rounds_113 rfl k) ?_
      refine d_br (fun _ => zg_icmp_le 135 dX9_rounds_115 rfl) (fun c115 => ?_) (fun c115 => ?_)
      · refine d_st (fun _ k => zg_iinc (ls' := [_, _, _, _, _, _, _]) 1 dX9_rounds_135 rfl (by decide) (Nat.le_of_ble_eq_true rfl) rfl rfl (zg_goto 99 dX9_rounds_138 rfl k)) ?_
        exact d_fg (z_le_s (z_le_s (z_le_s (z_le_s (z_le_s (z_le_0 (z_le_0 z_le_n))))))) (ih _ _ _ _ _)
      · refine d_st (fun _ k => zg_aload_n dX9_rounds_118 rfl (zg_iload dX9_rounds_119 rfl (zg_aload_n dX9_rounds_121 rfl (zs_getR dX9_rounds_122 zf_X9_50 rfl (zq_87 _) (by decide) (by decide) zr_87_24 (zg_iload dX9_rounds_125 rfl k))))) ?_
        refine d_gd (fun g127 => ?_)
        refine d_st (fun _ k => zs_iald dX9_rounds_127 (by decide) (zq_101 _) g127 rfl k) ?_
        refine d_st (fun _ k => zg_iconst 1 dX9_rounds_128 (by decide) k) ?_
        refine d_cVv (As := [_, _, _]) dX9_rounds_129 zk_X9_269 (zq_87 _) (by decide) ⟨_, _, rfl⟩ rfl rfl (Nat.le_of_ble_eq_true rfl) (Nat.le_of_ble_eq_true rfl) rfl (zd_X9_opens V (d + 3) _ _ _ _) (fun r129 _ => ?_)
        refine d_st (fun _ k => zg_iinc (ls' := [_, _, _, _, _, _, _]) 1 dX9_rounds_132 rfl (by decide) (Nat.le_of_ble_eq_true rfl) rfl rfl (zg_iinc (ls' := [_, _, _, _, _, _, _]) 1 dX9_rounds_135 rfl (by decide) (Nat.le_of_ble_eq_true rfl) rfl rfl (zg_goto 99 dX9_rounds_138 rfl k))) ?_
        exact d_fg (z_le_s (z_le_s (z_le_s (z_le_s (z_le_s (z_le_0 (z_le_0 z_le_n))))))) (ih _ _ _ _ _)
def f_X9_rounds_38 : Nat → Int32 → Int32 → Int32 → Int32 → zS → Option (Int32 × zS)
  | 0, _, _, _, _, _ => none
  | n + 1, v1, v2, v3, v4, S => if (S.1 89 1) ≤ v4 then (f_X9_rounds_99 1000 v1 v2 v3 0 S) else ((f_X9_cutsOf v1 S).bind (fun r51 => (f_X9_has r51.1 v4 r51.2).bind (fun r56 => if r56.1 = 0 then (f_X9_rounds_38 n v1 v2 v3 (v4 + 1) r56.2) else (if z_in (22 + v4) 74 then (if z_in (36 + v4) 74 then ((f_X9_opens (r56.2.1 89 (22 + v4).toNatClampNeg) (r56.2.1 89 (36 + v4).toNatClampNeg) 0 r56.2).bind (fun r84 => f_X9_rounds_38 n v1 v2 (v3 + 1) (v4 + 1) r84.2)) else none) else none))))
set_option maxRecDepth 100000 in
set_option maxHeartbeats 4000000 in
theorem zd_X9_rounds_38 (V : zV) (d : Nat) : ∀ (n : Nat) (v1 : Int32) (v2 : Int32) (v3 : Int32) (v4 : Int32) (S : zS), z_J zeI V mX9_rounds (d + 4) (f_X9_rounds_38 n v1 v2 v3 v4 S) 38 [.ref 87, .int v1, .int v2, .int v3, .int v4, .null, .null] [] S := by
  intro n
  induction n with
  | zero =>
    intro v1 v2 v3 v4 S r hr
    cases (show (none : Option (Int32 × zS)) = some r from hr)
  | succ n ih =>
    intro v1 v2 v3 v4 S
    rw [f_X9_rounds_38]
    refine d_st (fun _ k => zg_iload dX9_rounds_38 rfl (zg_aload_n dX9_rounds_40 rfl (zs_getR dX9_rounds_41 zf_X9_13 rfl (zq_87 _) (by decide) (by decide) zr_87_9 (zg_iconst 1 dX9_rounds_44 (by decide) (zs_iald (j := 1) dX9_rounds_45 (by decide) (zq_89 _) (by decide) (by decide) k))))) ?_
    refine d_br (fun _ => zg_icmp_ge 96 dX9_rounds_46 rfl) (fun c46 => ?_) (fun c46 => ?_)
    · refine d_st (fun _ k => zg_iconst 0 dX9_rounds_96 (by decide) (zg_istore (ls' := [_, _, _, _, _, _, _]) dX9_rounds_97 (Nat.le_of_ble_eq_true rfl) rfl rfl k)) ?_
      exact d_fg (z_le_s (z_le_s (z_le_s (z_le_s (z_le_s (z_le_0 (z_le_0 z_le_n))))))) (zd_X9_rounds_99 V d 1000 _ _ _ _ _)
    · refine d_st (fun _ k => zg_aload_n dX9_rounds_49 rfl (zg_iload_n dX9_rounds_50 rfl k)) ?_
      refine d_cVi (As := [_]) dX9_rounds_51 zk_X9_275 (zq_87 _) (by decide) ⟨_, _, rfl⟩ rfl rfl (Nat.le_of_ble_eq_true rfl) (Nat.le_of_ble_eq_true rfl) rfl (zd_X9_cutsOf V (d + 2) _ _) (fun r51 _ => ?_)
      refine d_st (fun _ k => zg_iload dX9_rounds_54 rfl k) ?_
      refine d_cSi (As := [_, _]) dX9_rounds_56 zk_X9_84 rfl rfl (Nat.le_of_ble_eq_true rfl) (Nat.le_of_ble_eq_true rfl) rfl (zd_X9_has V (d + 3) _ _ _) (fun r56 _ => ?_)
      refine d_br (fun _ => zg_if_eq 90 dX9_rounds_59 rfl) (fun c59 => ?_) (fun c59 => ?_)
      · refine d_st (fun _ k => zg_iinc (ls' := [_, _, _, _, _, _, _]) 1 dX9_rounds_90 rfl (by decide) (Nat.le_of_ble_eq_true rfl) rfl rfl (zg_goto 38 dX9_rounds_93 rfl k)) ?_
        exact d_fg (z_le_s (z_le_s (z_le_s (z_le_s (z_le_s (z_le_0 (z_le_0 z_le_n))))))) (ih _ _ _ _ _)
      · refine d_st (fun _ k => zg_aload_n dX9_rounds_62 rfl (zg_aload_n dX9_rounds_63 rfl (zs_getR dX9_rounds_64 zf_X9_13 rfl (zq_87 _) (by decide) (by decide) zr_87_9 (zg_bipush 22 dX9_rounds_67 (by decide) (zg_iload dX9_rounds_69 rfl (zg_iadd dX9_rounds_71 k)))))) ?_
        refine d_gd (fun g72 => ?_)
        refine d_st (fun _ k => zs_iald dX9_rounds_72 (by decide) (zq_89 _) g72 rfl k) ?_
        refine d_st (fun _ k => zg_aload_n dX9_rounds_73 rfl (zs_getR dX9_rounds_74 zf_X9_13 rfl (zq_87 _) (by decide) (by decide) zr_87_9 (zg_bipush 36 dX9_rounds_77 (by decide) (zg_iload dX9_rounds_79 rfl (zg_iadd dX9_rounds_81 k))))) ?_
        refine d_gd (fun g82 => ?_)
        refine d_st (fun _ k => zs_iald dX9_rounds_82 (by decide) (zq_89 _) g82 rfl k) ?_
        refine d_st (fun _ k => zg_iconst 0 dX9_rounds_83 (by decide) k) ?_
        refine d_cVv (As := [_, _, _]) dX9_rounds_84 zk_X9_269 (zq_87 _) (by decide) ⟨_, _, rfl⟩ rfl rfl (Nat.le_of_ble_eq_true rfl) (Nat.le_of_ble_eq_true rfl) rfl (zd_X9_opens V (d + 3) _ _ _ _) (fun r84 _ => ?_)
        refine d_st (fun _ k => zg_iinc (ls' := [_, _, _, _, _, _, _]) 1 dX9_rounds_87 rfl (by decide) (Nat.le_of_ble_eq_true rfl) rfl rfl (zg_iinc (ls' := [_, _, _, _, _, _, _]) 1 dX9_rounds_90 rfl (by decide) (Nat.le_of_ble_eq_true rfl) rfl rfl (zg_goto 38 dX9_rounds_93 rfl k))) ?_
        exact d_fg (z_le_s (z_le_s (z_le_s (z_le_s (z_le_s (z_le_0 (z_le_0 z_le_n))))))) (ih _ _ _ _ _)
def f_X9_rounds_8 : Nat → Int32 → Int32 → Int32 → zS → Option (Int32 × zS)
  | 0, _, _, _, _ => none
  | n + 1, v1, v2, v3, S => if 162 ≤ v3 then (f_X9_rounds_38 1000 v1 v2 0 0 (z_w S 87 28 0)) else (if z_in v3 162 then (f_X9_rounds_8 n v1 v2 (v3 + 1) (z_w S 105 v3.toNatClampNeg 0)) else none)
set_option maxRecDepth 100000 in
set_option maxHeartbeats 4000000 in
theorem zd_X9_rounds_8 (V : zV) (d : Nat) : ∀ (n : Nat) (v1 : Int32) (v2 : Int32) (v3 : Int32) (S : zS), z_J zeI V mX9_rounds (d + 4) (f_X9_rounds_8 n v1 v2 v3 S) 8 [.ref 87, .int v1, .int v2, .int v3, .null, .null, .null] [] S := by
  intro n
  induction n with
  | zero =>
    intro v1 v2 v3 S r hr
    cases (show (none : Option (Int32 × zS)) = some r from hr)
  | succ n ih =>
    intro v1 v2 v3 S
    rw [f_X9_rounds_8]
    refine d_st (fun _ k => zg_iload_n dX9_rounds_8 rfl (zg_sipush 162 dX9_rounds_9 (by decide) k)) ?_
    refine d_br (fun _ => zg_icmp_ge 28 dX9_rounds_12 rfl) (fun c12 => ?_) (fun c12 => ?_)
    · refine d_st (fun _ k => zg_aload_n dX9_rounds_28 rfl (zg_iconst 0 dX9_rounds_29 (by decide) (zs_putI dX9_rounds_30 zf_X9_272 rfl (zq_87 _) (by decide) (by decide) (zg_iconst 0 dX9_rounds_33 (by decide) (zg_istore_n (ls' := [_, _, _, _, _, _, _]) dX9_rounds_34 (Nat.le_of_ble_eq_true rfl) rfl rfl (zg_iconst 0 dX9_rounds_35 (by decide) (zg_istore (ls' := [_, _, _, _, _, _, _]) dX9_rounds_36 (Nat.le_of_ble_eq_true rfl) rfl rfl k))))))) ?_
      exact d_fg (z_le_s (z_le_s (z_le_s (z_le_s (z_le_s (z_le_0 (z_le_0 z_le_n))))))) (zd_X9_rounds_38 V d 1000 _ _ _ _ _)
    · refine d_st (fun _ k => zg_aload_n dX9_rounds_15 rfl (zs_getR dX9_rounds_16 zf_X9_62 rfl (zq_87 _) (by decide) (by decide) zr_87_29 (zg_iload_n dX9_rounds_19 rfl (zg_iconst 0 dX9_rounds_20 (by decide) k)))) ?_
      refine d_gd (fun g21 => ?_)
      refine d_st (fun _ k => zs_iast dX9_rounds_21 (by decide) (zq_105 _) g21 rfl k) ?_
      refine d_st (fun _ k => zg_iinc (ls' := [_, _, _, _, _, _, _]) 1 dX9_rounds_22 rfl (by decide) (Nat.le_of_ble_eq_true rfl) rfl rfl (zg_goto 8 dX9_rounds_25 rfl k)) ?_
      exact d_fg (z_le_s (z_le_s (z_le_s (z_le_s (z_le_0 (z_le_0 (z_le_0 z_le_n))))))) (ih _ _ _ _)
def f_X9_rounds (a1 : Int32) (S : zS) : Option (Int32 × zS) := (f_X9_links a1 S).bind (fun r2 => f_X9_rounds_8 1000 a1 r2.1 0 r2.2)
set_option maxRecDepth 100000 in
set_option maxHeartbeats 4000000 in
theorem zd_X9_rounds (V : zV) (d : Nat) : ∀ (a1 : Int32) (S : zS), z_J zeI V mX9_rounds (d + 4) (f_X9_rounds a1 S) 0 (z_ent mX9_rounds [.ref 87, .int a1]) [] S := by
  intro a1 S
  show z_J zeI V mX9_rounds (d + 4) (f_X9_rounds a1 S) 0 [.ref 87, .int a1, .null, .null, .null, .null, .null] [] S
  unfold f_X9_rounds
  refine d_st (fun _ k => zg_aload_n dX9_rounds_0 rfl (zg_iload_n dX9_rounds_1 rfl k)) ?_
  refine d_cVi (As := [_]) dX9_rounds_2 zk_X9_256 (zq_87 _) (by decide) ⟨_, _, rfl⟩ rfl rfl (Nat.le_of_ble_eq_true rfl) (Nat.le_of_ble_eq_true rfl) rfl (zd_X9_links V d _ _) (fun r2 _ => ?_)
  refine d_st (fun _ k => zg_istore_n (ls' := [_, _, _, _, _, _, _]) dX9_rounds_5 (Nat.le_of_ble_eq_true rfl) rfl rfl (zg_iconst 0 dX9_rounds_6 (by decide) (zg_istore_n (ls' := [_, _, _, _, _, _, _]) dX9_rounds_7 (Nat.le_of_ble_eq_true rfl) rfl rfl k))) ?_
  exact d_fg (z_le_s (z_le_s (z_le_s (z_le_s (z_le_0 (z_le_0 (z_le_0 z_le_n))))))) (zd_X9_rounds_8 V d 1000 _ _ _ _)
def f_X9_follows (S : zS) : Option (Int32 × zS) := if ((z_w S 87 0 0).1 91 0) = 0 then (some ((-2), (z_w S 87 0 0))) else ((f_X9_tours  (z_w S 87 0 0)).bind (fun r15 => if r15.1 = 0 then (some ((-2), r15.2)) else ((f_X9_startOf (r15.2.1 107 0) r15.2).bind (fun r33 => if r33.1 = (r33.2.1 91 1) then ((f_X9_rounds (r15.2.1 107 0) r33.2).bind (fun r64 => (f_X9_mayBurn (r64.2.1 103 0) r64.2).bind (fun r77 => if r77.1 = 0 then (some ((-2), r77.2)) else ((f_X9_burn (r64.2.1 103 0) r77.2).bind (fun r88 => some (r88.2.1 91 1, r88.2)))))) else ((f_X9_startOf (r15.2.1 107 0) r33.2).bind (fun r48 => (f_X9_move r48.1 r48.2).bind (fun r51 => some (r51.2.1 91 1, r51.2))))))))
set_option maxRecDepth 100000 in
set_option maxHeartbeats 4000000 in
theorem zd_X9_follows (V : zV) (d : Nat) : ∀ (S : zS), z_J zeI V mX9_follows (d + 5) (f_X9_follows  S) 0 (z_ent mX9_follows [.ref 87]) [] S := by
  intro S
  show z_J zeI V mX9_follows (d + 5) (f_X9_follows  S) 0 [.ref 87, .null, .null] [] S
  unfold f_X9_follows
  refine d_st (fun _ k => zg_aload_n dX9_follows_0 rfl (zg_iconst 0 dX9_follows_1 (by decide) (zs_putI dX9_follows_2 zf_X9_80 rfl (zq_87 _) (by decide) (by decide) (zg_aload_n dX9_follows_5 rfl (zs_getR dX9_follows_6 zf_X9_19 rfl (zq_87 _) (by decide) (by decide) zr_87_11 (zg_iconst 0 dX9_follows_9 (by decide) (zs_iald (j := 0) dX9_follows_10 (by decide) (zq_91 _) (by decide) (by decide) k))))))) ?_
  refine d_br (fun _ => zg_if_eq 21 dX9_follows_11 rfl) (fun c11 => ?_) (fun c11 => ?_)
  · refine d_st (fun _ k => zg_bipush (-2) dX9_follows_21 (by decide) k) ?_
    exact d_retI dX9_follows_23 rfl
  · refine d_st (fun _ k => zg_aload_n dX9_follows_14 rfl k) ?_
    refine d_cVi (As := []) dX9_follows_15 zk_X9_237 (zq_87 _) (by decide) ⟨_, _, rfl⟩ rfl rfl (Nat.le_of_ble_eq_true rfl) (Nat.le_of_ble_eq_true rfl) rfl (zd_X9_tours V (d + 1) _) (fun r15 _ => ?_)
    refine d_br (fun _ => zg_if_ne 24 dX9_follows_18 rfl) (fun c18 => ?_) (fun c18 => ?_)
    · refine d_st (fun _ k => zg_bipush (-2) dX9_follows_21 (by decide) k) ?_
      exact d_retI dX9_follows_23 rfl
    · refine d_st (fun _ k => zg_aload_n dX9_follows_24 rfl (zs_getR dX9_follows_25 zf_X9_68 rfl (zq_87 _) (by decide) (by decide) zr_87_31 (zg_iconst 0 dX9_follows_28 (by decide) (zs_iald (j := 0) dX9_follows_29 (by decide) (zq_107 _) (by decide) (by decide) (zg_istore_n (ls' := [_, _, _]) dX9_follows_30 (Nat.le_of_ble_eq_true rfl) rfl rfl (zg_aload_n dX9_follows_31 rfl (zg_iload_n dX9_follows_32 rfl k))))))) ?_
      refine d_cVi (As := [_]) dX9_follows_33 zk_X9_240 (zq_87 _) (by decide) ⟨_, _, rfl⟩ rfl rfl (Nat.le_of_ble_eq_true rfl) (Nat.le_of_ble_eq_true rfl) rfl (zd_X9_startOf V (d + 2) _ _) (fun r33 _ => ?_)
      refine d_st (fun _ k => zg_aload_n dX9_follows_36 rfl (zs_getR dX9_follows_37 zf_X9_19 rfl (zq_87 _) (by decide) (by decide) zr_87_11 (zg_iconst 1 dX9_follows_40 (by decide) (zs_iald (j := 1) dX9_follows_41 (by decide) (zq_91 _) (by decide) (by decide) k)))) ?_
      refine d_br (fun _ => zg_icmp_eq 62 dX9_follows_42 rfl) (fun c42 => ?_) (fun c42 => ?_)
      · refine d_st (fun _ k => zg_aload_n dX9_follows_62 rfl (zg_iload_n dX9_follows_63 rfl k)) ?_
        refine d_cVi (As := [_]) dX9_follows_64 zk_X9_243 (zq_87 _) (by decide) ⟨_, _, rfl⟩ rfl rfl (Nat.le_of_ble_eq_true rfl) (Nat.le_of_ble_eq_true rfl) rfl (zd_X9_rounds V d _ _) (fun r64 _ => ?_)
        refine d_st (fun _ k => zg_popi dX9_follows_67 (zg_aload_n dX9_follows_68 rfl (zs_getR dX9_follows_69 zf_X9_56 rfl (zq_87 _) (by decide) (by decide) zr_87_26 (zg_iconst 0 dX9_follows_72 (by decide) (zs_iald (j := 0) dX9_follows_73 (by decide) (zq_103 _) (by decide) (by decide) (zg_istore_n (ls' := [_, _, _]) dX9_follows_74 (Nat.le_of_ble_eq_true rfl) rfl rfl (zg_aload_n dX9_follows_75 rfl (zg_iload_n dX9_follows_76 rfl k)))))))) ?_
        refine d_cVi (As := [_]) dX9_follows_77 zk_X9_228 (zq_87 _) (by decide) ⟨_, _, rfl⟩ rfl rfl (Nat.le_of_ble_eq_true rfl) (Nat.le_of_ble_eq_true rfl) rfl (zd_X9_mayBurn V (d + 1) _ _) (fun r77 _ => ?_)
        refine d_br (fun _ => zg_if_ne 86 dX9_follows_80 rfl) (fun c80 => ?_) (fun c80 => ?_)
        · refine d_st (fun _ k => zg_bipush (-2) dX9_follows_83 (by decide) k) ?_
          exact d_retI dX9_follows_85 rfl
        · refine d_st (fun _ k => zg_aload_n dX9_follows_86 rfl (zg_iload_n dX9_follows_87 rfl k)) ?_
          refine d_cVi (As := [_]) dX9_follows_88 zk_X9_231 (zq_87 _) (by decide) ⟨_, _, rfl⟩ rfl rfl (Nat.le_of_ble_eq_true rfl) (Nat.le_of_ble_eq_true rfl) rfl (zd_X9_burn V (d + 2) _ _) (fun r88 _ => ?_)
          refine d_st (fun _ k => zg_popi dX9_follows_91 (zg_aload_n dX9_follows_92 rfl (zs_getR dX9_follows_93 zf_X9_19 rfl (zq_87 _) (by decide) (by decide) zr_87_11 (zg_iconst 1 dX9_follows_96 (by decide) (zs_iald (j := 1) dX9_follows_97 (by decide) (zq_91 _) (by decide) (by decide) k))))) ?_
          exact d_retI dX9_follows_98 rfl
      · refine d_st (fun _ k => zg_aload_n dX9_follows_45 rfl (zg_aload_n dX9_follows_46 rfl (zg_iload_n dX9_follows_47 rfl k))) ?_
        refine d_cVi (As := [_]) dX9_follows_48 zk_X9_240 (zq_87 _) (by decide) ⟨_, _, rfl⟩ rfl rfl (Nat.le_of_ble_eq_true rfl) (Nat.le_of_ble_eq_true rfl) rfl (zd_X9_startOf V (d + 2) _ _) (fun r48 _ => ?_)
        refine d_cVi (As := [_]) dX9_follows_51 zk_X9_234 (zq_87 _) (by decide) ⟨_, _, rfl⟩ rfl rfl (Nat.le_of_ble_eq_true rfl) (Nat.le_of_ble_eq_true rfl) rfl (zd_X9_move V (d + 3) _ _) (fun r51 _ => ?_)
        refine d_st (fun _ k => zg_popi dX9_follows_54 (zg_aload_n dX9_follows_55 rfl (zs_getR dX9_follows_56 zf_X9_19 rfl (zq_87 _) (by decide) (by decide) zr_87_11 (zg_iconst 1 dX9_follows_59 (by decide) (zs_iald (j := 1) dX9_follows_60 (by decide) (zq_91 _) (by decide) (by decide) k))))) ?_
        exact d_retI dX9_follows_61 rfl
def f_X0_restore_28 (p1 : Nat) (t0 : Int32) (S : zS) : Option (Int32 × zS) := if z_in ((z_w (z_w S 34 1 t0) 34 2 (((z_w S 34 1 t0).1 34 2) - 1)).1 34 1) 10 then ((f_X2_become p1 (36 + 2 * ((z_w (z_w S 34 1 t0) 34 2 (((z_w S 34 1 t0).1 34 2) - 1)).1 34 1).toNatClampNeg) (z_w (z_w S 34 1 t0) 34 2 (((z_w S 34 1 t0).1 34 2) - 1))).bind (fun r51 => some (1, r51.2))) else none
set_option maxRecDepth 100000 in
set_option maxHeartbeats 4000000 in
theorem zd_X0_restore_28 (V : zV) {p1 : Nat} (h1 : z_isQ p1) (d : Nat) : ∀ (t0 : Int32) (S : zS), z_J zeI V mX0_restore (d + 2) (f_X0_restore_28 p1 t0 S) 28 [.ref 34, .ref p1] [.int t0, .ref 34] S := by
  intro t0 S
  unfold f_X0_restore_28
  refine d_st (fun _ k => zs_putI dX0_restore_28 zf_X0_17 rfl (zq_34 _) (by decide) (by decide) (zg_aload_n dX0_restore_31 rfl (zg_dupr dX0_restore_32 (zs_getI dX0_restore_33 zf_X0_21 rfl (zq_34 _) (by decide) (by decide) (zg_iconst 1 dX0_restore_36 (by decide) (zg_isub dX0_restore_37 (zs_putI dX0_restore_38 zf_X0_21 rfl (zq_34 _) (by decide) (by decide) (zg_aload_n dX0_restore_41 rfl (zg_aload_n dX0_restore_42 rfl (zs_getR dX0_restore_43 zf_X0_11 rfl (zq_34 _) (by decide) (by decide) zr_34_0 (zg_aload_n dX0_restore_46 rfl (zs_getI dX0_restore_47 zf_X0_17 rfl (zq_34 _) (by decide) (by decide) k)))))))))))) ?_
  refine d_gd (fun g50 => ?_)
  refine d_st (fun _ k => zs_rows dX0_restore_50 g50 k) ?_
  refine d_cVv (As := [_]) dX0_restore_51 zk_X0_25 (zl_o h1 _).1 (by decide) ⟨_, _, rfl⟩ rfl rfl (Nat.le_of_ble_eq_true rfl) (Nat.le_of_ble_eq_true rfl) rfl (zd_X2_become V h1 (zl_rows (pl := 0) (dr := 0) (z_in_lt g50)).2 d _) (fun r51 _ => ?_)
  refine d_st (fun _ k => zg_iconst 1 dX0_restore_54 (by decide) k) ?_
  exact d_retZ dX0_restore_55 rfl (by decide)
def f_X0_restore (p1 : Nat) (S : zS) : Option (Int32 × zS) := if 0 < (S.1 34 2) then (if (S.1 34 1) ≤ 0 then (f_X0_restore_28 p1 9 S) else (f_X0_restore_28 p1 ((S.1 34 1) - 1) S)) else (some (0, S))
set_option maxRecDepth 100000 in
set_option maxHeartbeats 4000000 in
theorem zd_X0_restore (V : zV) {p1 : Nat} (h1 : z_isQ p1) (d : Nat) : ∀ (S : zS), z_J zeI V mX0_restore (d + 2) (f_X0_restore p1 S) 0 (z_ent mX0_restore [.ref 34, .ref p1]) [] S := by
  intro S
  show z_J zeI V mX0_restore (d + 2) (f_X0_restore p1 S) 0 [.ref 34, .ref p1] [] S
  unfold f_X0_restore
  refine d_st (fun _ k => zg_aload_n dX0_restore_0 rfl (zs_getI dX0_restore_1 zf_X0_21 rfl (zq_34 _) (by decide) (by decide) k)) ?_
  refine d_br (fun _ => zg_if_gt 9 dX0_restore_4 rfl) (fun c4 => ?_) (fun c4 => ?_)
  · refine d_st (fun _ k => zg_aload_n dX0_restore_9 rfl (zg_aload_n dX0_restore_10 rfl (zs_getI dX0_restore_11 zf_X0_17 rfl (zq_34 _) (by decide) (by decide) k))) ?_
    refine d_br (fun _ => zg_if_le 26 dX0_restore_14 rfl) (fun c14 => ?_) (fun c14 => ?_)
    · refine d_st (fun _ k => zg_bipush 9 dX0_restore_26 (by decide) k) ?_
      exact d_fg (z_le_s (z_le_s z_le_n)) (zd_X0_restore_28 V h1 d _ _)
    · refine d_st (fun _ k => zg_aload_n dX0_restore_17 rfl (zs_getI dX0_restore_18 zf_X0_17 rfl (zq_34 _) (by decide) (by decide) (zg_iconst 1 dX0_restore_21 (by decide) (zg_isub dX0_restore_22 (zg_goto 28 dX0_restore_23 rfl k))))) ?_
      exact d_fg (z_le_s (z_le_s z_le_n)) (zd_X0_restore_28 V h1 d _ _)
  · refine d_st (fun _ k => zg_iconst 0 dX0_restore_7 (by decide) k) ?_
    exact d_retZ dX0_restore_8 rfl (by decide)
def f_X8_undo (S : zS) : Option (Int32 × zS) := (f_X0_restore 32 S).bind (fun r8 => if r8.1 = 0 then (some ((-2), r8.2)) else ((f_X8_outdate  r8.2).bind (fun r18 => some (r18.2.1 34 2, r18.2))))
set_option maxRecDepth 100000 in
set_option maxHeartbeats 4000000 in
theorem zd_X8_undo (V : zV) (d : Nat) : ∀ (S : zS), z_J zeI V mX8_undo (d + 3) (f_X8_undo  S) 0 (z_ent mX8_undo [.ref 1]) [] S := by
  intro S
  show z_J zeI V mX8_undo (d + 3) (f_X8_undo  S) 0 [.ref 1] [] S
  unfold f_X8_undo
  refine d_st (fun _ k => zg_aload_n dX8_undo_0 rfl (zs_getR dX8_undo_1 zf_X8_44 rfl (zq_1 _) (by decide) (by decide) zr_1_6 (zg_aload_n dX8_undo_4 rfl (zs_getR dX8_undo_5 zf_X8_37 rfl (zq_1 _) (by decide) (by decide) zr_1_5 k)))) ?_
  refine d_cVi (As := [_]) dX8_undo_8 zk_X8_185 (zq_34 _) (by decide) ⟨_, _, rfl⟩ rfl rfl (Nat.le_of_ble_eq_true rfl) (Nat.le_of_ble_eq_true rfl) rfl (zd_X0_restore V (by decide) d _) (fun r8 _ => ?_)
  refine d_br (fun _ => zg_if_ne 17 dX8_undo_11 rfl) (fun c11 => ?_) (fun c11 => ?_)
  · refine d_st (fun _ k => zg_bipush (-2) dX8_undo_14 (by decide) k) ?_
    exact d_retI dX8_undo_16 rfl
  · refine d_st (fun _ k => zg_aload_n dX8_undo_17 rfl k) ?_
    refine d_cVv (As := []) dX8_undo_18 zk_X8_88 (zq_1 _) (by decide) ⟨_, _, rfl⟩ rfl rfl (Nat.le_of_ble_eq_true rfl) (Nat.le_of_ble_eq_true rfl) rfl (zd_X8_outdate V (d + 2) _) (fun r18 _ => ?_)
    refine d_st (fun _ k => zg_aload_n dX8_undo_21 rfl (zs_getR dX8_undo_22 zf_X8_44 rfl (zq_1 _) (by decide) (by decide) zr_1_6 (zs_getI dX8_undo_25 zf_X8_189 rfl (zq_34 _) (by decide) (by decide) k))) ?_
    exact d_retI dX8_undo_28 rfl
def f_X9_undo_27 : Nat → Int32 → zS → Option (Int32 × zS)
  | 0, _, _ => none
  | n + 1, v1, S => if 13 ≤ v1 then (some (S.1 87 13, S)) else (if z_in ((13 * (S.1 87 13)) + v1) 130 then (if z_in v1 13 then (f_X9_undo_27 n (v1 + 1) (z_w S 91 v1.toNatClampNeg (S.1 92 ((13 * (S.1 87 13)) + v1).toNatClampNeg))) else none) else none)
set_option maxRecDepth 100000 in
set_option maxHeartbeats 4000000 in
theorem zd_X9_undo_27 (V : zV) (d : Nat) : ∀ (n : Nat) (v1 : Int32) (S : zS), z_J zeI V mX9_undo (d) (f_X9_undo_27 n v1 S) 27 [.ref 87, .int v1] [] S := by
  intro n
  induction n with
  | zero =>
    intro v1 S r hr
    cases (show (none : Option (Int32 × zS)) = some r from hr)
  | succ n ih =>
    intro v1 S
    rw [f_X9_undo_27]
    refine d_st (fun _ k => zg_iload_n dX9_undo_27 rfl (zg_bipush 13 dX9_undo_28 (by decide) k)) ?_
    refine d_br (fun _ => zg_icmp_ge 59 dX9_undo_30 rfl) (fun c30 => ?_) (fun c30 => ?_)
    · refine d_st (fun _ k => zg_aload_n dX9_undo_59 rfl (zs_getI dX9_undo_60 zf_X9_174 rfl (zq_87 _) (by decide) (by decide) k)) ?_
      exact d_retI dX9_undo_63 rfl
    · refine d_st (fun _ k => zg_aload_n dX9_undo_33 rfl (zs_getR dX9_undo_34 zf_X9_19 rfl (zq_87 _) (by decide) (by decide) zr_87_11 (zg_iload_n dX9_undo_37 rfl (zg_aload_n dX9_undo_38 rfl (zs_getR dX9_undo_39 zf_X9_22 rfl (zq_87 _) (by decide) (by decide) zr_87_12 (zg_bipush 13 dX9_undo_42 (by decide) (zg_aload_n dX9_undo_44 rfl (zs_getI dX9_undo_45 zf_X9_174 rfl (zq_87 _) (by decide) (by decide) (zg_imul dX9_undo_48 (zg_iload_n dX9_undo_49 rfl (zg_iadd dX9_undo_50 k))))))))))) ?_
      refine d_gd (fun g51 => ?_)
      refine d_st (fun _ k => zs_iald dX9_undo_51 (by decide) (zq_92 _) g51 rfl k) ?_
      refine d_gd (fun g52 => ?_)
      refine d_st (fun _ k => zs_iast dX9_undo_52 (by decide) (zq_91 _) g52 rfl k) ?_
      refine d_st (fun _ k => zg_iinc (ls' := [_, _]) 1 dX9_undo_53 rfl (by decide) (Nat.le_of_ble_eq_true rfl) rfl rfl (zg_goto 27 dX9_undo_56 rfl k)) ?_
      exact d_fg (z_le_s (z_le_s z_le_n)) (ih _ _)
def f_X9_undo (S : zS) : Option (Int32 × zS) := if ((z_w S 87 0 0).1 87 13) = 0 then (some ((-2), (z_w S 87 0 0))) else (f_X9_undo_27 1000 0 (z_w (z_w S 87 0 0) 87 13 (((z_w S 87 0 0).1 87 13) - 1)))
set_option maxRecDepth 100000 in
set_option maxHeartbeats 4000000 in
theorem zd_X9_undo (V : zV) (d : Nat) : ∀ (S : zS), z_J zeI V mX9_undo (d) (f_X9_undo  S) 0 (z_ent mX9_undo [.ref 87]) [] S := by
  intro S
  show z_J zeI V mX9_undo (d) (f_X9_undo  S) 0 [.ref 87, .null] [] S
  unfold f_X9_undo
  refine d_st (fun _ k => zg_aload_n dX9_undo_0 rfl (zg_iconst 0 dX9_undo_1 (by decide) (zs_putI dX9_undo_2 zf_X9_80 rfl (zq_87 _) (by decide) (by decide) (zg_aload_n dX9_undo_5 rfl (zs_getI dX9_undo_6 zf_X9_174 rfl (zq_87 _) (by decide) (by decide) k))))) ?_
  refine d_br (fun _ => zg_if_ne 15 dX9_undo_9 rfl) (fun c9 => ?_) (fun c9 => ?_)
  · refine d_st (fun _ k => zg_bipush (-2) dX9_undo_12 (by decide) k) ?_
    exact d_retI dX9_undo_14 rfl
  · refine d_st (fun _ k => zg_aload_n dX9_undo_15 rfl (zg_dupr dX9_undo_16 (zs_getI dX9_undo_17 zf_X9_174 rfl (zq_87 _) (by decide) (by decide) (zg_iconst 1 dX9_undo_20 (by decide) (zg_isub dX9_undo_21 (zs_putI dX9_undo_22 zf_X9_174 rfl (zq_87 _) (by decide) (by decide) (zg_iconst 0 dX9_undo_25 (by decide) (zg_istore_n (ls' := [_, _]) dX9_undo_26 (Nat.le_of_ble_eq_true rfl) rfl rfl k)))))))) ?_
    exact d_fg (z_le_s (z_le_s z_le_n)) (zd_X9_undo_27 V d 1000 _ _)
def f_X8_piece (a1 : Int32) (a2 : Int32) (S : zS) : Option (Int32 × zS) := (f_X8_surveyed  S).bind (fun r1 => (f_X4_hasPiece a1 r1.2).bind (fun r7 => if r7.1 = 0 then (some ((-1), r7.2)) else (if a2 = 0 then (if z_in a1 4 then (some (r7.2.1 58 a1.toNatClampNeg, r7.2)) else none) else (if a2 = 1 then (if z_in a1 4 then (some (r7.2.1 60 a1.toNatClampNeg, r7.2)) else none) else (if a2 = 2 then (if z_in a1 4 then (some (r7.2.1 62 a1.toNatClampNeg, r7.2)) else none) else (if a2 = 3 then ((f_X4_stepsOf a1 r7.2).bind (fun r75 => some (r75.1, r75.2))) else (if a2 = 4 then (if z_in a1 4 then (some (r7.2.1 63 a1.toNatClampNeg, r7.2)) else none) else (some ((-1), r7.2)))))))))
set_option maxRecDepth 100000 in
set_option maxHeartbeats 4000000 in
theorem zd_X8_piece (V : zV) (d : Nat) : ∀ (a1 : Int32) (a2 : Int32) (S : zS), z_J zeI V mX8_piece (d + 12) (f_X8_piece a1 a2 S) 0 (z_ent mX8_piece [.ref 1, .int a1, .int a2]) [] S := by
  intro a1 a2 S
  show z_J zeI V mX8_piece (d + 12) (f_X8_piece a1 a2 S) 0 [.ref 1, .int a1, .int a2, .null] [] S
  unfold f_X8_piece
  refine d_st (fun _ k => zg_aload_n dX8_piece_0 rfl k) ?_
  refine d_cVs (As := []) dX8_piece_1 zk_X8_127 (zq_1 _) (by decide) ⟨_, _, rfl⟩ rfl rfl (Nat.le_of_ble_eq_true rfl) (Nat.le_of_ble_eq_true rfl) rfl (zd_X8_surveyed V d _) (fun r1 _ => ?_)
  refine d_st (fun _ k => zg_astore_n (ls' := [_, _, _, _]) dX8_piece_4 (Nat.le_of_ble_eq_true rfl) rfl rfl (zg_aload_n dX8_piece_5 rfl (zg_iload_n dX8_piece_6 rfl k))) ?_
  refine d_cVi (As := [_]) dX8_piece_7 zk_X8_192 (zq_57 _) (by decide) ⟨_, _, rfl⟩ rfl rfl (Nat.le_of_ble_eq_true rfl) (Nat.le_of_ble_eq_true rfl) rfl (zd_X4_hasPiece V (d + 11) _ _) (fun r7 _ => ?_)
  refine d_br (fun _ => zg_if_ne 15 dX8_piece_10 rfl) (fun c10 => ?_) (fun c10 => ?_)
  · refine d_st (fun _ k => zg_iconst (-1) dX8_piece_13 (by decide) k) ?_
    exact d_retI dX8_piece_14 rfl
  · refine d_st (fun _ k => zg_iload_n dX8_piece_15 rfl k) ?_
    refine d_if (fun s16_0 => ?_) (fun s16_0 => ?_)
    · refine d_st (fun _ k => zg_tableIn 52 dX8_piece_16 (by rw [s16_0]; decide) (by rw [s16_0]; decide) (by rw [s16_0]; rfl) rfl k) ?_
      refine d_st (fun _ k => zg_aload_n dX8_piece_52 rfl (zs_getR dX8_piece_53 zf_X8_195 rfl (zq_57 _) (by decide) (by decide) zr_57_2 (zg_iload_n dX8_piece_56 rfl k))) ?_
      refine d_gd (fun g57 => ?_)
      refine d_st (fun _ k => zs_iald dX8_piece_57 (by decide) (zq_58 _) g57 rfl k) ?_
      exact d_retI dX8_piece_58 rfl
    refine d_if (fun s16_1 => ?_) (fun s16_1 => ?_)
    · refine d_st (fun _ k => zg_tableIn 59 dX8_piece_16 (by rw [s16_1]; decide) (by rw [s16_1]; decide) (by rw [s16_1]; rfl) rfl k) ?_
      refine d_st (fun _ k => zg_aload_n dX8_piece_59 rfl (zs_getR dX8_piece_60 zf_X8_197 rfl (zq_57 _) (by decide) (by decide) zr_57_4 (zg_iload_n dX8_piece_63 rfl k))) ?_
      refine d_gd (fun g64 => ?_)
      refine d_st (fun _ k => zs_iald dX8_piece_64 (by decide) (zq_60 _) g64 rfl k) ?_
      exact d_retI dX8_piece_65 rfl
    refine d_if (fun s16_2 => ?_) (fun s16_2 => ?_)
    · refine d_st (fun _ k => zg_tableIn 66 dX8_piece_16 (by rw [s16_2]; decide) (by rw [s16_2]; decide) (by rw [s16_2]; rfl) rfl k) ?_
      refine d_st (fun _ k => zg_aload_n dX8_piece_66 rfl (zs_getR dX8_piece_67 zf_X8_200 rfl (zq_57 _) (by decide) (by decide) zr_57_6 (zg_iload_n dX8_piece_70 rfl k))) ?_
      refine d_gd (fun g71 => ?_)
      refine d_st (fun _ k => zs_iald dX8_piece_71 (by decide) (zq_62 _) g71 rfl k) ?_
      exact d_retI dX8_piece_72 rfl
    refine d_if (fun s16_3 => ?_) (fun s16_3 => ?_)
    · refine d_st (fun _ k => zg_tableIn 73 dX8_piece_16 (by rw [s16_3]; decide) (by rw [s16_3]; decide) (by rw [s16_3]; rfl) rfl k) ?_
      refine d_st (fun _ k => zg_aload_n dX8_piece_73 rfl (zg_iload_n dX8_piece_74 rfl k)) ?_
      refine d_cVi (As := [_]) dX8_piece_75 zk_X8_203 (zq_57 _) (by decide) ⟨_, _, rfl⟩ rfl rfl (Nat.le_of_ble_eq_true rfl) (Nat.le_of_ble_eq_true rfl) rfl (zd_X4_stepsOf V (d + 10) _ _) (fun r75 _ => ?_)
      exact d_retI dX8_piece_78 rfl
    refine d_if (fun s16_4 => ?_) (fun s16_4 => ?_)
    · refine d_st (fun _ k => zg_tableIn 79 dX8_piece_16 (by rw [s16_4]; decide) (by rw [s16_4]; decide) (by rw [s16_4]; rfl) rfl k) ?_
      refine d_st (fun _ k => zg_aload_n dX8_piece_79 rfl (zs_getR dX8_piece_80 zf_X8_206 rfl (zq_57 _) (by decide) (by decide) zr_57_7 (zg_iload_n dX8_piece_83 rfl k))) ?_
      refine d_gd (fun g84 => ?_)
      refine d_st (fun _ k => zs_iald dX8_piece_84 (by decide) (zq_63 _) g84 rfl k) ?_
      exact d_retI dX8_piece_85 rfl
    refine d_st (fun _ k => zg_tableOut 86 dX8_piece_16 (z_tb4 s16_0 s16_1 s16_2 s16_3 s16_4) rfl k) ?_
    refine d_st (fun _ k => zg_iconst (-1) dX8_piece_86 (by decide) k) ?_
    exact d_retI dX8_piece_87 rfl
