def f_X9_settles_160 (K103 : Int32 → zS → Option (Unit × zS)) (K122 : Int32 → Int32 → zS → Option (Unit × zS)) (v1 : Int32) (v2 : Int32) (t0 : Int32) (t1 : Int32) (t2 : Int32) (S : zS) : Option (Unit × zS) := if z_in t2 4 then (K122 v1 (v2 + 1) (z_w S 98 t2.toNatClampNeg (t1 ||| t0))) else none
set_option maxRecDepth 100000 in
set_option maxHeartbeats 4000000 in
theorem zd_X9_settles_160 (V : zV) (d : Nat) {K103 : Int32 → zS → Option (Unit × zS)} (hK103 : ∀ (v1 : Int32) (S : zS), z_J zeV V mX9_settles (d + 3) (K103 v1 S) 103 [.ref 87, .int v1, .null] [] S) {K122 : Int32 → Int32 → zS → Option (Unit × zS)} (hK122 : ∀ (v1 : Int32) (v2 : Int32) (S : zS), z_J zeV V mX9_settles (d + 3) (K122 v1 v2 S) 122 [.ref 87, .int v1, .int v2] [] S) : ∀ (v1 : Int32) (v2 : Int32) (t0 : Int32) (t1 : Int32) (t2 : Int32) (S : zS), z_J zeV V mX9_settles (d + 3) (f_X9_settles_160 K103 K122 v1 v2 t0 t1 t2 S) 160 [.ref 87, .int v1, .int v2] [.int t0, .int t1, .int t2, .ref 98] S := by
  intro v1 v2 t0 t1 t2 S
  unfold f_X9_settles_160
  refine d_st (fun _ k => zg_ior dX9_settles_160 k) ?_
  refine d_gd (fun g161 => ?_)
  refine d_st (fun _ k => zs_iast dX9_settles_161 (by decide) (zq_98 _) g161 rfl k) ?_
  refine d_st (fun _ k => zg_iinc (ls' := [_, _, _]) 1 dX9_settles_162 rfl (by decide) (Nat.le_of_ble_eq_true rfl) rfl rfl (zg_goto 122 dX9_settles_165 rfl k)) ?_
  exact d_fg (z_le_s (z_le_s (z_le_s z_le_n))) (hK122 _ _ _)
def f_X9_settles_122 (K103 : Int32 → zS → Option (Unit × zS)) : Nat → Int32 → Int32 → zS → Option (Unit × zS)
  | 0, _, _, _ => none
  | n + 1, v1, v2, S => if (S.1 89 2) ≤ v2 then (K103 (v1 + 1) S) else (if z_in v1 4 then (if v1 = v2 then (f_X9_settles_160 K103 (f_X9_settles_122 K103 n) v1 v2 0 (S.1 98 v1.toNatClampNeg) v1 S) else ((f_X9_isWithin v1 v2 S).bind (fun r147 => if r147.1 = 0 then (f_X9_settles_160 K103 (f_X9_settles_122 K103 n) v1 v2 0 (S.1 98 v1.toNatClampNeg) v1 r147.2) else (f_X9_settles_160 K103 (f_X9_settles_122 K103 n) v1 v2 ((1 : Int32) <<< (v2 &&& 31)) (S.1 98 v1.toNatClampNeg) v1 r147.2)))) else none)
set_option maxRecDepth 100000 in
set_option maxHeartbeats 4000000 in
theorem zd_X9_settles_122 (V : zV) (d : Nat) {K103 : Int32 → zS → Option (Unit × zS)} (hK103 : ∀ (v1 : Int32) (S : zS), z_J zeV V mX9_settles (d + 3) (K103 v1 S) 103 [.ref 87, .int v1, .null] [] S) : ∀ (n : Nat) (v1 : Int32) (v2 : Int32) (S : zS), z_J zeV V mX9_settles (d + 3) (f_X9_settles_122 K103 n v1 v2 S) 122 [.ref 87, .int v1, .int v2] [] S := by
  intro n
  induction n with
  | zero =>
    intro v1 v2 S r hr
    cases (show (none : Option (Unit × zS)) = some r from hr)
  | succ n ih =>
    intro v1 v2 S
    rw [f_X9_settles_122]
    refine d_st (fun _ k => zg_iload_n dX9_settles_122 rfl (zg_aload_n dX9_settles_123 rfl (zs_getR dX9_settles_124 zf_X9_13 rfl (zq_87 _) (by decide) (by decide) zr_87_9 (zg_iconst 2 dX9_settles_127 (by decide) (zs_iald (j := 2) dX9_settles_128 (by decide) (zq_89 _) (by decide) (by decide) k))))) ?_
    refine d_br (fun _ => zg_icmp_ge 168 dX9_settles_129 rfl) (fun c129 => ?_) (fun c129 => ?_)
    · refine d_st (fun _ k => zg_iinc (ls' := [_, _, _]) 1 dX9_settles_168 rfl (by decide) (Nat.le_of_ble_eq_true rfl) rfl rfl (zg_goto 103 dX9_settles_171 rfl k)) ?_
      exact d_fg (z_le_s (z_le_s (z_le_0 z_le_n))) (hK103 _ _)
    · refine d_st (fun _ k => zg_aload_n dX9_settles_132 rfl (zs_getR dX9_settles_133 zf_X9_41 rfl (zq_87 _) (by decide) (by decide) zr_87_20 (zg_iload_n dX9_settles_136 rfl (zg_dup2 dX9_settles_137 k)))) ?_
      refine d_gd (fun g138 => ?_)
      refine d_st (fun _ k => zs_iald dX9_settles_138 (by decide) (zq_98 _) g138 rfl k) ?_
      refine d_st (fun _ k => zg_iload_n dX9_settles_139 rfl (zg_iload_n dX9_settles_140 rfl k)) ?_
      refine d_br (fun _ => zg_icmp_eq 159 dX9_settles_141 rfl) (fun c141 => ?_) (fun c141 => ?_)
      · refine d_st (fun _ k => zg_iconst 0 dX9_settles_159 (by decide) k) ?_
        exact d_fg (z_le_s (z_le_s (z_le_s z_le_n))) (zd_X9_settles_160 V d hK103 ih _ _ _ _ _ _)
      · refine d_st (fun _ k => zg_aload_n dX9_settles_144 rfl (zg_iload_n dX9_settles_145 rfl (zg_iload_n dX9_settles_146 rfl k))) ?_
        refine d_cVi (As := [_, _]) dX9_settles_147 zk_X9_168 (zq_87 _) (by decide) ⟨_, _, rfl⟩ rfl rfl (Nat.le_of_ble_eq_true rfl) (Nat.le_of_ble_eq_true rfl) rfl (zd_X9_isWithin V d _ _ _) (fun r147 _ => ?_)
        refine d_br (fun _ => zg_if_eq 159 dX9_settles_150 rfl) (fun c150 => ?_) (fun c150 => ?_)
        · refine d_st (fun _ k => zg_iconst 0 dX9_settles_159 (by decide) k) ?_
          exact d_fg (z_le_s (z_le_s (z_le_s z_le_n))) (zd_X9_settles_160 V d hK103 ih _ _ _ _ _ _)
        · refine d_st (fun _ k => zg_iconst 1 dX9_settles_153 (by decide) (zg_iload_n dX9_settles_154 rfl (zg_ishl dX9_settles_155 (zg_goto 160 dX9_settles_156 rfl k)))) ?_
          exact d_fg (z_le_s (z_le_s (z_le_s z_le_n))) (zd_X9_settles_160 V d hK103 ih _ _ _ _ _ _)
def f_X9_settles_103 : Nat → Int32 → zS → Option (Unit × zS)
  | 0, _, _ => none
  | n + 1, v1, S => if (S.1 89 2) ≤ v1 then (some ((), (z_w (z_w (z_w (z_w (z_w S 87 2 0) 87 19 0) 87 13 0) 94 0 0) 94 1 0))) else (if z_in v1 4 then (f_X9_settles_122 (f_X9_settles_103 n) 1000 v1 0 (z_w S 98 v1.toNatClampNeg 0)) else none)
set_option maxRecDepth 100000 in
set_option maxHeartbeats 4000000 in
theorem zd_X9_settles_103 (V : zV) (d : Nat) : ∀ (n : Nat) (v1 : Int32) (S : zS), z_J zeV V mX9_settles (d + 3) (f_X9_settles_103 n v1 S) 103 [.ref 87, .int v1, .null] [] S := by
  intro n
  induction n with
  | zero =>
    intro v1 S r hr
    cases (show (none : Option (Unit × zS)) = some r from hr)
  | succ n ih =>
    intro v1 S
    rw [f_X9_settles_103]
    refine d_st (fun _ k => zg_iload_n dX9_settles_103 rfl (zg_aload_n dX9_settles_104 rfl (zs_getR dX9_settles_105 zf_X9_13 rfl (zq_87 _) (by decide) (by decide) zr_87_9 (zg_iconst 2 dX9_settles_108 (by decide) (zs_iald (j := 2) dX9_settles_109 (by decide) (zq_89 _) (by decide) (by decide) k))))) ?_
    refine d_br (fun _ => zg_icmp_ge 174 dX9_settles_110 rfl) (fun c110 => ?_) (fun c110 => ?_)
    · refine d_st (fun _ k => zg_aload_n dX9_settles_174 rfl (zg_iconst 0 dX9_settles_175 (by decide) (zs_putI dX9_settles_176 zf_X9_92 rfl (zq_87 _) (by decide) (by decide) (zg_aload_n dX9_settles_179 rfl (zg_iconst 0 dX9_settles_180 (by decide) (zs_putI dX9_settles_181 zf_X9_171 rfl (zq_87 _) (by decide) (by decide) (zg_aload_n dX9_settles_184 rfl (zg_iconst 0 dX9_settles_185 (by decide) (zs_putI dX9_settles_186 zf_X9_174 rfl (zq_87 _) (by decide) (by decide) (zg_aload_n dX9_settles_189 rfl (zs_getR dX9_settles_190 zf_X9_28 rfl (zq_87 _) (by decide) (by decide) zr_87_15 (zg_iconst 0 dX9_settles_193 (by decide) (zg_iconst 0 dX9_settles_194 (by decide) (zs_zast (j := 0) dX9_settles_195 (by decide) (by decide) (zq_94 _) (by decide) (by decide) (zg_aload_n dX9_settles_196 rfl (zs_getR dX9_settles_197 zf_X9_28 rfl (zq_87 _) (by decide) (by decide) zr_87_15 (zg_iconst 1 dX9_settles_200 (by decide) (zg_iconst 0 dX9_settles_201 (by decide) (zs_zast (j := 1) dX9_settles_202 (by decide) (by decide) (zq_94 _) (by decide) (by decide) k))))))))))))))))))) ?_
      exact d_retV dX9_settles_203 rfl
    · refine d_st (fun _ k => zg_aload_n dX9_settles_113 rfl (zs_getR dX9_settles_114 zf_X9_41 rfl (zq_87 _) (by decide) (by decide) zr_87_20 (zg_iload_n dX9_settles_117 rfl (zg_iconst 0 dX9_settles_118 (by decide) k)))) ?_
      refine d_gd (fun g119 => ?_)
      refine d_st (fun _ k => zs_iast dX9_settles_119 (by decide) (zq_98 _) g119 rfl k) ?_
      refine d_st (fun _ k => zg_iconst 0 dX9_settles_120 (by decide) (zg_istore_n (ls' := [_, _, _]) dX9_settles_121 (Nat.le_of_ble_eq_true rfl) rfl rfl k)) ?_
      exact d_fg (z_le_s (z_le_s (z_le_s z_le_n))) (zd_X9_settles_122 V d ih 1000 _ _ _)
def f_X9_settles_79 : Nat → Int32 → zS → Option (Unit × zS)
  | 0, _, _ => none
  | n + 1, v1, S => if 9 ≤ v1 then (f_X9_settles_103 1000 0 S) else (if z_in (4 + v1) 13 then (f_X9_settles_79 n (v1 + 1) (z_w S 91 ((4 + v1).toNatClampNeg) (-9))) else none)
set_option maxRecDepth 100000 in
set_option maxHeartbeats 4000000 in
theorem zd_X9_settles_79 (V : zV) (d : Nat) : ∀ (n : Nat) (v1 : Int32) (S : zS), z_J zeV V mX9_settles (d + 3) (f_X9_settles_79 n v1 S) 79 [.ref 87, .int v1, .null] [] S := by
  intro n
  induction n with
  | zero =>
    intro v1 S r hr
    cases (show (none : Option (Unit × zS)) = some r from hr)
  | succ n ih =>
    intro v1 S
    rw [f_X9_settles_79]
    refine d_st (fun _ k => zg_iload_n dX9_settles_79 rfl (zg_bipush 9 dX9_settles_80 (by decide) k)) ?_
    refine d_br (fun _ => zg_icmp_ge 101 dX9_settles_82 rfl) (fun c82 => ?_) (fun c82 => ?_)
    · refine d_st (fun _ k => zg_iconst 0 dX9_settles_101 (by decide) (zg_istore_n (ls' := [_, _, _]) dX9_settles_102 (Nat.le_of_ble_eq_true rfl) rfl rfl k)) ?_
      exact d_fg (z_le_s (z_le_s (z_le_0 z_le_n))) (zd_X9_settles_103 V d 1000 _ _)
    · refine d_st (fun _ k => zg_aload_n dX9_settles_85 rfl (zs_getR dX9_settles_86 zf_X9_19 rfl (zq_87 _) (by decide) (by decide) zr_87_11 (zg_iconst 4 dX9_settles_89 (by decide) (zg_iload_n dX9_settles_90 rfl (zg_iadd dX9_settles_91 (zg_bipush (-9) dX9_settles_92 (by decide) k)))))) ?_
      refine d_gd (fun g94 => ?_)
      refine d_st (fun _ k => zs_iast dX9_settles_94 (by decide) (zq_91 _) g94 rfl k) ?_
      refine d_st (fun _ k => zg_iinc (ls' := [_, _, _]) 1 dX9_settles_95 rfl (by decide) (Nat.le_of_ble_eq_true rfl) rfl rfl (zg_goto 79 dX9_settles_98 rfl k)) ?_
      exact d_fg (z_le_s (z_le_s (z_le_0 z_le_n))) (ih _ _)
def f_X9_settles_62 (t0 : Int32) (t1 : Int32) (S : zS) : Option (Unit × zS) := if z_in t1 13 then (f_X9_settles_79 1000 0 (z_w (z_w (z_w S 91 t1.toNatClampNeg t0) 91 2 0) 91 3 0)) else none
set_option maxRecDepth 100000 in
set_option maxHeartbeats 4000000 in
theorem zd_X9_settles_62 (V : zV) (d : Nat) : ∀ (t0 : Int32) (t1 : Int32) (S : zS), z_J zeV V mX9_settles (d + 3) (f_X9_settles_62 t0 t1 S) 62 [.ref 87, .null, .null] [.int t0, .int t1, .ref 91] S := by
  intro t0 t1 S
  unfold f_X9_settles_62
  refine d_gd (fun g62 => ?_)
  refine d_st (fun _ k => zs_iast dX9_settles_62 (by decide) (zq_91 _) g62 rfl k) ?_
  refine d_st (fun _ k => zg_aload_n dX9_settles_63 rfl (zs_getR dX9_settles_64 zf_X9_19 rfl (zq_87 _) (by decide) (by decide) zr_87_11 (zg_iconst 2 dX9_settles_67 (by decide) (zg_iconst 0 dX9_settles_68 (by decide) (zs_iast (j := 2) dX9_settles_69 (by decide) (zq_91 _) (by decide) (by decide) (zg_aload_n dX9_settles_70 rfl (zs_getR dX9_settles_71 zf_X9_19 rfl (zq_87 _) (by decide) (by decide) zr_87_11 (zg_iconst 3 dX9_settles_74 (by decide) (zg_iconst 0 dX9_settles_75 (by decide) (zs_iast (j := 3) dX9_settles_76 (by decide) (zq_91 _) (by decide) (by decide) (zg_iconst 0 dX9_settles_77 (by decide) (zg_istore_n (ls' := [_, _, _]) dX9_settles_78 (Nat.le_of_ble_eq_true rfl) rfl rfl k)))))))))))) ?_
  exact d_fg (z_le_s (z_le_s (z_le_0 z_le_n))) (zd_X9_settles_79 V d 1000 _ _)
def f_X9_settles_2 : Nat → Int32 → zS → Option (Unit × zS)
  | 0, _, _ => none
  | n + 1, v1, S => if 74 ≤ v1 then (if ((z_w S 91 0 (((1 : Int32) <<< ((S.1 89 1) &&& 31)) - 1)).1 89 0) = 0 then (f_X9_settles_62 (-9) 1 (z_w S 91 0 (((1 : Int32) <<< ((S.1 89 1) &&& 31)) - 1))) else (f_X9_settles_62 0 1 (z_w S 91 0 (((1 : Int32) <<< ((S.1 89 1) &&& 31)) - 1)))) else (if z_in v1 74 then (if z_in v1 74 then (f_X9_settles_2 n (v1 + 1) (z_w S 89 v1.toNatClampNeg (S.1 90 v1.toNatClampNeg))) else none) else none)
set_option maxRecDepth 100000 in
set_option maxHeartbeats 4000000 in
theorem zd_X9_settles_2 (V : zV) (d : Nat) : ∀ (n : Nat) (v1 : Int32) (S : zS), z_J zeV V mX9_settles (d + 3) (f_X9_settles_2 n v1 S) 2 [.ref 87, .int v1, .null] [] S := by
  intro n
  induction n with
  | zero =>
    intro v1 S r hr
    cases (show (none : Option (Unit × zS)) = some r from hr)
  | succ n ih =>
    intro v1 S
    rw [f_X9_settles_2]
    refine d_st (fun _ k => zg_iload_n dX9_settles_2 rfl (zg_bipush 74 dX9_settles_3 (by decide) k)) ?_
    refine d_br (fun _ => zg_icmp_ge 26 dX9_settles_5 rfl) (fun c5 => ?_) (fun c5 => ?_)
    · refine d_st (fun _ k => zg_aload_n dX9_settles_26 rfl (zs_getR dX9_settles_27 zf_X9_19 rfl (zq_87 _) (by decide) (by decide) zr_87_11 (zg_iconst 0 dX9_settles_30 (by decide) (zg_iconst 1 dX9_settles_31 (by decide) (zg_aload_n dX9_settles_32 rfl (zs_getR dX9_settles_33 zf_X9_13 rfl (zq_87 _) (by decide) (by decide) zr_87_9 (zg_iconst 1 dX9_settles_36 (by decide) (zs_iald (j := 1) dX9_settles_37 (by decide) (zq_89 _) (by decide) (by decide) (zg_ishl dX9_settles_38 (zg_iconst 1 dX9_settles_39 (by decide) (zg_isub dX9_settles_40 (zs_iast (j := 0) dX9_settles_41 (by decide) (zq_91 _) (by decide) (by decide) (zg_aload_n dX9_settles_42 rfl (zs_getR dX9_settles_43 zf_X9_19 rfl (zq_87 _) (by decide) (by decide) zr_87_11 (zg_iconst 1 dX9_settles_46 (by decide) (zg_aload_n dX9_settles_47 rfl (zs_getR dX9_settles_48 zf_X9_13 rfl (zq_87 _) (by decide) (by decide) zr_87_9 (zg_iconst 0 dX9_settles_51 (by decide) (zs_iald (j := 0) dX9_settles_52 (by decide) (zq_89 _) (by decide) (by decide) k))))))))))))))))))) ?_
      refine d_br (fun _ => zg_if_ne 61 dX9_settles_53 rfl) (fun c53 => ?_) (fun c53 => ?_)
      · refine d_st (fun _ k => zg_bipush (-9) dX9_settles_56 (by decide) (zg_goto 62 dX9_settles_58 rfl k)) ?_
        exact d_fg (z_le_s (z_le_0 (z_le_0 z_le_n))) (zd_X9_settles_62 V d _ _ _)
      · refine d_st (fun _ k => zg_iconst 0 dX9_settles_61 (by decide) k) ?_
        exact d_fg (z_le_s (z_le_0 (z_le_0 z_le_n))) (zd_X9_settles_62 V d _ _ _)
    · refine d_st (fun _ k => zg_aload_n dX9_settles_8 rfl (zs_getR dX9_settles_9 zf_X9_13 rfl (zq_87 _) (by decide) (by decide) zr_87_9 (zg_iload_n dX9_settles_12 rfl (zg_aload_n dX9_settles_13 rfl (zs_getR dX9_settles_14 zf_X9_16 rfl (zq_87 _) (by decide) (by decide) zr_87_10 (zg_iload_n dX9_settles_17 rfl k)))))) ?_
      refine d_gd (fun g18 => ?_)
      refine d_st (fun _ k => zs_iald dX9_settles_18 (by decide) (zq_90 _) g18 rfl k) ?_
      refine d_gd (fun g19 => ?_)
      refine d_st (fun _ k => zs_iast dX9_settles_19 (by decide) (zq_89 _) g19 rfl k) ?_
      refine d_st (fun _ k => zg_iinc (ls' := [_, _, _]) 1 dX9_settles_20 rfl (by decide) (Nat.le_of_ble_eq_true rfl) rfl rfl (zg_goto 2 dX9_settles_23 rfl k)) ?_
      exact d_fg (z_le_s (z_le_s (z_le_0 z_le_n))) (ih _ _)
def f_X9_settles (S : zS) : Option (Unit × zS) := f_X9_settles_2 1000 0 S
set_option maxRecDepth 100000 in
set_option maxHeartbeats 4000000 in
theorem zd_X9_settles (V : zV) (d : Nat) : ∀ (S : zS), z_J zeV V mX9_settles (d + 3) (f_X9_settles  S) 0 (z_ent mX9_settles [.ref 87]) [] S := by
  intro S
  show z_J zeV V mX9_settles (d + 3) (f_X9_settles  S) 0 [.ref 87, .null, .null] [] S
  unfold f_X9_settles
  refine d_st (fun _ k => zg_iconst 0 dX9_settles_0 (by decide) (zg_istore_n (ls' := [_, _, _]) dX9_settles_1 (Nat.le_of_ble_eq_true rfl) rfl rfl k)) ?_
  exact d_fg (z_le_s (z_le_s (z_le_0 z_le_n))) (zd_X9_settles_2 V d 1000 _ _)
def f_X9_plate_100 (v1 : Int32) (S : zS) : Option (Int32 × zS) := (f_X9_isWell  S).bind (fun r101 => if r101.1 = 0 then (some ((-10) - (r101.2.1 87 7), r101.2)) else ((f_X9_sorts  r101.2).bind (fun r116 => (f_X9_settles  r116.2).bind (fun r120 => some (v1, r120.2)))))
set_option maxRecDepth 100000 in
set_option maxHeartbeats 4000000 in
theorem zd_X9_plate_100 (V : zV) (d : Nat) : ∀ (v1 : Int32) (S : zS), z_J zeI V mX9_plate (d + 5) (f_X9_plate_100 v1 S) 100 [.ref 87, .int v1, .null] [] S := by
  intro v1 S
  unfold f_X9_plate_100
  refine d_st (fun _ k => zg_aload_n dX9_plate_100 rfl k) ?_
  refine d_cVi (As := []) dX9_plate_101 zk_X9_114 (zq_87 _) (by decide) ⟨_, _, rfl⟩ rfl rfl (Nat.le_of_ble_eq_true rfl) (Nat.le_of_ble_eq_true rfl) rfl (zd_X9_isWell V (d + 4) _) (fun r101 _ => ?_)
  refine d_br (fun _ => zg_if_ne 115 dX9_plate_104 rfl) (fun c104 => ?_) (fun c104 => ?_)
  · refine d_st (fun _ k => zg_bipush (-10) dX9_plate_107 (by decide) (zg_aload_n dX9_plate_109 rfl (zs_getI dX9_plate_110 zf_X9_111 rfl (zq_87 _) (by decide) (by decide) (zg_isub dX9_plate_113 k)))) ?_
    exact d_retI dX9_plate_114 rfl
  · refine d_st (fun _ k => zg_aload_n dX9_plate_115 rfl k) ?_
    refine d_cVv (As := []) dX9_plate_116 zk_X9_165 (zq_87 _) (by decide) ⟨_, _, rfl⟩ rfl rfl (Nat.le_of_ble_eq_true rfl) (Nat.le_of_ble_eq_true rfl) rfl (zd_X9_sorts V (d + 4) _) (fun r116 _ => ?_)
    refine d_st (fun _ k => zg_aload_n dX9_plate_119 rfl k) ?_
    refine d_cVv (As := []) dX9_plate_120 zk_X9_77 (zq_87 _) (by decide) ⟨_, _, rfl⟩ rfl rfl (Nat.le_of_ble_eq_true rfl) (Nat.le_of_ble_eq_true rfl) rfl (zd_X9_settles V (d + 1) _) (fun r120 _ => ?_)
    refine d_st (fun _ k => zg_iload_n dX9_plate_123 rfl k) ?_
    exact d_retI dX9_plate_124 rfl
def f_X9_plate_90 (K25 : Int32 → zS → Option (Int32 × zS)) (v1 : Int32) (t0 : Int32) (S : zS) : Option (Int32 × zS) := (f_X9_takes t0 S).bind (fun r90 => K25 (v1 + 1) r90.2)
set_option maxRecDepth 100000 in
set_option maxHeartbeats 4000000 in
theorem zd_X9_plate_90 (V : zV) (d : Nat) {K25 : Int32 → zS → Option (Int32 × zS)} (hK25 : ∀ (v1 : Int32) (S : zS), z_J zeI V mX9_plate (d + 5) (K25 v1 S) 25 [.ref 87, .int v1, .null] [] S) : ∀ (v1 : Int32) (t0 : Int32) (S : zS), z_J zeI V mX9_plate (d + 5) (f_X9_plate_90 K25 v1 t0 S) 90 [.ref 87, .int v1, .null] [.int t0, .ref 87] S := by
  intro v1 t0 S
  unfold f_X9_plate_90
  refine d_cVi (As := [_]) dX9_plate_90 zk_X9_132 (zq_87 _) (by decide) ⟨_, _, rfl⟩ rfl rfl (Nat.le_of_ble_eq_true rfl) (Nat.le_of_ble_eq_true rfl) rfl (zd_X9_takes V (d + 2) _ _) (fun r90 _ => ?_)
  refine d_st (fun _ k => zg_popi dX9_plate_93 (zg_iinc (ls' := [_, _, _]) 1 dX9_plate_94 rfl (by decide) (Nat.le_of_ble_eq_true rfl) rfl rfl (zg_goto 25 dX9_plate_97 rfl k))) ?_
  exact d_fg (z_le_s (z_le_s (z_le_0 z_le_n))) (hK25 _ _)
def f_X9_plate_76 (K25 : Int32 → zS → Option (Int32 × zS)) (v1 : Int32) (S : zS) : Option (Int32 × zS) := if (S.1 87 4) = 3 then (f_X9_plate_90 K25 v1 1 S) else (f_X9_plate_90 K25 v1 0 S)
set_option maxRecDepth 100000 in
set_option maxHeartbeats 4000000 in
theorem zd_X9_plate_76 (V : zV) (d : Nat) {K25 : Int32 → zS → Option (Int32 × zS)} (hK25 : ∀ (v1 : Int32) (S : zS), z_J zeI V mX9_plate (d + 5) (K25 v1 S) 25 [.ref 87, .int v1, .null] [] S) : ∀ (v1 : Int32) (S : zS), z_J zeI V mX9_plate (d + 5) (f_X9_plate_76 K25 v1 S) 76 [.ref 87, .int v1, .null] [] S := by
  intro v1 S
  unfold f_X9_plate_76
  refine d_st (fun _ k => zg_aload_n dX9_plate_76 rfl (zg_aload_n dX9_plate_77 rfl (zs_getI dX9_plate_78 zf_X9_105 rfl (zq_87 _) (by decide) (by decide) (zg_iconst 3 dX9_plate_81 (by decide) k)))) ?_
  refine d_br (fun _ => zg_icmp_ne 89 dX9_plate_82 rfl) (fun c82 => ?_) (fun c82 => ?_)
  · refine d_st (fun _ k => zg_iconst 1 dX9_plate_85 (by decide) (zg_goto 90 dX9_plate_86 rfl k)) ?_
    exact d_fg (z_le_s (z_le_s (z_le_0 z_le_n))) (zd_X9_plate_90 V d hK25 _ _ _)
  · refine d_st (fun _ k => zg_iconst 0 dX9_plate_89 (by decide) k) ?_
    exact d_fg (z_le_s (z_le_s (z_le_0 z_le_n))) (zd_X9_plate_90 V d hK25 _ _ _)
def f_X9_plate_60 (K25 : Int32 → zS → Option (Int32 × zS)) (v1 : Int32) (t0 : Int32) (S : zS) : Option (Int32 × zS) := (f_X9_takes t0 S).bind (fun r60 => (f_X9_isWell  r60.2).bind (fun r65 => if r65.1 = 0 then (f_X9_plate_76 K25 v1 r65.2) else ((f_X9_readsItem r60.1 r65.2).bind (fun r73 => f_X9_plate_76 K25 v1 r73.2))))
set_option maxRecDepth 100000 in
set_option maxHeartbeats 4000000 in
theorem zd_X9_plate_60 (V : zV) (d : Nat) {K25 : Int32 → zS → Option (Int32 × zS)} (hK25 : ∀ (v1 : Int32) (S : zS), z_J zeI V mX9_plate (d + 5) (K25 v1 S) 25 [.ref 87, .int v1, .null] [] S) : ∀ (v1 : Int32) (t0 : Int32) (S : zS), z_J zeI V mX9_plate (d + 5) (f_X9_plate_60 K25 v1 t0 S) 60 [.ref 87, .int v1, .null] [.int t0, .ref 87] S := by
  intro v1 t0 S
  unfold f_X9_plate_60
  refine d_cVi (As := [_]) dX9_plate_60 zk_X9_132 (zq_87 _) (by decide) ⟨_, _, rfl⟩ rfl rfl (Nat.le_of_ble_eq_true rfl) (Nat.le_of_ble_eq_true rfl) rfl (zd_X9_takes V (d + 2) _ _) (fun r60 _ => ?_)
  refine d_st (fun _ k => zg_istore_n (ls' := [_, _, _]) dX9_plate_63 (Nat.le_of_ble_eq_true rfl) rfl rfl (zg_aload_n dX9_plate_64 rfl k)) ?_
  refine d_cVi (As := []) dX9_plate_65 zk_X9_114 (zq_87 _) (by decide) ⟨_, _, rfl⟩ rfl rfl (Nat.le_of_ble_eq_true rfl) (Nat.le_of_ble_eq_true rfl) rfl (zd_X9_isWell V (d + 4) _) (fun r65 _ => ?_)
  refine d_br (fun _ => zg_if_eq 76 dX9_plate_68 rfl) (fun c68 => ?_) (fun c68 => ?_)
  · exact d_fg (z_le_s (z_le_s (z_le_0 z_le_n))) (zd_X9_plate_76 V d hK25 _ _)
  · refine d_st (fun _ k => zg_aload_n dX9_plate_71 rfl (zg_iload_n dX9_plate_72 rfl k)) ?_
    refine d_cVv (As := [_]) dX9_plate_73 zk_X9_161 (zq_87 _) (by decide) ⟨_, _, rfl⟩ rfl rfl (Nat.le_of_ble_eq_true rfl) (Nat.le_of_ble_eq_true rfl) rfl (zd_X9_readsItem V d _ _) (fun r73 _ => ?_)
    exact d_fg (z_le_s (z_le_s (z_le_0 z_le_n))) (zd_X9_plate_76 V d hK25 _ _)
def f_X9_plate_25 : Nat → Int32 → zS → Option (Int32 × zS)
  | 0, _, _ => none
  | n + 1, v1, S => (f_X9_isWell  S).bind (fun r26 => if r26.1 = 0 then (f_X9_plate_100 v1 r26.2) else (if (r26.2.1 87 4) = 0 then (f_X9_plate_100 v1 r26.2) else (if (r26.2.1 87 4) = 1 then ((f_X9_mayBegin  r26.2).bind (fun r49 => if r49.1 = 0 then (f_X9_plate_60 (f_X9_plate_25 n) v1 0 r49.2) else (f_X9_plate_60 (f_X9_plate_25 n) v1 1 r49.2))) else (f_X9_plate_60 (f_X9_plate_25 n) v1 0 r26.2))))
set_option maxRecDepth 100000 in
set_option maxHeartbeats 4000000 in
theorem zd_X9_plate_25 (V : zV) (d : Nat) : ∀ (n : Nat) (v1 : Int32) (S : zS), z_J zeI V mX9_plate (d + 5) (f_X9_plate_25 n v1 S) 25 [.ref 87, .int v1, .null] [] S := by
  intro n
  induction n with
  | zero =>
    intro v1 S r hr
    cases (show (none : Option (Int32 × zS)) = some r from hr)
  | succ n ih =>
    intro v1 S
    rw [f_X9_plate_25]
    refine d_st (fun _ k => zg_aload_n dX9_plate_25 rfl k) ?_
    refine d_cVi (As := []) dX9_plate_26 zk_X9_114 (zq_87 _) (by decide) ⟨_, _, rfl⟩ rfl rfl (Nat.le_of_ble_eq_true rfl) (Nat.le_of_ble_eq_true rfl) rfl (zd_X9_isWell V (d + 4) _) (fun r26 _ => ?_)
    refine d_br (fun _ => zg_if_eq 100 dX9_plate_29 rfl) (fun c29 => ?_) (fun c29 => ?_)
    · exact d_fg (z_le_s (z_le_s (z_le_0 z_le_n))) (zd_X9_plate_100 V d _ _)
    · refine d_st (fun _ k => zg_aload_n dX9_plate_32 rfl (zs_getI dX9_plate_33 zf_X9_105 rfl (zq_87 _) (by decide) (by decide) k)) ?_
      refine d_br (fun _ => zg_if_eq 100 dX9_plate_36 rfl) (fun c36 => ?_) (fun c36 => ?_)
      · exact d_fg (z_le_s (z_le_s (z_le_0 z_le_n))) (zd_X9_plate_100 V d _ _)
      · refine d_st (fun _ k => zg_aload_n dX9_plate_39 rfl (zg_aload_n dX9_plate_40 rfl (zs_getI dX9_plate_41 zf_X9_105 rfl (zq_87 _) (by decide) (by decide) (zg_iconst 1 dX9_plate_44 (by decide) k)))) ?_
        refine d_br (fun _ => zg_icmp_ne 59 dX9_plate_45 rfl) (fun c45 => ?_) (fun c45 => ?_)
        · refine d_st (fun _ k => zg_aload_n dX9_plate_48 rfl k) ?_
          refine d_cVi (As := []) dX9_plate_49 zk_X9_158 (zq_87 _) (by decide) ⟨_, _, rfl⟩ rfl rfl (Nat.le_of_ble_eq_true rfl) (Nat.le_of_ble_eq_true rfl) rfl (zd_X9_mayBegin V (d + 4) _) (fun r49 _ => ?_)
          refine d_br (fun _ => zg_if_eq 59 dX9_plate_52 rfl) (fun c52 => ?_) (fun c52 => ?_)
          · refine d_st (fun _ k => zg_iconst 0 dX9_plate_59 (by decide) k) ?_
            exact d_fg (z_le_s (z_le_s (z_le_0 z_le_n))) (zd_X9_plate_60 V d ih _ _ _)
          · refine d_st (fun _ k => zg_iconst 1 dX9_plate_55 (by decide) (zg_goto 60 dX9_plate_56 rfl k)) ?_
            exact d_fg (z_le_s (z_le_s (z_le_0 z_le_n))) (zd_X9_plate_60 V d ih _ _ _)
        · refine d_st (fun _ k => zg_iconst 0 dX9_plate_59 (by decide) k) ?_
          exact d_fg (z_le_s (z_le_s (z_le_0 z_le_n))) (zd_X9_plate_60 V d ih _ _ _)
def f_X9_plate (S : zS) : Option (Int32 × zS) := (f_X9_begins  (z_w (z_w (z_w S 87 0 0) 87 7 (-1)) 87 3 0)).bind (fun r16 => (f_X9_advances  r16.2).bind (fun r22 => f_X9_plate_25 1000 0 r22.2))
set_option maxRecDepth 100000 in
set_option maxHeartbeats 4000000 in
theorem zd_X9_plate (V : zV) (d : Nat) : ∀ (S : zS), z_J zeI V mX9_plate (d + 5) (f_X9_plate  S) 0 (z_ent mX9_plate [.ref 87]) [] S := by
  intro S
  show z_J zeI V mX9_plate (d + 5) (f_X9_plate  S) 0 [.ref 87, .null, .null] [] S
  unfold f_X9_plate
  refine d_st (fun _ k => zg_aload_n dX9_plate_0 rfl (zg_iconst 0 dX9_plate_1 (by decide) (zs_putI dX9_plate_2 zf_X9_80 rfl (zq_87 _) (by decide) (by decide) (zg_aload_n dX9_plate_5 rfl (zg_iconst (-1) dX9_plate_6 (by decide) (zs_putI dX9_plate_7 zf_X9_111 rfl (zq_87 _) (by decide) (by decide) (zg_aload_n dX9_plate_10 rfl (zg_iconst 0 dX9_plate_11 (by decide) (zs_putI dX9_plate_12 zf_X9_95 rfl (zq_87 _) (by decide) (by decide) (zg_aload_n dX9_plate_15 rfl k)))))))))) ?_
  refine d_cVv (As := []) dX9_plate_16 zk_X9_74 (zq_87 _) (by decide) ⟨_, _, rfl⟩ rfl rfl (Nat.le_of_ble_eq_true rfl) (Nat.le_of_ble_eq_true rfl) rfl (zd_X9_begins V (d + 4) _) (fun r16 _ => ?_)
  refine d_st (fun _ k => zg_iconst 0 dX9_plate_19 (by decide) (zg_istore_n (ls' := [_, _, _]) dX9_plate_20 (Nat.le_of_ble_eq_true rfl) rfl rfl (zg_aload_n dX9_plate_21 rfl k))) ?_
  refine d_cVv (As := []) dX9_plate_22 zk_X9_118 (zq_87 _) (by decide) ⟨_, _, rfl⟩ rfl rfl (Nat.le_of_ble_eq_true rfl) (Nat.le_of_ble_eq_true rfl) rfl (zd_X9_advances V (d + 3) _) (fun r22 _ => ?_)
  exact d_fg (z_le_s (z_le_s (z_le_0 z_le_n))) (zd_X9_plate_25 V d 1000 _ _)
def f_X1_cutsAt_5 (p0 : Nat) : Nat → Int32 → Int32 → Int32 → Int32 → zS → Option (Int32 × zS)
  | 0, _, _, _, _, _ => none
  | n + 1, v1, v2, v3, v4, S => if (S.1 p0 4) ≤ v4 then (some (v3, S)) else ((f_X8_has v2 v4 S).bind (fun r17 => if r17.1 = 0 then (f_X1_cutsAt_5 p0 n v1 v2 v3 (v4 + 1) r17.2) else (if z_in v4 14 then (if (r17.2.1 (p0 + 4) v4.toNatClampNeg) = v1 then (f_X1_cutsAt_5 p0 n v1 v2 (v3 + 1) (v4 + 1) r17.2) else (if z_in v4 14 then (if (r17.2.1 (p0 + 5) v4.toNatClampNeg) = v1 then (f_X1_cutsAt_5 p0 n v1 v2 (v3 + 1) (v4 + 1) r17.2) else (f_X1_cutsAt_5 p0 n v1 v2 v3 (v4 + 1) r17.2)) else none)) else none)))
set_option maxRecDepth 100000 in
set_option maxHeartbeats 4000000 in
theorem zd_X1_cutsAt_5 (V : zV) {p0 : Nat} (h0 : z_isP p0) (d : Nat) : ∀ (n : Nat) (v1 : Int32) (v2 : Int32) (v3 : Int32) (v4 : Int32) (S : zS), z_J zeI V mX1_cutsAt (d + 1) (f_X1_cutsAt_5 p0 n v1 v2 v3 v4 S) 5 [.ref p0, .int v1, .int v2, .int v3, .int v4] [] S := by
  intro n
  induction n with
  | zero =>
    intro v1 v2 v3 v4 S r hr
    cases (show (none : Option (Int32 × zS)) = some r from hr)
  | succ n ih =>
    intro v1 v2 v3 v4 S
    rw [f_X1_cutsAt_5]
    refine d_st (fun _ k => zg_iload dX1_cutsAt_5 rfl (zg_aload_n dX1_cutsAt_7 rfl (zs_getI dX1_cutsAt_8 zf_X1_25 rfl (zp_o h0 _) (by decide) (by decide) k))) ?_
    refine d_br (fun _ => zg_icmp_ge 54 dX1_cutsAt_11 rfl) (fun c11 => ?_) (fun c11 => ?_)
    · refine d_st (fun _ k => zg_iload_n dX1_cutsAt_54 rfl k) ?_
      exact d_retI dX1_cutsAt_55 rfl
    · refine d_st (fun _ k => zg_iload_n dX1_cutsAt_14 rfl (zg_iload dX1_cutsAt_15 rfl k)) ?_
      refine d_cTi (As := [_, _]) dX1_cutsAt_17 zk_X1_73 rfl rfl (Nat.le_of_ble_eq_true rfl) (Nat.le_of_ble_eq_true rfl) rfl (zd_X8_has V d _ _ _) (fun r17 _ => ?_)
      refine d_br (fun _ => zg_if_eq 48 dX1_cutsAt_20 rfl) (fun c20 => ?_) (fun c20 => ?_)
      · refine d_st (fun _ k => zg_iinc (ls' := [_, _, _, _, _]) 1 dX1_cutsAt_48 rfl (by decide) (Nat.le_of_ble_eq_true rfl) rfl rfl (zg_goto 5 dX1_cutsAt_51 rfl k)) ?_
        exact d_fg (z_le_s (z_le_s (z_le_s (z_le_s (z_le_s z_le_n))))) (ih _ _ _ _ _)
      · refine d_st (fun _ k => zg_aload_n dX1_cutsAt_23 rfl (zs_getR dX1_cutsAt_24 zf_X1_28 rfl (zp_o h0 _) (by decide) (by decide) (zp_r5 h0) (zg_iload dX1_cutsAt_27 rfl k))) ?_
        refine d_gd (fun g29 => ?_)
        refine d_st (fun _ k => zs_iald dX1_cutsAt_29 (zp_p4 h0) (zp_4 h0 _) g29 rfl k) ?_
        refine d_st (fun _ k => zg_iload_n dX1_cutsAt_30 rfl k) ?_
        refine d_br (fun _ => zg_icmp_eq 45 dX1_cutsAt_31 rfl) (fun c31 => ?_) (fun c31 => ?_)
        · refine d_st (fun _ k => zg_iinc (ls' := [_, _, _, _, _]) 1 dX1_cutsAt_45 rfl (by decide) (Nat.le_of_ble_eq_true rfl) rfl rfl (zg_iinc (ls' := [_, _, _, _, _]) 1 dX1_cutsAt_48 rfl (by decide) (Nat.le_of_ble_eq_true rfl) rfl rfl (zg_goto 5 dX1_cutsAt_51 rfl k))) ?_
          exact d_fg (z_le_s (z_le_s (z_le_s (z_le_s (z_le_s z_le_n))))) (ih _ _ _ _ _)
        · refine d_st (fun _ k => zg_aload_n dX1_cutsAt_34 rfl (zs_getR dX1_cutsAt_35 zf_X1_31 rfl (zp_o h0 _) (by decide) (by decide) (zp_r6 h0) (zg_iload dX1_cutsAt_38 rfl k))) ?_
          refine d_gd (fun g40 => ?_)
          refine d_st (fun _ k => zs_iald dX1_cutsAt_40 (zp_p5 h0) (zp_5 h0 _) g40 rfl k) ?_
          refine d_st (fun _ k => zg_iload_n dX1_cutsAt_41 rfl k) ?_
          refine d_br (fun _ => zg_icmp_ne 48 dX1_cutsAt_42 rfl) (fun c42 => ?_) (fun c42 => ?_)
          · refine d_st (fun _ k => zg_iinc (ls' := [_, _, _, _, _]) 1 dX1_cutsAt_45 rfl (by decide) (Nat.le_of_ble_eq_true rfl) rfl rfl (zg_iinc (ls' := [_, _, _, _, _]) 1 dX1_cutsAt_48 rfl (by decide) (Nat.le_of_ble_eq_true rfl) rfl rfl (zg_goto 5 dX1_cutsAt_51 rfl k))) ?_
            exact d_fg (z_le_s (z_le_s (z_le_s (z_le_s (z_le_s z_le_n))))) (ih _ _ _ _ _)
          · refine d_st (fun _ k => zg_iinc (ls' := [_, _, _, _, _]) 1 dX1_cutsAt_48 rfl (by decide) (Nat.le_of_ble_eq_true rfl) rfl rfl (zg_goto 5 dX1_cutsAt_51 rfl k)) ?_
            exact d_fg (z_le_s (z_le_s (z_le_s (z_le_s (z_le_s z_le_n))))) (ih _ _ _ _ _)
def f_X1_cutsAt (p0 : Nat) (a1 : Int32) (a2 : Int32) (S : zS) : Option (Int32 × zS) := f_X1_cutsAt_5 p0 1000 a1 a2 0 0 S
set_option maxRecDepth 100000 in
set_option maxHeartbeats 4000000 in
theorem zd_X1_cutsAt (V : zV) {p0 : Nat} (h0 : z_isP p0) (d : Nat) : ∀ (a1 : Int32) (a2 : Int32) (S : zS), z_J zeI V mX1_cutsAt (d + 1) (f_X1_cutsAt p0 a1 a2 S) 0 (z_ent mX1_cutsAt [.ref p0, .int a1, .int a2]) [] S := by
  intro a1 a2 S
  show z_J zeI V mX1_cutsAt (d + 1) (f_X1_cutsAt p0 a1 a2 S) 0 [.ref p0, .int a1, .int a2, .null, .null] [] S
  unfold f_X1_cutsAt
  refine d_st (fun _ k => zg_iconst 0 dX1_cutsAt_0 (by decide) (zg_istore_n (ls' := [_, _, _, _, _]) dX1_cutsAt_1 (Nat.le_of_ble_eq_true rfl) rfl rfl (zg_iconst 0 dX1_cutsAt_2 (by decide) (zg_istore (ls' := [_, _, _, _, _]) dX1_cutsAt_3 (Nat.le_of_ble_eq_true rfl) rfl rfl k)))) ?_
  exact d_fg (z_le_s (z_le_s (z_le_s (z_le_s (z_le_s z_le_n))))) (zd_X1_cutsAt_5 V h0 d 1000 _ _ _ _ _)
def f_X8_corner (a1 : Int32) (a2 : Int32) (S : zS) : Option (Int32 × zS) := if z_isP S.2.1 then ((f_X1_hasCorner S.2.1 a1 S).bind (fun r5 => if r5.1 = 0 then (some ((-1), r5.2)) else (if a2 = 0 then (if z_isP r5.2.2.1 then (if z_in a1 9 then (some (r5.2.1 (r5.2.2.1 + 1) a1.toNatClampNeg, r5.2)) else none) else none) else (if a2 = 1 then (if z_isP r5.2.2.1 then (if z_in a1 9 then (some (r5.2.1 (r5.2.2.1 + 2) a1.toNatClampNeg, r5.2)) else none) else none) else (if a2 = 2 then (if z_isP r5.2.2.1 then ((f_X1_cutsAt r5.2.2.1 a1 (r5.2.1 32 0) r5.2).bind (fun r76 => some (r76.1, r76.2))) else none) else (if a2 = 3 then (if z_in a1 9 then (some (r5.2.1 33 a1.toNatClampNeg, r5.2)) else none) else (some ((-1), r5.2)))))))) else none
set_option maxRecDepth 100000 in
set_option maxHeartbeats 4000000 in
theorem zd_X8_corner (V : zV) (d : Nat) : ∀ (a1 : Int32) (a2 : Int32) (S : zS), z_J zeI V mX8_corner (d + 2) (f_X8_corner a1 a2 S) 0 (z_ent mX8_corner [.ref 1, .int a1, .int a2]) [] S := by
  intro a1 a2 S
  show z_J zeI V mX8_corner (d + 2) (f_X8_corner a1 a2 S) 0 [.ref 1, .int a1, .int a2] [] S
  unfold f_X8_corner
  refine d_st (fun _ k => zg_aload_n dX8_corner_0 rfl k) ?_
  refine d_gd (fun g1 => ?_)
  refine d_st (fun _ k => zs_getR dX8_corner_1 zf_X8_20 rfl (zq_1 _) (by decide) (by decide) zr_pl k) ?_
  refine d_st (fun _ k => zg_iload_n dX8_corner_4 rfl k) ?_
  refine d_cVi (As := [_]) dX8_corner_5 zk_X8_94 (zp_o g1 _) (by decide) ⟨_, _, rfl⟩ rfl rfl (Nat.le_of_ble_eq_true rfl) (Nat.le_of_ble_eq_true rfl) rfl (zd_X1_hasCorner V g1 (d + 1) _ _) (fun r5 _ => ?_)
  refine d_br (fun _ => zg_if_ne 13 dX8_corner_8 rfl) (fun c8 => ?_) (fun c8 => ?_)
  · refine d_st (fun _ k => zg_iconst (-1) dX8_corner_11 (by decide) k) ?_
    exact d_retI dX8_corner_12 rfl
  · refine d_st (fun _ k => zg_iload_n dX8_corner_13 rfl k) ?_
    refine d_if (fun s14_0 => ?_) (fun s14_0 => ?_)
    · refine d_st (fun _ k => zg_tableIn 44 dX8_corner_14 (by rw [s14_0]; decide) (by rw [s14_0]; decide) (by rw [s14_0]; rfl) rfl k) ?_
      refine d_st (fun _ k => zg_aload_n dX8_corner_44 rfl k) ?_
      refine d_gd (fun g45 => ?_)
      refine d_st (fun _ k => zs_getR dX8_corner_45 zf_X8_20 rfl (zq_1 _) (by decide) (by decide) zr_pl k) ?_
      refine d_st (fun _ k => zs_getR dX8_corner_48 zf_X8_98 rfl (zp_o g45 _) (by decide) (by decide) (zp_r1 g45) (zg_iload_n dX8_corner_51 rfl k)) ?_
      refine d_gd (fun g52 => ?_)
      refine d_st (fun _ k => zs_iald dX8_corner_52 (zp_p1 g45) (zp_1 g45 _) g52 rfl k) ?_
      exact d_retI dX8_corner_53 rfl
    refine d_if (fun s14_1 => ?_) (fun s14_1 => ?_)
    · refine d_st (fun _ k => zg_tableIn 54 dX8_corner_14 (by rw [s14_1]; decide) (by rw [s14_1]; decide) (by rw [s14_1]; rfl) rfl k) ?_
      refine d_st (fun _ k => zg_aload_n dX8_corner_54 rfl k) ?_
      refine d_gd (fun g55 => ?_)
      refine d_st (fun _ k => zs_getR dX8_corner_55 zf_X8_20 rfl (zq_1 _) (by decide) (by decide) zr_pl k) ?_
      refine d_st (fun _ k => zs_getR dX8_corner_58 zf_X8_101 rfl (zp_o g55 _) (by decide) (by decide) (zp_r2 g55) (zg_iload_n dX8_corner_61 rfl k)) ?_
      refine d_gd (fun g62 => ?_)
      refine d_st (fun _ k => zs_iald dX8_corner_62 (zp_p2 g55) (zp_2 g55 _) g62 rfl k) ?_
      exact d_retI dX8_corner_63 rfl
    refine d_if (fun s14_2 => ?_) (fun s14_2 => ?_)
    · refine d_st (fun _ k => zg_tableIn 64 dX8_corner_14 (by rw [s14_2]; decide) (by rw [s14_2]; decide) (by rw [s14_2]; rfl) rfl k) ?_
      refine d_st (fun _ k => zg_aload_n dX8_corner_64 rfl k) ?_
      refine d_gd (fun g65 => ?_)
      refine d_st (fun _ k => zs_getR dX8_corner_65 zf_X8_20 rfl (zq_1 _) (by decide) (by decide) zr_pl k) ?_
      refine d_st (fun _ k => zg_iload_n dX8_corner_68 rfl (zg_aload_n dX8_corner_69 rfl (zs_getR dX8_corner_70 zf_X8_37 rfl (zq_1 _) (by decide) (by decide) zr_1_5 (zs_getI dX8_corner_73 zf_X8_104 rfl (zq_32 _) (by decide) (by decide) k)))) ?_
      refine d_cVi (As := [_, _]) dX8_corner_76 zk_X8_107 (zp_o g65 _) (by decide) ⟨_, _, rfl⟩ rfl rfl (Nat.le_of_ble_eq_true rfl) (Nat.le_of_ble_eq_true rfl) rfl (zd_X1_cutsAt V g65 d _ _ _) (fun r76 _ => ?_)
      exact d_retI dX8_corner_79 rfl
    refine d_if (fun s14_3 => ?_) (fun s14_3 => ?_)
    · refine d_st (fun _ k => zg_tableIn 80 dX8_corner_14 (by rw [s14_3]; decide) (by rw [s14_3]; decide) (by rw [s14_3]; rfl) rfl k) ?_
      refine d_st (fun _ k => zg_aload_n dX8_corner_80 rfl (zs_getR dX8_corner_81 zf_X8_37 rfl (zq_1 _) (by decide) (by decide) zr_1_5 (zs_getR dX8_corner_84 zf_X8_111 rfl (zq_32 _) (by decide) (by decide) zr_32_4 (zg_iload_n dX8_corner_87 rfl k)))) ?_
      refine d_gd (fun g88 => ?_)
      refine d_st (fun _ k => zs_iald dX8_corner_88 (by decide) (zq_33 _) g88 rfl k) ?_
      exact d_retI dX8_corner_89 rfl
    refine d_st (fun _ k => zg_tableOut 90 dX8_corner_14 (z_tb3 s14_0 s14_1 s14_2 s14_3) rfl k) ?_
    refine d_st (fun _ k => zg_iconst (-1) dX8_corner_90 (by decide) k) ?_
    exact d_retI dX8_corner_91 rfl
def f_X9_isCornerNow (a1 : Int32) (S : zS) : Option (Int32 × zS) := (f_X9_in a1 0 ((S.1 89 0) - 1) S).bind (fun r10 => if r10.1 = 0 ∨ r10.1 = 1 then some (r10.1, r10.2) else none)
set_option maxRecDepth 100000 in
set_option maxHeartbeats 4000000 in
theorem zd_X9_isCornerNow (V : zV) (d : Nat) : ∀ (a1 : Int32) (S : zS), z_J zeI V mX9_isCornerNow (d + 1) (f_X9_isCornerNow a1 S) 0 (z_ent mX9_isCornerNow [.ref 87, .int a1]) [] S := by
  intro a1 S
  show z_J zeI V mX9_isCornerNow (d + 1) (f_X9_isCornerNow a1 S) 0 [.ref 87, .int a1] [] S
  unfold f_X9_isCornerNow
  refine d_st (fun _ k => zg_iload_n dX9_isCornerNow_0 rfl (zg_iconst 0 dX9_isCornerNow_1 (by decide) (zg_aload_n dX9_isCornerNow_2 rfl (zs_getR dX9_isCornerNow_3 zf_X9_13 rfl (zq_87 _) (by decide) (by decide) zr_87_9 (zg_iconst 0 dX9_isCornerNow_6 (by decide) (zs_iald (j := 0) dX9_isCornerNow_7 (by decide) (zq_89 _) (by decide) (by decide) (zg_iconst 1 dX9_isCornerNow_8 (by decide) (zg_isub dX9_isCornerNow_9 k)))))))) ?_
  refine d_cSi (As := [_, _, _]) dX9_isCornerNow_10 zk_X9_88 rfl rfl (Nat.le_of_ble_eq_true rfl) (Nat.le_of_ble_eq_true rfl) rfl (zd_X9_in V d _ _ _ _) (fun r10 _ => ?_)
  refine d_gd (fun g13 => ?_)
  exact d_retZ dX9_isCornerNow_13 rfl g13
def f_X9_endsAt_5 (p0 : Nat) : Nat → Int32 → Int32 → Int32 → Int32 → zS → Option (Int32 × zS)
  | 0, _, _, _, _, _ => none
  | n + 1, v1, v2, v3, v4, S => if (S.1 p0 1) ≤ v4 then (some (v3, S)) else ((f_X9_has v2 v4 S).bind (fun r17 => if r17.1 = 0 then (f_X9_endsAt_5 p0 n v1 v2 (v3 + 0) (v4 + 1) r17.2) else (if z_in (22 + v4) 74 then (if (r17.2.1 p0 (22 + v4).toNatClampNeg) = v1 then (f_X9_endsAt_5 p0 n v1 v2 (v3 + 1) (v4 + 1) r17.2) else (if z_in (36 + v4) 74 then (if (r17.2.1 p0 (36 + v4).toNatClampNeg) = v1 then (f_X9_endsAt_5 p0 n v1 v2 (v3 + 1) (v4 + 1) r17.2) else (f_X9_endsAt_5 p0 n v1 v2 (v3 + 0) (v4 + 1) r17.2)) else none)) else none)))
set_option maxRecDepth 100000 in
set_option maxHeartbeats 4000000 in
theorem zd_X9_endsAt_5 (V : zV) {p0 : Nat} (h0 : z_isA p0 74) (d : Nat) : ∀ (n : Nat) (v1 : Int32) (v2 : Int32) (v3 : Int32) (v4 : Int32) (S : zS), z_J zeI V mX9_endsAt (d + 1) (f_X9_endsAt_5 p0 n v1 v2 v3 v4 S) 5 [.ref p0, .int v1, .int v2, .int v3, .int v4] [] S := by
  intro n
  induction n with
  | zero =>
    intro v1 v2 v3 v4 S r hr
    cases (show (none : Option (Int32 × zS)) = some r from hr)
  | succ n ih =>
    intro v1 v2 v3 v4 S
    rw [f_X9_endsAt_5]
    refine d_st (fun _ k => zg_iload dX9_endsAt_5 rfl (zg_aload_n dX9_endsAt_7 rfl (zg_iconst 1 dX9_endsAt_8 (by decide) (zs_iald (j := 1) dX9_endsAt_9 h0.1 (h0.2 _) (by decide) (by decide) k)))) ?_
    refine d_br (fun _ => zg_icmp_ge 58 dX9_endsAt_10 rfl) (fun c10 => ?_) (fun c10 => ?_)
    · refine d_st (fun _ k => zg_iload_n dX9_endsAt_58 rfl k) ?_
      exact d_retI dX9_endsAt_59 rfl
    · refine d_st (fun _ k => zg_iload_n dX9_endsAt_13 rfl (zg_iload_n dX9_endsAt_14 rfl (zg_iload dX9_endsAt_15 rfl k))) ?_
      refine d_cSi (As := [_, _]) dX9_endsAt_17 zk_X9_84 rfl rfl (Nat.le_of_ble_eq_true rfl) (Nat.le_of_ble_eq_true rfl) rfl (zd_X9_has V d _ _ _) (fun r17 _ => ?_)
      refine d_br (fun _ => zg_if_eq 49 dX9_endsAt_20 rfl) (fun c20 => ?_) (fun c20 => ?_)
      · refine d_st (fun _ k => zg_iconst 0 dX9_endsAt_49 (by decide) (zg_iadd dX9_endsAt_50 (zg_istore_n (ls' := [_, _, _, _, _]) dX9_endsAt_51 (Nat.le_of_ble_eq_true rfl) rfl rfl (zg_iinc (ls' := [_, _, _, _, _]) 1 dX9_endsAt_52 rfl (by decide) (Nat.le_of_ble_eq_true rfl) rfl rfl (zg_goto 5 dX9_endsAt_55 rfl k))))) ?_
        exact d_fg (z_le_s (z_le_s (z_le_s (z_le_s (z_le_s z_le_n))))) (ih _ _ _ _ _)
      · refine d_st (fun _ k => zg_aload_n dX9_endsAt_23 rfl (zg_bipush 22 dX9_endsAt_24 (by decide) (zg_iload dX9_endsAt_26 rfl (zg_iadd dX9_endsAt_28 k)))) ?_
        refine d_gd (fun g29 => ?_)
        refine d_st (fun _ k => zs_iald dX9_endsAt_29 h0.1 (h0.2 _) g29 rfl k) ?_
        refine d_st (fun _ k => zg_iload_n dX9_endsAt_30 rfl k) ?_
        refine d_br (fun _ => zg_icmp_eq 45 dX9_endsAt_31 rfl) (fun c31 => ?_) (fun c31 => ?_)
        · refine d_st (fun _ k => zg_iconst 1 dX9_endsAt_45 (by decide) (zg_goto 50 dX9_endsAt_46 rfl (zg_iadd dX9_endsAt_50 (zg_istore_n (ls' := [_, _, _, _, _]) dX9_endsAt_51 (Nat.le_of_ble_eq_true rfl) rfl rfl (zg_iinc (ls' := [_, _, _, _, _]) 1 dX9_endsAt_52 rfl (by decide) (Nat.le_of_ble_eq_true rfl) rfl rfl (zg_goto 5 dX9_endsAt_55 rfl k)))))) ?_
          exact d_fg (z_le_s (z_le_s (z_le_s (z_le_s (z_le_s z_le_n))))) (ih _ _ _ _ _)
        · refine d_st (fun _ k => zg_aload_n dX9_endsAt_34 rfl (zg_bipush 36 dX9_endsAt_35 (by decide) (zg_iload dX9_endsAt_37 rfl (zg_iadd dX9_endsAt_39 k)))) ?_
          refine d_gd (fun g40 => ?_)
          refine d_st (fun _ k => zs_iald dX9_endsAt_40 h0.1 (h0.2 _) g40 rfl k) ?_
          refine d_st (fun _ k => zg_iload_n dX9_endsAt_41 rfl k) ?_
          refine d_br (fun _ => zg_icmp_ne 49 dX9_endsAt_42 rfl) (fun c42 => ?_) (fun c42 => ?_)
          · refine d_st (fun _ k => zg_iconst 1 dX9_endsAt_45 (by decide) (zg_goto 50 dX9_endsAt_46 rfl (zg_iadd dX9_endsAt_50 (zg_istore_n (ls' := [_, _, _, _, _]) dX9_endsAt_51 (Nat.le_of_ble_eq_true rfl) rfl rfl (zg_iinc (ls' := [_, _, _, _, _]) 1 dX9_endsAt_52 rfl (by decide) (Nat.le_of_ble_eq_true rfl) rfl rfl (zg_goto 5 dX9_endsAt_55 rfl k)))))) ?_
            exact d_fg (z_le_s (z_le_s (z_le_s (z_le_s (z_le_s z_le_n))))) (ih _ _ _ _ _)
          · refine d_st (fun _ k => zg_iconst 0 dX9_endsAt_49 (by decide) (zg_iadd dX9_endsAt_50 (zg_istore_n (ls' := [_, _, _, _, _]) dX9_endsAt_51 (Nat.le_of_ble_eq_true rfl) rfl rfl (zg_iinc (ls' := [_, _, _, _, _]) 1 dX9_endsAt_52 rfl (by decide) (Nat.le_of_ble_eq_true rfl) rfl rfl (zg_goto 5 dX9_endsAt_55 rfl k))))) ?_
            exact d_fg (z_le_s (z_le_s (z_le_s (z_le_s (z_le_s z_le_n))))) (ih _ _ _ _ _)
def f_X9_endsAt (p0 : Nat) (a1 : Int32) (a2 : Int32) (S : zS) : Option (Int32 × zS) := f_X9_endsAt_5 p0 1000 a1 a2 0 0 S
set_option maxRecDepth 100000 in
set_option maxHeartbeats 4000000 in
theorem zd_X9_endsAt (V : zV) {p0 : Nat} (h0 : z_isA p0 74) (d : Nat) : ∀ (a1 : Int32) (a2 : Int32) (S : zS), z_J zeI V mX9_endsAt (d + 1) (f_X9_endsAt p0 a1 a2 S) 0 (z_ent mX9_endsAt [.ref p0, .int a1, .int a2]) [] S := by
  intro a1 a2 S
  show z_J zeI V mX9_endsAt (d + 1) (f_X9_endsAt p0 a1 a2 S) 0 [.ref p0, .int a1, .int a2, .null, .null] [] S
  unfold f_X9_endsAt
  refine d_st (fun _ k => zg_iconst 0 dX9_endsAt_0 (by decide) (zg_istore_n (ls' := [_, _, _, _, _]) dX9_endsAt_1 (Nat.le_of_ble_eq_true rfl) rfl rfl (zg_iconst 0 dX9_endsAt_2 (by decide) (zg_istore (ls' := [_, _, _, _, _]) dX9_endsAt_3 (Nat.le_of_ble_eq_true rfl) rfl rfl k)))) ?_
  exact d_fg (z_le_s (z_le_s (z_le_s (z_le_s (z_le_s z_le_n))))) (zd_X9_endsAt_5 V h0 d 1000 _ _ _ _ _)
def f_X9_corner (a1 : Int32) (a2 : Int32) (S : zS) : Option (Int32 × zS) := (f_X9_isCornerNow a1 (z_w S 87 0 0)).bind (fun r7 => if r7.1 = 0 then (some ((-1), r7.2)) else ((f_X9_in a2 0 3 r7.2).bind (fun r16 => if r16.1 = 0 then (some ((-1), r16.2)) else (if a2 = 0 then (if z_in (4 + a1) 74 then (some (r16.2.1 89 (4 + a1).toNatClampNeg, r16.2)) else none) else (if a2 = 1 then (if z_in (13 + a1) 74 then (some (r16.2.1 89 (13 + a1).toNatClampNeg, r16.2)) else none) else (if a2 = 2 then ((f_X9_endsAt 89 a1 (r16.2.1 91 0) r16.2).bind (fun r72 => some (r72.1, r72.2))) else (if z_in (4 + a1) 13 then (some (r16.2.1 91 (4 + a1).toNatClampNeg, r16.2)) else none)))))))
set_option maxRecDepth 100000 in
set_option maxHeartbeats 4000000 in
theorem zd_X9_corner (V : zV) (d : Nat) : ∀ (a1 : Int32) (a2 : Int32) (S : zS), z_J zeI V mX9_corner (d + 2) (f_X9_corner a1 a2 S) 0 (z_ent mX9_corner [.ref 87, .int a1, .int a2]) [] S := by
  intro a1 a2 S
  show z_J zeI V mX9_corner (d + 2) (f_X9_corner a1 a2 S) 0 [.ref 87, .int a1, .int a2] [] S
  unfold f_X9_corner
  refine d_st (fun _ k => zg_aload_n dX9_corner_0 rfl (zg_iconst 0 dX9_corner_1 (by decide) (zs_putI dX9_corner_2 zf_X9_80 rfl (zq_87 _) (by decide) (by decide) (zg_aload_n dX9_corner_5 rfl (zg_iload_n dX9_corner_6 rfl k))))) ?_
  refine d_cVi (As := [_]) dX9_corner_7 zk_X9_188 (zq_87 _) (by decide) ⟨_, _, rfl⟩ rfl rfl (Nat.le_of_ble_eq_true rfl) (Nat.le_of_ble_eq_true rfl) rfl (zd_X9_isCornerNow V d _ _) (fun r7 _ => ?_)
  refine d_br (fun _ => zg_if_eq 22 dX9_corner_10 rfl) (fun c10 => ?_) (fun c10 => ?_)
  · refine d_st (fun _ k => zg_iconst (-1) dX9_corner_22 (by decide) k) ?_
    exact d_retI dX9_corner_23 rfl
  · refine d_st (fun _ k => zg_iload_n dX9_corner_13 rfl (zg_iconst 0 dX9_corner_14 (by decide) (zg_iconst 3 dX9_corner_15 (by decide) k))) ?_
    refine d_cSi (As := [_, _, _]) dX9_corner_16 zk_X9_88 rfl rfl (Nat.le_of_ble_eq_true rfl) (Nat.le_of_ble_eq_true rfl) rfl (zd_X9_in V (d + 1) _ _ _ _) (fun r16 _ => ?_)
    refine d_br (fun _ => zg_if_ne 24 dX9_corner_19 rfl) (fun c19 => ?_) (fun c19 => ?_)
    · refine d_st (fun _ k => zg_iconst (-1) dX9_corner_22 (by decide) k) ?_
      exact d_retI dX9_corner_23 rfl
    · refine d_st (fun _ k => zg_iload_n dX9_corner_24 rfl k) ?_
      refine d_br (fun _ => zg_if_ne 39 dX9_corner_25 rfl) (fun c25 => ?_) (fun c25 => ?_)
      · refine d_st (fun _ k => zg_aload_n dX9_corner_28 rfl (zs_getR dX9_corner_29 zf_X9_13 rfl (zq_87 _) (by decide) (by decide) zr_87_9 (zg_iconst 4 dX9_corner_32 (by decide) (zg_iload_n dX9_corner_33 rfl (zg_iadd dX9_corner_34 k))))) ?_
        refine d_gd (fun g35 => ?_)
        refine d_st (fun _ k => zs_iald dX9_corner_35 (by decide) (zq_89 _) g35 rfl k) ?_
        refine d_st (fun _ k => zg_goto 86 dX9_corner_36 rfl k) ?_
        exact d_retI dX9_corner_86 rfl
      · refine d_st (fun _ k => zg_iload_n dX9_corner_39 rfl (zg_iconst 1 dX9_corner_40 (by decide) k)) ?_
        refine d_br (fun _ => zg_icmp_ne 56 dX9_corner_41 rfl) (fun c41 => ?_) (fun c41 => ?_)
        · refine d_st (fun _ k => zg_aload_n dX9_corner_44 rfl (zs_getR dX9_corner_45 zf_X9_13 rfl (zq_87 _) (by decide) (by decide) zr_87_9 (zg_bipush 13 dX9_corner_48 (by decide) (zg_iload_n dX9_corner_50 rfl (zg_iadd dX9_corner_51 k))))) ?_
          refine d_gd (fun g52 => ?_)
          refine d_st (fun _ k => zs_iald dX9_corner_52 (by decide) (zq_89 _) g52 rfl k) ?_
          refine d_st (fun _ k => zg_goto 86 dX9_corner_53 rfl k) ?_
          exact d_retI dX9_corner_86 rfl
        · refine d_st (fun _ k => zg_iload_n dX9_corner_56 rfl (zg_iconst 2 dX9_corner_57 (by decide) k)) ?_
          refine d_br (fun _ => zg_icmp_ne 78 dX9_corner_58 rfl) (fun c58 => ?_) (fun c58 => ?_)
          · refine d_st (fun _ k => zg_aload_n dX9_corner_61 rfl (zs_getR dX9_corner_62 zf_X9_13 rfl (zq_87 _) (by decide) (by decide) zr_87_9 (zg_iload_n dX9_corner_65 rfl (zg_aload_n dX9_corner_66 rfl (zs_getR dX9_corner_67 zf_X9_19 rfl (zq_87 _) (by decide) (by decide) zr_87_11 (zg_iconst 0 dX9_corner_70 (by decide) (zs_iald (j := 0) dX9_corner_71 (by decide) (zq_91 _) (by decide) (by decide) k))))))) ?_
            refine d_cSi (As := [_, _, _]) dX9_corner_72 zk_X9_192 rfl rfl (Nat.le_of_ble_eq_true rfl) (Nat.le_of_ble_eq_true rfl) rfl (zd_X9_endsAt V ⟨(by decide), fun _ => (zq_89 _)⟩ d _ _ _) (fun r72 _ => ?_)
            refine d_st (fun _ k => zg_goto 86 dX9_corner_75 rfl k) ?_
            exact d_retI dX9_corner_86 rfl
          · refine d_st (fun _ k => zg_aload_n dX9_corner_78 rfl (zs_getR dX9_corner_79 zf_X9_19 rfl (zq_87 _) (by decide) (by decide) zr_87_11 (zg_iconst 4 dX9_corner_82 (by decide) (zg_iload_n dX9_corner_83 rfl (zg_iadd dX9_corner_84 k))))) ?_
            refine d_gd (fun g85 => ?_)
            refine d_st (fun _ k => zs_iald dX9_corner_85 (by decide) (zq_91 _) g85 rfl k) ?_
            exact d_retI dX9_corner_86 rfl
def f_X6_turn (p0 : Nat) (a1 : Int32) (a2 : Int32) (S : zS) : Option (Unit × zS) := if a1 < 0 then (some ((), S)) else (if 9 ≤ a1 then (some ((), S)) else (if a2 < 0 then (some ((), S)) else (if 9 ≤ a2 then (some ((), S)) else (if z_in a1 9 then (if z_in a1 9 then (if z_in a2 9 then (if z_in a2 9 then (some ((), (z_w (z_w S p0 a1.toNatClampNeg ((S.1 p0 a1.toNatClampNeg) ^^^ ((1 : Int32) <<< (a2 &&& 31)))) p0 a2.toNatClampNeg (((z_w S p0 a1.toNatClampNeg ((S.1 p0 a1.toNatClampNeg) ^^^ ((1 : Int32) <<< (a2 &&& 31)))).1 p0 a2.toNatClampNeg) ^^^ ((1 : Int32) <<< (a1 &&& 31)))))) else none) else none) else none) else none))))
set_option maxRecDepth 100000 in
set_option maxHeartbeats 4000000 in
theorem zd_X6_turn (V : zV) {p0 : Nat} (h0 : z_isA p0 9) (d : Nat) : ∀ (a1 : Int32) (a2 : Int32) (S : zS), z_J zeV V mX6_turn (d) (f_X6_turn p0 a1 a2 S) 0 (z_ent mX6_turn [.ref p0, .int a1, .int a2]) [] S := by
  intro a1 a2 S
  show z_J zeV V mX6_turn (d) (f_X6_turn p0 a1 a2 S) 0 [.ref p0, .int a1, .int a2] [] S
  unfold f_X6_turn
  refine d_st (fun _ k => zg_iload_n dX6_turn_0 rfl k) ?_
  refine d_br (fun _ => zg_if_lt 38 dX6_turn_1 rfl) (fun c1 => ?_) (fun c1 => ?_)
  · exact d_retV dX6_turn_38 rfl
  · refine d_st (fun _ k => zg_iload_n dX6_turn_4 rfl (zg_aload_n dX6_turn_5 rfl (zs_alen 9 dX6_turn_6 h0.1 (h0.2 _) (by decide) k))) ?_
    refine d_br (fun _ => zg_icmp_ge 38 dX6_turn_7 rfl) (fun c7 => ?_) (fun c7 => ?_)
    · exact d_retV dX6_turn_38 rfl
    · refine d_st (fun _ k => zg_iload_n dX6_turn_10 rfl k) ?_
      refine d_br (fun _ => zg_if_lt 38 dX6_turn_11 rfl) (fun c11 => ?_) (fun c11 => ?_)
      · exact d_retV dX6_turn_38 rfl
      · refine d_st (fun _ k => zg_iload_n dX6_turn_14 rfl (zg_aload_n dX6_turn_15 rfl (zs_alen 9 dX6_turn_16 h0.1 (h0.2 _) (by decide) k))) ?_
        refine d_br (fun _ => zg_icmp_ge 38 dX6_turn_17 rfl) (fun c17 => ?_) (fun c17 => ?_)
        · exact d_retV dX6_turn_38 rfl
        · refine d_st (fun _ k => zg_aload_n dX6_turn_20 rfl (zg_iload_n dX6_turn_21 rfl (zg_dup2 dX6_turn_22 k))) ?_
          refine d_gd (fun g23 => ?_)
          refine d_st (fun _ k => zs_iald dX6_turn_23 h0.1 (h0.2 _) g23 rfl k) ?_
          refine d_st (fun _ k => zg_iconst 1 dX6_turn_24 (by decide) (zg_iload_n dX6_turn_25 rfl (zg_ishl dX6_turn_26 (zg_ixor dX6_turn_27 k)))) ?_
          refine d_gd (fun g28 => ?_)
          refine d_st (fun _ k => zs_iast dX6_turn_28 h0.1 (h0.2 _) g28 rfl k) ?_
          refine d_st (fun _ k => zg_aload_n dX6_turn_29 rfl (zg_iload_n dX6_turn_30 rfl (zg_dup2 dX6_turn_31 k))) ?_
          refine d_gd (fun g32 => ?_)
          refine d_st (fun _ k => zs_iald dX6_turn_32 h0.1 (h0.2 _) g32 rfl k) ?_
          refine d_st (fun _ k => zg_iconst 1 dX6_turn_33 (by decide) (zg_iload_n dX6_turn_34 rfl (zg_ishl dX6_turn_35 (zg_ixor dX6_turn_36 k)))) ?_
          refine d_gd (fun g37 => ?_)
          refine d_st (fun _ k => zs_iast dX6_turn_37 h0.1 (h0.2 _) g37 rfl k) ?_
          exact d_retV dX6_turn_38 rfl
def f_X6_lay_18 (p0 : Nat) (p1 : Nat) : Nat → Int32 → Int32 → zS → Option (Unit × zS)
  | 0, _, _, _ => none
  | n + 1, v2, v3, S => if (S.1 p1 4) ≤ v3 then (some ((), S)) else ((f_X8_has v2 v3 S).bind (fun r28 => if r28.1 = 0 then (f_X6_lay_18 p0 p1 n v2 (v3 + 1) r28.2) else (if z_in v3 14 then (if z_in v3 14 then ((f_X6_turn (p0 + 1) (r28.2.1 (p1 + 4) v3.toNatClampNeg) (r28.2.1 (p1 + 5) v3.toNatClampNeg) r28.2).bind (fun r50 => f_X6_lay_18 p0 p1 n v2 (v3 + 1) r50.2)) else none) else none)))
set_option maxRecDepth 100000 in
set_option maxHeartbeats 4000000 in
theorem zd_X6_lay_18 (V : zV) {p0 : Nat} {p1 : Nat} (h0 : z_isW p0) (h1 : z_isP p1) (d : Nat) : ∀ (n : Nat) (v2 : Int32) (v3 : Int32) (S : zS), z_J zeV V mX6_lay (d + 1) (f_X6_lay_18 p0 p1 n v2 v3 S) 18 [.ref p0, .ref p1, .int v2, .int v3] [] S := by
  intro n
  induction n with
  | zero =>
    intro v2 v3 S r hr
    cases (show (none : Option (Unit × zS)) = some r from hr)
  | succ n ih =>
    intro v2 v3 S
    rw [f_X6_lay_18]
    refine d_st (fun _ k => zg_iload_n dX6_lay_18 rfl (zg_aload_n dX6_lay_19 rfl (zs_getI dX6_lay_20 zf_X6_24 rfl (zp_o h1 _) (by decide) (by decide) k))) ?_
    refine d_br (fun _ => zg_icmp_ge 59 dX6_lay_23 rfl) (fun c23 => ?_) (fun c23 => ?_)
    · exact d_retV dX6_lay_59 rfl
    · refine d_st (fun _ k => zg_iload_n dX6_lay_26 rfl (zg_iload_n dX6_lay_27 rfl k)) ?_
      refine d_cTi (As := [_, _]) dX6_lay_28 zk_X6_29 rfl rfl (Nat.le_of_ble_eq_true rfl) (Nat.le_of_ble_eq_true rfl) rfl (zd_X8_has V d _ _ _) (fun r28 _ => ?_)
      refine d_br (fun _ => zg_if_eq 53 dX6_lay_31 rfl) (fun c31 => ?_) (fun c31 => ?_)
      · refine d_st (fun _ k => zg_iinc (ls' := [_, _, _, _]) 1 dX6_lay_53 rfl (by decide) (Nat.le_of_ble_eq_true rfl) rfl rfl (zg_goto 18 dX6_lay_56 rfl k)) ?_
        exact d_fg (z_le_s (z_le_s (z_le_s (z_le_s z_le_n)))) (ih _ _ _)
      · refine d_st (fun _ k => zg_aload_n dX6_lay_34 rfl (zs_getR dX6_lay_35 zf_X6_9 rfl (zw_o h0 _) (by decide) (by decide) (zw_r0 h0) (zg_aload_n dX6_lay_38 rfl (zs_getR dX6_lay_39 zf_X6_33 rfl (zp_o h1 _) (by decide) (by decide) (zp_r5 h1) (zg_iload_n dX6_lay_42 rfl k))))) ?_
        refine d_gd (fun g43 => ?_)
        refine d_st (fun _ k => zs_iald dX6_lay_43 (zp_p4 h1) (zp_4 h1 _) g43 rfl k) ?_
        refine d_st (fun _ k => zg_aload_n dX6_lay_44 rfl (zs_getR dX6_lay_45 zf_X6_36 rfl (zp_o h1 _) (by decide) (by decide) (zp_r6 h1) (zg_iload_n dX6_lay_48 rfl k))) ?_
        refine d_gd (fun g49 => ?_)
        refine d_st (fun _ k => zs_iald dX6_lay_49 (zp_p5 h1) (zp_5 h1 _) g49 rfl k) ?_
        refine d_cSv (As := [_, _, _]) dX6_lay_50 zk_X6_39 rfl rfl (Nat.le_of_ble_eq_true rfl) (Nat.le_of_ble_eq_true rfl) rfl (zd_X6_turn V ⟨(zw_p1 h0), fun _ => (zw_1 h0 _)⟩ d _ _ _) (fun r50 _ => ?_)
        refine d_st (fun _ k => zg_iinc (ls' := [_, _, _, _]) 1 dX6_lay_53 rfl (by decide) (Nat.le_of_ble_eq_true rfl) rfl rfl (zg_goto 18 dX6_lay_56 rfl k)) ?_
        exact d_fg (z_le_s (z_le_s (z_le_s (z_le_s z_le_n)))) (ih _ _ _)
def f_X6_lay (p0 : Nat) (p1 : Nat) (a2 : Int32) (S : zS) : Option (Unit × zS) := (f_J7_fill_53178 (p0 + 1) 9 0 S).bind (fun r5 => (f_J7_fill_53178 (p0 + 2) 9 0 r5.2).bind (fun r13 => f_X6_lay_18 p0 p1 1000 a2 0 r13.2))
set_option maxRecDepth 100000 in
set_option maxHeartbeats 4000000 in
theorem zd_X6_lay (V : zV) {p0 : Nat} {p1 : Nat} (h0 : z_isW p0) (h1 : z_isP p1) (d : Nat) : ∀ (a2 : Int32) (S : zS), z_J zeV V mX6_lay (d + 1) (f_X6_lay p0 p1 a2 S) 0 (z_ent mX6_lay [.ref p0, .ref p1, .int a2]) [] S := by
  intro a2 S
  show z_J zeV V mX6_lay (d + 1) (f_X6_lay p0 p1 a2 S) 0 [.ref p0, .ref p1, .int a2, .null] [] S
  unfold f_X6_lay
  refine d_st (fun _ k => zg_aload_n dX6_lay_0 rfl (zs_getR dX6_lay_1 zf_X6_9 rfl (zw_o h0 _) (by decide) (by decide) (zw_r0 h0) (zg_iconst 0 dX6_lay_4 (by decide) k))) ?_
  refine d_cSv (As := [_, _]) dX6_lay_5 zk_X6_18 rfl rfl (Nat.le_of_ble_eq_true rfl) (Nat.le_of_ble_eq_true rfl) rfl (zd_J7_fill_53178 V ⟨(zw_p1 h0), fun _ => (zw_1 h0 _)⟩ d _ _) (fun r5 _ => ?_)
  refine d_st (fun _ k => zg_aload_n dX6_lay_8 rfl (zs_getR dX6_lay_9 zf_X6_15 rfl (zw_o h0 _) (by decide) (by decide) (zw_r1 h0) (zg_iconst 0 dX6_lay_12 (by decide) k))) ?_
  refine d_cSv (As := [_, _]) dX6_lay_13 zk_X6_18 rfl rfl (Nat.le_of_ble_eq_true rfl) (Nat.le_of_ble_eq_true rfl) rfl (zd_J7_fill_53178 V ⟨(zw_p2 h0), fun _ => (zw_2 h0 _)⟩ d _ _) (fun r13 _ => ?_)
  refine d_st (fun _ k => zg_iconst 0 dX6_lay_16 (by decide) (zg_istore_n (ls' := [_, _, _, _]) dX6_lay_17 (Nat.le_of_ble_eq_true rfl) rfl rfl k)) ?_
  exact d_fg (z_le_s (z_le_s (z_le_s (z_le_s z_le_n)))) (zd_X6_lay_18 V h0 h1 d 1000 _ _ _)
def f_X6_reach_26 (p0 : Nat) (K9 : Int32 → Int32 → Int32 → zS → Option (Int32 × zS)) : Nat → Int32 → Int32 → Int32 → Int32 → Int32 → zS → Option (Int32 × zS)
  | 0, _, _, _, _, _, _ => none
  | n + 1, v2, v3, v4, v5, v6, S => if 9 ≤ v6 then (K9 (v2 ||| v5) (v5 &&& (v2 ^^^ (-1))) (v4 + 1) S) else ((f_X8_has v3 v6 S).bind (fun r36 => if r36.1 = 0 then (f_X6_reach_26 p0 K9 n v2 v3 v4 v5 (v6 + 1) r36.2) else (if z_in v6 9 then (if z_in v6 9 then (f_X6_reach_26 p0 K9 n v2 v3 v4 (v5 ||| ((r36.2.1 (p0 + 1) v6.toNatClampNeg) ||| (r36.2.1 (p0 + 2) v6.toNatClampNeg))) (v6 + 1) r36.2) else none) else none)))
set_option maxRecDepth 100000 in
set_option maxHeartbeats 4000000 in
theorem zd_X6_reach_26 (V : zV) {p0 : Nat} (h0 : z_isW p0) (d : Nat) {K9 : Int32 → Int32 → Int32 → zS → Option (Int32 × zS)} (hK9 : ∀ (v2 : Int32) (v3 : Int32) (v4 : Int32) (S : zS), z_J zeI V mX6_reach (d + 1) (K9 v2 v3 v4 S) 9 [.ref p0, .null, .int v2, .int v3, .int v4, .null, .null] [] S) : ∀ (n : Nat) (v2 : Int32) (v3 : Int32) (v4 : Int32) (v5 : Int32) (v6 : Int32) (S : zS), z_J zeI V mX6_reach (d + 1) (f_X6_reach_26 p0 K9 n v2 v3 v4 v5 v6 S) 26 [.ref p0, .null, .int v2, .int v3, .int v4, .int v5, .int v6] [] S := by
  intro n
  induction n with
  | zero =>
    intro v2 v3 v4 v5 v6 S r hr
    cases (show (none : Option (Int32 × zS)) = some r from hr)
  | succ n ih =>
    intro v2 v3 v4 v5 v6 S
    rw [f_X6_reach_26]
    refine d_st (fun _ k => zg_iload dX6_reach_26 rfl (zg_bipush 9 dX6_reach_28 (by decide) k)) ?_
    refine d_br (fun _ => zg_icmp_ge 68 dX6_reach_30 rfl) (fun c30 => ?_) (fun c30 => ?_)
    · refine d_st (fun _ k => zg_iload dX6_reach_68 rfl (zg_iload_n dX6_reach_70 rfl (zg_iconst (-1) dX6_reach_71 (by decide) (zg_ixor dX6_reach_72 (zg_iand dX6_reach_73 (zg_istore_n (ls' := [_, _, _, _, _, _, _]) dX6_reach_74 (Nat.le_of_ble_eq_true rfl) rfl rfl (zg_iload_n dX6_reach_75 rfl (zg_iload dX6_reach_76 rfl (zg_ior dX6_reach_78 (zg_istore_n (ls' := [_, _, _, _, _, _, _]) dX6_reach_79 (Nat.le_of_ble_eq_true rfl) rfl rfl (zg_iinc (ls' := [_, _, _, _, _, _, _]) 1 dX6_reach_80 rfl (by decide) (Nat.le_of_ble_eq_true rfl) rfl rfl (zg_goto 9 dX6_reach_83 rfl k)))))))))))) ?_
      exact d_fg (z_le_s (z_le_0 (z_le_s (z_le_s (z_le_s (z_le_0 (z_le_0 z_le_n))))))) (hK9 _ _ _ _)
    · refine d_st (fun _ k => zg_iload_n dX6_reach_33 rfl (zg_iload dX6_reach_34 rfl k)) ?_
      refine d_cTi (As := [_, _]) dX6_reach_36 zk_X6_29 rfl rfl (Nat.le_of_ble_eq_true rfl) (Nat.le_of_ble_eq_true rfl) rfl (zd_X8_has V d _ _ _) (fun r36 _ => ?_)
      refine d_br (fun _ => zg_if_eq 62 dX6_reach_39 rfl) (fun c39 => ?_) (fun c39 => ?_)
      · refine d_st (fun _ k => zg_iinc (ls' := [_, _, _, _, _, _, _]) 1 dX6_reach_62 rfl (by decide) (Nat.le_of_ble_eq_true rfl) rfl rfl (zg_goto 26 dX6_reach_65 rfl k)) ?_
        exact d_fg (z_le_s (z_le_0 (z_le_s (z_le_s (z_le_s (z_le_s (z_le_s z_le_n))))))) (ih _ _ _ _ _ _)
      · refine d_st (fun _ k => zg_iload dX6_reach_42 rfl (zg_aload_n dX6_reach_44 rfl (zs_getR dX6_reach_45 zf_X6_9 rfl (zw_o h0 _) (by decide) (by decide) (zw_r0 h0) (zg_iload dX6_reach_48 rfl k)))) ?_
        refine d_gd (fun g50 => ?_)
        refine d_st (fun _ k => zs_iald dX6_reach_50 (zw_p1 h0) (zw_1 h0 _) g50 rfl k) ?_
        refine d_st (fun _ k => zg_aload_n dX6_reach_51 rfl (zs_getR dX6_reach_52 zf_X6_15 rfl (zw_o h0 _) (by decide) (by decide) (zw_r1 h0) (zg_iload dX6_reach_55 rfl k))) ?_
        refine d_gd (fun g57 => ?_)
        refine d_st (fun _ k => zs_iald dX6_reach_57 (zw_p2 h0) (zw_2 h0 _) g57 rfl k) ?_
        refine d_st (fun _ k => zg_ior dX6_reach_58 (zg_ior dX6_reach_59 (zg_istore (ls' := [_, _, _, _, _, _, _]) dX6_reach_60 (Nat.le_of_ble_eq_true rfl) rfl rfl (zg_iinc (ls' := [_, _, _, _, _, _, _]) 1 dX6_reach_62 rfl (by decide) (Nat.le_of_ble_eq_true rfl) rfl rfl (zg_goto 26 dX6_reach_65 rfl k))))) ?_
        exact d_fg (z_le_s (z_le_0 (z_le_s (z_le_s (z_le_s (z_le_s (z_le_s z_le_n))))))) (ih _ _ _ _ _ _)
def f_X6_reach_9 (p0 : Nat) : Nat → Int32 → Int32 → Int32 → zS → Option (Int32 × zS)
  | 0, _, _, _, _ => none
  | n + 1, v2, v3, v4, S => if 9 ≤ v4 then (some (v2, S)) else (if v3 = 0 then (some (v2, S)) else (f_X6_reach_26 p0 (f_X6_reach_9 p0 n) 1000 v2 v3 v4 0 0 S))
set_option maxRecDepth 100000 in
set_option maxHeartbeats 4000000 in
theorem zd_X6_reach_9 (V : zV) {p0 : Nat} (h0 : z_isW p0) (d : Nat) : ∀ (n : Nat) (v2 : Int32) (v3 : Int32) (v4 : Int32) (S : zS), z_J zeI V mX6_reach (d + 1) (f_X6_reach_9 p0 n v2 v3 v4 S) 9 [.ref p0, .null, .int v2, .int v3, .int v4, .null, .null] [] S := by
  intro n
  induction n with
  | zero =>
    intro v2 v3 v4 S r hr
    cases (show (none : Option (Int32 × zS)) = some r from hr)
  | succ n ih =>
    intro v2 v3 v4 S
    rw [f_X6_reach_9]
    refine d_st (fun _ k => zg_iload dX6_reach_9 rfl (zg_bipush 9 dX6_reach_11 (by decide) k)) ?_
    refine d_br (fun _ => zg_icmp_ge 86 dX6_reach_13 rfl) (fun c13 => ?_) (fun c13 => ?_)
    · refine d_st (fun _ k => zg_iload_n dX6_reach_86 rfl k) ?_
      exact d_retI dX6_reach_87 rfl
    · refine d_st (fun _ k => zg_iload_n dX6_reach_16 rfl k) ?_
      refine d_br (fun _ => zg_if_eq 86 dX6_reach_17 rfl) (fun c17 => ?_) (fun c17 => ?_)
      · refine d_st (fun _ k => zg_iload_n dX6_reach_86 rfl k) ?_
        exact d_retI dX6_reach_87 rfl
      · refine d_st (fun _ k => zg_iconst 0 dX6_reach_20 (by decide) (zg_istore (ls' := [_, _, _, _, _, _, _]) dX6_reach_21 (Nat.le_of_ble_eq_true rfl) rfl rfl (zg_iconst 0 dX6_reach_23 (by decide) (zg_istore (ls' := [_, _, _, _, _, _, _]) dX6_reach_24 (Nat.le_of_ble_eq_true rfl) rfl rfl k)))) ?_
        exact d_fg (z_le_s (z_le_0 (z_le_s (z_le_s (z_le_s (z_le_s (z_le_s z_le_n))))))) (zd_X6_reach_26 V h0 d ih 1000 _ _ _ _ _ _)
def f_X6_reach (p0 : Nat) (a1 : Int32) (S : zS) : Option (Int32 × zS) := f_X6_reach_9 p0 1000 ((1 : Int32) <<< (a1 &&& 31)) ((1 : Int32) <<< (a1 &&& 31)) 0 S
set_option maxRecDepth 100000 in
set_option maxHeartbeats 4000000 in
theorem zd_X6_reach (V : zV) {p0 : Nat} (h0 : z_isW p0) (d : Nat) : ∀ (a1 : Int32) (S : zS), z_J zeI V mX6_reach (d + 1) (f_X6_reach p0 a1 S) 0 (z_ent mX6_reach [.ref p0, .int a1]) [] S := by
  intro a1 S
  show z_J zeI V mX6_reach (d + 1) (f_X6_reach p0 a1 S) 0 [.ref p0, .int a1, .null, .null, .null, .null, .null] [] S
  unfold f_X6_reach
  refine d_st (fun _ k => zg_iconst 1 dX6_reach_0 (by decide) (zg_iload_n dX6_reach_1 rfl (zg_ishl dX6_reach_2 (zg_istore_n (ls' := [_, _, _, _, _, _, _]) dX6_reach_3 (Nat.le_of_ble_eq_true rfl) rfl rfl (zg_iload_n dX6_reach_4 rfl (zg_istore_n (ls' := [_, _, _, _, _, _, _]) dX6_reach_5 (Nat.le_of_ble_eq_true rfl) rfl rfl (zg_iconst 0 dX6_reach_6 (by decide) (zg_istore (ls' := [_, _, _, _, _, _, _]) dX6_reach_7 (Nat.le_of_ble_eq_true rfl) rfl rfl k)))))))) ?_
  exact d_fg (z_le_s (z_le_0 (z_le_s (z_le_s (z_le_s (z_le_0 (z_le_0 z_le_n))))))) (zd_X6_reach_9 V h0 d 1000 _ _ _ _)
def f_X4_cutsAmong_5 (p0 : Nat) : Nat → Int32 → Int32 → Int32 → Int32 → zS → Option (Int32 × zS)
  | 0, _, _, _, _, _ => none
  | n + 1, v1, v2, v3, v4, S => if (S.1 p0 4) ≤ v4 then (some (v3, S)) else ((f_X8_has v1 v4 S).bind (fun r17 => if r17.1 = 0 then (f_X4_cutsAmong_5 p0 n v1 v2 v3 (v4 + 1) r17.2) else (if z_in v4 14 then ((f_X8_has v2 (r17.2.1 (p0 + 4) v4.toNatClampNeg) r17.2).bind (fun r31 => if r31.1 = 0 then (f_X4_cutsAmong_5 p0 n v1 v2 v3 (v4 + 1) r31.2) else (f_X4_cutsAmong_5 p0 n v1 v2 (v3 ||| ((1 : Int32) <<< (v4 &&& 31))) (v4 + 1) r31.2))) else none)))
set_option maxRecDepth 100000 in
set_option maxHeartbeats 4000000 in
theorem zd_X4_cutsAmong_5 (V : zV) {p0 : Nat} (h0 : z_isP p0) (d : Nat) : ∀ (n : Nat) (v1 : Int32) (v2 : Int32) (v3 : Int32) (v4 : Int32) (S : zS), z_J zeI V mX4_cutsAmong (d + 1) (f_X4_cutsAmong_5 p0 n v1 v2 v3 v4 S) 5 [.ref p0, .int v1, .int v2, .int v3, .int v4] [] S := by
  intro n
  induction n with
  | zero =>
    intro v1 v2 v3 v4 S r hr
    cases (show (none : Option (Int32 × zS)) = some r from hr)
  | succ n ih =>
    intro v1 v2 v3 v4 S
    rw [f_X4_cutsAmong_5]
    refine d_st (fun _ k => zg_iload dX4_cutsAmong_5 rfl (zg_aload_n dX4_cutsAmong_7 rfl (zs_getI dX4_cutsAmong_8 zf_X4_119 rfl (zp_o h0 _) (by decide) (by decide) k))) ?_
    refine d_br (fun _ => zg_icmp_ge 50 dX4_cutsAmong_11 rfl) (fun c11 => ?_) (fun c11 => ?_)
    · refine d_st (fun _ k => zg_iload_n dX4_cutsAmong_50 rfl k) ?_
      exact d_retI dX4_cutsAmong_51 rfl
    · refine d_st (fun _ k => zg_iload_n dX4_cutsAmong_14 rfl (zg_iload dX4_cutsAmong_15 rfl k)) ?_
      refine d_cTi (As := [_, _]) dX4_cutsAmong_17 zk_X4_95 rfl rfl (Nat.le_of_ble_eq_true rfl) (Nat.le_of_ble_eq_true rfl) rfl (zd_X8_has V d _ _ _) (fun r17 _ => ?_)
      refine d_br (fun _ => zg_if_eq 44 dX4_cutsAmong_20 rfl) (fun c20 => ?_) (fun c20 => ?_)
      · refine d_st (fun _ k => zg_iinc (ls' := [_, _, _, _, _]) 1 dX4_cutsAmong_44 rfl (by decide) (Nat.le_of_ble_eq_true rfl) rfl rfl (zg_goto 5 dX4_cutsAmong_47 rfl k)) ?_
        exact d_fg (z_le_s (z_le_s (z_le_s (z_le_s (z_le_s z_le_n))))) (ih _ _ _ _ _)
      · refine d_st (fun _ k => zg_iload_n dX4_cutsAmong_23 rfl (zg_aload_n dX4_cutsAmong_24 rfl (zs_getR dX4_cutsAmong_25 zf_X4_121 rfl (zp_o h0 _) (by decide) (by decide) (zp_r5 h0) (zg_iload dX4_cutsAmong_28 rfl k)))) ?_
        refine d_gd (fun g30 => ?_)
        refine d_st (fun _ k => zs_iald dX4_cutsAmong_30 (zp_p4 h0) (zp_4 h0 _) g30 rfl k) ?_
        refine d_cTi (As := [_, _]) dX4_cutsAmong_31 zk_X4_95 rfl rfl (Nat.le_of_ble_eq_true rfl) (Nat.le_of_ble_eq_true rfl) rfl (zd_X8_has V d _ _ _) (fun r31 _ => ?_)
        refine d_br (fun _ => zg_if_eq 44 dX4_cutsAmong_34 rfl) (fun c34 => ?_) (fun c34 => ?_)
        · refine d_st (fun _ k => zg_iinc (ls' := [_, _, _, _, _]) 1 dX4_cutsAmong_44 rfl (by decide) (Nat.le_of_ble_eq_true rfl) rfl rfl (zg_goto 5 dX4_cutsAmong_47 rfl k)) ?_
          exact d_fg (z_le_s (z_le_s (z_le_s (z_le_s (z_le_s z_le_n))))) (ih _ _ _ _ _)
        · refine d_st (fun _ k => zg_iload_n dX4_cutsAmong_37 rfl (zg_iconst 1 dX4_cutsAmong_38 (by decide) (zg_iload dX4_cutsAmong_39 rfl (zg_ishl dX4_cutsAmong_41 (zg_ior dX4_cutsAmong_42 (zg_istore_n (ls' := [_, _, _, _, _]) dX4_cutsAmong_43 (Nat.le_of_ble_eq_true rfl) rfl rfl (zg_iinc (ls' := [_, _, _, _, _]) 1 dX4_cutsAmong_44 rfl (by decide) (Nat.le_of_ble_eq_true rfl) rfl rfl (zg_goto 5 dX4_cutsAmong_47 rfl k)))))))) ?_
          exact d_fg (z_le_s (z_le_s (z_le_s (z_le_s (z_le_s z_le_n))))) (ih _ _ _ _ _)
def f_X4_cutsAmong (p0 : Nat) (a1 : Int32) (a2 : Int32) (S : zS) : Option (Int32 × zS) := f_X4_cutsAmong_5 p0 1000 a1 a2 0 0 S
set_option maxRecDepth 100000 in
set_option maxHeartbeats 4000000 in
theorem zd_X4_cutsAmong (V : zV) {p0 : Nat} (h0 : z_isP p0) (d : Nat) : ∀ (a1 : Int32) (a2 : Int32) (S : zS), z_J zeI V mX4_cutsAmong (d + 1) (f_X4_cutsAmong p0 a1 a2 S) 0 (z_ent mX4_cutsAmong [.ref p0, .int a1, .int a2]) [] S := by
  intro a1 a2 S
  show z_J zeI V mX4_cutsAmong (d + 1) (f_X4_cutsAmong p0 a1 a2 S) 0 [.ref p0, .int a1, .int a2, .null, .null] [] S
  unfold f_X4_cutsAmong
  refine d_st (fun _ k => zg_iconst 0 dX4_cutsAmong_0 (by decide) (zg_istore_n (ls' := [_, _, _, _, _]) dX4_cutsAmong_1 (Nat.le_of_ble_eq_true rfl) rfl rfl (zg_iconst 0 dX4_cutsAmong_2 (by decide) (zg_istore (ls' := [_, _, _, _, _]) dX4_cutsAmong_3 (Nat.le_of_ble_eq_true rfl) rfl rfl k)))) ?_
  exact d_fg (z_le_s (z_le_s (z_le_s (z_le_s (z_le_s z_le_n))))) (zd_X4_cutsAmong_5 V h0 d 1000 _ _ _ _ _)
def f_J6_bitCount_0f7a4 (a0 : Int32) (S : zS) : Option (Int32 × zS) := some ((((((((a0 - (((a0.toUInt32 >>> ((1 : Int32).toUInt32 &&& Int32.toUInt32 31)).toInt32) &&& 1431655765)) &&& 858993459) + ((((a0 - (((a0.toUInt32 >>> ((1 : Int32).toUInt32 &&& Int32.toUInt32 31)).toInt32) &&& 1431655765)).toUInt32 >>> ((2 : Int32).toUInt32 &&& Int32.toUInt32 31)).toInt32) &&& 858993459)) + (((((a0 - (((a0.toUInt32 >>> ((1 : Int32).toUInt32 &&& Int32.toUInt32 31)).toInt32) &&& 1431655765)) &&& 858993459) + ((((a0 - (((a0.toUInt32 >>> ((1 : Int32).toUInt32 &&& Int32.toUInt32 31)).toInt32) &&& 1431655765)).toUInt32 >>> ((2 : Int32).toUInt32 &&& Int32.toUInt32 31)).toInt32) &&& 858993459)).toUInt32 >>> ((4 : Int32).toUInt32 &&& Int32.toUInt32 31)).toInt32)) &&& 252645135) + (((((((a0 - (((a0.toUInt32 >>> ((1 : Int32).toUInt32 &&& Int32.toUInt32 31)).toInt32) &&& 1431655765)) &&& 858993459) + ((((a0 - (((a0.toUInt32 >>> ((1 : Int32).toUInt32 &&& Int32.toUInt32 31)).toInt32) &&& 1431655765)).toUInt32 >>> ((2 : Int32).toUInt32 &&& Int32.toUInt32 31)).toInt32) &&& 858993459)) + (((((a0 - (((a0.toUInt32 >>> ((1 : Int32).toUInt32 &&& Int32.toUInt32 31)).toInt32) &&& 1431655765)) &&& 858993459) + ((((a0 - (((a0.toUInt32 >>> ((1 : Int32).toUInt32 &&& Int32.toUInt32 31)).toInt32) &&& 1431655765)).toUInt32 >>> ((2 : Int32).toUInt32 &&& Int32.toUInt32 31)).toInt32) &&& 858993459)).toUInt32 >>> ((4 : Int32).toUInt32 &&& Int32.toUInt32 31)).toInt32)) &&& 252645135).toUInt32 >>> ((8 : Int32).toUInt32 &&& Int32.toUInt32 31)).toInt32)) + ((((((((a0 - (((a0.toUInt32 >>> ((1 : Int32).toUInt32 &&& Int32.toUInt32 31)).toInt32) &&& 1431655765)) &&& 858993459) + ((((a0 - (((a0.toUInt32 >>> ((1 : Int32).toUInt32 &&& Int32.toUInt32 31)).toInt32) &&& 1431655765)).toUInt32 >>> ((2 : Int32).toUInt32 &&& Int32.toUInt32 31)).toInt32) &&& 858993459)) + (((((a0 - (((a0.toUInt32 >>> ((1 : Int32).toUInt32 &&& Int32.toUInt32 31)).toInt32) &&& 1431655765)) &&& 858993459) + ((((a0 - (((a0.toUInt32 >>> ((1 : Int32).toUInt32 &&& Int32.toUInt32 31)).toInt32) &&& 1431655765)).toUInt32 >>> ((2 : Int32).toUInt32 &&& Int32.toUInt32 31)).toInt32) &&& 858993459)).toUInt32 >>> ((4 : Int32).toUInt32 &&& Int32.toUInt32 31)).toInt32)) &&& 252645135) + (((((((a0 - (((a0.toUInt32 >>> ((1 : Int32).toUInt32 &&& Int32.toUInt32 31)).toInt32) &&& 1431655765)) &&& 858993459) + ((((a0 - (((a0.toUInt32 >>> ((1 : Int32).toUInt32 &&& Int32.toUInt32 31)).toInt32) &&& 1431655765)).toUInt32 >>> ((2 : Int32).toUInt32 &&& Int32.toUInt32 31)).toInt32) &&& 858993459)) + (((((a0 - (((a0.toUInt32 >>> ((1 : Int32).toUInt32 &&& Int32.toUInt32 31)).toInt32) &&& 1431655765)) &&& 858993459) + ((((a0 - (((a0.toUInt32 >>> ((1 : Int32).toUInt32 &&& Int32.toUInt32 31)).toInt32) &&& 1431655765)).toUInt32 >>> ((2 : Int32).toUInt32 &&& Int32.toUInt32 31)).toInt32) &&& 858993459)).toUInt32 >>> ((4 : Int32).toUInt32 &&& Int32.toUInt32 31)).toInt32)) &&& 252645135).toUInt32 >>> ((8 : Int32).toUInt32 &&& Int32.toUInt32 31)).toInt32)).toUInt32 >>> ((16 : Int32).toUInt32 &&& Int32.toUInt32 31)).toInt32)) &&& 63, S)
set_option maxRecDepth 100000 in
set_option maxHeartbeats 4000000 in
theorem zd_J6_bitCount_0f7a4 (V : zV) (d : Nat) : ∀ (a0 : Int32) (S : zS), z_J zeI V mJ6_bitCount_0f7a4 (d) (f_J6_bitCount_0f7a4 a0 S) 0 (z_ent mJ6_bitCount_0f7a4 [.int a0]) [] S := by
  intro a0 S
  show z_J zeI V mJ6_bitCount_0f7a4 (d) (f_J6_bitCount_0f7a4 a0 S) 0 [.int a0] [] S
  unfold f_J6_bitCount_0f7a4
  refine d_st (fun _ k => zg_iload_n dJ6_bitCount_0f7a4_0 rfl (zg_iload_n dJ6_bitCount_0f7a4_1 rfl (zg_iconst 1 dJ6_bitCount_0f7a4_2 (by decide) (zg_iushr dJ6_bitCount_0f7a4_3 (zg_ldcw 1431655765 dJ6_bitCount_0f7a4_4 zt_3_76 (zg_iand dJ6_bitCount_0f7a4_7 (zg_isub dJ6_bitCount_0f7a4_8 (zg_istore_n (ls' := [_]) dJ6_bitCount_0f7a4_9 (Nat.le_of_ble_eq_true rfl) rfl rfl (zg_iload_n dJ6_bitCount_0f7a4_10 rfl (zg_ldcw 858993459 dJ6_bitCount_0f7a4_11 zt_3_77 (zg_iand dJ6_bitCount_0f7a4_14 (zg_iload_n dJ6_bitCount_0f7a4_15 rfl (zg_iconst 2 dJ6_bitCount_0f7a4_16 (by decide) (zg_iushr dJ6_bitCount_0f7a4_17 (zg_ldcw 858993459 dJ6_bitCount_0f7a4_18 zt_3_77 (zg_iand dJ6_bitCount_0f7a4_21 (zg_iadd dJ6_bitCount_0f7a4_22 (zg_istore_n (ls' := [_]) dJ6_bitCount_0f7a4_23 (Nat.le_of_ble_eq_true rfl) rfl rfl (zg_iload_n dJ6_bitCount_0f7a4_24 rfl (zg_iload_n dJ6_bitCount_0f7a4_25 rfl (zg_iconst 4 dJ6_bitCount_0f7a4_26 (by decide) (zg_iushr dJ6_bitCount_0f7a4_27 (zg_iadd dJ6_bitCount_0f7a4_28 (zg_ldcw 252645135 dJ6_bitCount_0f7a4_29 zt_3_78 (zg_iand dJ6_bitCount_0f7a4_32 (zg_istore_n (ls' := [_]) dJ6_bitCount_0f7a4_33 (Nat.le_of_ble_eq_true rfl) rfl rfl (zg_iload_n dJ6_bitCount_0f7a4_34 rfl (zg_iload_n dJ6_bitCount_0f7a4_35 rfl (zg_bipush 8 dJ6_bitCount_0f7a4_36 (by decide) (zg_iushr dJ6_bitCount_0f7a4_38 (zg_iadd dJ6_bitCount_0f7a4_39 (zg_istore_n (ls' := [_]) dJ6_bitCount_0f7a4_40 (Nat.le_of_ble_eq_true rfl) rfl rfl (zg_iload_n dJ6_bitCount_0f7a4_41 rfl (zg_iload_n dJ6_bitCount_0f7a4_42 rfl (zg_bipush 16 dJ6_bitCount_0f7a4_43 (by decide) (zg_iushr dJ6_bitCount_0f7a4_45 (zg_iadd dJ6_bitCount_0f7a4_46 (zg_istore_n (ls' := [_]) dJ6_bitCount_0f7a4_47 (Nat.le_of_ble_eq_true rfl) rfl rfl (zg_iload_n dJ6_bitCount_0f7a4_48 rfl (zg_bipush 63 dJ6_bitCount_0f7a4_49 (by decide) (zg_iand dJ6_bitCount_0f7a4_51 k))))))))))))))))))))))))))))))))))))))))) ?_
  exact d_retI dJ6_bitCount_0f7a4_52 rfl
def f_X4_oddAmong_4 : Nat → Int32 → Int32 → Int32 → zS → Option (Int32 × zS)
  | 0, _, _, _, _ => none
  | n + 1, v1, v2, v3, S => if 9 ≤ v3 then (some (v2, S)) else ((f_X8_has v1 v3 S).bind (fun r12 => if r12.1 = 0 then (f_X4_oddAmong_4 n v1 v2 (v3 + 1) r12.2) else (if z_in v3 9 then ((f_J6_bitCount_0f7a4 (r12.2.1 67 v3.toNatClampNeg) r12.2).bind (fun r27 => if (r27.1 &&& 1) = 1 then (f_X4_oddAmong_4 n v1 (v2 ||| ((1 : Int32) <<< (v3 &&& 31))) (v3 + 1) r27.2) else (f_X4_oddAmong_4 n v1 v2 (v3 + 1) r27.2))) else none)))
set_option maxRecDepth 100000 in
set_option maxHeartbeats 4000000 in
theorem zd_X4_oddAmong_4 (V : zV) (d : Nat) : ∀ (n : Nat) (v1 : Int32) (v2 : Int32) (v3 : Int32) (S : zS), z_J zeI V mX4_oddAmong (d + 1) (f_X4_oddAmong_4 n v1 v2 v3 S) 4 [.ref 57, .int v1, .int v2, .int v3] [] S := by
  intro n
  induction n with
  | zero =>
    intro v1 v2 v3 S r hr
    cases (show (none : Option (Int32 × zS)) = some r from hr)
  | succ n ih =>
    intro v1 v2 v3 S
    rw [f_X4_oddAmong_4]
    refine d_st (fun _ k => zg_iload_n dX4_oddAmong_4 rfl (zg_bipush 9 dX4_oddAmong_5 (by decide) k)) ?_
    refine d_br (fun _ => zg_icmp_ge 48 dX4_oddAmong_7 rfl) (fun c7 => ?_) (fun c7 => ?_)
    · refine d_st (fun _ k => zg_iload_n dX4_oddAmong_48 rfl k) ?_
      exact d_retI dX4_oddAmong_49 rfl
    · refine d_st (fun _ k => zg_iload_n dX4_oddAmong_10 rfl (zg_iload_n dX4_oddAmong_11 rfl k)) ?_
      refine d_cTi (As := [_, _]) dX4_oddAmong_12 zk_X4_95 rfl rfl (Nat.le_of_ble_eq_true rfl) (Nat.le_of_ble_eq_true rfl) rfl (zd_X8_has V d _ _ _) (fun r12 _ => ?_)
      refine d_br (fun _ => zg_if_eq 42 dX4_oddAmong_15 rfl) (fun c15 => ?_) (fun c15 => ?_)
      · refine d_st (fun _ k => zg_iinc (ls' := [_, _, _, _]) 1 dX4_oddAmong_42 rfl (by decide) (Nat.le_of_ble_eq_true rfl) rfl rfl (zg_goto 4 dX4_oddAmong_45 rfl k)) ?_
        exact d_fg (z_le_s (z_le_s (z_le_s (z_le_s z_le_n)))) (ih _ _ _ _)
      · refine d_st (fun _ k => zg_aload_n dX4_oddAmong_18 rfl (zs_getR dX4_oddAmong_19 zf_X4_50 rfl (zq_57 _) (by decide) (by decide) zr_57_11 (zs_getR dX4_oddAmong_22 zf_X4_109 rfl (zq_66 _) (by decide) (by decide) zr_66_0 (zg_iload_n dX4_oddAmong_25 rfl k)))) ?_
        refine d_gd (fun g26 => ?_)
        refine d_st (fun _ k => zs_iald dX4_oddAmong_26 (by decide) (zq_67 _) g26 rfl k) ?_
        refine d_cSi (As := [_]) dX4_oddAmong_27 zk_X4_89 rfl rfl (Nat.le_of_ble_eq_true rfl) (Nat.le_of_ble_eq_true rfl) rfl (zd_J6_bitCount_0f7a4 V d _ _) (fun r27 _ => ?_)
        refine d_st (fun _ k => zg_iconst 1 dX4_oddAmong_30 (by decide) (zg_iand dX4_oddAmong_31 (zg_iconst 1 dX4_oddAmong_32 (by decide) k))) ?_
        refine d_br (fun _ => zg_icmp_ne 42 dX4_oddAmong_33 rfl) (fun c33 => ?_) (fun c33 => ?_)
        · refine d_st (fun _ k => zg_iload_n dX4_oddAmong_36 rfl (zg_iconst 1 dX4_oddAmong_37 (by decide) (zg_iload_n dX4_oddAmong_38 rfl (zg_ishl dX4_oddAmong_39 (zg_ior dX4_oddAmong_40 (zg_istore_n (ls' := [_, _, _, _]) dX4_oddAmong_41 (Nat.le_of_ble_eq_true rfl) rfl rfl (zg_iinc (ls' := [_, _, _, _]) 1 dX4_oddAmong_42 rfl (by decide) (Nat.le_of_ble_eq_true rfl) rfl rfl (zg_goto 4 dX4_oddAmong_45 rfl k)))))))) ?_
          exact d_fg (z_le_s (z_le_s (z_le_s (z_le_s z_le_n)))) (ih _ _ _ _)
        · refine d_st (fun _ k => zg_iinc (ls' := [_, _, _, _]) 1 dX4_oddAmong_42 rfl (by decide) (Nat.le_of_ble_eq_true rfl) rfl rfl (zg_goto 4 dX4_oddAmong_45 rfl k)) ?_
          exact d_fg (z_le_s (z_le_s (z_le_s (z_le_s z_le_n)))) (ih _ _ _ _)
def f_X4_oddAmong (a1 : Int32) (S : zS) : Option (Int32 × zS) := f_X4_oddAmong_4 1000 a1 0 0 S
set_option maxRecDepth 100000 in
set_option maxHeartbeats 4000000 in
theorem zd_X4_oddAmong (V : zV) (d : Nat) : ∀ (a1 : Int32) (S : zS), z_J zeI V mX4_oddAmong (d + 1) (f_X4_oddAmong a1 S) 0 (z_ent mX4_oddAmong [.ref 57, .int a1]) [] S := by
  intro a1 S
  show z_J zeI V mX4_oddAmong (d + 1) (f_X4_oddAmong a1 S) 0 [.ref 57, .int a1, .null, .null] [] S
  unfold f_X4_oddAmong
  refine d_st (fun _ k => zg_iconst 0 dX4_oddAmong_0 (by decide) (zg_istore_n (ls' := [_, _, _, _]) dX4_oddAmong_1 (Nat.le_of_ble_eq_true rfl) rfl rfl (zg_iconst 0 dX4_oddAmong_2 (by decide) (zg_istore_n (ls' := [_, _, _, _]) dX4_oddAmong_3 (Nat.le_of_ble_eq_true rfl) rfl rfl k)))) ?_
  exact d_fg (z_le_s (z_le_s (z_le_s (z_le_s z_le_n)))) (zd_X4_oddAmong_4 V d 1000 _ _ _ _)
def f_X4_findPieces_194 (p1 : Nat) (p2 : Nat) (K22 : Int32 → Int32 → zS → Option (Unit × zS)) (v3 : Int32) (v4 : Int32) (t0 : Int32) (t1 : Int32) (S : zS) : Option (Unit × zS) := if z_in t1 4 then (K22 v3 (v4 + 1) (z_w (z_w S 61 t1.toNatClampNeg t0) 57 1 (((z_w S 61 t1.toNatClampNeg t0).1 57 1) + 1))) else none
set_option maxRecDepth 100000 in
set_option maxHeartbeats 4000000 in
theorem zd_X4_findPieces_194 (V : zV) {p1 : Nat} {p2 : Nat} (h1 : z_isP p1) (h2 : z_isQ p2) (d : Nat) {K22 : Int32 → Int32 → zS → Option (Unit × zS)} (hK22 : ∀ (v3 : Int32) (v4 : Int32) (S : zS), z_J zeV V mX4_findPieces (d + 2) (K22 v3 v4 S) 22 [.ref 57, .ref p1, .ref p2, .int v3, .int v4, .null] [] S) : ∀ (v3 : Int32) (v4 : Int32) (t0 : Int32) (t1 : Int32) (S : zS), z_J zeV V mX4_findPieces (d + 2) (f_X4_findPieces_194 p1 p2 K22 v3 v4 t0 t1 S) 194 [.ref 57, .ref p1, .ref p2, .int v3, .int v4, .null] [.int t0, .int t1, .ref 61] S := by
  intro v3 v4 t0 t1 S
  unfold f_X4_findPieces_194
  refine d_gd (fun g194 => ?_)
  refine d_st (fun _ k => zs_iast dX4_findPieces_194 (by decide) (zq_61 _) g194 rfl k) ?_
  refine d_st (fun _ k => zg_aload_n dX4_findPieces_195 rfl (zg_dupr dX4_findPieces_196 (zs_getI dX4_findPieces_197 zf_X4_15 rfl (zq_57 _) (by decide) (by decide) (zg_iconst 1 dX4_findPieces_200 (by decide) (zg_iadd dX4_findPieces_201 (zs_putI dX4_findPieces_202 zf_X4_15 rfl (zq_57 _) (by decide) (by decide) (zg_iinc (ls' := [_, _, _, _, _, _]) 1 dX4_findPieces_205 rfl (by decide) (Nat.le_of_ble_eq_true rfl) rfl rfl (zg_goto 22 dX4_findPieces_208 rfl k)))))))) ?_
  exact d_fg (z_le_s (z_le_s (z_le_s (z_le_s (z_le_s (z_le_0 z_le_n)))))) (hK22 _ _ _)
def f_X4_findPieces_170 (p1 : Nat) (p2 : Nat) (K22 : Int32 → Int32 → zS → Option (Unit × zS)) (v3 : Int32) (v4 : Int32) (t0 : Int32) (S : zS) : Option (Unit × zS) := if t0 = 0 then (f_X4_findPieces_194 p1 p2 K22 v3 v4 v4 (S.1 57 1) S) else (f_X4_findPieces_194 p1 p2 K22 v3 v4 (S.1 p2 1) (S.1 57 1) S)
set_option maxRecDepth 100000 in
set_option maxHeartbeats 4000000 in
theorem zd_X4_findPieces_170 (V : zV) {p1 : Nat} {p2 : Nat} (h1 : z_isP p1) (h2 : z_isQ p2) (d : Nat) {K22 : Int32 → Int32 → zS → Option (Unit × zS)} (hK22 : ∀ (v3 : Int32) (v4 : Int32) (S : zS), z_J zeV V mX4_findPieces (d + 2) (K22 v3 v4 S) 22 [.ref 57, .ref p1, .ref p2, .int v3, .int v4, .null] [] S) : ∀ (v3 : Int32) (v4 : Int32) (t0 : Int32) (S : zS), z_J zeV V mX4_findPieces (d + 2) (f_X4_findPieces_170 p1 p2 K22 v3 v4 t0 S) 170 [.ref 57, .ref p1, .ref p2, .int v3, .int v4, .null] [.int t0] S := by
  intro v3 v4 t0 S
  unfold f_X4_findPieces_170
  refine d_st (fun _ k => zg_istore (ls' := [_, _, _, _, _, _]) dX4_findPieces_170 (Nat.le_of_ble_eq_true rfl) rfl rfl (zg_aload_n dX4_findPieces_172 rfl (zs_getR dX4_findPieces_173 zf_X4_29 rfl (zq_57 _) (by decide) (by decide) zr_57_5 (zg_aload_n dX4_findPieces_176 rfl (zs_getI dX4_findPieces_177 zf_X4_15 rfl (zq_57 _) (by decide) (by decide) (zg_iload dX4_findPieces_180 rfl k)))))) ?_
  refine d_br (fun _ => zg_if_eq 192 dX4_findPieces_182 rfl) (fun c182 => ?_) (fun c182 => ?_)
  · refine d_st (fun _ k => zg_iload dX4_findPieces_192 rfl k) ?_
    exact d_fg (z_le_s (z_le_s (z_le_s (z_le_s (z_le_s (z_le_0 z_le_n)))))) (zd_X4_findPieces_194 V h1 h2 d hK22 _ _ _ _ _)
  · refine d_st (fun _ k => zg_aload_n dX4_findPieces_185 rfl (zs_getI dX4_findPieces_186 zf_X4_76 rfl (zl_o h2 _).1 (by decide) (by decide) (zg_goto 194 dX4_findPieces_189 rfl k))) ?_
    exact d_fg (z_le_s (z_le_s (z_le_s (z_le_s (z_le_s (z_le_0 z_le_n)))))) (zd_X4_findPieces_194 V h1 h2 d hK22 _ _ _ _ _)
def f_X4_findPieces_22 (p1 : Nat) (p2 : Nat) : Nat → Int32 → Int32 → zS → Option (Unit × zS)
  | 0, _, _, _ => none
  | n + 1, v3, v4, S => if (S.1 p1 0) ≤ v4 then (some ((), S)) else (if z_in v4 9 then (if (S.1 67 v4.toNatClampNeg) = 0 then (f_X4_findPieces_22 p1 p2 n v3 (v4 + 1) S) else ((f_X8_has v3 v4 S).bind (fun r47 => if r47.1 = 0 then (if 4 ≤ (r47.2.1 57 1) then (f_X4_findPieces_22 p1 p2 n v3 (v4 + 1) r47.2) else ((f_X6_reach 66 v4 r47.2).bind (fun r75 => if z_in (r47.2.1 57 1) 4 then (if z_in ((z_w r75.2 59 ((r47.2.1 57 1).toNatClampNeg) r75.1).1 57 1) 4 then (if z_in ((z_w r75.2 59 ((r47.2.1 57 1).toNatClampNeg) r75.1).1 57 1) 4 then ((f_X4_cutsAmong p1 ((z_w r75.2 59 ((r47.2.1 57 1).toNatClampNeg) r75.1).1 p2 0) ((z_w r75.2 59 ((r47.2.1 57 1).toNatClampNeg) r75.1).1 59 ((z_w r75.2 59 ((r47.2.1 57 1).toNatClampNeg) r75.1).1 57 1).toNatClampNeg) (z_w r75.2 59 ((r47.2.1 57 1).toNatClampNeg) r75.1)).bind (fun r113 => if z_in ((z_w r75.2 59 ((r47.2.1 57 1).toNatClampNeg) r75.1).1 57 1) 4 then (if z_in ((z_w r113.2 58 (((z_w r75.2 59 ((r47.2.1 57 1).toNatClampNeg) r75.1).1 57 1).toNatClampNeg) r113.1).1 57 1) 4 then ((f_X4_oddAmong ((z_w r113.2 58 (((z_w r75.2 59 ((r47.2.1 57 1).toNatClampNeg) r75.1).1 57 1).toNatClampNeg) r113.1).1 59 ((z_w r113.2 58 (((z_w r75.2 59 ((r47.2.1 57 1).toNatClampNeg) r75.1).1 57 1).toNatClampNeg) r113.1).1 57 1).toNatClampNeg) (z_w r113.2 58 (((z_w r75.2 59 ((r47.2.1 57 1).toNatClampNeg) r75.1).1 57 1).toNatClampNeg) r113.1)).bind (fun r135 => if z_in ((z_w r113.2 58 (((z_w r75.2 59 ((r47.2.1 57 1).toNatClampNeg) r75.1).1 57 1).toNatClampNeg) r113.1).1 57 1) 4 then (if ((z_w r135.2 60 (((z_w r113.2 58 (((z_w r75.2 59 ((r47.2.1 57 1).toNatClampNeg) r75.1).1 57 1).toNatClampNeg) r113.1).1 57 1).toNatClampNeg) r135.1).1 p2 1) < 0 then (f_X4_findPieces_170 p1 p2 (f_X4_findPieces_22 p1 p2 n) (v3 ||| ((z_w r75.2 59 ((r47.2.1 57 1).toNatClampNeg) r75.1).1 59 ((z_w r75.2 59 ((r47.2.1 57 1).toNatClampNeg) r75.1).1 57 1).toNatClampNeg)) v4 0 (z_w r135.2 60 (((z_w r113.2 58 (((z_w r75.2 59 ((r47.2.1 57 1).toNatClampNeg) r75.1).1 57 1).toNatClampNeg) r113.1).1 57 1).toNatClampNeg) r135.1)) else (if z_in ((z_w r135.2 60 (((z_w r113.2 58 (((z_w r75.2 59 ((r47.2.1 57 1).toNatClampNeg) r75.1).1 57 1).toNatClampNeg) r113.1).1 57 1).toNatClampNeg) r135.1).1 57 1) 4 then ((f_X8_has ((z_w r135.2 60 (((z_w r113.2 58 (((z_w r75.2 59 ((r47.2.1 57 1).toNatClampNeg) r75.1).1 57 1).toNatClampNeg) r113.1).1 57 1).toNatClampNeg) r135.1).1 59 ((z_w r135.2 60 (((z_w r113.2 58 (((z_w r75.2 59 ((r47.2.1 57 1).toNatClampNeg) r75.1).1 57 1).toNatClampNeg) r113.1).1 57 1).toNatClampNeg) r135.1).1 57 1).toNatClampNeg) ((z_w r135.2 60 (((z_w r113.2 58 (((z_w r75.2 59 ((r47.2.1 57 1).toNatClampNeg) r75.1).1 57 1).toNatClampNeg) r113.1).1 57 1).toNatClampNeg) r135.1).1 p2 1) (z_w r135.2 60 (((z_w r113.2 58 (((z_w r75.2 59 ((r47.2.1 57 1).toNatClampNeg) r75.1).1 57 1).toNatClampNeg) r113.1).1 57 1).toNatClampNeg) r135.1)).bind (fun r159 => if r159.1 = 0 then (f_X4_findPieces_170 p1 p2 (f_X4_findPieces_22 p1 p2 n) (v3 ||| ((z_w r75.2 59 ((r47.2.1 57 1).toNatClampNeg) r75.1).1 59 ((z_w r75.2 59 ((r47.2.1 57 1).toNatClampNeg) r75.1).1 57 1).toNatClampNeg)) v4 0 r159.2) else (f_X4_findPieces_170 p1 p2 (f_X4_findPieces_22 p1 p2 n) (v3 ||| ((z_w r75.2 59 ((r47.2.1 57 1).toNatClampNeg) r75.1).1 59 ((z_w r75.2 59 ((r47.2.1 57 1).toNatClampNeg) r75.1).1 57 1).toNatClampNeg)) v4 1 r159.2))) else none)) else none)) else none) else none)) else none) else none) else none))) else (f_X4_findPieces_22 p1 p2 n v3 (v4 + 1) r47.2)))) else none)
set_option maxRecDepth 100000 in
set_option maxHeartbeats 4000000 in
theorem zd_X4_findPieces_22 (V : zV) {p1 : Nat} {p2 : Nat} (h1 : z_isP p1) (h2 : z_isQ p2) (d : Nat) : ∀ (n : Nat) (v3 : Int32) (v4 : Int32) (S : zS), z_J zeV V mX4_findPieces (d + 2) (f_X4_findPieces_22 p1 p2 n v3 v4 S) 22 [.ref 57, .ref p1, .ref p2, .int v3, .int v4, .null] [] S := by
  intro n
  induction n with
  | zero =>
    intro v3 v4 S r hr
    cases (show (none : Option (Unit × zS)) = some r from hr)
  | succ n ih =>
    intro v3 v4 S
    rw [f_X4_findPieces_22]
    refine d_st (fun _ k => zg_iload dX4_findPieces_22 rfl (zg_aload_n dX4_findPieces_24 rfl (zs_getI dX4_findPieces_25 zf_X4_105 rfl (zp_o h1 _) (by decide) (by decide) k))) ?_
    refine d_br (fun _ => zg_icmp_ge 211 dX4_findPieces_28 rfl) (fun c28 => ?_) (fun c28 => ?_)
    · exact d_retV dX4_findPieces_211 rfl
    · refine d_st (fun _ k => zg_aload_n dX4_findPieces_31 rfl (zs_getR dX4_findPieces_32 zf_X4_50 rfl (zq_57 _) (by decide) (by decide) zr_57_11 (zs_getR dX4_findPieces_35 zf_X4_109 rfl (zq_66 _) (by decide) (by decide) zr_66_0 (zg_iload dX4_findPieces_38 rfl k)))) ?_
      refine d_gd (fun g40 => ?_)
      refine d_st (fun _ k => zs_iald dX4_findPieces_40 (by decide) (zq_67 _) g40 rfl k) ?_
      refine d_br (fun _ => zg_if_eq 205 dX4_findPieces_41 rfl) (fun c41 => ?_) (fun c41 => ?_)
      · refine d_st (fun _ k => zg_iinc (ls' := [_, _, _, _, _, _]) 1 dX4_findPieces_205 rfl (by decide) (Nat.le_of_ble_eq_true rfl) rfl rfl (zg_goto 22 dX4_findPieces_208 rfl k)) ?_
        exact d_fg (z_le_s (z_le_s (z_le_s (z_le_s (z_le_s (z_le_0 z_le_n)))))) (ih _ _ _)
      · refine d_st (fun _ k => zg_iload_n dX4_findPieces_44 rfl (zg_iload dX4_findPieces_45 rfl k)) ?_
        refine d_cTi (As := [_, _]) dX4_findPieces_47 zk_X4_95 rfl rfl (Nat.le_of_ble_eq_true rfl) (Nat.le_of_ble_eq_true rfl) rfl (zd_X8_has V (d + 1) _ _ _) (fun r47 _ => ?_)
        refine d_br (fun _ => zg_if_ne 205 dX4_findPieces_50 rfl) (fun c50 => ?_) (fun c50 => ?_)
        · refine d_st (fun _ k => zg_aload_n dX4_findPieces_53 rfl (zs_getI dX4_findPieces_54 zf_X4_15 rfl (zq_57 _) (by decide) (by decide) (zg_iconst 4 dX4_findPieces_57 (by decide) k))) ?_
          refine d_br (fun _ => zg_icmp_ge 205 dX4_findPieces_58 rfl) (fun c58 => ?_) (fun c58 => ?_)
          · refine d_st (fun _ k => zg_iinc (ls' := [_, _, _, _, _, _]) 1 dX4_findPieces_205 rfl (by decide) (Nat.le_of_ble_eq_true rfl) rfl rfl (zg_goto 22 dX4_findPieces_208 rfl k)) ?_
            exact d_fg (z_le_s (z_le_s (z_le_s (z_le_s (z_le_s (z_le_0 z_le_n)))))) (ih _ _ _)
          · refine d_st (fun _ k => zg_aload_n dX4_findPieces_61 rfl (zs_getR dX4_findPieces_62 zf_X4_23 rfl (zq_57 _) (by decide) (by decide) zr_57_3 (zg_aload_n dX4_findPieces_65 rfl (zs_getI dX4_findPieces_66 zf_X4_15 rfl (zq_57 _) (by decide) (by decide) (zg_aload_n dX4_findPieces_69 rfl (zs_getR dX4_findPieces_70 zf_X4_50 rfl (zq_57 _) (by decide) (by decide) zr_57_11 (zg_iload dX4_findPieces_73 rfl k))))))) ?_
            refine d_cVi (As := [_]) dX4_findPieces_75 zk_X4_110 (zq_66 _) (by decide) ⟨_, _, rfl⟩ rfl rfl (Nat.le_of_ble_eq_true rfl) (Nat.le_of_ble_eq_true rfl) rfl (zd_X6_reach V (by decide) d _ _) (fun r75 _ => ?_)
            refine d_gd (fun g78 => ?_)
            refine d_st (fun _ k => zs_iast dX4_findPieces_78 (by decide) (zq_59 _) g78 rfl k) ?_
            refine d_st (fun _ k => zg_iload_n dX4_findPieces_79 rfl (zg_aload_n dX4_findPieces_80 rfl (zs_getR dX4_findPieces_81 zf_X4_23 rfl (zq_57 _) (by decide) (by decide) zr_57_3 (zg_aload_n dX4_findPieces_84 rfl (zs_getI dX4_findPieces_85 zf_X4_15 rfl (zq_57 _) (by decide) (by decide) k))))) ?_
            refine d_gd (fun g88 => ?_)
            refine d_st (fun _ k => zs_iald dX4_findPieces_88 (by decide) (zq_59 _) g88 rfl k) ?_
            refine d_st (fun _ k => zg_ior dX4_findPieces_89 (zg_istore_n (ls' := [_, _, _, _, _, _]) dX4_findPieces_90 (Nat.le_of_ble_eq_true rfl) rfl rfl (zg_aload_n dX4_findPieces_91 rfl (zs_getR dX4_findPieces_92 zf_X4_19 rfl (zq_57 _) (by decide) (by decide) zr_57_2 (zg_aload_n dX4_findPieces_95 rfl (zs_getI dX4_findPieces_96 zf_X4_15 rfl (zq_57 _) (by decide) (by decide) (zg_aload_n dX4_findPieces_99 rfl (zg_aload_n dX4_findPieces_100 rfl (zs_getI dX4_findPieces_101 zf_X4_99 rfl (zl_o h2 _).1 (by decide) (by decide) (zg_aload_n dX4_findPieces_104 rfl (zs_getR dX4_findPieces_105 zf_X4_23 rfl (zq_57 _) (by decide) (by decide) zr_57_3 (zg_aload_n dX4_findPieces_108 rfl (zs_getI dX4_findPieces_109 zf_X4_15 rfl (zq_57 _) (by decide) (by decide) k))))))))))))) ?_
            refine d_gd (fun g112 => ?_)
            refine d_st (fun _ k => zs_iald dX4_findPieces_112 (by decide) (zq_59 _) g112 rfl k) ?_
            refine d_cSi (As := [_, _, _]) dX4_findPieces_113 zk_X4_113 rfl rfl (Nat.le_of_ble_eq_true rfl) (Nat.le_of_ble_eq_true rfl) rfl (zd_X4_cutsAmong V h1 d _ _ _) (fun r113 _ => ?_)
            refine d_gd (fun g116 => ?_)
            refine d_st (fun _ k => zs_iast dX4_findPieces_116 (by decide) (zq_58 _) g116 rfl k) ?_
            refine d_st (fun _ k => zg_aload_n dX4_findPieces_117 rfl (zs_getR dX4_findPieces_118 zf_X4_26 rfl (zq_57 _) (by decide) (by decide) zr_57_4 (zg_aload_n dX4_findPieces_121 rfl (zs_getI dX4_findPieces_122 zf_X4_15 rfl (zq_57 _) (by decide) (by decide) (zg_aload_n dX4_findPieces_125 rfl (zg_aload_n dX4_findPieces_126 rfl (zs_getR dX4_findPieces_127 zf_X4_23 rfl (zq_57 _) (by decide) (by decide) zr_57_3 (zg_aload_n dX4_findPieces_130 rfl (zs_getI dX4_findPieces_131 zf_X4_15 rfl (zq_57 _) (by decide) (by decide) k))))))))) ?_
            refine d_gd (fun g134 => ?_)
            refine d_st (fun _ k => zs_iald dX4_findPieces_134 (by decide) (zq_59 _) g134 rfl k) ?_
            refine d_cVi (As := [_]) dX4_findPieces_135 zk_X4_116 (zq_57 _) (by decide) ⟨_, _, rfl⟩ rfl rfl (Nat.le_of_ble_eq_true rfl) (Nat.le_of_ble_eq_true rfl) rfl (zd_X4_oddAmong V d _ _) (fun r135 _ => ?_)
            refine d_gd (fun g138 => ?_)
            refine d_st (fun _ k => zs_iast dX4_findPieces_138 (by decide) (zq_60 _) g138 rfl k) ?_
            refine d_st (fun _ k => zg_aload_n dX4_findPieces_139 rfl (zs_getI dX4_findPieces_140 zf_X4_76 rfl (zl_o h2 _).1 (by decide) (by decide) k)) ?_
            refine d_br (fun _ => zg_if_lt 169 dX4_findPieces_143 rfl) (fun c143 => ?_) (fun c143 => ?_)
            · refine d_st (fun _ k => zg_iconst 0 dX4_findPieces_169 (by decide) k) ?_
              exact d_fg (z_le_s (z_le_s (z_le_s (z_le_s (z_le_s (z_le_0 z_le_n)))))) (zd_X4_findPieces_170 V h1 h2 d ih _ _ _ _)
            · refine d_st (fun _ k => zg_aload_n dX4_findPieces_146 rfl (zs_getR dX4_findPieces_147 zf_X4_23 rfl (zq_57 _) (by decide) (by decide) zr_57_3 (zg_aload_n dX4_findPieces_150 rfl (zs_getI dX4_findPieces_151 zf_X4_15 rfl (zq_57 _) (by decide) (by decide) k)))) ?_
              refine d_gd (fun g154 => ?_)
              refine d_st (fun _ k => zs_iald dX4_findPieces_154 (by decide) (zq_59 _) g154 rfl k) ?_
              refine d_st (fun _ k => zg_aload_n dX4_findPieces_155 rfl (zs_getI dX4_findPieces_156 zf_X4_76 rfl (zl_o h2 _).1 (by decide) (by decide) k)) ?_
              refine d_cTi (As := [_, _]) dX4_findPieces_159 zk_X4_95 rfl rfl (Nat.le_of_ble_eq_true rfl) (Nat.le_of_ble_eq_true rfl) rfl (zd_X8_has V (d + 1) _ _ _) (fun r159 _ => ?_)
              refine d_br (fun _ => zg_if_eq 169 dX4_findPieces_162 rfl) (fun c162 => ?_) (fun c162 => ?_)
              · refine d_st (fun _ k => zg_iconst 0 dX4_findPieces_169 (by decide) k) ?_
                exact d_fg (z_le_s (z_le_s (z_le_s (z_le_s (z_le_s (z_le_0 z_le_n)))))) (zd_X4_findPieces_170 V h1 h2 d ih _ _ _ _)
              · refine d_st (fun _ k => zg_iconst 1 dX4_findPieces_165 (by decide) (zg_goto 170 dX4_findPieces_166 rfl k)) ?_
                exact d_fg (z_le_s (z_le_s (z_le_s (z_le_s (z_le_s (z_le_0 z_le_n)))))) (zd_X4_findPieces_170 V h1 h2 d ih _ _ _ _)
        · refine d_st (fun _ k => zg_iinc (ls' := [_, _, _, _, _, _]) 1 dX4_findPieces_205 rfl (by decide) (Nat.le_of_ble_eq_true rfl) rfl rfl (zg_goto 22 dX4_findPieces_208 rfl k)) ?_
          exact d_fg (z_le_s (z_le_s (z_le_s (z_le_s (z_le_s (z_le_0 z_le_n)))))) (ih _ _ _)
def f_X4_findPieces (p1 : Nat) (p2 : Nat) (S : zS) : Option (Unit × zS) := (f_X6_lay 66 p1 ((z_w S 57 1 0).1 p2 0) (z_w S 57 1 0)).bind (fun r14 => f_X4_findPieces_22 p1 p2 1000 0 0 r14.2)
set_option maxRecDepth 100000 in
set_option maxHeartbeats 4000000 in
theorem zd_X4_findPieces (V : zV) {p1 : Nat} {p2 : Nat} (h1 : z_isP p1) (h2 : z_isQ p2) (d : Nat) : ∀ (S : zS), z_J zeV V mX4_findPieces (d + 2) (f_X4_findPieces p1 p2 S) 0 (z_ent mX4_findPieces [.ref 57, .ref p1, .ref p2]) [] S := by
  intro S
  show z_J zeV V mX4_findPieces (d + 2) (f_X4_findPieces p1 p2 S) 0 [.ref 57, .ref p1, .ref p2, .null, .null, .null] [] S
  unfold f_X4_findPieces
  refine d_st (fun _ k => zg_aload_n dX4_findPieces_0 rfl (zg_iconst 0 dX4_findPieces_1 (by decide) (zs_putI dX4_findPieces_2 zf_X4_15 rfl (zq_57 _) (by decide) (by decide) (zg_aload_n dX4_findPieces_5 rfl (zs_getR dX4_findPieces_6 zf_X4_50 rfl (zq_57 _) (by decide) (by decide) zr_57_11 (zg_aload_n dX4_findPieces_9 rfl (zg_aload_n dX4_findPieces_10 rfl (zs_getI dX4_findPieces_11 zf_X4_99 rfl (zl_o h2 _).1 (by decide) (by decide) k)))))))) ?_
  refine d_cVv (As := [_, _]) dX4_findPieces_14 zk_X4_102 (zq_66 _) (by decide) ⟨_, _, rfl⟩ rfl rfl (Nat.le_of_ble_eq_true rfl) (Nat.le_of_ble_eq_true rfl) rfl (zd_X6_lay V (by decide) h1 d _ _) (fun r14 _ => ?_)
  refine d_st (fun _ k => zg_iconst 0 dX4_findPieces_17 (by decide) (zg_istore_n (ls' := [_, _, _, _, _, _]) dX4_findPieces_18 (Nat.le_of_ble_eq_true rfl) rfl rfl (zg_iconst 0 dX4_findPieces_19 (by decide) (zg_istore (ls' := [_, _, _, _, _, _]) dX4_findPieces_20 (Nat.le_of_ble_eq_true rfl) rfl rfl k)))) ?_
  exact d_fg (z_le_s (z_le_s (z_le_s (z_le_s (z_le_s (z_le_0 z_le_n)))))) (zd_X4_findPieces_22 V h1 h2 d 1000 _ _ _)
