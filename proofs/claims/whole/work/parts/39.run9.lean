def f_X8_ask (S : zS) : Option (Int32 × zS) := if z_isP S.2.1 then ((f_X7_bestQuestion S.2.1 (S.1 32 0) S).bind (fun r15 => some (r15.1, r15.2))) else none
set_option maxRecDepth 100000 in
set_option maxHeartbeats 4000000 in
theorem zd_X8_ask (V : zV) (d : Nat) : ∀ (S : zS), z_J zeI V mX8_ask (d + 5) (f_X8_ask  S) 0 (z_ent mX8_ask [.ref 1]) [] S := by
  intro S
  show z_J zeI V mX8_ask (d + 5) (f_X8_ask  S) 0 [.ref 1] [] S
  unfold f_X8_ask
  refine d_st (fun _ k => zg_aload_n dX8_ask_0 rfl (zs_getR dX8_ask_1 zf_X8_72 rfl (zq_1 _) (by decide) (by decide) zr_1_11 (zg_aload_n dX8_ask_4 rfl k))) ?_
  refine d_gd (fun g5 => ?_)
  refine d_st (fun _ k => zs_getR dX8_ask_5 zf_X8_20 rfl (zq_1 _) (by decide) (by decide) zr_pl k) ?_
  refine d_st (fun _ k => zg_aload_n dX8_ask_8 rfl (zs_getR dX8_ask_9 zf_X8_37 rfl (zq_1 _) (by decide) (by decide) zr_1_5 (zs_getI dX8_ask_12 zf_X8_104 rfl (zq_32 _) (by decide) (by decide) k))) ?_
  refine d_cVi (As := [_, _]) dX8_ask_15 zk_X8_231 (zq_75 _) (by decide) ⟨_, _, rfl⟩ rfl rfl (Nat.le_of_ble_eq_true rfl) (Nat.le_of_ble_eq_true rfl) rfl (zd_X7_bestQuestion V g5 d _ _) (fun r15 _ => ?_)
  exact d_retI dX8_ask_18 rfl
def f_X9_ask_229 (K142 : Int32 → Int32 → Int32 → Int32 → zS → Option (Int32 × zS)) (K164 : Int32 → Int32 → Int32 → Int32 → Int32 → zS → Option (Int32 × zS)) (v2 : Int32) (v4 : Int32) (v5 : Int32) (v6 : Int32) (v8 : Int32) (t0 : Int32) (S : zS) : Option (Int32 × zS) := if v4 ≤ v8 then (K164 v2 t0 v4 v5 (v6 + 1) S) else (K164 v2 t0 v8 v5 (v6 + 1) S)
set_option maxRecDepth 100000 in
set_option maxHeartbeats 4000000 in
theorem zd_X9_ask_229 (V : zV) (d : Nat) {K142 : Int32 → Int32 → Int32 → Int32 → zS → Option (Int32 × zS)} (hK142 : ∀ (v2 : Int32) (v3 : Int32) (v4 : Int32) (v5 : Int32) (S : zS), z_J zeI V mX9_ask (d + 3) (K142 v2 v3 v4 v5 S) 142 [.ref 87, .null, .int v2, .int v3, .int v4, .int v5, .null, .null, .null] [] S) {K164 : Int32 → Int32 → Int32 → Int32 → Int32 → zS → Option (Int32 × zS)} (hK164 : ∀ (v2 : Int32) (v3 : Int32) (v4 : Int32) (v5 : Int32) (v6 : Int32) (S : zS), z_J zeI V mX9_ask (d + 3) (K164 v2 v3 v4 v5 v6 S) 164 [.ref 87, .null, .int v2, .int v3, .int v4, .int v5, .int v6, .null, .null] [] S) : ∀ (v2 : Int32) (v4 : Int32) (v5 : Int32) (v6 : Int32) (v8 : Int32) (t0 : Int32) (S : zS), z_J zeI V mX9_ask (d + 3) (f_X9_ask_229 K142 K164 v2 v4 v5 v6 v8 t0 S) 229 [.ref 87, .null, .int v2, .null, .int v4, .int v5, .int v6, .null, .int v8] [.int t0] S := by
  intro v2 v4 v5 v6 v8 t0 S
  unfold f_X9_ask_229
  refine d_st (fun _ k => zg_istore_n (ls' := [_, _, _, _, _, _, _, _, _]) dX9_ask_229 (Nat.le_of_ble_eq_true rfl) rfl rfl (zg_iload dX9_ask_230 rfl (zg_iload dX9_ask_232 rfl k))) ?_
  refine d_br (fun _ => zg_icmp_ge 242 dX9_ask_234 rfl) (fun c234 => ?_) (fun c234 => ?_)
  · refine d_st (fun _ k => zg_iload dX9_ask_242 rfl (zg_istore (ls' := [_, _, _, _, _, _, _, _, _]) dX9_ask_244 (Nat.le_of_ble_eq_true rfl) rfl rfl (zg_iinc (ls' := [_, _, _, _, _, _, _, _, _]) 1 dX9_ask_246 rfl (by decide) (Nat.le_of_ble_eq_true rfl) rfl rfl (zg_goto 164 dX9_ask_249 rfl k)))) ?_
    exact d_fg (z_le_s (z_le_0 (z_le_s (z_le_s (z_le_s (z_le_s (z_le_s (z_le_0 (z_le_0 z_le_n))))))))) (hK164 _ _ _ _ _ _)
  · refine d_st (fun _ k => zg_iload dX9_ask_237 rfl (zg_goto 244 dX9_ask_239 rfl (zg_istore (ls' := [_, _, _, _, _, _, _, _, _]) dX9_ask_244 (Nat.le_of_ble_eq_true rfl) rfl rfl (zg_iinc (ls' := [_, _, _, _, _, _, _, _, _]) 1 dX9_ask_246 rfl (by decide) (Nat.le_of_ble_eq_true rfl) rfl rfl (zg_goto 164 dX9_ask_249 rfl k))))) ?_
    exact d_fg (z_le_s (z_le_0 (z_le_s (z_le_s (z_le_s (z_le_s (z_le_s (z_le_0 (z_le_0 z_le_n))))))))) (hK164 _ _ _ _ _ _)
def f_X9_ask_208 (K142 : Int32 → Int32 → Int32 → Int32 → zS → Option (Int32 × zS)) (K164 : Int32 → Int32 → Int32 → Int32 → Int32 → zS → Option (Int32 × zS)) (v2 : Int32) (v3 : Int32) (v4 : Int32) (v5 : Int32) (v6 : Int32) (t0 : Int32) (S : zS) : Option (Int32 × zS) := if v4 ≤ t0 then (f_X9_ask_229 K142 K164 v2 v4 v5 v6 t0 v3 S) else (f_X9_ask_229 K142 K164 v2 v4 v5 v6 t0 ((16 * v5) + v6) S)
set_option maxRecDepth 100000 in
set_option maxHeartbeats 4000000 in
theorem zd_X9_ask_208 (V : zV) (d : Nat) {K142 : Int32 → Int32 → Int32 → Int32 → zS → Option (Int32 × zS)} (hK142 : ∀ (v2 : Int32) (v3 : Int32) (v4 : Int32) (v5 : Int32) (S : zS), z_J zeI V mX9_ask (d + 3) (K142 v2 v3 v4 v5 S) 142 [.ref 87, .null, .int v2, .int v3, .int v4, .int v5, .null, .null, .null] [] S) {K164 : Int32 → Int32 → Int32 → Int32 → Int32 → zS → Option (Int32 × zS)} (hK164 : ∀ (v2 : Int32) (v3 : Int32) (v4 : Int32) (v5 : Int32) (v6 : Int32) (S : zS), z_J zeI V mX9_ask (d + 3) (K164 v2 v3 v4 v5 v6 S) 164 [.ref 87, .null, .int v2, .int v3, .int v4, .int v5, .int v6, .null, .null] [] S) : ∀ (v2 : Int32) (v3 : Int32) (v4 : Int32) (v5 : Int32) (v6 : Int32) (t0 : Int32) (S : zS), z_J zeI V mX9_ask (d + 3) (f_X9_ask_208 K142 K164 v2 v3 v4 v5 v6 t0 S) 208 [.ref 87, .null, .int v2, .int v3, .int v4, .int v5, .int v6, .null, .null] [.int t0] S := by
  intro v2 v3 v4 v5 v6 t0 S
  unfold f_X9_ask_208
  refine d_st (fun _ k => zg_istore (ls' := [_, _, _, _, _, _, _, _, _]) dX9_ask_208 (Nat.le_of_ble_eq_true rfl) rfl rfl (zg_iload dX9_ask_210 rfl (zg_iload dX9_ask_212 rfl k))) ?_
  refine d_br (fun _ => zg_icmp_ge 228 dX9_ask_214 rfl) (fun c214 => ?_) (fun c214 => ?_)
  · refine d_st (fun _ k => zg_iload_n dX9_ask_228 rfl k) ?_
    exact d_fg (z_le_s (z_le_0 (z_le_s (z_le_0 (z_le_s (z_le_s (z_le_s (z_le_0 (z_le_s z_le_n))))))))) (zd_X9_ask_229 V d hK142 hK164 _ _ _ _ _ _ _)
  · refine d_st (fun _ k => zg_bipush 16 dX9_ask_217 (by decide) (zg_iload dX9_ask_219 rfl (zg_imul dX9_ask_221 (zg_iload dX9_ask_222 rfl (zg_iadd dX9_ask_224 (zg_goto 229 dX9_ask_225 rfl k)))))) ?_
    exact d_fg (z_le_s (z_le_0 (z_le_s (z_le_0 (z_le_s (z_le_s (z_le_s (z_le_0 (z_le_s z_le_n))))))))) (zd_X9_ask_229 V d hK142 hK164 _ _ _ _ _ _ _)
def f_X9_ask_164 (K142 : Int32 → Int32 → Int32 → Int32 → zS → Option (Int32 × zS)) : Nat → Int32 → Int32 → Int32 → Int32 → Int32 → zS → Option (Int32 × zS)
  | 0, _, _, _, _, _, _ => none
  | n + 1, v2, v3, v4, v5, v6, S => if (S.1 89 0) ≤ v6 then (K142 v2 v3 v4 (v5 + 1) S) else (if z_in ((9 * v5) + v6) 81 then (if (S.1 108 ((9 * v5) + v6).toNatClampNeg) ≤ (v2 - (S.1 108 ((9 * v5) + v6).toNatClampNeg)) then (f_X9_ask_208 K142 (f_X9_ask_164 K142 n) v2 v3 v4 v5 v6 (v2 - (S.1 108 ((9 * v5) + v6).toNatClampNeg)) S) else (f_X9_ask_208 K142 (f_X9_ask_164 K142 n) v2 v3 v4 v5 v6 (S.1 108 ((9 * v5) + v6).toNatClampNeg) S)) else none)
set_option maxRecDepth 100000 in
set_option maxHeartbeats 4000000 in
theorem zd_X9_ask_164 (V : zV) (d : Nat) {K142 : Int32 → Int32 → Int32 → Int32 → zS → Option (Int32 × zS)} (hK142 : ∀ (v2 : Int32) (v3 : Int32) (v4 : Int32) (v5 : Int32) (S : zS), z_J zeI V mX9_ask (d + 3) (K142 v2 v3 v4 v5 S) 142 [.ref 87, .null, .int v2, .int v3, .int v4, .int v5, .null, .null, .null] [] S) : ∀ (n : Nat) (v2 : Int32) (v3 : Int32) (v4 : Int32) (v5 : Int32) (v6 : Int32) (S : zS), z_J zeI V mX9_ask (d + 3) (f_X9_ask_164 K142 n v2 v3 v4 v5 v6 S) 164 [.ref 87, .null, .int v2, .int v3, .int v4, .int v5, .int v6, .null, .null] [] S := by
  intro n
  induction n with
  | zero =>
    intro v2 v3 v4 v5 v6 S r hr
    cases (show (none : Option (Int32 × zS)) = some r from hr)
  | succ n ih =>
    intro v2 v3 v4 v5 v6 S
    rw [f_X9_ask_164]
    refine d_st (fun _ k => zg_iload dX9_ask_164 rfl (zg_aload_n dX9_ask_166 rfl (zs_getR dX9_ask_167 zf_X9_13 rfl (zq_87 _) (by decide) (by decide) zr_87_9 (zg_iconst 0 dX9_ask_170 (by decide) (zs_iald (j := 0) dX9_ask_171 (by decide) (zq_89 _) (by decide) (by decide) k))))) ?_
    refine d_br (fun _ => zg_icmp_ge 252 dX9_ask_172 rfl) (fun c172 => ?_) (fun c172 => ?_)
    · refine d_st (fun _ k => zg_iinc (ls' := [_, _, _, _, _, _, _, _, _]) 1 dX9_ask_252 rfl (by decide) (Nat.le_of_ble_eq_true rfl) rfl rfl (zg_goto 142 dX9_ask_255 rfl k)) ?_
      exact d_fg (z_le_s (z_le_0 (z_le_s (z_le_s (z_le_s (z_le_s (z_le_0 (z_le_0 (z_le_0 z_le_n))))))))) (hK142 _ _ _ _ _)
    · refine d_st (fun _ k => zg_aload_n dX9_ask_175 rfl (zs_getR dX9_ask_176 zf_X9_71 rfl (zq_87 _) (by decide) (by decide) zr_87_33 (zg_bipush 9 dX9_ask_179 (by decide) (zg_iload dX9_ask_181 rfl (zg_imul dX9_ask_183 (zg_iload dX9_ask_184 rfl (zg_iadd dX9_ask_186 k))))))) ?_
      refine d_gd (fun g187 => ?_)
      refine d_st (fun _ k => zs_iald dX9_ask_187 (by decide) (zq_108 _) g187 rfl k) ?_
      refine d_st (fun _ k => zg_istore (ls' := [_, _, _, _, _, _, _, _, _]) dX9_ask_188 (Nat.le_of_ble_eq_true rfl) rfl rfl (zg_iload dX9_ask_190 rfl (zg_iload_n dX9_ask_192 rfl (zg_iload dX9_ask_193 rfl (zg_isub dX9_ask_195 k))))) ?_
      refine d_br (fun _ => zg_icmp_le 204 dX9_ask_196 rfl) (fun c196 => ?_) (fun c196 => ?_)
      · refine d_st (fun _ k => zg_iload_n dX9_ask_204 rfl (zg_iload dX9_ask_205 rfl (zg_isub dX9_ask_207 k))) ?_
        exact d_fg (z_le_s (z_le_0 (z_le_s (z_le_s (z_le_s (z_le_s (z_le_s (z_le_0 (z_le_0 z_le_n))))))))) (zd_X9_ask_208 V d hK142 ih _ _ _ _ _ _ _)
      · refine d_st (fun _ k => zg_iload dX9_ask_199 rfl (zg_goto 208 dX9_ask_201 rfl k)) ?_
        exact d_fg (z_le_s (z_le_0 (z_le_s (z_le_s (z_le_s (z_le_s (z_le_s (z_le_0 (z_le_0 z_le_n))))))))) (zd_X9_ask_208 V d hK142 ih _ _ _ _ _ _ _)
def f_X9_ask_142 : Nat → Int32 → Int32 → Int32 → Int32 → zS → Option (Int32 × zS)
  | 0, _, _, _, _, _ => none
  | n + 1, v2, v3, v4, v5, S => if (S.1 89 0) ≤ v5 then (some (v3, S)) else (if v2 ≤ 1 then (some (v3, S)) else (f_X9_ask_164 (f_X9_ask_142 n) 1000 v2 v3 v4 v5 (v5 + 1) S))
set_option maxRecDepth 100000 in
set_option maxHeartbeats 4000000 in
theorem zd_X9_ask_142 (V : zV) (d : Nat) : ∀ (n : Nat) (v2 : Int32) (v3 : Int32) (v4 : Int32) (v5 : Int32) (S : zS), z_J zeI V mX9_ask (d + 3) (f_X9_ask_142 n v2 v3 v4 v5 S) 142 [.ref 87, .null, .int v2, .int v3, .int v4, .int v5, .null, .null, .null] [] S := by
  intro n
  induction n with
  | zero =>
    intro v2 v3 v4 v5 S r hr
    cases (show (none : Option (Int32 × zS)) = some r from hr)
  | succ n ih =>
    intro v2 v3 v4 v5 S
    rw [f_X9_ask_142]
    refine d_st (fun _ k => zg_iload dX9_ask_142 rfl (zg_aload_n dX9_ask_144 rfl (zs_getR dX9_ask_145 zf_X9_13 rfl (zq_87 _) (by decide) (by decide) zr_87_9 (zg_iconst 0 dX9_ask_148 (by decide) (zs_iald (j := 0) dX9_ask_149 (by decide) (zq_89 _) (by decide) (by decide) k))))) ?_
    refine d_br (fun _ => zg_icmp_ge 258 dX9_ask_150 rfl) (fun c150 => ?_) (fun c150 => ?_)
    · refine d_st (fun _ k => zg_iload_n dX9_ask_258 rfl k) ?_
      exact d_retI dX9_ask_259 rfl
    · refine d_st (fun _ k => zg_iload_n dX9_ask_153 rfl (zg_iconst 1 dX9_ask_154 (by decide) k)) ?_
      refine d_br (fun _ => zg_icmp_le 258 dX9_ask_155 rfl) (fun c155 => ?_) (fun c155 => ?_)
      · refine d_st (fun _ k => zg_iload_n dX9_ask_258 rfl k) ?_
        exact d_retI dX9_ask_259 rfl
      · refine d_st (fun _ k => zg_iload dX9_ask_158 rfl (zg_iconst 1 dX9_ask_160 (by decide) (zg_iadd dX9_ask_161 (zg_istore (ls' := [_, _, _, _, _, _, _, _, _]) dX9_ask_162 (Nat.le_of_ble_eq_true rfl) rfl rfl k)))) ?_
        exact d_fg (z_le_s (z_le_0 (z_le_s (z_le_s (z_le_s (z_le_s (z_le_s (z_le_0 (z_le_0 z_le_n))))))))) (zd_X9_ask_164 V d ih 1000 _ _ _ _ _ _)
def f_X9_ask_118 (K38 : Int32 → Int32 → Int32 → zS → Option (Int32 × zS)) (K75 : Int32 → Int32 → Int32 → Int32 → zS → Option (Int32 × zS)) (v1 : Int32) (v2 : Int32) (v3 : Int32) (v4 : Int32) (t0 : Int32) (t1 : Int32) (t2 : Int32) (S : zS) : Option (Int32 × zS) := if z_in t2 81 then (K75 v1 v2 v3 (v4 + 1) (z_w S 108 t2.toNatClampNeg (t1 + t0))) else none
set_option maxRecDepth 100000 in
set_option maxHeartbeats 4000000 in
theorem zd_X9_ask_118 (V : zV) (d : Nat) {K38 : Int32 → Int32 → Int32 → zS → Option (Int32 × zS)} (hK38 : ∀ (v1 : Int32) (v2 : Int32) (v3 : Int32) (S : zS), z_J zeI V mX9_ask (d + 3) (K38 v1 v2 v3 S) 38 [.ref 87, .int v1, .int v2, .int v3, .null, .null, .null, .null, .null] [] S) {K75 : Int32 → Int32 → Int32 → Int32 → zS → Option (Int32 × zS)} (hK75 : ∀ (v1 : Int32) (v2 : Int32) (v3 : Int32) (v4 : Int32) (S : zS), z_J zeI V mX9_ask (d + 3) (K75 v1 v2 v3 v4 S) 75 [.ref 87, .int v1, .int v2, .int v3, .int v4, .null, .null, .null, .null] [] S) : ∀ (v1 : Int32) (v2 : Int32) (v3 : Int32) (v4 : Int32) (t0 : Int32) (t1 : Int32) (t2 : Int32) (S : zS), z_J zeI V mX9_ask (d + 3) (f_X9_ask_118 K38 K75 v1 v2 v3 v4 t0 t1 t2 S) 118 [.ref 87, .int v1, .int v2, .int v3, .int v4, .null, .null, .null, .null] [.int t0, .int t1, .int t2, .ref 108] S := by
  intro v1 v2 v3 v4 t0 t1 t2 S
  unfold f_X9_ask_118
  refine d_st (fun _ k => zg_iadd dX9_ask_118 k) ?_
  refine d_gd (fun g119 => ?_)
  refine d_st (fun _ k => zs_iast dX9_ask_119 (by decide) (zq_108 _) g119 rfl k) ?_
  refine d_st (fun _ k => zg_iinc (ls' := [_, _, _, _, _, _, _, _, _]) 1 dX9_ask_120 rfl (by decide) (Nat.le_of_ble_eq_true rfl) rfl rfl (zg_goto 75 dX9_ask_123 rfl k)) ?_
  exact d_fg (z_le_s (z_le_s (z_le_s (z_le_s (z_le_s (z_le_0 (z_le_0 (z_le_0 (z_le_0 z_le_n))))))))) (hK75 _ _ _ _ _)
def f_X9_ask_75 (K38 : Int32 → Int32 → Int32 → zS → Option (Int32 × zS)) : Nat → Int32 → Int32 → Int32 → Int32 → zS → Option (Int32 × zS)
  | 0, _, _, _, _, _ => none
  | n + 1, v1, v2, v3, v4, S => if 81 ≤ v4 then (K38 v1 v2 (v3 + 1) S) else (if z_in v4 81 then (if z_in (v4 / 9) 9 then (if z_in (v4 - v4 / 9 * 9) 9 then (if (S.1 99 (v4 / 9).toNatClampNeg) = (S.1 99 (v4 - v4 / 9 * 9).toNatClampNeg) then (f_X9_ask_118 K38 (f_X9_ask_75 K38 n) v1 v2 v3 v4 1 (S.1 108 v4.toNatClampNeg) v4 S) else (f_X9_ask_118 K38 (f_X9_ask_75 K38 n) v1 v2 v3 v4 0 (S.1 108 v4.toNatClampNeg) v4 S)) else none) else none) else none)
set_option maxRecDepth 100000 in
set_option maxHeartbeats 4000000 in
theorem zd_X9_ask_75 (V : zV) (d : Nat) {K38 : Int32 → Int32 → Int32 → zS → Option (Int32 × zS)} (hK38 : ∀ (v1 : Int32) (v2 : Int32) (v3 : Int32) (S : zS), z_J zeI V mX9_ask (d + 3) (K38 v1 v2 v3 S) 38 [.ref 87, .int v1, .int v2, .int v3, .null, .null, .null, .null, .null] [] S) : ∀ (n : Nat) (v1 : Int32) (v2 : Int32) (v3 : Int32) (v4 : Int32) (S : zS), z_J zeI V mX9_ask (d + 3) (f_X9_ask_75 K38 n v1 v2 v3 v4 S) 75 [.ref 87, .int v1, .int v2, .int v3, .int v4, .null, .null, .null, .null] [] S := by
  intro n
  induction n with
  | zero =>
    intro v1 v2 v3 v4 S r hr
    cases (show (none : Option (Int32 × zS)) = some r from hr)
  | succ n ih =>
    intro v1 v2 v3 v4 S
    rw [f_X9_ask_75]
    refine d_st (fun _ k => zg_iload dX9_ask_75 rfl (zg_bipush 81 dX9_ask_77 (by decide) k)) ?_
    refine d_br (fun _ => zg_icmp_ge 126 dX9_ask_79 rfl) (fun c79 => ?_) (fun c79 => ?_)
    · refine d_st (fun _ k => zg_iinc (ls' := [_, _, _, _, _, _, _, _, _]) 1 dX9_ask_126 rfl (by decide) (Nat.le_of_ble_eq_true rfl) rfl rfl (zg_goto 38 dX9_ask_129 rfl k)) ?_
      exact d_fg (z_le_s (z_le_s (z_le_s (z_le_s (z_le_0 (z_le_0 (z_le_0 (z_le_0 (z_le_0 z_le_n))))))))) (hK38 _ _ _ _)
    · refine d_st (fun _ k => zg_aload_n dX9_ask_82 rfl (zs_getR dX9_ask_83 zf_X9_71 rfl (zq_87 _) (by decide) (by decide) zr_87_33 (zg_iload dX9_ask_86 rfl (zg_dup2 dX9_ask_88 k)))) ?_
      refine d_gd (fun g89 => ?_)
      refine d_st (fun _ k => zs_iald dX9_ask_89 (by decide) (zq_108 _) g89 rfl k) ?_
      refine d_st (fun _ k => zg_aload_n dX9_ask_90 rfl (zs_getR dX9_ask_91 zf_X9_44 rfl (zq_87 _) (by decide) (by decide) zr_87_21 (zg_iload dX9_ask_94 rfl (zg_bipush 9 dX9_ask_96 (by decide) (zg_idiv dX9_ask_98 (by decide) k))))) ?_
      refine d_gd (fun g99 => ?_)
      refine d_st (fun _ k => zs_iald dX9_ask_99 (by decide) (zq_99 _) g99 rfl k) ?_
      refine d_st (fun _ k => zg_aload_n dX9_ask_100 rfl (zs_getR dX9_ask_101 zf_X9_44 rfl (zq_87 _) (by decide) (by decide) zr_87_21 (zg_iload dX9_ask_104 rfl (zg_bipush 9 dX9_ask_106 (by decide) (zg_irem dX9_ask_108 (by decide) k))))) ?_
      refine d_gd (fun g109 => ?_)
      refine d_st (fun _ k => zs_iald dX9_ask_109 (by decide) (zq_99 _) g109 rfl k) ?_
      refine d_br (fun _ => zg_icmp_ne 117 dX9_ask_110 rfl) (fun c110 => ?_) (fun c110 => ?_)
      · refine d_st (fun _ k => zg_iconst 1 dX9_ask_113 (by decide) (zg_goto 118 dX9_ask_114 rfl k)) ?_
        exact d_fg (z_le_s (z_le_s (z_le_s (z_le_s (z_le_s (z_le_0 (z_le_0 (z_le_0 (z_le_0 z_le_n))))))))) (zd_X9_ask_118 V d hK38 ih _ _ _ _ _ _ _ _)
      · refine d_st (fun _ k => zg_iconst 0 dX9_ask_117 (by decide) k) ?_
        exact d_fg (z_le_s (z_le_s (z_le_s (z_le_s (z_le_s (z_le_0 (z_le_0 (z_le_0 (z_le_0 z_le_n))))))))) (zd_X9_ask_118 V d hK38 ih _ _ _ _ _ _ _ _)
def f_X9_ask_38 : Nat → Int32 → Int32 → Int32 → zS → Option (Int32 × zS)
  | 0, _, _, _, _ => none
  | n + 1, v1, v2, v3, S => if (S.1 89 1) ≤ v3 then (f_X9_ask_142 1000 v2 (-9) 99 0 S) else ((f_X9_has v1 v3 S).bind (fun r50 => if r50.1 = 0 then (f_X9_ask_38 n v1 v2 (v3 + 1) r50.2) else ((f_X9_roots ((r50.2.1 91 0) &&& (((1 : Int32) <<< (v3 &&& 31)) ^^^ (-1))) r50.2).bind (fun r69 => f_X9_ask_75 (f_X9_ask_38 n) 1000 v1 v2 v3 0 r69.2))))
set_option maxRecDepth 100000 in
set_option maxHeartbeats 4000000 in
theorem zd_X9_ask_38 (V : zV) (d : Nat) : ∀ (n : Nat) (v1 : Int32) (v2 : Int32) (v3 : Int32) (S : zS), z_J zeI V mX9_ask (d + 3) (f_X9_ask_38 n v1 v2 v3 S) 38 [.ref 87, .int v1, .int v2, .int v3, .null, .null, .null, .null, .null] [] S := by
  intro n
  induction n with
  | zero =>
    intro v1 v2 v3 S r hr
    cases (show (none : Option (Int32 × zS)) = some r from hr)
  | succ n ih =>
    intro v1 v2 v3 S
    rw [f_X9_ask_38]
    refine d_st (fun _ k => zg_iload_n dX9_ask_38 rfl (zg_aload_n dX9_ask_39 rfl (zs_getR dX9_ask_40 zf_X9_13 rfl (zq_87 _) (by decide) (by decide) zr_87_9 (zg_iconst 1 dX9_ask_43 (by decide) (zs_iald (j := 1) dX9_ask_44 (by decide) (zq_89 _) (by decide) (by decide) k))))) ?_
    refine d_br (fun _ => zg_icmp_ge 132 dX9_ask_45 rfl) (fun c45 => ?_) (fun c45 => ?_)
    · refine d_st (fun _ k => zg_bipush (-9) dX9_ask_132 (by decide) (zg_istore_n (ls' := [_, _, _, _, _, _, _, _, _]) dX9_ask_134 (Nat.le_of_ble_eq_true rfl) rfl rfl (zg_bipush 99 dX9_ask_135 (by decide) (zg_istore (ls' := [_, _, _, _, _, _, _, _, _]) dX9_ask_137 (Nat.le_of_ble_eq_true rfl) rfl rfl (zg_iconst 0 dX9_ask_139 (by decide) (zg_istore (ls' := [_, _, _, _, _, _, _, _, _]) dX9_ask_140 (Nat.le_of_ble_eq_true rfl) rfl rfl k)))))) ?_
      exact d_fg (z_le_s (z_le_0 (z_le_s (z_le_s (z_le_s (z_le_s (z_le_0 (z_le_0 (z_le_0 z_le_n))))))))) (zd_X9_ask_142 V d 1000 _ _ _ _ _)
    · refine d_st (fun _ k => zg_iload_n dX9_ask_48 rfl (zg_iload_n dX9_ask_49 rfl k)) ?_
      refine d_cSi (As := [_, _]) dX9_ask_50 zk_X9_84 rfl rfl (Nat.le_of_ble_eq_true rfl) (Nat.le_of_ble_eq_true rfl) rfl (zd_X9_has V (d + 2) _ _ _) (fun r50 _ => ?_)
      refine d_br (fun _ => zg_if_eq 126 dX9_ask_53 rfl) (fun c53 => ?_) (fun c53 => ?_)
      · refine d_st (fun _ k => zg_iinc (ls' := [_, _, _, _, _, _, _, _, _]) 1 dX9_ask_126 rfl (by decide) (Nat.le_of_ble_eq_true rfl) rfl rfl (zg_goto 38 dX9_ask_129 rfl k)) ?_
        exact d_fg (z_le_s (z_le_s (z_le_s (z_le_s (z_le_0 (z_le_0 (z_le_0 (z_le_0 (z_le_0 z_le_n))))))))) (ih _ _ _ _)
      · refine d_st (fun _ k => zg_aload_n dX9_ask_56 rfl (zg_aload_n dX9_ask_57 rfl (zs_getR dX9_ask_58 zf_X9_19 rfl (zq_87 _) (by decide) (by decide) zr_87_11 (zg_iconst 0 dX9_ask_61 (by decide) (zs_iald (j := 0) dX9_ask_62 (by decide) (zq_91 _) (by decide) (by decide) (zg_iconst 1 dX9_ask_63 (by decide) (zg_iload_n dX9_ask_64 rfl (zg_ishl dX9_ask_65 (zg_iconst (-1) dX9_ask_66 (by decide) (zg_ixor dX9_ask_67 (zg_iand dX9_ask_68 k))))))))))) ?_
        refine d_cVv (As := [_]) dX9_ask_69 zk_X9_195 (zq_87 _) (by decide) ⟨_, _, rfl⟩ rfl rfl (Nat.le_of_ble_eq_true rfl) (Nat.le_of_ble_eq_true rfl) rfl (zd_X9_roots V (d + 1) _ _) (fun r69 _ => ?_)
        refine d_st (fun _ k => zg_iconst 0 dX9_ask_72 (by decide) (zg_istore (ls' := [_, _, _, _, _, _, _, _, _]) dX9_ask_73 (Nat.le_of_ble_eq_true rfl) rfl rfl k)) ?_
        exact d_fg (z_le_s (z_le_s (z_le_s (z_le_s (z_le_s (z_le_0 (z_le_0 (z_le_0 (z_le_0 z_le_n))))))))) (zd_X9_ask_75 V d ih 1000 _ _ _ _ _)
def f_X9_ask_17 : Nat → Int32 → Int32 → Int32 → zS → Option (Int32 × zS)
  | 0, _, _, _, _ => none
  | n + 1, v1, v2, v3, S => if 81 ≤ v3 then (f_X9_ask_38 1000 v1 v2 0 S) else (if z_in v3 81 then (f_X9_ask_17 n v1 v2 (v3 + 1) (z_w S 108 v3.toNatClampNeg 0)) else none)
set_option maxRecDepth 100000 in
set_option maxHeartbeats 4000000 in
theorem zd_X9_ask_17 (V : zV) (d : Nat) : ∀ (n : Nat) (v1 : Int32) (v2 : Int32) (v3 : Int32) (S : zS), z_J zeI V mX9_ask (d + 3) (f_X9_ask_17 n v1 v2 v3 S) 17 [.ref 87, .int v1, .int v2, .int v3, .null, .null, .null, .null, .null] [] S := by
  intro n
  induction n with
  | zero =>
    intro v1 v2 v3 S r hr
    cases (show (none : Option (Int32 × zS)) = some r from hr)
  | succ n ih =>
    intro v1 v2 v3 S
    rw [f_X9_ask_17]
    refine d_st (fun _ k => zg_iload_n dX9_ask_17 rfl (zg_bipush 81 dX9_ask_18 (by decide) k)) ?_
    refine d_br (fun _ => zg_icmp_ge 36 dX9_ask_20 rfl) (fun c20 => ?_) (fun c20 => ?_)
    · refine d_st (fun _ k => zg_iconst 0 dX9_ask_36 (by decide) (zg_istore_n (ls' := [_, _, _, _, _, _, _, _, _]) dX9_ask_37 (Nat.le_of_ble_eq_true rfl) rfl rfl k)) ?_
      exact d_fg (z_le_s (z_le_s (z_le_s (z_le_s (z_le_0 (z_le_0 (z_le_0 (z_le_0 (z_le_0 z_le_n))))))))) (zd_X9_ask_38 V d 1000 _ _ _ _)
    · refine d_st (fun _ k => zg_aload_n dX9_ask_23 rfl (zs_getR dX9_ask_24 zf_X9_71 rfl (zq_87 _) (by decide) (by decide) zr_87_33 (zg_iload_n dX9_ask_27 rfl (zg_iconst 0 dX9_ask_28 (by decide) k)))) ?_
      refine d_gd (fun g29 => ?_)
      refine d_st (fun _ k => zs_iast dX9_ask_29 (by decide) (zq_108 _) g29 rfl k) ?_
      refine d_st (fun _ k => zg_iinc (ls' := [_, _, _, _, _, _, _, _, _]) 1 dX9_ask_30 rfl (by decide) (Nat.le_of_ble_eq_true rfl) rfl rfl (zg_goto 17 dX9_ask_33 rfl k)) ?_
      exact d_fg (z_le_s (z_le_s (z_le_s (z_le_s (z_le_0 (z_le_0 (z_le_0 (z_le_0 (z_le_0 z_le_n))))))))) (ih _ _ _ _)
def f_X9_ask (S : zS) : Option (Int32 × zS) := (f_X9_unseenSet  (z_w S 87 0 0)).bind (fun r6 => (f_X9_ones r6.1 r6.2).bind (fun r11 => f_X9_ask_17 1000 r6.1 r11.1 0 r11.2))
set_option maxRecDepth 100000 in
set_option maxHeartbeats 4000000 in
theorem zd_X9_ask (V : zV) (d : Nat) : ∀ (S : zS), z_J zeI V mX9_ask (d + 3) (f_X9_ask  S) 0 (z_ent mX9_ask [.ref 87]) [] S := by
  intro S
  show z_J zeI V mX9_ask (d + 3) (f_X9_ask  S) 0 [.ref 87, .null, .null, .null, .null, .null, .null, .null, .null] [] S
  unfold f_X9_ask
  refine d_st (fun _ k => zg_aload_n dX9_ask_0 rfl (zg_iconst 0 dX9_ask_1 (by decide) (zs_putI dX9_ask_2 zf_X9_80 rfl (zq_87 _) (by decide) (by decide) (zg_aload_n dX9_ask_5 rfl k)))) ?_
  refine d_cVi (As := []) dX9_ask_6 zk_X9_287 (zq_87 _) (by decide) ⟨_, _, rfl⟩ rfl rfl (Nat.le_of_ble_eq_true rfl) (Nat.le_of_ble_eq_true rfl) rfl (zd_X9_unseenSet V d _) (fun r6 _ => ?_)
  refine d_st (fun _ k => zg_istore_n (ls' := [_, _, _, _, _, _, _, _, _]) dX9_ask_9 (Nat.le_of_ble_eq_true rfl) rfl rfl (zg_iload_n dX9_ask_10 rfl k)) ?_
  refine d_cSi (As := [_]) dX9_ask_11 zk_X9_213 rfl rfl (Nat.le_of_ble_eq_true rfl) (Nat.le_of_ble_eq_true rfl) rfl (zd_X9_ones V (d + 2) _ _) (fun r11 _ => ?_)
  refine d_st (fun _ k => zg_istore_n (ls' := [_, _, _, _, _, _, _, _, _]) dX9_ask_14 (Nat.le_of_ble_eq_true rfl) rfl rfl (zg_iconst 0 dX9_ask_15 (by decide) (zg_istore_n (ls' := [_, _, _, _, _, _, _, _, _]) dX9_ask_16 (Nat.le_of_ble_eq_true rfl) rfl rfl k))) ?_
  exact d_fg (z_le_s (z_le_s (z_le_s (z_le_s (z_le_0 (z_le_0 (z_le_0 (z_le_0 (z_le_0 z_le_n))))))))) (zd_X9_ask_17 V d 1000 _ _ _ _)
def f_X8_keep (a1 : Int32) (S : zS) : Option (Int32 × zS) := if a1 < 0 then (some ((-1), S)) else (if a1 < 2 then (if z_in a1 2 then ((f_X2_become (83 + 2 * a1.toNatClampNeg) 32 S).bind (fun r21 => some ((z_w r21.2 1 8 ((r21.2.1 1 8) ||| ((1 : Int32) <<< (a1 &&& 31)))).1 32 2, (z_w r21.2 1 8 ((r21.2.1 1 8) ||| ((1 : Int32) <<< (a1 &&& 31))))))) else none) else (some ((-1), S)))
set_option maxRecDepth 100000 in
set_option maxHeartbeats 4000000 in
theorem zd_X8_keep (V : zV) (d : Nat) : ∀ (a1 : Int32) (S : zS), z_J zeI V mX8_keep (d + 2) (f_X8_keep a1 S) 0 (z_ent mX8_keep [.ref 1, .int a1]) [] S := by
  intro a1 S
  show z_J zeI V mX8_keep (d + 2) (f_X8_keep a1 S) 0 [.ref 1, .int a1] [] S
  unfold f_X8_keep
  refine d_st (fun _ k => zg_iload_n dX8_keep_0 rfl k) ?_
  refine d_br (fun _ => zg_if_lt 9 dX8_keep_1 rfl) (fun c1 => ?_) (fun c1 => ?_)
  · refine d_st (fun _ k => zg_iconst (-1) dX8_keep_9 (by decide) k) ?_
    exact d_retI dX8_keep_10 rfl
  · refine d_st (fun _ k => zg_iload_n dX8_keep_4 rfl (zg_iconst 2 dX8_keep_5 (by decide) k)) ?_
    refine d_br (fun _ => zg_icmp_lt 11 dX8_keep_6 rfl) (fun c6 => ?_) (fun c6 => ?_)
    · refine d_st (fun _ k => zg_aload_n dX8_keep_11 rfl (zs_getR dX8_keep_12 zf_X8_48 rfl (zq_1 _) (by decide) (by decide) zr_1_7 (zg_iload_n dX8_keep_15 rfl k))) ?_
      refine d_gd (fun g16 => ?_)
      refine d_st (fun _ k => zs_imgs dX8_keep_16 g16 k) ?_
      refine d_st (fun _ k => zg_aload_n dX8_keep_17 rfl (zs_getR dX8_keep_18 zf_X8_37 rfl (zq_1 _) (by decide) (by decide) zr_1_5 k)) ?_
      refine d_cVv (As := [_]) dX8_keep_21 zk_X8_234 (zl_o (zl_imgs (pl := 0) (dr := 0) (z_in_lt g16)).2 _).1 (by decide) ⟨_, _, rfl⟩ rfl rfl (Nat.le_of_ble_eq_true rfl) (Nat.le_of_ble_eq_true rfl) rfl (zd_X2_become V (zl_imgs (pl := 0) (dr := 0) (z_in_lt g16)).2 (by decide) d _) (fun r21 _ => ?_)
      refine d_st (fun _ k => zg_aload_n dX8_keep_24 rfl (zg_dupr dX8_keep_25 (zs_getI dX8_keep_26 zf_X8_52 rfl (zq_1 _) (by decide) (by decide) (zg_iconst 1 dX8_keep_29 (by decide) (zg_iload_n dX8_keep_30 rfl (zg_ishl dX8_keep_31 (zg_ior dX8_keep_32 (zs_putI dX8_keep_33 zf_X8_52 rfl (zq_1 _) (by decide) (by decide) (zg_aload_n dX8_keep_36 rfl (zs_getR dX8_keep_37 zf_X8_37 rfl (zq_1 _) (by decide) (by decide) zr_1_5 (zs_getI dX8_keep_40 zf_X8_161 rfl (zq_32 _) (by decide) (by decide) k))))))))))) ?_
      exact d_retI dX8_keep_43 rfl
    · refine d_st (fun _ k => zg_iconst (-1) dX8_keep_9 (by decide) k) ?_
      exact d_retI dX8_keep_10 rfl
def f_X9_keep_18 : Nat → Int32 → Int32 → zS → Option (Int32 × zS)
  | 0, _, _, _ => none
  | n + 1, v1, v2, S => if 13 ≤ v2 then (if z_in v1 2 then (some ((z_w S 94 v1.toNatClampNeg 1).1 91 2, (z_w S 94 v1.toNatClampNeg 1))) else none) else (if z_in v2 13 then (if z_in ((13 * v1) + v2) 26 then (f_X9_keep_18 n v1 (v2 + 1) (z_w S 93 (((13 * v1) + v2).toNatClampNeg) (S.1 91 v2.toNatClampNeg))) else none) else none)
set_option maxRecDepth 100000 in
set_option maxHeartbeats 4000000 in
theorem zd_X9_keep_18 (V : zV) (d : Nat) : ∀ (n : Nat) (v1 : Int32) (v2 : Int32) (S : zS), z_J zeI V mX9_keep (d + 1) (f_X9_keep_18 n v1 v2 S) 18 [.ref 87, .int v1, .int v2] [] S := by
  intro n
  induction n with
  | zero =>
    intro v1 v2 S r hr
    cases (show (none : Option (Int32 × zS)) = some r from hr)
  | succ n ih =>
    intro v1 v2 S
    rw [f_X9_keep_18]
    refine d_st (fun _ k => zg_iload_n dX9_keep_18 rfl (zg_bipush 13 dX9_keep_19 (by decide) k)) ?_
    refine d_br (fun _ => zg_icmp_ge 47 dX9_keep_21 rfl) (fun c21 => ?_) (fun c21 => ?_)
    · refine d_st (fun _ k => zg_aload_n dX9_keep_47 rfl (zs_getR dX9_keep_48 zf_X9_28 rfl (zq_87 _) (by decide) (by decide) zr_87_15 (zg_iload_n dX9_keep_51 rfl (zg_iconst 1 dX9_keep_52 (by decide) k)))) ?_
      refine d_gd (fun g53 => ?_)
      refine d_st (fun _ k => zs_zast dX9_keep_53 (by decide) (by decide) (zq_94 _) g53 rfl k) ?_
      refine d_st (fun _ k => zg_aload_n dX9_keep_54 rfl (zs_getR dX9_keep_55 zf_X9_19 rfl (zq_87 _) (by decide) (by decide) zr_87_11 (zg_iconst 2 dX9_keep_58 (by decide) (zs_iald (j := 2) dX9_keep_59 (by decide) (zq_91 _) (by decide) (by decide) k)))) ?_
      exact d_retI dX9_keep_60 rfl
    · refine d_st (fun _ k => zg_aload_n dX9_keep_24 rfl (zs_getR dX9_keep_25 zf_X9_25 rfl (zq_87 _) (by decide) (by decide) zr_87_14 (zg_bipush 13 dX9_keep_28 (by decide) (zg_iload_n dX9_keep_30 rfl (zg_imul dX9_keep_31 (zg_iload_n dX9_keep_32 rfl (zg_iadd dX9_keep_33 (zg_aload_n dX9_keep_34 rfl (zs_getR dX9_keep_35 zf_X9_19 rfl (zq_87 _) (by decide) (by decide) zr_87_11 (zg_iload_n dX9_keep_38 rfl k)))))))))) ?_
      refine d_gd (fun g39 => ?_)
      refine d_st (fun _ k => zs_iald dX9_keep_39 (by decide) (zq_91 _) g39 rfl k) ?_
      refine d_gd (fun g40 => ?_)
      refine d_st (fun _ k => zs_iast dX9_keep_40 (by decide) (zq_93 _) g40 rfl k) ?_
      refine d_st (fun _ k => zg_iinc (ls' := [_, _, _]) 1 dX9_keep_41 rfl (by decide) (Nat.le_of_ble_eq_true rfl) rfl rfl (zg_goto 18 dX9_keep_44 rfl k)) ?_
      exact d_fg (z_le_s (z_le_s (z_le_s z_le_n))) (ih _ _ _)
def f_X9_keep (a1 : Int32) (S : zS) : Option (Int32 × zS) := (f_X9_in a1 0 1 (z_w S 87 0 0)).bind (fun r8 => if r8.1 = 0 then (some ((-1), r8.2)) else (f_X9_keep_18 1000 a1 0 r8.2))
set_option maxRecDepth 100000 in
set_option maxHeartbeats 4000000 in
theorem zd_X9_keep (V : zV) (d : Nat) : ∀ (a1 : Int32) (S : zS), z_J zeI V mX9_keep (d + 1) (f_X9_keep a1 S) 0 (z_ent mX9_keep [.ref 87, .int a1]) [] S := by
  intro a1 S
  show z_J zeI V mX9_keep (d + 1) (f_X9_keep a1 S) 0 [.ref 87, .int a1, .null] [] S
  unfold f_X9_keep
  refine d_st (fun _ k => zg_aload_n dX9_keep_0 rfl (zg_iconst 0 dX9_keep_1 (by decide) (zs_putI dX9_keep_2 zf_X9_80 rfl (zq_87 _) (by decide) (by decide) (zg_iload_n dX9_keep_5 rfl (zg_iconst 0 dX9_keep_6 (by decide) (zg_iconst 1 dX9_keep_7 (by decide) k)))))) ?_
  refine d_cSi (As := [_, _, _]) dX9_keep_8 zk_X9_88 rfl rfl (Nat.le_of_ble_eq_true rfl) (Nat.le_of_ble_eq_true rfl) rfl (zd_X9_in V d _ _ _ _) (fun r8 _ => ?_)
  refine d_br (fun _ => zg_if_ne 16 dX9_keep_11 rfl) (fun c11 => ?_) (fun c11 => ?_)
  · refine d_st (fun _ k => zg_iconst (-1) dX9_keep_14 (by decide) k) ?_
    exact d_retI dX9_keep_15 rfl
  · refine d_st (fun _ k => zg_iconst 0 dX9_keep_16 (by decide) (zg_istore_n (ls' := [_, _, _]) dX9_keep_17 (Nat.le_of_ble_eq_true rfl) rfl rfl k)) ?_
    exact d_fg (z_le_s (z_le_s (z_le_s z_le_n))) (zd_X9_keep_18 V d 1000 _ _ _)
def f_X8_back (a1 : Int32) (S : zS) : Option (Int32 × zS) := if a1 < 0 then (some ((-1), S)) else (if a1 < 2 then ((f_X8_has (S.1 1 8) a1 S).bind (fun r16 => if r16.1 = 0 then (some ((-2), r16.2)) else (if z_in a1 2 then ((f_X2_become 32 (83 + 2 * a1.toNatClampNeg) r16.2).bind (fun r35 => (f_X0_lose  r35.2).bind (fun r42 => (f_X8_outdate  r42.2).bind (fun r46 => some (r46.2.1 32 2, r46.2))))) else none))) else (some ((-1), S)))
set_option maxRecDepth 100000 in
set_option maxHeartbeats 4000000 in
theorem zd_X8_back (V : zV) (d : Nat) : ∀ (a1 : Int32) (S : zS), z_J zeI V mX8_back (d + 2) (f_X8_back a1 S) 0 (z_ent mX8_back [.ref 1, .int a1]) [] S := by
  intro a1 S
  show z_J zeI V mX8_back (d + 2) (f_X8_back a1 S) 0 [.ref 1, .int a1] [] S
  unfold f_X8_back
  refine d_st (fun _ k => zg_iload_n dX8_back_0 rfl k) ?_
  refine d_br (fun _ => zg_if_lt 9 dX8_back_1 rfl) (fun c1 => ?_) (fun c1 => ?_)
  · refine d_st (fun _ k => zg_iconst (-1) dX8_back_9 (by decide) k) ?_
    exact d_retI dX8_back_10 rfl
  · refine d_st (fun _ k => zg_iload_n dX8_back_4 rfl (zg_iconst 2 dX8_back_5 (by decide) k)) ?_
    refine d_br (fun _ => zg_icmp_lt 11 dX8_back_6 rfl) (fun c6 => ?_) (fun c6 => ?_)
    · refine d_st (fun _ k => zg_aload_n dX8_back_11 rfl (zs_getI dX8_back_12 zf_X8_52 rfl (zq_1 _) (by decide) (by decide) (zg_iload_n dX8_back_15 rfl k))) ?_
      refine d_cSi (As := [_, _]) dX8_back_16 zk_X8_123 rfl rfl (Nat.le_of_ble_eq_true rfl) (Nat.le_of_ble_eq_true rfl) rfl (zd_X8_has V (d + 1) _ _ _) (fun r16 _ => ?_)
      refine d_br (fun _ => zg_if_ne 25 dX8_back_19 rfl) (fun c19 => ?_) (fun c19 => ?_)
      · refine d_st (fun _ k => zg_bipush (-2) dX8_back_22 (by decide) k) ?_
        exact d_retI dX8_back_24 rfl
      · refine d_st (fun _ k => zg_aload_n dX8_back_25 rfl (zs_getR dX8_back_26 zf_X8_37 rfl (zq_1 _) (by decide) (by decide) zr_1_5 (zg_aload_n dX8_back_29 rfl (zs_getR dX8_back_30 zf_X8_48 rfl (zq_1 _) (by decide) (by decide) zr_1_7 (zg_iload_n dX8_back_33 rfl k))))) ?_
        refine d_gd (fun g34 => ?_)
        refine d_st (fun _ k => zs_imgs dX8_back_34 g34 k) ?_
        refine d_cVv (As := [_]) dX8_back_35 zk_X8_234 (zq_32 _) (by decide) ⟨_, _, rfl⟩ rfl rfl (Nat.le_of_ble_eq_true rfl) (Nat.le_of_ble_eq_true rfl) rfl (zd_X2_become V (by decide) (zl_imgs (pl := 0) (dr := 0) (z_in_lt g34)).2 d _) (fun r35 _ => ?_)
        refine d_st (fun _ k => zg_aload_n dX8_back_38 rfl (zs_getR dX8_back_39 zf_X8_44 rfl (zq_1 _) (by decide) (by decide) zr_1_6 k)) ?_
        refine d_cVv (As := []) dX8_back_42 zk_X8_84 (zq_34 _) (by decide) ⟨_, _, rfl⟩ rfl rfl (Nat.le_of_ble_eq_true rfl) (Nat.le_of_ble_eq_true rfl) rfl (zd_X0_lose V (d + 1) _) (fun r42 _ => ?_)
        refine d_st (fun _ k => zg_aload_n dX8_back_45 rfl k) ?_
        refine d_cVv (As := []) dX8_back_46 zk_X8_88 (zq_1 _) (by decide) ⟨_, _, rfl⟩ rfl rfl (Nat.le_of_ble_eq_true rfl) (Nat.le_of_ble_eq_true rfl) rfl (zd_X8_outdate V (d + 1) _) (fun r46 _ => ?_)
        refine d_st (fun _ k => zg_aload_n dX8_back_49 rfl (zs_getR dX8_back_50 zf_X8_37 rfl (zq_1 _) (by decide) (by decide) zr_1_5 (zs_getI dX8_back_53 zf_X8_161 rfl (zq_32 _) (by decide) (by decide) k))) ?_
        exact d_retI dX8_back_56 rfl
    · refine d_st (fun _ k => zg_iconst (-1) dX8_back_9 (by decide) k) ?_
      exact d_retI dX8_back_10 rfl
def f_X9_back_30 : Nat → Int32 → Int32 → zS → Option (Int32 × zS)
  | 0, _, _, _ => none
  | n + 1, v1, v2, S => if 13 ≤ v2 then (some ((z_w S 87 13 0).1 91 2, (z_w S 87 13 0))) else (if z_in ((13 * v1) + v2) 26 then (if z_in v2 13 then (f_X9_back_30 n v1 (v2 + 1) (z_w S 91 v2.toNatClampNeg (S.1 93 ((13 * v1) + v2).toNatClampNeg))) else none) else none)
set_option maxRecDepth 100000 in
set_option maxHeartbeats 4000000 in
theorem zd_X9_back_30 (V : zV) (d : Nat) : ∀ (n : Nat) (v1 : Int32) (v2 : Int32) (S : zS), z_J zeI V mX9_back (d + 1) (f_X9_back_30 n v1 v2 S) 30 [.ref 87, .int v1, .int v2] [] S := by
  intro n
  induction n with
  | zero =>
    intro v1 v2 S r hr
    cases (show (none : Option (Int32 × zS)) = some r from hr)
  | succ n ih =>
    intro v1 v2 S
    rw [f_X9_back_30]
    refine d_st (fun _ k => zg_iload_n dX9_back_30 rfl (zg_bipush 13 dX9_back_31 (by decide) k)) ?_
    refine d_br (fun _ => zg_icmp_ge 59 dX9_back_33 rfl) (fun c33 => ?_) (fun c33 => ?_)
    · refine d_st (fun _ k => zg_aload_n dX9_back_59 rfl (zg_iconst 0 dX9_back_60 (by decide) (zs_putI dX9_back_61 zf_X9_174 rfl (zq_87 _) (by decide) (by decide) (zg_aload_n dX9_back_64 rfl (zs_getR dX9_back_65 zf_X9_19 rfl (zq_87 _) (by decide) (by decide) zr_87_11 (zg_iconst 2 dX9_back_68 (by decide) (zs_iald (j := 2) dX9_back_69 (by decide) (zq_91 _) (by decide) (by decide) k))))))) ?_
      exact d_retI dX9_back_70 rfl
    · refine d_st (fun _ k => zg_aload_n dX9_back_36 rfl (zs_getR dX9_back_37 zf_X9_19 rfl (zq_87 _) (by decide) (by decide) zr_87_11 (zg_iload_n dX9_back_40 rfl (zg_aload_n dX9_back_41 rfl (zs_getR dX9_back_42 zf_X9_25 rfl (zq_87 _) (by decide) (by decide) zr_87_14 (zg_bipush 13 dX9_back_45 (by decide) (zg_iload_n dX9_back_47 rfl (zg_imul dX9_back_48 (zg_iload_n dX9_back_49 rfl (zg_iadd dX9_back_50 k)))))))))) ?_
      refine d_gd (fun g51 => ?_)
      refine d_st (fun _ k => zs_iald dX9_back_51 (by decide) (zq_93 _) g51 rfl k) ?_
      refine d_gd (fun g52 => ?_)
      refine d_st (fun _ k => zs_iast dX9_back_52 (by decide) (zq_91 _) g52 rfl k) ?_
      refine d_st (fun _ k => zg_iinc (ls' := [_, _, _]) 1 dX9_back_53 rfl (by decide) (Nat.le_of_ble_eq_true rfl) rfl rfl (zg_goto 30 dX9_back_56 rfl k)) ?_
      exact d_fg (z_le_s (z_le_s (z_le_s z_le_n))) (ih _ _ _)
def f_X9_back (a1 : Int32) (S : zS) : Option (Int32 × zS) := (f_X9_in a1 0 1 (z_w S 87 0 0)).bind (fun r8 => if r8.1 = 0 then (some ((-1), r8.2)) else (if z_in a1 2 then (if (r8.2.1 94 a1.toNatClampNeg) = 0 then (some ((-2), r8.2)) else (f_X9_back_30 1000 a1 0 r8.2)) else none))
set_option maxRecDepth 100000 in
set_option maxHeartbeats 4000000 in
theorem zd_X9_back (V : zV) (d : Nat) : ∀ (a1 : Int32) (S : zS), z_J zeI V mX9_back (d + 1) (f_X9_back a1 S) 0 (z_ent mX9_back [.ref 87, .int a1]) [] S := by
  intro a1 S
  show z_J zeI V mX9_back (d + 1) (f_X9_back a1 S) 0 [.ref 87, .int a1, .null] [] S
  unfold f_X9_back
  refine d_st (fun _ k => zg_aload_n dX9_back_0 rfl (zg_iconst 0 dX9_back_1 (by decide) (zs_putI dX9_back_2 zf_X9_80 rfl (zq_87 _) (by decide) (by decide) (zg_iload_n dX9_back_5 rfl (zg_iconst 0 dX9_back_6 (by decide) (zg_iconst 1 dX9_back_7 (by decide) k)))))) ?_
  refine d_cSi (As := [_, _, _]) dX9_back_8 zk_X9_88 rfl rfl (Nat.le_of_ble_eq_true rfl) (Nat.le_of_ble_eq_true rfl) rfl (zd_X9_in V d _ _ _ _) (fun r8 _ => ?_)
  refine d_br (fun _ => zg_if_ne 16 dX9_back_11 rfl) (fun c11 => ?_) (fun c11 => ?_)
  · refine d_st (fun _ k => zg_iconst (-1) dX9_back_14 (by decide) k) ?_
    exact d_retI dX9_back_15 rfl
  · refine d_st (fun _ k => zg_aload_n dX9_back_16 rfl (zs_getR dX9_back_17 zf_X9_28 rfl (zq_87 _) (by decide) (by decide) zr_87_15 (zg_iload_n dX9_back_20 rfl k))) ?_
    refine d_gd (fun g21 => ?_)
    refine d_st (fun _ k => zs_zald dX9_back_21 (by decide) (zq_94 _) g21 rfl k) ?_
    refine d_br (fun _ => zg_if_ne 28 dX9_back_22 rfl) (fun c22 => ?_) (fun c22 => ?_)
    · refine d_st (fun _ k => zg_bipush (-2) dX9_back_25 (by decide) k) ?_
      exact d_retI dX9_back_27 rfl
    · refine d_st (fun _ k => zg_iconst 0 dX9_back_28 (by decide) (zg_istore_n (ls' := [_, _, _]) dX9_back_29 (Nat.le_of_ble_eq_true rfl) rfl rfl k)) ?_
      exact d_fg (z_le_s (z_le_s (z_le_s z_le_n))) (zd_X9_back_30 V d 1000 _ _ _)
def f_X8_count (a1 : Int32) (S : zS) : Option (Int32 × zS) := if a1 = 0 then (if z_isP S.2.1 then (some (S.1 S.2.1 0, S)) else none) else (if a1 = 1 then (if z_isP S.2.1 then (some (S.1 S.2.1 4, S)) else none) else (if a1 = 2 then (if z_isP S.2.1 then (some (S.1 S.2.1 7, S)) else none) else (if a1 = 3 then (if z_isP S.2.1 then (some (S.1 S.2.1 12, S)) else none) else (if a1 = 4 then ((f_J6_bitCount_0f7a4 (S.1 32 0) S).bind (fun r99 => some (r99.1, r99.2))) else (if a1 = 5 then (some (S.1 32 1, S)) else (if a1 = 6 then (some (S.1 32 2, S)) else (if a1 = 7 then ((f_X8_surveyed  S).bind (fun r120 => some (r120.2.1 57 1, r120.2))) else (if a1 = 8 then (some (S.1 75 0, S)) else (if a1 = 9 then (some (S.1 1 1, S)) else (if a1 = 10 then (some (S.1 34 2, S)) else (some ((-1), S))))))))))))
set_option maxRecDepth 100000 in
set_option maxHeartbeats 4000000 in
theorem zd_X8_count (V : zV) (d : Nat) : ∀ (a1 : Int32) (S : zS), z_J zeI V mX8_count (d + 12) (f_X8_count a1 S) 0 (z_ent mX8_count [.ref 1, .int a1]) [] S := by
  intro a1 S
  show z_J zeI V mX8_count (d + 12) (f_X8_count a1 S) 0 [.ref 1, .int a1] [] S
  unfold f_X8_count
  refine d_st (fun _ k => zg_iload_n dX8_count_0 rfl k) ?_
  refine d_if (fun s1_0 => ?_) (fun s1_0 => ?_)
  · refine d_st (fun _ k => zg_tableIn 60 dX8_count_1 (by rw [s1_0]; decide) (by rw [s1_0]; decide) (by rw [s1_0]; rfl) rfl k) ?_
    refine d_st (fun _ k => zg_aload_n dX8_count_60 rfl k) ?_
    refine d_gd (fun g61 => ?_)
    refine d_st (fun _ k => zs_getR dX8_count_61 zf_X8_20 rfl (zq_1 _) (by decide) (by decide) zr_pl k) ?_
    refine d_st (fun _ k => zs_getI dX8_count_64 zf_X8_238 rfl (zp_o g61 _) (by decide) (by decide) k) ?_
    exact d_retI dX8_count_67 rfl
  refine d_if (fun s1_1 => ?_) (fun s1_1 => ?_)
  · refine d_st (fun _ k => zg_tableIn 68 dX8_count_1 (by rw [s1_1]; decide) (by rw [s1_1]; decide) (by rw [s1_1]; rfl) rfl k) ?_
    refine d_st (fun _ k => zg_aload_n dX8_count_68 rfl k) ?_
    refine d_gd (fun g69 => ?_)
    refine d_st (fun _ k => zs_getR dX8_count_69 zf_X8_20 rfl (zq_1 _) (by decide) (by decide) zr_pl k) ?_
    refine d_st (fun _ k => zs_getI dX8_count_72 zf_X8_114 rfl (zp_o g69 _) (by decide) (by decide) k) ?_
    exact d_retI dX8_count_75 rfl
  refine d_if (fun s1_2 => ?_) (fun s1_2 => ?_)
  · refine d_st (fun _ k => zg_tableIn 76 dX8_count_1 (by rw [s1_2]; decide) (by rw [s1_2]; decide) (by rw [s1_2]; rfl) rfl k) ?_
    refine d_st (fun _ k => zg_aload_n dX8_count_76 rfl k) ?_
    refine d_gd (fun g77 => ?_)
    refine d_st (fun _ k => zs_getR dX8_count_77 zf_X8_20 rfl (zq_1 _) (by decide) (by decide) zr_pl k) ?_
    refine d_st (fun _ k => zs_getI dX8_count_80 zf_X8_138 rfl (zp_o g77 _) (by decide) (by decide) k) ?_
    exact d_retI dX8_count_83 rfl
  refine d_if (fun s1_3 => ?_) (fun s1_3 => ?_)
  · refine d_st (fun _ k => zg_tableIn 84 dX8_count_1 (by rw [s1_3]; decide) (by rw [s1_3]; decide) (by rw [s1_3]; rfl) rfl k) ?_
    refine d_st (fun _ k => zg_aload_n dX8_count_84 rfl k) ?_
    refine d_gd (fun g85 => ?_)
    refine d_st (fun _ k => zs_getR dX8_count_85 zf_X8_20 rfl (zq_1 _) (by decide) (by decide) zr_pl k) ?_
    refine d_st (fun _ k => zs_getI dX8_count_88 zf_X8_241 rfl (zp_o g85 _) (by decide) (by decide) k) ?_
    exact d_retI dX8_count_91 rfl
  refine d_if (fun s1_4 => ?_) (fun s1_4 => ?_)
  · refine d_st (fun _ k => zg_tableIn 92 dX8_count_1 (by rw [s1_4]; decide) (by rw [s1_4]; decide) (by rw [s1_4]; rfl) rfl k) ?_
    refine d_st (fun _ k => zg_aload_n dX8_count_92 rfl (zs_getR dX8_count_93 zf_X8_37 rfl (zq_1 _) (by decide) (by decide) zr_1_5 (zs_getI dX8_count_96 zf_X8_104 rfl (zq_32 _) (by decide) (by decide) k))) ?_
    refine d_cSi (As := [_]) dX8_count_99 zk_X8_147 rfl rfl (Nat.le_of_ble_eq_true rfl) (Nat.le_of_ble_eq_true rfl) rfl (zd_J6_bitCount_0f7a4 V (d + 11) _ _) (fun r99 _ => ?_)
    exact d_retI dX8_count_102 rfl
  refine d_if (fun s1_5 => ?_) (fun s1_5 => ?_)
  · refine d_st (fun _ k => zg_tableIn 103 dX8_count_1 (by rw [s1_5]; decide) (by rw [s1_5]; decide) (by rw [s1_5]; rfl) rfl k) ?_
    refine d_st (fun _ k => zg_aload_n dX8_count_103 rfl (zs_getR dX8_count_104 zf_X8_37 rfl (zq_1 _) (by decide) (by decide) zr_1_5 (zs_getI dX8_count_107 zf_X8_155 rfl (zq_32 _) (by decide) (by decide) k))) ?_
    exact d_retI dX8_count_110 rfl
  refine d_if (fun s1_6 => ?_) (fun s1_6 => ?_)
  · refine d_st (fun _ k => zg_tableIn 111 dX8_count_1 (by rw [s1_6]; decide) (by rw [s1_6]; decide) (by rw [s1_6]; rfl) rfl k) ?_
    refine d_st (fun _ k => zg_aload_n dX8_count_111 rfl (zs_getR dX8_count_112 zf_X8_37 rfl (zq_1 _) (by decide) (by decide) zr_1_5 (zs_getI dX8_count_115 zf_X8_161 rfl (zq_32 _) (by decide) (by decide) k))) ?_
    exact d_retI dX8_count_118 rfl
  refine d_if (fun s1_7 => ?_) (fun s1_7 => ?_)
  · refine d_st (fun _ k => zg_tableIn 119 dX8_count_1 (by rw [s1_7]; decide) (by rw [s1_7]; decide) (by rw [s1_7]; rfl) rfl k) ?_
    refine d_st (fun _ k => zg_aload_n dX8_count_119 rfl k) ?_
    refine d_cVs (As := []) dX8_count_120 zk_X8_127 (zq_1 _) (by decide) ⟨_, _, rfl⟩ rfl rfl (Nat.le_of_ble_eq_true rfl) (Nat.le_of_ble_eq_true rfl) rfl (zd_X8_surveyed V d _) (fun r120 _ => ?_)
    refine d_st (fun _ k => zs_getI dX8_count_123 zf_X8_244 rfl (zq_57 _) (by decide) (by decide) k) ?_
    exact d_retI dX8_count_126 rfl
  refine d_if (fun s1_8 => ?_) (fun s1_8 => ?_)
  · refine d_st (fun _ k => zg_tableIn 127 dX8_count_1 (by rw [s1_8]; decide) (by rw [s1_8]; decide) (by rw [s1_8]; rfl) rfl k) ?_
    refine d_st (fun _ k => zg_aload_n dX8_count_127 rfl (zs_getR dX8_count_128 zf_X8_72 rfl (zq_1 _) (by decide) (by decide) zr_1_11 (zs_getI dX8_count_131 zf_X8_226 rfl (zq_75 _) (by decide) (by decide) k))) ?_
    exact d_retI dX8_count_134 rfl
  refine d_if (fun s1_9 => ?_) (fun s1_9 => ?_)
  · refine d_st (fun _ k => zg_tableIn 135 dX8_count_1 (by rw [s1_9]; decide) (by rw [s1_9]; decide) (by rw [s1_9]; rfl) rfl k) ?_
    refine d_st (fun _ k => zg_aload_n dX8_count_135 rfl (zs_getI dX8_count_136 zf_X8_13 rfl (zq_1 _) (by decide) (by decide) k)) ?_
    exact d_retI dX8_count_139 rfl
  refine d_if (fun s1_10 => ?_) (fun s1_10 => ?_)
  · refine d_st (fun _ k => zg_tableIn 140 dX8_count_1 (by rw [s1_10]; decide) (by rw [s1_10]; decide) (by rw [s1_10]; rfl) rfl k) ?_
    refine d_st (fun _ k => zg_aload_n dX8_count_140 rfl (zs_getR dX8_count_141 zf_X8_44 rfl (zq_1 _) (by decide) (by decide) zr_1_6 (zs_getI dX8_count_144 zf_X8_189 rfl (zq_34 _) (by decide) (by decide) k))) ?_
    exact d_retI dX8_count_147 rfl
  refine d_st (fun _ k => zg_tableOut 148 dX8_count_1 (z_tb10 s1_0 s1_1 s1_2 s1_3 s1_4 s1_5 s1_6 s1_7 s1_8 s1_9 s1_10) rfl k) ?_
  refine d_st (fun _ k => zg_iconst (-1) dX8_count_148 (by decide) k) ?_
  exact d_retI dX8_count_149 rfl
def f_X9_count (a1 : Int32) (S : zS) : Option (Int32 × zS) := (f_X9_in a1 0 10 (z_w S 87 0 0)).bind (fun r9 => if r9.1 = 0 then (some ((-1), r9.2)) else (if 4 ≤ a1 then (if 7 ≤ a1 then ((f_X9_pieces  r9.2).bind (fun r74 => if a1 = 7 then (some (r74.2.1 87 23, r74.2)) else (if a1 = 8 then (some (r74.2.1 87 19, r74.2)) else (if a1 = 9 then (some (r74.2.1 87 2, r74.2)) else (some (r74.2.1 87 13, r74.2)))))) else (if a1 = 4 then ((f_X9_ones (r9.2.1 91 0) r9.2).bind (fun r46 => some (r46.1, r46.2))) else (if a1 = 5 then (some (r9.2.1 91 1, r9.2)) else (some (r9.2.1 91 2, r9.2))))) else (if z_in a1 74 then (some (r9.2.1 89 a1.toNatClampNeg, r9.2)) else none)))
set_option maxRecDepth 100000 in
set_option maxHeartbeats 4000000 in
theorem zd_X9_count (V : zV) (d : Nat) : ∀ (a1 : Int32) (S : zS), z_J zeI V mX9_count (d + 3) (f_X9_count a1 S) 0 (z_ent mX9_count [.ref 87, .int a1]) [] S := by
  intro a1 S
  show z_J zeI V mX9_count (d + 3) (f_X9_count a1 S) 0 [.ref 87, .int a1] [] S
  unfold f_X9_count
  refine d_st (fun _ k => zg_aload_n dX9_count_0 rfl (zg_iconst 0 dX9_count_1 (by decide) (zs_putI dX9_count_2 zf_X9_80 rfl (zq_87 _) (by decide) (by decide) (zg_iload_n dX9_count_5 rfl (zg_iconst 0 dX9_count_6 (by decide) (zg_bipush 10 dX9_count_7 (by decide) k)))))) ?_
  refine d_cSi (As := [_, _, _]) dX9_count_9 zk_X9_88 rfl rfl (Nat.le_of_ble_eq_true rfl) (Nat.le_of_ble_eq_true rfl) rfl (zd_X9_in V (d + 2) _ _ _ _) (fun r9 _ => ?_)
  refine d_br (fun _ => zg_if_ne 17 dX9_count_12 rfl) (fun c12 => ?_) (fun c12 => ?_)
  · refine d_st (fun _ k => zg_iconst (-1) dX9_count_15 (by decide) k) ?_
    exact d_retI dX9_count_16 rfl
  · refine d_st (fun _ k => zg_iload_n dX9_count_17 rfl (zg_iconst 4 dX9_count_18 (by decide) k)) ?_
    refine d_br (fun _ => zg_icmp_ge 29 dX9_count_19 rfl) (fun c19 => ?_) (fun c19 => ?_)
    · refine d_st (fun _ k => zg_iload_n dX9_count_29 rfl (zg_bipush 7 dX9_count_30 (by decide) k)) ?_
      refine d_br (fun _ => zg_icmp_ge 73 dX9_count_32 rfl) (fun c32 => ?_) (fun c32 => ?_)
      · refine d_st (fun _ k => zg_aload_n dX9_count_73 rfl k) ?_
        refine d_cVv (As := []) dX9_count_74 zk_X9_201 (zq_87 _) (by decide) ⟨_, _, rfl⟩ rfl rfl (Nat.le_of_ble_eq_true rfl) (Nat.le_of_ble_eq_true rfl) rfl (zd_X9_pieces V d _) (fun r74 _ => ?_)
        refine d_st (fun _ k => zg_iload_n dX9_count_77 rfl (zg_bipush 7 dX9_count_78 (by decide) k)) ?_
        refine d_br (fun _ => zg_icmp_ne 90 dX9_count_80 rfl) (fun c80 => ?_) (fun c80 => ?_)
        · refine d_st (fun _ k => zg_aload_n dX9_count_83 rfl (zs_getI dX9_count_84 zf_X9_198 rfl (zq_87 _) (by decide) (by decide) (zg_goto 120 dX9_count_87 rfl k))) ?_
          exact d_retI dX9_count_120 rfl
        · refine d_st (fun _ k => zg_iload_n dX9_count_90 rfl (zg_bipush 8 dX9_count_91 (by decide) k)) ?_
          refine d_br (fun _ => zg_icmp_ne 103 dX9_count_93 rfl) (fun c93 => ?_) (fun c93 => ?_)
          · refine d_st (fun _ k => zg_aload_n dX9_count_96 rfl (zs_getI dX9_count_97 zf_X9_171 rfl (zq_87 _) (by decide) (by decide) (zg_goto 120 dX9_count_100 rfl k))) ?_
            exact d_retI dX9_count_120 rfl
          · refine d_st (fun _ k => zg_iload_n dX9_count_103 rfl (zg_bipush 9 dX9_count_104 (by decide) k)) ?_
            refine d_br (fun _ => zg_icmp_ne 116 dX9_count_106 rfl) (fun c106 => ?_) (fun c106 => ?_)
            · refine d_st (fun _ k => zg_aload_n dX9_count_109 rfl (zs_getI dX9_count_110 zf_X9_92 rfl (zq_87 _) (by decide) (by decide) (zg_goto 120 dX9_count_113 rfl k))) ?_
              exact d_retI dX9_count_120 rfl
            · refine d_st (fun _ k => zg_aload_n dX9_count_116 rfl (zs_getI dX9_count_117 zf_X9_174 rfl (zq_87 _) (by decide) (by decide) k)) ?_
              exact d_retI dX9_count_120 rfl
      · refine d_st (fun _ k => zg_iload_n dX9_count_35 rfl (zg_iconst 4 dX9_count_36 (by decide) k)) ?_
        refine d_br (fun _ => zg_icmp_ne 52 dX9_count_37 rfl) (fun c37 => ?_) (fun c37 => ?_)
        · refine d_st (fun _ k => zg_aload_n dX9_count_40 rfl (zs_getR dX9_count_41 zf_X9_19 rfl (zq_87 _) (by decide) (by decide) zr_87_11 (zg_iconst 0 dX9_count_44 (by decide) (zs_iald (j := 0) dX9_count_45 (by decide) (zq_91 _) (by decide) (by decide) k)))) ?_
          refine d_cSi (As := [_]) dX9_count_46 zk_X9_213 rfl rfl (Nat.le_of_ble_eq_true rfl) (Nat.le_of_ble_eq_true rfl) rfl (zd_X9_ones V (d + 2) _ _) (fun r46 _ => ?_)
          refine d_st (fun _ k => zg_goto 72 dX9_count_49 rfl k) ?_
          exact d_retI dX9_count_72 rfl
        · refine d_st (fun _ k => zg_iload_n dX9_count_52 rfl (zg_iconst 5 dX9_count_53 (by decide) k)) ?_
          refine d_br (fun _ => zg_icmp_ne 66 dX9_count_54 rfl) (fun c54 => ?_) (fun c54 => ?_)
          · refine d_st (fun _ k => zg_aload_n dX9_count_57 rfl (zs_getR dX9_count_58 zf_X9_19 rfl (zq_87 _) (by decide) (by decide) zr_87_11 (zg_iconst 1 dX9_count_61 (by decide) (zs_iald (j := 1) dX9_count_62 (by decide) (zq_91 _) (by decide) (by decide) (zg_goto 72 dX9_count_63 rfl k))))) ?_
            exact d_retI dX9_count_72 rfl
          · refine d_st (fun _ k => zg_aload_n dX9_count_66 rfl (zs_getR dX9_count_67 zf_X9_19 rfl (zq_87 _) (by decide) (by decide) zr_87_11 (zg_iconst 2 dX9_count_70 (by decide) (zs_iald (j := 2) dX9_count_71 (by decide) (zq_91 _) (by decide) (by decide) k)))) ?_
            exact d_retI dX9_count_72 rfl
    · refine d_st (fun _ k => zg_aload_n dX9_count_22 rfl (zs_getR dX9_count_23 zf_X9_13 rfl (zq_87 _) (by decide) (by decide) zr_87_9 (zg_iload_n dX9_count_26 rfl k))) ?_
      refine d_gd (fun g27 => ?_)
      refine d_st (fun _ k => zs_iald dX9_count_27 (by decide) (zq_89 _) g27 rfl k) ?_
      exact d_retI dX9_count_28 rfl
abbrev mL_law : zM := (yL_law, cL_law, 4, some .boolean)
def f_L_law_18 (sL : Nat) (sx : Nat → Int32) : Nat → Int32 → zS → Option (Int32 × zS)
  | 0, _, _ => none
  | n + 1, v3, S => if ((Int32.ofNat sL) - 4) < v3 then (some (1, S)) else (if z_in v3 sL then (if ((sx v3.toNatClampNeg) &&& 31) = 0 then (if z_in (v3 + 1) sL then ((f_X8_type (sx (v3 + 1).toNatClampNeg) S).bind (fun r138 => if z_in (v3 + 1) sL then ((f_X9_type (sx (v3 + 1).toNatClampNeg) r138.2).bind (fun r147 => if r138.1 = r147.1 then (f_L_law_18 sL sx n (v3 + 4) r147.2) else (some (0, r147.2)))) else none)) else none) else (if ((sx v3.toNatClampNeg) &&& 31) = 1 then ((f_X8_clear  S).bind (fun r156 => (f_X9_clear  r156.2).bind (fun r160 => if r156.1 = r160.1 then (f_L_law_18 sL sx n (v3 + 4) r160.2) else (some (0, r160.2))))) else (if ((sx v3.toNatClampNeg) &&& 31) = 2 then ((f_X8_plate  S).bind (fun r169 => (f_X9_plate  r169.2).bind (fun r173 => if r169.1 = r173.1 then (f_L_law_18 sL sx n (v3 + 4) r173.2) else (some (0, r173.2))))) else (if ((sx v3.toNatClampNeg) &&& 31) = 3 then (if z_in (v3 + 1) sL then (if z_in (v3 + 2) sL then ((f_X8_corner (sx (v3 + 1).toNatClampNeg) (sx (v3 + 2).toNatClampNeg) S).bind (fun r192 => if z_in (v3 + 1) sL then (if z_in (v3 + 2) sL then ((f_X9_corner (sx (v3 + 1).toNatClampNeg) (sx (v3 + 2).toNatClampNeg) r192.2).bind (fun r206 => if r192.1 = r206.1 then (f_L_law_18 sL sx n (v3 + 4) r206.2) else (some (0, r206.2)))) else none) else none)) else none) else none) else (if ((sx v3.toNatClampNeg) &&& 31) = 4 then (if z_in (v3 + 1) sL then (if z_in (v3 + 2) sL then ((f_X8_cut (sx (v3 + 1).toNatClampNeg) (sx (v3 + 2).toNatClampNeg) S).bind (fun r225 => if z_in (v3 + 1) sL then (if z_in (v3 + 2) sL then ((f_X9_cut (sx (v3 + 1).toNatClampNeg) (sx (v3 + 2).toNatClampNeg) r225.2).bind (fun r239 => if r225.1 = r239.1 then (f_L_law_18 sL sx n (v3 + 4) r239.2) else (some (0, r239.2)))) else none) else none)) else none) else none) else (if ((sx v3.toNatClampNeg) &&& 31) = 5 then (if z_in (v3 + 1) sL then (if z_in (v3 + 2) sL then ((f_X8_part (sx (v3 + 1).toNatClampNeg) (sx (v3 + 2).toNatClampNeg) S).bind (fun r258 => if z_in (v3 + 1) sL then (if z_in (v3 + 2) sL then ((f_X9_part (sx (v3 + 1).toNatClampNeg) (sx (v3 + 2).toNatClampNeg) r258.2).bind (fun r272 => if r258.1 = r272.1 then (f_L_law_18 sL sx n (v3 + 4) r272.2) else (some (0, r272.2)))) else none) else none)) else none) else none) else (if ((sx v3.toNatClampNeg) &&& 31) = 6 then (if z_in (v3 + 1) sL then ((f_X8_burns (sx (v3 + 1).toNatClampNeg) S).bind (fun r286 => if z_in (v3 + 1) sL then ((f_X9_burns (sx (v3 + 1).toNatClampNeg) r286.2).bind (fun r295 => if r286.1 = r295.1 then (f_L_law_18 sL sx n (v3 + 4) r295.2) else (some (0, r295.2)))) else none)) else none) else (if ((sx v3.toNatClampNeg) &&& 31) = 7 then (if z_in (v3 + 1) sL then ((f_X8_moves (sx (v3 + 1).toNatClampNeg) S).bind (fun r309 => if z_in (v3 + 1) sL then ((f_X9_moves (sx (v3 + 1).toNatClampNeg) r309.2).bind (fun r318 => if r309.1 = r318.1 then (f_L_law_18 sL sx n (v3 + 4) r318.2) else (some (0, r318.2)))) else none)) else none) else (if ((sx v3.toNatClampNeg) &&& 31) = 8 then ((f_X8_follows  S).bind (fun r327 => (f_X9_follows  r327.2).bind (fun r331 => if r327.1 = r331.1 then (f_L_law_18 sL sx n (v3 + 4) r331.2) else (some (0, r331.2))))) else (if ((sx v3.toNatClampNeg) &&& 31) = 9 then ((f_X8_undo  S).bind (fun r340 => (f_X9_undo  r340.2).bind (fun r344 => if r340.1 = r344.1 then (f_L_law_18 sL sx n (v3 + 4) r344.2) else (some (0, r344.2))))) else (if ((sx v3.toNatClampNeg) &&& 31) = 10 then (if z_in (v3 + 1) sL then (if z_in (v3 + 2) sL then ((f_X8_piece (sx (v3 + 1).toNatClampNeg) (sx (v3 + 2).toNatClampNeg) S).bind (fun r363 => if z_in (v3 + 1) sL then (if z_in (v3 + 2) sL then ((f_X9_piece (sx (v3 + 1).toNatClampNeg) (sx (v3 + 2).toNatClampNeg) r363.2).bind (fun r377 => if r363.1 = r377.1 then (f_L_law_18 sL sx n (v3 + 4) r377.2) else (some (0, r377.2)))) else none) else none)) else none) else none) else (if ((sx v3.toNatClampNeg) &&& 31) = 11 then (if z_in (v3 + 1) sL then ((f_X8_link (sx (v3 + 1).toNatClampNeg) S).bind (fun r391 => if z_in (v3 + 1) sL then ((f_X9_link (sx (v3 + 1).toNatClampNeg) r391.2).bind (fun r400 => if r391.1 = r400.1 then (f_L_law_18 sL sx n (v3 + 4) r400.2) else (some (0, r400.2)))) else none)) else none) else (if ((sx v3.toNatClampNeg) &&& 31) = 12 then (if z_in (v3 + 1) sL then (if z_in (v3 + 2) sL then (if z_in (v3 + 3) sL then ((f_X8_round (sx (v3 + 1).toNatClampNeg) (sx (v3 + 2).toNatClampNeg) (sx (v3 + 3).toNatClampNeg) S).bind (fun r424 => if z_in (v3 + 1) sL then (if z_in (v3 + 2) sL then (if z_in (v3 + 3) sL then ((f_X9_round (sx (v3 + 1).toNatClampNeg) (sx (v3 + 2).toNatClampNeg) (sx (v3 + 3).toNatClampNeg) r424.2).bind (fun r443 => if r424.1 = r443.1 then (f_L_law_18 sL sx n (v3 + 4) r443.2) else (some (0, r443.2)))) else none) else none) else none)) else none) else none) else none) else (if ((sx v3.toNatClampNeg) &&& 31) = 13 then (if z_in (v3 + 1) sL then ((f_X8_tour (sx (v3 + 1).toNatClampNeg) S).bind (fun r457 => if z_in (v3 + 1) sL then ((f_X9_tour (sx (v3 + 1).toNatClampNeg) r457.2).bind (fun r466 => if r457.1 = r466.1 then (f_L_law_18 sL sx n (v3 + 4) r466.2) else (some (0, r466.2)))) else none)) else none) else (if ((sx v3.toNatClampNeg) &&& 31) = 14 then (if z_in (v3 + 1) sL then (if z_in (v3 + 2) sL then (if z_in (v3 + 3) sL then ((f_X8_sees (sx (v3 + 1).toNatClampNeg) (sx (v3 + 2).toNatClampNeg) (sx (v3 + 3).toNatClampNeg) S).bind (fun r490 => if z_in (v3 + 1) sL then (if z_in (v3 + 2) sL then (if z_in (v3 + 3) sL then ((f_X9_sees (sx (v3 + 1).toNatClampNeg) (sx (v3 + 2).toNatClampNeg) (sx (v3 + 3).toNatClampNeg) r490.2).bind (fun r509 => if r490.1 = r509.1 then (f_L_law_18 sL sx n (v3 + 4) r509.2) else (some (0, r509.2)))) else none) else none) else none)) else none) else none) else none) else (if ((sx v3.toNatClampNeg) &&& 31) = 15 then ((f_X8_forget  S).bind (fun r518 => (f_X9_forget  r518.2).bind (fun r522 => if r518.1 = r522.1 then (f_L_law_18 sL sx n (v3 + 4) r522.2) else (some (0, r522.2))))) else (if ((sx v3.toNatClampNeg) &&& 31) = 16 then ((f_X8_unseen  S).bind (fun r531 => (f_X9_unseen  r531.2).bind (fun r535 => if r531.1 = r535.1 then (f_L_law_18 sL sx n (v3 + 4) r535.2) else (some (0, r535.2))))) else (if ((sx v3.toNatClampNeg) &&& 31) = 17 then ((f_X8_ask  S).bind (fun r544 => (f_X9_ask  r544.2).bind (fun r548 => if r544.1 = r548.1 then (f_L_law_18 sL sx n (v3 + 4) r548.2) else (some (0, r548.2))))) else (if ((sx v3.toNatClampNeg) &&& 31) = 18 then (if z_in (v3 + 1) sL then ((f_X8_keep (sx (v3 + 1).toNatClampNeg) S).bind (fun r562 => if z_in (v3 + 1) sL then ((f_X9_keep (sx (v3 + 1).toNatClampNeg) r562.2).bind (fun r571 => if r562.1 = r571.1 then (f_L_law_18 sL sx n (v3 + 4) r571.2) else (some (0, r571.2)))) else none)) else none) else (if ((sx v3.toNatClampNeg) &&& 31) = 19 then (if z_in (v3 + 1) sL then ((f_X8_back (sx (v3 + 1).toNatClampNeg) S).bind (fun r585 => if z_in (v3 + 1) sL then ((f_X9_back (sx (v3 + 1).toNatClampNeg) r585.2).bind (fun r594 => if r585.1 = r594.1 then (f_L_law_18 sL sx n (v3 + 4) r594.2) else (some (0, r594.2)))) else none)) else none) else (if ((sx v3.toNatClampNeg) &&& 31) = 20 then (if z_in (v3 + 1) sL then ((f_X8_count (sx (v3 + 1).toNatClampNeg) S).bind (fun r608 => if z_in (v3 + 1) sL then ((f_X9_count (sx (v3 + 1).toNatClampNeg) r608.2).bind (fun r617 => if r608.1 = r617.1 then (f_L_law_18 sL sx n (v3 + 4) r617.2) else (some (0, r617.2)))) else none)) else none) else (f_L_law_18 sL sx n (v3 + 4) S)))))))))))))))))))))) else none)
set_option maxRecDepth 100000 in
set_option maxHeartbeats 4000000 in
theorem zd_L_law_18 (V : zV) (d : Nat) : ∀ (n : Nat) (v3 : Int32) (S : zS), z_J zeI V mL_law (d + 13) (f_L_law_18 V.2.2.2.2.1 V.2.2.2.2.2 n v3 S) 18 [.ref 0, .ref 1, .ref 87, .int v3] [] S := by
  intro n
  induction n with
  | zero =>
    intro v3 S r hr
    cases (show (none : Option (Int32 × zS)) = some r from hr)
  | succ n ih =>
    intro v3 S
    rw [f_L_law_18]
    refine d_st (fun _ k => zg_iload_n dL_law_18 rfl (zg_aload_n dL_law_19 rfl (zg_slen dL_law_20 (zg_iconst 4 dL_law_21 (by decide) (zg_isub dL_law_22 k))))) ?_
    refine d_br (fun _ => zg_icmp_gt 631 dL_law_23 rfl) (fun c23 => ?_) (fun c23 => ?_)
    · refine d_st (fun _ k => zg_iconst 1 dL_law_631 (by decide) k) ?_
      exact d_retZ dL_law_632 rfl (by decide)
    · refine d_st (fun _ k => zg_aload_n dL_law_26 rfl (zg_iload_n dL_law_27 rfl k)) ?_
      refine d_gd (fun g28 => ?_)
      refine d_st (fun _ k => zs_sld dL_law_28 g28 rfl k) ?_
      refine d_st (fun _ k => zg_bipush 31 dL_law_29 (by decide) (zg_iand dL_law_31 k)) ?_
      refine d_if (fun s32_0 => ?_) (fun s32_0 => ?_)
      · refine d_st (fun _ k => zg_tableIn 132 dL_law_32 (by rw [s32_0]; decide) (by rw [s32_0]; decide) (by rw [s32_0]; rfl) rfl k) ?_
        refine d_st (fun _ k => zg_aload_n dL_law_132 rfl (zg_aload_n dL_law_133 rfl (zg_iload_n dL_law_134 rfl (zg_iconst 1 dL_law_135 (by decide) (zg_iadd dL_law_136 k))))) ?_
        refine d_gd (fun g137 => ?_)
        refine d_st (fun _ k => zs_sld dL_law_137 g137 rfl k) ?_
        refine d_cVi (As := [_]) dL_law_138 zk_L_13 (zq_1 _) (by decide) ⟨_, _, rfl⟩ rfl rfl (Nat.le_of_ble_eq_true rfl) (Nat.le_of_ble_eq_true rfl) rfl (zd_X8_type V (d + 12) _ _) (fun r138 _ => ?_)
        refine d_st (fun _ k => zg_aload_n dL_law_141 rfl (zg_aload_n dL_law_142 rfl (zg_iload_n dL_law_143 rfl (zg_iconst 1 dL_law_144 (by decide) (zg_iadd dL_law_145 k))))) ?_
        refine d_gd (fun g146 => ?_)
        refine d_st (fun _ k => zs_sld dL_law_146 g146 rfl k) ?_
        refine d_cVi (As := [_]) dL_law_147 zk_L_17 (zq_87 _) (by decide) ⟨_, _, rfl⟩ rfl rfl (Nat.le_of_ble_eq_true rfl) (Nat.le_of_ble_eq_true rfl) rfl (zd_X9_type V (d + 11) _ _) (fun r147 _ => ?_)
        refine d_br (fun _ => zg_icmp_eq 625 dL_law_150 rfl) (fun c150 => ?_) (fun c150 => ?_)
        · refine d_st (fun _ k => zg_iinc (ls' := [_, _, _, _]) 4 dL_law_625 rfl (by decide) (Nat.le_of_ble_eq_true rfl) rfl rfl (zg_goto 18 dL_law_628 rfl k)) ?_
          exact d_fg (z_le_s (z_le_s (z_le_s (z_le_s z_le_n)))) (ih _ _)
        · refine d_st (fun _ k => zg_iconst 0 dL_law_153 (by decide) k) ?_
          exact d_retZ dL_law_154 rfl (by decide)
      refine d_if (fun s32_1 => ?_) (fun s32_1 => ?_)
      · refine d_st (fun _ k => zg_tableIn 155 dL_law_32 (by rw [s32_1]; decide) (by rw [s32_1]; decide) (by rw [s32_1]; rfl) rfl k) ?_
        refine d_st (fun _ k => zg_aload_n dL_law_155 rfl k) ?_
        refine d_cVi (As := []) dL_law_156 zk_L_18 (zq_1 _) (by decide) ⟨_, _, rfl⟩ rfl rfl (Nat.le_of_ble_eq_true rfl) (Nat.le_of_ble_eq_true rfl) rfl (zd_X8_clear V (d + 12) _) (fun r156 _ => ?_)
        refine d_st (fun _ k => zg_aload_n dL_law_159 rfl k) ?_
        refine d_cVi (As := []) dL_law_160 zk_L_22 (zq_87 _) (by decide) ⟨_, _, rfl⟩ rfl rfl (Nat.le_of_ble_eq_true rfl) (Nat.le_of_ble_eq_true rfl) rfl (zd_X9_clear V (d + 12) _) (fun r160 _ => ?_)
        refine d_br (fun _ => zg_icmp_eq 625 dL_law_163 rfl) (fun c163 => ?_) (fun c163 => ?_)
        · refine d_st (fun _ k => zg_iinc (ls' := [_, _, _, _]) 4 dL_law_625 rfl (by decide) (Nat.le_of_ble_eq_true rfl) rfl rfl (zg_goto 18 dL_law_628 rfl k)) ?_
          exact d_fg (z_le_s (z_le_s (z_le_s (z_le_s z_le_n)))) (ih _ _)
        · refine d_st (fun _ k => zg_iconst 0 dL_law_166 (by decide) k) ?_
          exact d_retZ dL_law_167 rfl (by decide)
      refine d_if (fun s32_2 => ?_) (fun s32_2 => ?_)
      · refine d_st (fun _ k => zg_tableIn 168 dL_law_32 (by rw [s32_2]; decide) (by rw [s32_2]; decide) (by rw [s32_2]; rfl) rfl k) ?_
        refine d_st (fun _ k => zg_aload_n dL_law_168 rfl k) ?_
        refine d_cVi (As := []) dL_law_169 zk_L_23 (zq_1 _) (by decide) ⟨_, _, rfl⟩ rfl rfl (Nat.le_of_ble_eq_true rfl) (Nat.le_of_ble_eq_true rfl) rfl (zd_X8_plate V (d + 6) _) (fun r169 _ => ?_)
        refine d_st (fun _ k => zg_aload_n dL_law_172 rfl k) ?_
        refine d_cVi (As := []) dL_law_173 zk_L_26 (zq_87 _) (by decide) ⟨_, _, rfl⟩ rfl rfl (Nat.le_of_ble_eq_true rfl) (Nat.le_of_ble_eq_true rfl) rfl (zd_X9_plate V (d + 7) _) (fun r173 _ => ?_)
        refine d_br (fun _ => zg_icmp_eq 625 dL_law_176 rfl) (fun c176 => ?_) (fun c176 => ?_)
        · refine d_st (fun _ k => zg_iinc (ls' := [_, _, _, _]) 4 dL_law_625 rfl (by decide) (Nat.le_of_ble_eq_true rfl) rfl rfl (zg_goto 18 dL_law_628 rfl k)) ?_
          exact d_fg (z_le_s (z_le_s (z_le_s (z_le_s z_le_n)))) (ih _ _)
        · refine d_st (fun _ k => zg_iconst 0 dL_law_179 (by decide) k) ?_
          exact d_retZ dL_law_180 rfl (by decide)
      refine d_if (fun s32_3 => ?_) (fun s32_3 => ?_)
      · refine d_st (fun _ k => zg_tableIn 181 dL_law_32 (by rw [s32_3]; decide) (by rw [s32_3]; decide) (by rw [s32_3]; rfl) rfl k) ?_
        refine d_st (fun _ k => zg_aload_n dL_law_181 rfl (zg_aload_n dL_law_182 rfl (zg_iload_n dL_law_183 rfl (zg_iconst 1 dL_law_184 (by decide) (zg_iadd dL_law_185 k))))) ?_
        refine d_gd (fun g186 => ?_)
        refine d_st (fun _ k => zs_sld dL_law_186 g186 rfl k) ?_
        refine d_st (fun _ k => zg_aload_n dL_law_187 rfl (zg_iload_n dL_law_188 rfl (zg_iconst 2 dL_law_189 (by decide) (zg_iadd dL_law_190 k)))) ?_
        refine d_gd (fun g191 => ?_)
        refine d_st (fun _ k => zs_sld dL_law_191 g191 rfl k) ?_
        refine d_cVi (As := [_, _]) dL_law_192 zk_L_27 (zq_1 _) (by decide) ⟨_, _, rfl⟩ rfl rfl (Nat.le_of_ble_eq_true rfl) (Nat.le_of_ble_eq_true rfl) rfl (zd_X8_corner V (d + 10) _ _ _) (fun r192 _ => ?_)
        refine d_st (fun _ k => zg_aload_n dL_law_195 rfl (zg_aload_n dL_law_196 rfl (zg_iload_n dL_law_197 rfl (zg_iconst 1 dL_law_198 (by decide) (zg_iadd dL_law_199 k))))) ?_
        refine d_gd (fun g200 => ?_)
        refine d_st (fun _ k => zs_sld dL_law_200 g200 rfl k) ?_
        refine d_st (fun _ k => zg_aload_n dL_law_201 rfl (zg_iload_n dL_law_202 rfl (zg_iconst 2 dL_law_203 (by decide) (zg_iadd dL_law_204 k)))) ?_
        refine d_gd (fun g205 => ?_)
        refine d_st (fun _ k => zs_sld dL_law_205 g205 rfl k) ?_
        refine d_cVi (As := [_, _]) dL_law_206 zk_L_31 (zq_87 _) (by decide) ⟨_, _, rfl⟩ rfl rfl (Nat.le_of_ble_eq_true rfl) (Nat.le_of_ble_eq_true rfl) rfl (zd_X9_corner V (d + 10) _ _ _) (fun r206 _ => ?_)
        refine d_br (fun _ => zg_icmp_eq 625 dL_law_209 rfl) (fun c209 => ?_) (fun c209 => ?_)
        · refine d_st (fun _ k => zg_iinc (ls' := [_, _, _, _]) 4 dL_law_625 rfl (by decide) (Nat.le_of_ble_eq_true rfl) rfl rfl (zg_goto 18 dL_law_628 rfl k)) ?_
          exact d_fg (z_le_s (z_le_s (z_le_s (z_le_s z_le_n)))) (ih _ _)
        · refine d_st (fun _ k => zg_iconst 0 dL_law_212 (by decide) k) ?_
          exact d_retZ dL_law_213 rfl (by decide)
      refine d_if (fun s32_4 => ?_) (fun s32_4 => ?_)
      · refine d_st (fun _ k => zg_tableIn 214 dL_law_32 (by rw [s32_4]; decide) (by rw [s32_4]; decide) (by rw [s32_4]; rfl) rfl k) ?_
        refine d_st (fun _ k => zg_aload_n dL_law_214 rfl (zg_aload_n dL_law_215 rfl (zg_iload_n dL_law_216 rfl (zg_iconst 1 dL_law_217 (by decide) (zg_iadd dL_law_218 k))))) ?_
        refine d_gd (fun g219 => ?_)
        refine d_st (fun _ k => zs_sld dL_law_219 g219 rfl k) ?_
        refine d_st (fun _ k => zg_aload_n dL_law_220 rfl (zg_iload_n dL_law_221 rfl (zg_iconst 2 dL_law_222 (by decide) (zg_iadd dL_law_223 k)))) ?_
        refine d_gd (fun g224 => ?_)
        refine d_st (fun _ k => zs_sld dL_law_224 g224 rfl k) ?_
        refine d_cVi (As := [_, _]) dL_law_225 zk_L_32 (zq_1 _) (by decide) ⟨_, _, rfl⟩ rfl rfl (Nat.le_of_ble_eq_true rfl) (Nat.le_of_ble_eq_true rfl) rfl (zd_X8_cut V d _ _ _) (fun r225 _ => ?_)
        refine d_st (fun _ k => zg_aload_n dL_law_228 rfl (zg_aload_n dL_law_229 rfl (zg_iload_n dL_law_230 rfl (zg_iconst 1 dL_law_231 (by decide) (zg_iadd dL_law_232 k))))) ?_
        refine d_gd (fun g233 => ?_)
        refine d_st (fun _ k => zs_sld dL_law_233 g233 rfl k) ?_
        refine d_st (fun _ k => zg_aload_n dL_law_234 rfl (zg_iload_n dL_law_235 rfl (zg_iconst 2 dL_law_236 (by decide) (zg_iadd dL_law_237 k)))) ?_
        refine d_gd (fun g238 => ?_)
        refine d_st (fun _ k => zs_sld dL_law_238 g238 rfl k) ?_
        refine d_cVi (As := [_, _]) dL_law_239 zk_L_35 (zq_87 _) (by decide) ⟨_, _, rfl⟩ rfl rfl (Nat.le_of_ble_eq_true rfl) (Nat.le_of_ble_eq_true rfl) rfl (zd_X9_cut V (d + 9) _ _ _) (fun r239 _ => ?_)
        refine d_br (fun _ => zg_icmp_eq 625 dL_law_242 rfl) (fun c242 => ?_) (fun c242 => ?_)
        · refine d_st (fun _ k => zg_iinc (ls' := [_, _, _, _]) 4 dL_law_625 rfl (by decide) (Nat.le_of_ble_eq_true rfl) rfl rfl (zg_goto 18 dL_law_628 rfl k)) ?_
          exact d_fg (z_le_s (z_le_s (z_le_s (z_le_s z_le_n)))) (ih _ _)
        · refine d_st (fun _ k => zg_iconst 0 dL_law_245 (by decide) k) ?_
          exact d_retZ dL_law_246 rfl (by decide)
      refine d_if (fun s32_5 => ?_) (fun s32_5 => ?_)
      · refine d_st (fun _ k => zg_tableIn 247 dL_law_32 (by rw [s32_5]; decide) (by rw [s32_5]; decide) (by rw [s32_5]; rfl) rfl k) ?_
        refine d_st (fun _ k => zg_aload_n dL_law_247 rfl (zg_aload_n dL_law_248 rfl (zg_iload_n dL_law_249 rfl (zg_iconst 1 dL_law_250 (by decide) (zg_iadd dL_law_251 k))))) ?_
        refine d_gd (fun g252 => ?_)
        refine d_st (fun _ k => zs_sld dL_law_252 g252 rfl k) ?_
        refine d_st (fun _ k => zg_aload_n dL_law_253 rfl (zg_iload_n dL_law_254 rfl (zg_iconst 2 dL_law_255 (by decide) (zg_iadd dL_law_256 k)))) ?_
        refine d_gd (fun g257 => ?_)
        refine d_st (fun _ k => zs_sld dL_law_257 g257 rfl k) ?_
        refine d_cVi (As := [_, _]) dL_law_258 zk_L_36 (zq_1 _) (by decide) ⟨_, _, rfl⟩ rfl rfl (Nat.le_of_ble_eq_true rfl) (Nat.le_of_ble_eq_true rfl) rfl (zd_X8_part V (d + 11) _ _ _) (fun r258 _ => ?_)
        refine d_st (fun _ k => zg_aload_n dL_law_261 rfl (zg_aload_n dL_law_262 rfl (zg_iload_n dL_law_263 rfl (zg_iconst 1 dL_law_264 (by decide) (zg_iadd dL_law_265 k))))) ?_
        refine d_gd (fun g266 => ?_)
        refine d_st (fun _ k => zs_sld dL_law_266 g266 rfl k) ?_
        refine d_st (fun _ k => zg_aload_n dL_law_267 rfl (zg_iload_n dL_law_268 rfl (zg_iconst 2 dL_law_269 (by decide) (zg_iadd dL_law_270 k)))) ?_
        refine d_gd (fun g271 => ?_)
        refine d_st (fun _ k => zs_sld dL_law_271 g271 rfl k) ?_
        refine d_cVi (As := [_, _]) dL_law_272 zk_L_39 (zq_87 _) (by decide) ⟨_, _, rfl⟩ rfl rfl (Nat.le_of_ble_eq_true rfl) (Nat.le_of_ble_eq_true rfl) rfl (zd_X9_part V (d + 10) _ _ _) (fun r272 _ => ?_)
        refine d_br (fun _ => zg_icmp_eq 625 dL_law_275 rfl) (fun c275 => ?_) (fun c275 => ?_)
        · refine d_st (fun _ k => zg_iinc (ls' := [_, _, _, _]) 4 dL_law_625 rfl (by decide) (Nat.le_of_ble_eq_true rfl) rfl rfl (zg_goto 18 dL_law_628 rfl k)) ?_
          exact d_fg (z_le_s (z_le_s (z_le_s (z_le_s z_le_n)))) (ih _ _)
        · refine d_st (fun _ k => zg_iconst 0 dL_law_278 (by decide) k) ?_
          exact d_retZ dL_law_279 rfl (by decide)
      refine d_if (fun s32_6 => ?_) (fun s32_6 => ?_)
      · refine d_st (fun _ k => zg_tableIn 280 dL_law_32 (by rw [s32_6]; decide) (by rw [s32_6]; decide) (by rw [s32_6]; rfl) rfl k) ?_
        refine d_st (fun _ k => zg_aload_n dL_law_280 rfl (zg_aload_n dL_law_281 rfl (zg_iload_n dL_law_282 rfl (zg_iconst 1 dL_law_283 (by decide) (zg_iadd dL_law_284 k))))) ?_
        refine d_gd (fun g285 => ?_)
        refine d_st (fun _ k => zs_sld dL_law_285 g285 rfl k) ?_
        refine d_cVi (As := [_]) dL_law_286 zk_L_40 (zq_1 _) (by decide) ⟨_, _, rfl⟩ rfl rfl (Nat.le_of_ble_eq_true rfl) (Nat.le_of_ble_eq_true rfl) rfl (zd_X8_burns V (d + 7) _ _) (fun r286 _ => ?_)
        refine d_st (fun _ k => zg_aload_n dL_law_289 rfl (zg_aload_n dL_law_290 rfl (zg_iload_n dL_law_291 rfl (zg_iconst 1 dL_law_292 (by decide) (zg_iadd dL_law_293 k))))) ?_
        refine d_gd (fun g294 => ?_)
        refine d_st (fun _ k => zs_sld dL_law_294 g294 rfl k) ?_
        refine d_cVi (As := [_]) dL_law_295 zk_L_43 (zq_87 _) (by decide) ⟨_, _, rfl⟩ rfl rfl (Nat.le_of_ble_eq_true rfl) (Nat.le_of_ble_eq_true rfl) rfl (zd_X9_burns V (d + 8) _ _) (fun r295 _ => ?_)
        refine d_br (fun _ => zg_icmp_eq 625 dL_law_298 rfl) (fun c298 => ?_) (fun c298 => ?_)
        · refine d_st (fun _ k => zg_iinc (ls' := [_, _, _, _]) 4 dL_law_625 rfl (by decide) (Nat.le_of_ble_eq_true rfl) rfl rfl (zg_goto 18 dL_law_628 rfl k)) ?_
          exact d_fg (z_le_s (z_le_s (z_le_s (z_le_s z_le_n)))) (ih _ _)
        · refine d_st (fun _ k => zg_iconst 0 dL_law_301 (by decide) k) ?_
          exact d_retZ dL_law_302 rfl (by decide)
      refine d_if (fun s32_7 => ?_) (fun s32_7 => ?_)
      · refine d_st (fun _ k => zg_tableIn 303 dL_law_32 (by rw [s32_7]; decide) (by rw [s32_7]; decide) (by rw [s32_7]; rfl) rfl k) ?_
        refine d_st (fun _ k => zg_aload_n dL_law_303 rfl (zg_aload_n dL_law_304 rfl (zg_iload_n dL_law_305 rfl (zg_iconst 1 dL_law_306 (by decide) (zg_iadd dL_law_307 k))))) ?_
        refine d_gd (fun g308 => ?_)
        refine d_st (fun _ k => zs_sld dL_law_308 g308 rfl k) ?_
        refine d_cVi (As := [_]) dL_law_309 zk_L_44 (zq_1 _) (by decide) ⟨_, _, rfl⟩ rfl rfl (Nat.le_of_ble_eq_true rfl) (Nat.le_of_ble_eq_true rfl) rfl (zd_X8_moves V (d + 8) _ _) (fun r309 _ => ?_)
        refine d_st (fun _ k => zg_aload_n dL_law_312 rfl (zg_aload_n dL_law_313 rfl (zg_iload_n dL_law_314 rfl (zg_iconst 1 dL_law_315 (by decide) (zg_iadd dL_law_316 k))))) ?_
        refine d_gd (fun g317 => ?_)
        refine d_st (fun _ k => zs_sld dL_law_317 g317 rfl k) ?_
        refine d_cVi (As := [_]) dL_law_318 zk_L_47 (zq_87 _) (by decide) ⟨_, _, rfl⟩ rfl rfl (Nat.le_of_ble_eq_true rfl) (Nat.le_of_ble_eq_true rfl) rfl (zd_X9_moves V (d + 10) _ _) (fun r318 _ => ?_)
        refine d_br (fun _ => zg_icmp_eq 625 dL_law_321 rfl) (fun c321 => ?_) (fun c321 => ?_)
        · refine d_st (fun _ k => zg_iinc (ls' := [_, _, _, _]) 4 dL_law_625 rfl (by decide) (Nat.le_of_ble_eq_true rfl) rfl rfl (zg_goto 18 dL_law_628 rfl k)) ?_
          exact d_fg (z_le_s (z_le_s (z_le_s (z_le_s z_le_n)))) (ih _ _)
        · refine d_st (fun _ k => zg_iconst 0 dL_law_324 (by decide) k) ?_
          exact d_retZ dL_law_325 rfl (by decide)
      refine d_if (fun s32_8 => ?_) (fun s32_8 => ?_)
      · refine d_st (fun _ k => zg_tableIn 326 dL_law_32 (by rw [s32_8]; decide) (by rw [s32_8]; decide) (by rw [s32_8]; rfl) rfl k) ?_
        refine d_st (fun _ k => zg_aload_n dL_law_326 rfl k) ?_
        refine d_cVi (As := []) dL_law_327 zk_L_48 (zq_1 _) (by decide) ⟨_, _, rfl⟩ rfl rfl (Nat.le_of_ble_eq_true rfl) (Nat.le_of_ble_eq_true rfl) rfl (zd_X8_follows V d _) (fun r327 _ => ?_)
        refine d_st (fun _ k => zg_aload_n dL_law_330 rfl k) ?_
        refine d_cVi (As := []) dL_law_331 zk_L_51 (zq_87 _) (by decide) ⟨_, _, rfl⟩ rfl rfl (Nat.le_of_ble_eq_true rfl) (Nat.le_of_ble_eq_true rfl) rfl (zd_X9_follows V (d + 7) _) (fun r331 _ => ?_)
        refine d_br (fun _ => zg_icmp_eq 625 dL_law_334 rfl) (fun c334 => ?_) (fun c334 => ?_)
        · refine d_st (fun _ k => zg_iinc (ls' := [_, _, _, _]) 4 dL_law_625 rfl (by decide) (Nat.le_of_ble_eq_true rfl) rfl rfl (zg_goto 18 dL_law_628 rfl k)) ?_
          exact d_fg (z_le_s (z_le_s (z_le_s (z_le_s z_le_n)))) (ih _ _)
        · refine d_st (fun _ k => zg_iconst 0 dL_law_337 (by decide) k) ?_
          exact d_retZ dL_law_338 rfl (by decide)
      refine d_if (fun s32_9 => ?_) (fun s32_9 => ?_)
      · refine d_st (fun _ k => zg_tableIn 339 dL_law_32 (by rw [s32_9]; decide) (by rw [s32_9]; decide) (by rw [s32_9]; rfl) rfl k) ?_
        refine d_st (fun _ k => zg_aload_n dL_law_339 rfl k) ?_
        refine d_cVi (As := []) dL_law_340 zk_L_52 (zq_1 _) (by decide) ⟨_, _, rfl⟩ rfl rfl (Nat.le_of_ble_eq_true rfl) (Nat.le_of_ble_eq_true rfl) rfl (zd_X8_undo V (d + 9) _) (fun r340 _ => ?_)
        refine d_st (fun _ k => zg_aload_n dL_law_343 rfl k) ?_
        refine d_cVi (As := []) dL_law_344 zk_L_55 (zq_87 _) (by decide) ⟨_, _, rfl⟩ rfl rfl (Nat.le_of_ble_eq_true rfl) (Nat.le_of_ble_eq_true rfl) rfl (zd_X9_undo V (d + 12) _) (fun r344 _ => ?_)
        refine d_br (fun _ => zg_icmp_eq 625 dL_law_347 rfl) (fun c347 => ?_) (fun c347 => ?_)
        · refine d_st (fun _ k => zg_iinc (ls' := [_, _, _, _]) 4 dL_law_625 rfl (by decide) (Nat.le_of_ble_eq_true rfl) rfl rfl (zg_goto 18 dL_law_628 rfl k)) ?_
          exact d_fg (z_le_s (z_le_s (z_le_s (z_le_s z_le_n)))) (ih _ _)
        · refine d_st (fun _ k => zg_iconst 0 dL_law_350 (by decide) k) ?_
          exact d_retZ dL_law_351 rfl (by decide)
      refine d_if (fun s32_10 => ?_) (fun s32_10 => ?_)
      · refine d_st (fun _ k => zg_tableIn 352 dL_law_32 (by rw [s32_10]; decide) (by rw [s32_10]; decide) (by rw [s32_10]; rfl) rfl k) ?_
        refine d_st (fun _ k => zg_aload_n dL_law_352 rfl (zg_aload_n dL_law_353 rfl (zg_iload_n dL_law_354 rfl (zg_iconst 1 dL_law_355 (by decide) (zg_iadd dL_law_356 k))))) ?_
        refine d_gd (fun g357 => ?_)
        refine d_st (fun _ k => zs_sld dL_law_357 g357 rfl k) ?_
        refine d_st (fun _ k => zg_aload_n dL_law_358 rfl (zg_iload_n dL_law_359 rfl (zg_iconst 2 dL_law_360 (by decide) (zg_iadd dL_law_361 k)))) ?_
        refine d_gd (fun g362 => ?_)
        refine d_st (fun _ k => zs_sld dL_law_362 g362 rfl k) ?_
        refine d_cVi (As := [_, _]) dL_law_363 zk_L_56 (zq_1 _) (by decide) ⟨_, _, rfl⟩ rfl rfl (Nat.le_of_ble_eq_true rfl) (Nat.le_of_ble_eq_true rfl) rfl (zd_X8_piece V d _ _ _) (fun r363 _ => ?_)
        refine d_st (fun _ k => zg_aload_n dL_law_366 rfl (zg_aload_n dL_law_367 rfl (zg_iload_n dL_law_368 rfl (zg_iconst 1 dL_law_369 (by decide) (zg_iadd dL_law_370 k))))) ?_
        refine d_gd (fun g371 => ?_)
        refine d_st (fun _ k => zs_sld dL_law_371 g371 rfl k) ?_
        refine d_st (fun _ k => zg_aload_n dL_law_372 rfl (zg_iload_n dL_law_373 rfl (zg_iconst 2 dL_law_374 (by decide) (zg_iadd dL_law_375 k)))) ?_
        refine d_gd (fun g376 => ?_)
        refine d_st (fun _ k => zs_sld dL_law_376 g376 rfl k) ?_
        refine d_cVi (As := [_, _]) dL_law_377 zk_L_59 (zq_87 _) (by decide) ⟨_, _, rfl⟩ rfl rfl (Nat.le_of_ble_eq_true rfl) (Nat.le_of_ble_eq_true rfl) rfl (zd_X9_piece V (d + 8) _ _ _) (fun r377 _ => ?_)
        refine d_br (fun _ => zg_icmp_eq 625 dL_law_380 rfl) (fun c380 => ?_) (fun c380 => ?_)
        · refine d_st (fun _ k => zg_iinc (ls' := [_, _, _, _]) 4 dL_law_625 rfl (by decide) (Nat.le_of_ble_eq_true rfl) rfl rfl (zg_goto 18 dL_law_628 rfl k)) ?_
          exact d_fg (z_le_s (z_le_s (z_le_s (z_le_s z_le_n)))) (ih _ _)
        · refine d_st (fun _ k => zg_iconst 0 dL_law_383 (by decide) k) ?_
          exact d_retZ dL_law_384 rfl (by decide)
      refine d_if (fun s32_11 => ?_) (fun s32_11 => ?_)
      · refine d_st (fun _ k => zg_tableIn 385 dL_law_32 (by rw [s32_11]; decide) (by rw [s32_11]; decide) (by rw [s32_11]; rfl) rfl k) ?_
        refine d_st (fun _ k => zg_aload_n dL_law_385 rfl (zg_aload_n dL_law_386 rfl (zg_iload_n dL_law_387 rfl (zg_iconst 1 dL_law_388 (by decide) (zg_iadd dL_law_389 k))))) ?_
        refine d_gd (fun g390 => ?_)
        refine d_st (fun _ k => zs_sld dL_law_390 g390 rfl k) ?_
        refine d_cVi (As := [_]) dL_law_391 zk_L_60 (zq_1 _) (by decide) ⟨_, _, rfl⟩ rfl rfl (Nat.le_of_ble_eq_true rfl) (Nat.le_of_ble_eq_true rfl) rfl (zd_X8_link V d _ _) (fun r391 _ => ?_)
        refine d_st (fun _ k => zg_aload_n dL_law_394 rfl (zg_aload_n dL_law_395 rfl (zg_iload_n dL_law_396 rfl (zg_iconst 1 dL_law_397 (by decide) (zg_iadd dL_law_398 k))))) ?_
        refine d_gd (fun g399 => ?_)
        refine d_st (fun _ k => zs_sld dL_law_399 g399 rfl k) ?_
        refine d_cVi (As := [_]) dL_law_400 zk_L_63 (zq_87 _) (by decide) ⟨_, _, rfl⟩ rfl rfl (Nat.le_of_ble_eq_true rfl) (Nat.le_of_ble_eq_true rfl) rfl (zd_X9_link V (d + 8) _ _) (fun r400 _ => ?_)
        refine d_br (fun _ => zg_icmp_eq 625 dL_law_403 rfl) (fun c403 => ?_) (fun c403 => ?_)
        · refine d_st (fun _ k => zg_iinc (ls' := [_, _, _, _]) 4 dL_law_625 rfl (by decide) (Nat.le_of_ble_eq_true rfl) rfl rfl (zg_goto 18 dL_law_628 rfl k)) ?_
          exact d_fg (z_le_s (z_le_s (z_le_s (z_le_s z_le_n)))) (ih _ _)
        · refine d_st (fun _ k => zg_iconst 0 dL_law_406 (by decide) k) ?_
          exact d_retZ dL_law_407 rfl (by decide)
      refine d_if (fun s32_12 => ?_) (fun s32_12 => ?_)
      · refine d_st (fun _ k => zg_tableIn 408 dL_law_32 (by rw [s32_12]; decide) (by rw [s32_12]; decide) (by rw [s32_12]; rfl) rfl k) ?_
        refine d_st (fun _ k => zg_aload_n dL_law_408 rfl (zg_aload_n dL_law_409 rfl (zg_iload_n dL_law_410 rfl (zg_iconst 1 dL_law_411 (by decide) (zg_iadd dL_law_412 k))))) ?_
        refine d_gd (fun g413 => ?_)
        refine d_st (fun _ k => zs_sld dL_law_413 g413 rfl k) ?_
        refine d_st (fun _ k => zg_aload_n dL_law_414 rfl (zg_iload_n dL_law_415 rfl (zg_iconst 2 dL_law_416 (by decide) (zg_iadd dL_law_417 k)))) ?_
        refine d_gd (fun g418 => ?_)
        refine d_st (fun _ k => zs_sld dL_law_418 g418 rfl k) ?_
        refine d_st (fun _ k => zg_aload_n dL_law_419 rfl (zg_iload_n dL_law_420 rfl (zg_iconst 3 dL_law_421 (by decide) (zg_iadd dL_law_422 k)))) ?_
        refine d_gd (fun g423 => ?_)
        refine d_st (fun _ k => zs_sld dL_law_423 g423 rfl k) ?_
        refine d_cVi (As := [_, _, _]) dL_law_424 zk_L_64 (zq_1 _) (by decide) ⟨_, _, rfl⟩ rfl rfl (Nat.le_of_ble_eq_true rfl) (Nat.le_of_ble_eq_true rfl) rfl (zd_X8_round V d _ _ _ _) (fun r424 _ => ?_)
        refine d_st (fun _ k => zg_aload_n dL_law_427 rfl (zg_aload_n dL_law_428 rfl (zg_iload_n dL_law_429 rfl (zg_iconst 1 dL_law_430 (by decide) (zg_iadd dL_law_431 k))))) ?_
        refine d_gd (fun g432 => ?_)
        refine d_st (fun _ k => zs_sld dL_law_432 g432 rfl k) ?_
        refine d_st (fun _ k => zg_aload_n dL_law_433 rfl (zg_iload_n dL_law_434 rfl (zg_iconst 2 dL_law_435 (by decide) (zg_iadd dL_law_436 k)))) ?_
        refine d_gd (fun g437 => ?_)
        refine d_st (fun _ k => zs_sld dL_law_437 g437 rfl k) ?_
        refine d_st (fun _ k => zg_aload_n dL_law_438 rfl (zg_iload_n dL_law_439 rfl (zg_iconst 3 dL_law_440 (by decide) (zg_iadd dL_law_441 k)))) ?_
        refine d_gd (fun g442 => ?_)
        refine d_st (fun _ k => zs_sld dL_law_442 g442 rfl k) ?_
        refine d_cVi (As := [_, _, _]) dL_law_443 zk_L_68 (zq_87 _) (by decide) ⟨_, _, rfl⟩ rfl rfl (Nat.le_of_ble_eq_true rfl) (Nat.le_of_ble_eq_true rfl) rfl (zd_X9_round V (d + 7) _ _ _ _) (fun r443 _ => ?_)
        refine d_br (fun _ => zg_icmp_eq 625 dL_law_446 rfl) (fun c446 => ?_) (fun c446 => ?_)
        · refine d_st (fun _ k => zg_iinc (ls' := [_, _, _, _]) 4 dL_law_625 rfl (by decide) (Nat.le_of_ble_eq_true rfl) rfl rfl (zg_goto 18 dL_law_628 rfl k)) ?_
          exact d_fg (z_le_s (z_le_s (z_le_s (z_le_s z_le_n)))) (ih _ _)
        · refine d_st (fun _ k => zg_iconst 0 dL_law_449 (by decide) k) ?_
          exact d_retZ dL_law_450 rfl (by decide)
      refine d_if (fun s32_13 => ?_) (fun s32_13 => ?_)
      · refine d_st (fun _ k => zg_tableIn 451 dL_law_32 (by rw [s32_13]; decide) (by rw [s32_13]; decide) (by rw [s32_13]; rfl) rfl k) ?_
        refine d_st (fun _ k => zg_aload_n dL_law_451 rfl (zg_aload_n dL_law_452 rfl (zg_iload_n dL_law_453 rfl (zg_iconst 1 dL_law_454 (by decide) (zg_iadd dL_law_455 k))))) ?_
        refine d_gd (fun g456 => ?_)
        refine d_st (fun _ k => zs_sld dL_law_456 g456 rfl k) ?_
        refine d_cVi (As := [_]) dL_law_457 zk_L_69 (zq_1 _) (by decide) ⟨_, _, rfl⟩ rfl rfl (Nat.le_of_ble_eq_true rfl) (Nat.le_of_ble_eq_true rfl) rfl (zd_X8_tour V d _ _) (fun r457 _ => ?_)
        refine d_st (fun _ k => zg_aload_n dL_law_460 rfl (zg_aload_n dL_law_461 rfl (zg_iload_n dL_law_462 rfl (zg_iconst 1 dL_law_463 (by decide) (zg_iadd dL_law_464 k))))) ?_
        refine d_gd (fun g465 => ?_)
        refine d_st (fun _ k => zs_sld dL_law_465 g465 rfl k) ?_
        refine d_cVi (As := [_]) dL_law_466 zk_L_72 (zq_87 _) (by decide) ⟨_, _, rfl⟩ rfl rfl (Nat.le_of_ble_eq_true rfl) (Nat.le_of_ble_eq_true rfl) rfl (zd_X9_tour V (d + 8) _ _) (fun r466 _ => ?_)
        refine d_br (fun _ => zg_icmp_eq 625 dL_law_469 rfl) (fun c469 => ?_) (fun c469 => ?_)
        · refine d_st (fun _ k => zg_iinc (ls' := [_, _, _, _]) 4 dL_law_625 rfl (by decide) (Nat.le_of_ble_eq_true rfl) rfl rfl (zg_goto 18 dL_law_628 rfl k)) ?_
          exact d_fg (z_le_s (z_le_s (z_le_s (z_le_s z_le_n)))) (ih _ _)
        · refine d_st (fun _ k => zg_iconst 0 dL_law_472 (by decide) k) ?_
          exact d_retZ dL_law_473 rfl (by decide)
      refine d_if (fun s32_14 => ?_) (fun s32_14 => ?_)
      · refine d_st (fun _ k => zg_tableIn 474 dL_law_32 (by rw [s32_14]; decide) (by rw [s32_14]; decide) (by rw [s32_14]; rfl) rfl k) ?_
        refine d_st (fun _ k => zg_aload_n dL_law_474 rfl (zg_aload_n dL_law_475 rfl (zg_iload_n dL_law_476 rfl (zg_iconst 1 dL_law_477 (by decide) (zg_iadd dL_law_478 k))))) ?_
        refine d_gd (fun g479 => ?_)
        refine d_st (fun _ k => zs_sld dL_law_479 g479 rfl k) ?_
        refine d_st (fun _ k => zg_aload_n dL_law_480 rfl (zg_iload_n dL_law_481 rfl (zg_iconst 2 dL_law_482 (by decide) (zg_iadd dL_law_483 k)))) ?_
        refine d_gd (fun g484 => ?_)
        refine d_st (fun _ k => zs_sld dL_law_484 g484 rfl k) ?_
        refine d_st (fun _ k => zg_aload_n dL_law_485 rfl (zg_iload_n dL_law_486 rfl (zg_iconst 3 dL_law_487 (by decide) (zg_iadd dL_law_488 k)))) ?_
        refine d_gd (fun g489 => ?_)
        refine d_st (fun _ k => zs_sld dL_law_489 g489 rfl k) ?_
        refine d_cVi (As := [_, _, _]) dL_law_490 zk_L_73 (zq_1 _) (by decide) ⟨_, _, rfl⟩ rfl rfl (Nat.le_of_ble_eq_true rfl) (Nat.le_of_ble_eq_true rfl) rfl (zd_X8_sees V (d + 11) _ _ _ _) (fun r490 _ => ?_)
        refine d_st (fun _ k => zg_aload_n dL_law_493 rfl (zg_aload_n dL_law_494 rfl (zg_iload_n dL_law_495 rfl (zg_iconst 1 dL_law_496 (by decide) (zg_iadd dL_law_497 k))))) ?_
        refine d_gd (fun g498 => ?_)
        refine d_st (fun _ k => zs_sld dL_law_498 g498 rfl k) ?_
        refine d_st (fun _ k => zg_aload_n dL_law_499 rfl (zg_iload_n dL_law_500 rfl (zg_iconst 2 dL_law_501 (by decide) (zg_iadd dL_law_502 k)))) ?_
        refine d_gd (fun g503 => ?_)
        refine d_st (fun _ k => zs_sld dL_law_503 g503 rfl k) ?_
        refine d_st (fun _ k => zg_aload_n dL_law_504 rfl (zg_iload_n dL_law_505 rfl (zg_iconst 3 dL_law_506 (by decide) (zg_iadd dL_law_507 k)))) ?_
        refine d_gd (fun g508 => ?_)
        refine d_st (fun _ k => zs_sld dL_law_508 g508 rfl k) ?_
        refine d_cVi (As := [_, _, _]) dL_law_509 zk_L_76 (zq_87 _) (by decide) ⟨_, _, rfl⟩ rfl rfl (Nat.le_of_ble_eq_true rfl) (Nat.le_of_ble_eq_true rfl) rfl (zd_X9_sees V (d + 10) _ _ _ _) (fun r509 _ => ?_)
        refine d_br (fun _ => zg_icmp_eq 625 dL_law_512 rfl) (fun c512 => ?_) (fun c512 => ?_)
        · refine d_st (fun _ k => zg_iinc (ls' := [_, _, _, _]) 4 dL_law_625 rfl (by decide) (Nat.le_of_ble_eq_true rfl) rfl rfl (zg_goto 18 dL_law_628 rfl k)) ?_
          exact d_fg (z_le_s (z_le_s (z_le_s (z_le_s z_le_n)))) (ih _ _)
        · refine d_st (fun _ k => zg_iconst 0 dL_law_515 (by decide) k) ?_
          exact d_retZ dL_law_516 rfl (by decide)
      refine d_if (fun s32_15 => ?_) (fun s32_15 => ?_)
      · refine d_st (fun _ k => zg_tableIn 517 dL_law_32 (by rw [s32_15]; decide) (by rw [s32_15]; decide) (by rw [s32_15]; rfl) rfl k) ?_
        refine d_st (fun _ k => zg_aload_n dL_law_517 rfl k) ?_
        refine d_cVi (As := []) dL_law_518 zk_L_77 (zq_1 _) (by decide) ⟨_, _, rfl⟩ rfl rfl (Nat.le_of_ble_eq_true rfl) (Nat.le_of_ble_eq_true rfl) rfl (zd_X8_forget V (d + 11) _) (fun r518 _ => ?_)
        refine d_st (fun _ k => zg_aload_n dL_law_521 rfl k) ?_
        refine d_cVi (As := []) dL_law_522 zk_L_80 (zq_87 _) (by decide) ⟨_, _, rfl⟩ rfl rfl (Nat.le_of_ble_eq_true rfl) (Nat.le_of_ble_eq_true rfl) rfl (zd_X9_forget V (d + 12) _) (fun r522 _ => ?_)
        refine d_br (fun _ => zg_icmp_eq 625 dL_law_525 rfl) (fun c525 => ?_) (fun c525 => ?_)
        · refine d_st (fun _ k => zg_iinc (ls' := [_, _, _, _]) 4 dL_law_625 rfl (by decide) (Nat.le_of_ble_eq_true rfl) rfl rfl (zg_goto 18 dL_law_628 rfl k)) ?_
          exact d_fg (z_le_s (z_le_s (z_le_s (z_le_s z_le_n)))) (ih _ _)
        · refine d_st (fun _ k => zg_iconst 0 dL_law_528 (by decide) k) ?_
          exact d_retZ dL_law_529 rfl (by decide)
      refine d_if (fun s32_16 => ?_) (fun s32_16 => ?_)
      · refine d_st (fun _ k => zg_tableIn 530 dL_law_32 (by rw [s32_16]; decide) (by rw [s32_16]; decide) (by rw [s32_16]; rfl) rfl k) ?_
        refine d_st (fun _ k => zg_aload_n dL_law_530 rfl k) ?_
        refine d_cVi (As := []) dL_law_531 zk_L_81 (zq_1 _) (by decide) ⟨_, _, rfl⟩ rfl rfl (Nat.le_of_ble_eq_true rfl) (Nat.le_of_ble_eq_true rfl) rfl (zd_X8_unseen V (d + 8) _) (fun r531 _ => ?_)
        refine d_st (fun _ k => zg_aload_n dL_law_534 rfl k) ?_
        refine d_cVi (As := []) dL_law_535 zk_L_84 (zq_87 _) (by decide) ⟨_, _, rfl⟩ rfl rfl (Nat.le_of_ble_eq_true rfl) (Nat.le_of_ble_eq_true rfl) rfl (zd_X9_unseen V (d + 9) _) (fun r535 _ => ?_)
        refine d_br (fun _ => zg_icmp_eq 625 dL_law_538 rfl) (fun c538 => ?_) (fun c538 => ?_)
        · refine d_st (fun _ k => zg_iinc (ls' := [_, _, _, _]) 4 dL_law_625 rfl (by decide) (Nat.le_of_ble_eq_true rfl) rfl rfl (zg_goto 18 dL_law_628 rfl k)) ?_
          exact d_fg (z_le_s (z_le_s (z_le_s (z_le_s z_le_n)))) (ih _ _)
        · refine d_st (fun _ k => zg_iconst 0 dL_law_541 (by decide) k) ?_
          exact d_retZ dL_law_542 rfl (by decide)
      refine d_if (fun s32_17 => ?_) (fun s32_17 => ?_)
      · refine d_st (fun _ k => zg_tableIn 543 dL_law_32 (by rw [s32_17]; decide) (by rw [s32_17]; decide) (by rw [s32_17]; rfl) rfl k) ?_
        refine d_st (fun _ k => zg_aload_n dL_law_543 rfl k) ?_
        refine d_cVi (As := []) dL_law_544 zk_L_85 (zq_1 _) (by decide) ⟨_, _, rfl⟩ rfl rfl (Nat.le_of_ble_eq_true rfl) (Nat.le_of_ble_eq_true rfl) rfl (zd_X8_ask V (d + 7) _) (fun r544 _ => ?_)
        refine d_st (fun _ k => zg_aload_n dL_law_547 rfl k) ?_
        refine d_cVi (As := []) dL_law_548 zk_L_88 (zq_87 _) (by decide) ⟨_, _, rfl⟩ rfl rfl (Nat.le_of_ble_eq_true rfl) (Nat.le_of_ble_eq_true rfl) rfl (zd_X9_ask V (d + 9) _) (fun r548 _ => ?_)
        refine d_br (fun _ => zg_icmp_eq 625 dL_law_551 rfl) (fun c551 => ?_) (fun c551 => ?_)
        · refine d_st (fun _ k => zg_iinc (ls' := [_, _, _, _]) 4 dL_law_625 rfl (by decide) (Nat.le_of_ble_eq_true rfl) rfl rfl (zg_goto 18 dL_law_628 rfl k)) ?_
          exact d_fg (z_le_s (z_le_s (z_le_s (z_le_s z_le_n)))) (ih _ _)
        · refine d_st (fun _ k => zg_iconst 0 dL_law_554 (by decide) k) ?_
          exact d_retZ dL_law_555 rfl (by decide)
      refine d_if (fun s32_18 => ?_) (fun s32_18 => ?_)
      · refine d_st (fun _ k => zg_tableIn 556 dL_law_32 (by rw [s32_18]; decide) (by rw [s32_18]; decide) (by rw [s32_18]; rfl) rfl k) ?_
        refine d_st (fun _ k => zg_aload_n dL_law_556 rfl (zg_aload_n dL_law_557 rfl (zg_iload_n dL_law_558 rfl (zg_iconst 1 dL_law_559 (by decide) (zg_iadd dL_law_560 k))))) ?_
        refine d_gd (fun g561 => ?_)
        refine d_st (fun _ k => zs_sld dL_law_561 g561 rfl k) ?_
        refine d_cVi (As := [_]) dL_law_562 zk_L_89 (zq_1 _) (by decide) ⟨_, _, rfl⟩ rfl rfl (Nat.le_of_ble_eq_true rfl) (Nat.le_of_ble_eq_true rfl) rfl (zd_X8_keep V (d + 10) _ _) (fun r562 _ => ?_)
        refine d_st (fun _ k => zg_aload_n dL_law_565 rfl (zg_aload_n dL_law_566 rfl (zg_iload_n dL_law_567 rfl (zg_iconst 1 dL_law_568 (by decide) (zg_iadd dL_law_569 k))))) ?_
        refine d_gd (fun g570 => ?_)
        refine d_st (fun _ k => zs_sld dL_law_570 g570 rfl k) ?_
        refine d_cVi (As := [_]) dL_law_571 zk_L_92 (zq_87 _) (by decide) ⟨_, _, rfl⟩ rfl rfl (Nat.le_of_ble_eq_true rfl) (Nat.le_of_ble_eq_true rfl) rfl (zd_X9_keep V (d + 11) _ _) (fun r571 _ => ?_)
        refine d_br (fun _ => zg_icmp_eq 625 dL_law_574 rfl) (fun c574 => ?_) (fun c574 => ?_)
        · refine d_st (fun _ k => zg_iinc (ls' := [_, _, _, _]) 4 dL_law_625 rfl (by decide) (Nat.le_of_ble_eq_true rfl) rfl rfl (zg_goto 18 dL_law_628 rfl k)) ?_
          exact d_fg (z_le_s (z_le_s (z_le_s (z_le_s z_le_n)))) (ih _ _)
        · refine d_st (fun _ k => zg_iconst 0 dL_law_577 (by decide) k) ?_
          exact d_retZ dL_law_578 rfl (by decide)
      refine d_if (fun s32_19 => ?_) (fun s32_19 => ?_)
      · refine d_st (fun _ k => zg_tableIn 579 dL_law_32 (by rw [s32_19]; decide) (by rw [s32_19]; decide) (by rw [s32_19]; rfl) rfl k) ?_
        refine d_st (fun _ k => zg_aload_n dL_law_579 rfl (zg_aload_n dL_law_580 rfl (zg_iload_n dL_law_581 rfl (zg_iconst 1 dL_law_582 (by decide) (zg_iadd dL_law_583 k))))) ?_
        refine d_gd (fun g584 => ?_)
        refine d_st (fun _ k => zs_sld dL_law_584 g584 rfl k) ?_
        refine d_cVi (As := [_]) dL_law_585 zk_L_93 (zq_1 _) (by decide) ⟨_, _, rfl⟩ rfl rfl (Nat.le_of_ble_eq_true rfl) (Nat.le_of_ble_eq_true rfl) rfl (zd_X8_back V (d + 10) _ _) (fun r585 _ => ?_)
        refine d_st (fun _ k => zg_aload_n dL_law_588 rfl (zg_aload_n dL_law_589 rfl (zg_iload_n dL_law_590 rfl (zg_iconst 1 dL_law_591 (by decide) (zg_iadd dL_law_592 k))))) ?_
        refine d_gd (fun g593 => ?_)
        refine d_st (fun _ k => zs_sld dL_law_593 g593 rfl k) ?_
        refine d_cVi (As := [_]) dL_law_594 zk_L_96 (zq_87 _) (by decide) ⟨_, _, rfl⟩ rfl rfl (Nat.le_of_ble_eq_true rfl) (Nat.le_of_ble_eq_true rfl) rfl (zd_X9_back V (d + 11) _ _) (fun r594 _ => ?_)
        refine d_br (fun _ => zg_icmp_eq 625 dL_law_597 rfl) (fun c597 => ?_) (fun c597 => ?_)
        · refine d_st (fun _ k => zg_iinc (ls' := [_, _, _, _]) 4 dL_law_625 rfl (by decide) (Nat.le_of_ble_eq_true rfl) rfl rfl (zg_goto 18 dL_law_628 rfl k)) ?_
          exact d_fg (z_le_s (z_le_s (z_le_s (z_le_s z_le_n)))) (ih _ _)
        · refine d_st (fun _ k => zg_iconst 0 dL_law_600 (by decide) k) ?_
          exact d_retZ dL_law_601 rfl (by decide)
      refine d_if (fun s32_20 => ?_) (fun s32_20 => ?_)
      · refine d_st (fun _ k => zg_tableIn 602 dL_law_32 (by rw [s32_20]; decide) (by rw [s32_20]; decide) (by rw [s32_20]; rfl) rfl k) ?_
        refine d_st (fun _ k => zg_aload_n dL_law_602 rfl (zg_aload_n dL_law_603 rfl (zg_iload_n dL_law_604 rfl (zg_iconst 1 dL_law_605 (by decide) (zg_iadd dL_law_606 k))))) ?_
        refine d_gd (fun g607 => ?_)
        refine d_st (fun _ k => zs_sld dL_law_607 g607 rfl k) ?_
        refine d_cVi (As := [_]) dL_law_608 zk_L_97 (zq_1 _) (by decide) ⟨_, _, rfl⟩ rfl rfl (Nat.le_of_ble_eq_true rfl) (Nat.le_of_ble_eq_true rfl) rfl (zd_X8_count V d _ _) (fun r608 _ => ?_)
        refine d_st (fun _ k => zg_aload_n dL_law_611 rfl (zg_aload_n dL_law_612 rfl (zg_iload_n dL_law_613 rfl (zg_iconst 1 dL_law_614 (by decide) (zg_iadd dL_law_615 k))))) ?_
        refine d_gd (fun g616 => ?_)
        refine d_st (fun _ k => zs_sld dL_law_616 g616 rfl k) ?_
        refine d_cVi (As := [_]) dL_law_617 zk_L_100 (zq_87 _) (by decide) ⟨_, _, rfl⟩ rfl rfl (Nat.le_of_ble_eq_true rfl) (Nat.le_of_ble_eq_true rfl) rfl (zd_X9_count V (d + 9) _ _) (fun r617 _ => ?_)
        refine d_br (fun _ => zg_icmp_eq 625 dL_law_620 rfl) (fun c620 => ?_) (fun c620 => ?_)
        · refine d_st (fun _ k => zg_iinc (ls' := [_, _, _, _]) 4 dL_law_625 rfl (by decide) (Nat.le_of_ble_eq_true rfl) rfl rfl (zg_goto 18 dL_law_628 rfl k)) ?_
          exact d_fg (z_le_s (z_le_s (z_le_s (z_le_s z_le_n)))) (ih _ _)
        · refine d_st (fun _ k => zg_iconst 0 dL_law_623 (by decide) k) ?_
          exact d_retZ dL_law_624 rfl (by decide)
      refine d_st (fun _ k => zg_tableOut 625 dL_law_32 (z_tb20 s32_0 s32_1 s32_2 s32_3 s32_4 s32_5 s32_6 s32_7 s32_8 s32_9 s32_10 s32_11 s32_12 s32_13 s32_14 s32_15 s32_16 s32_17 s32_18 s32_19 s32_20) rfl k) ?_
      refine d_st (fun _ k => zg_iinc (ls' := [_, _, _, _]) 4 dL_law_625 rfl (by decide) (Nat.le_of_ble_eq_true rfl) rfl rfl (zg_goto 18 dL_law_628 rfl k)) ?_
      exact d_fg (z_le_s (z_le_s (z_le_s (z_le_s z_le_n)))) (ih _ _)
