/-! THE CLAIM OUT OF ONE WALK OF THE LAW'S BODY. Your part is whole_start (and what it stands on); all else here is the same for every law, but numbers. -/
def R_law : String := "TorchPlateLaw"
def lw_P (b : Addr) (xs : List Int32) (args : Array Value) (s : State) : Prop := args = #[.ref b] ∧ s.IntsAt b xs ∧ xs.length ≤ 2048 ∧ (Jvm.Cond.and given_1 narrow_1).before args s = true
def lw_Q (_ : Array Value) (s : State) (o : Outcome) (t : State) : Prop := o = .returned (some (.int 1)) ∧ Framed s o t [] 600000 7302250
def lw_Z (below : List Frame) (a : Array Value) (s : State) : State → Prop := fun t => ∃ o, t.status = .running ∧ Ended t below o ∧ lw_Q a s o t
/-- the law's own end, with 1 on the stack, nothing written that was there before, its room as the claim has it -/
theorem lw_ret {p : Program} {l : Launch} {e : Env} {s : State} {m : MethodId} {below : List Frame} {meth : Method} {c : Code} {b : Nat} (hx : p.tables.exec = Jvm.exec) (hb : c.code = code) (hr : meth.sig.returnType = ret) (hlocks : meth.locks = false) {pc : Nat} {H : Heap} {ls : Array Slot} (hdg : decode code pc = .ok (.ireturn, 1)) : W p l e room_1 s m #[Value.ref b] below meth c H [] 600000 7302250 (lw_Z below #[Value.ref b] s) (F0 m pc ls [.int 1]) := by
  intro T hT X
  obtain ⟨fs, hret, hrun, hended, hW, hframe⟩ := X.leave (v := some (.int 1)) (hlocks := hlocks) (fun h => by rw [hr] at h; cases h)
  have hmeth' : T.vm.method? m = some meth := X.method'
  refine ⟨T.setFrames fs, ?_, .returned (some (.int 1)), hrun, hended, rfl, ⟨_, rfl⟩, hW, hframe⟩
  jvm_step X.here [X.here.top, hx, hb, hdg, hmeth', hr, ret, narrow_b1]
  (try refine ⟨rfl, ?_⟩); (try refine ⟨rfl, ?_⟩)
  first | (intro acts; rw [hret _ acts rfl rfl rfl]) | rw [hret _ _ rfl rfl rfl]
  exact Steps.refl _
/-- what holds at the law's entry: the machine, the code, the tables' words (any of lw_tbl by 'hts w (by decide +kernel)'), the script of L ints xs at the cell b, what the Statement gives of the start (any of its parts by flat_of_before) -/
def lw_At (p : Program) (s : State) (m : MethodId) (meth : Method) (c : Code) (b L : Nat) (xs : Nat → Int32) : Prop :=
  p.tables.exec = Jvm.exec ∧ c.code = code ∧ meth.sig.returnType = ret ∧ c.maxLocals = 4 ∧ s.vm.findClass R_law = some m.cls ∧ (∀ w ∈ lw_tbl, w.before #[Value.ref b] s = true) ∧ va_X b L xs s s.heap ∧ b < s.heap.size ∧ meth.locks = false ∧ (Jvm.Cond.and given_1 narrow_1).before #[Value.ref b] s = true
theorem z_budget {V : zV} {M : zM} {d bc bs pc : Nat} {ls st : List Value} {h : zHP} {Φ : Option Value → zHP → Prop} {x y : Nat} (k : z_G V M d x y pc ls st h Φ) : z_G V M d (x + bc) (y + bs) pc ls st h Φ := by
  intro p l e R s m args below meth c H locs cells slots LS QQ C hw hS hL hn hc hs ret
  refine W.widen (Nat.le_add_right cells bc) (Nat.le_add_right slots bs) ?_
  refine k p l e R s m args below meth c H locs (cells + bc) (slots + bs) LS QQ C hw hS hL hn (by omega) (by omega) ?_
  intro v h' H' locs' pc' LS' i a1 a2 a3 a4 a5
  have h9 := ret v h' H' locs' pc' LS' i a1 a2 a3 a4 a5
  rw [show cells + bc + x = cells + (x + bc) by omega, show slots + bs + y = slots + (y + bs) by omega]
  exact h9
theorem z_nest_in : ∀ w ∈ z_nest, w ∈ lw_tbl := List.forall_mem_cons.mpr ⟨List.mem_append_right _ (List.mem_append_left _ (List.mem_of_getElem? (i := 25) rfl)), List.forall_mem_cons.mpr ⟨List.mem_append_right _ (List.mem_append_left _ (List.mem_of_getElem? (i := 112) rfl)), List.forall_mem_cons.mpr ⟨List.mem_append_right _ (List.mem_append_left _ (List.mem_of_getElem? (i := 146) rfl)), List.forall_mem_cons.mpr ⟨List.mem_append_right _ (List.mem_append_left _ (List.mem_of_getElem? (i := 180) rfl)), List.forall_mem_cons.mpr ⟨List.mem_append_right _ (List.mem_append_left _ (List.mem_of_getElem? (i := 194) rfl)), List.forall_mem_cons.mpr ⟨List.mem_append_right _ (List.mem_append_left _ (List.mem_of_getElem? (i := 200) rfl)), List.forall_mem_cons.mpr ⟨List.mem_append_right _ (List.mem_append_right _ (List.mem_append_left _ (List.mem_of_getElem? (i := 25) rfl))), List.forall_mem_cons.mpr ⟨List.mem_append_right _ (List.mem_append_right _ (List.mem_append_left _ (List.mem_of_getElem? (i := 30) rfl))), List.forall_mem_cons.mpr ⟨List.mem_append_right _ (List.mem_append_right _ (List.mem_append_left _ (List.mem_of_getElem? (i := 53) rfl))), List.forall_mem_cons.mpr ⟨List.mem_append_right _ (List.mem_append_right _ (List.mem_append_left _ (List.mem_of_getElem? (i := 58) rfl))), List.forall_mem_cons.mpr ⟨List.mem_append_right _ (List.mem_append_right _ (List.mem_append_left _ (List.mem_of_getElem? (i := 182) rfl))), List.forall_mem_cons.mpr ⟨List.mem_append_right _ (List.mem_append_right _ (List.mem_append_right _ (List.mem_append_left _ (List.mem_of_getElem? (i := 57) rfl)))), List.forall_mem_cons.mpr ⟨List.mem_append_right _ (List.mem_append_right _ (List.mem_append_right _ (List.mem_append_left _ (List.mem_of_getElem? (i := 61) rfl)))), List.forall_mem_cons.mpr ⟨List.mem_append_right _ (List.mem_append_right _ (List.mem_append_right _ (List.mem_append_left _ (List.mem_of_getElem? (i := 145) rfl)))), List.forall_mem_cons.mpr ⟨List.mem_append_right _ (List.mem_append_right _ (List.mem_append_right _ (List.mem_append_left _ (List.mem_of_getElem? (i := 208) rfl)))), List.forall_mem_cons.mpr ⟨List.mem_append_right _ (List.mem_append_right _ (List.mem_append_right _ (List.mem_append_right _ (List.mem_append_left _ (List.mem_of_getElem? (i := 43) rfl))))), fun _ h => absurd h List.not_mem_nil⟩⟩⟩⟩⟩⟩⟩⟩⟩⟩⟩⟩⟩⟩⟩⟩
theorem z_ao_a : (Jvm.Cond.arrayOver (Jvm.ClassFile.FieldType.array Jvm.ClassFile.FieldType.int)) ∈ lw_tbl := List.mem_append_right _ (List.mem_append_left _ (List.mem_of_getElem? (i := 30) rfl))
theorem z_ao_q : (Jvm.Cond.arrayOver (Jvm.ClassFile.FieldType.object "TorchPlate$Plight")) ∈ lw_tbl := List.mem_append_right _ (List.mem_append_left _ (List.mem_of_getElem? (i := 179) rfl))
theorem z_lk_above {t : List ((Nat × Nat) × Nat)} {b : Nat} (h : t.all (fun e => decide (e.1.1 < b)) = true) : ∀ k, b ≤ k → z_lk t k = fun _ => none := by
  intro k hk
  funext j
  unfold z_lk
  induction t with
  | nil => rfl
  | cons a l ih =>
    rw [List.all_cons, Bool.and_eq_true] at h
    have h1 : a.1.1 < b := by simpa using h.1
    obtain ⟨⟨x, y⟩, r⟩ := a
    rw [List.lookup_cons]
    have : ((k, j) == (x, y)) = false := by
      have : k ≠ x := by
        have : x < b := h1
        omega
      simp [this]
    rw [this]
    exact ih h.2
theorem zFI8a_Z {fi : Nat → Nat → Int32} (hZ : ∀ k, 1 ≤ k → fi k = fun _ => 0) : ∀ k, 87 ≤ k → zFI8a fi k = fun _ => 0 := (z_uiZ (b := 87) (by decide) (z_uiZ (b := 87) (by decide) (z_uiZ (b := 87) (by decide) (z_uiZ (b := 87) (by decide) (z_uiZ (b := 87) (by decide) (z_uiZ (b := 87) (by decide) (z_uiZ (b := 87) (by decide) (z_uiZ (b := 87) (by decide) (z_uiZ (b := 87) (by decide) (z_uiZ (b := 87) (by decide) (z_uiZ (b := 87) (by decide) (z_uiZ (b := 87) (by decide) (z_uiZ (b := 87) (by decide) (z_uiZ (b := 87) (by decide) (fun k hk => hZ k (by omega))))))))))))))))
theorem zFI8_Z {fi : Nat → Nat → Int32} (hZ : ∀ k, 1 ≤ k → fi k = fun _ => 0) : ∀ k, 87 ≤ k → zFI8 fi k = fun _ => 0 := (z_uiZ (b := 87) (by decide) (z_uiZ (b := 87) (by decide) (z_uiZ (b := 87) (by decide) (z_uiZ (b := 87) (by decide) (z_uiZ (b := 87) (by decide) (zFI8a_Z hZ))))))
def zfi0 (xs : Nat → Int32) : Nat → Nat → Int32 := fun k => if k = 0 then xs else fun _ => 0
theorem zfi0_Z (xs : Nat → Int32) : ∀ k, 1 ≤ k → zfi0 xs k = fun _ => 0 := fun k hk => by unfold zfi0; rw [if_neg (by omega)]
set_option maxRecDepth 100000 in
theorem zT8_above : ∀ k, 87 ≤ k → z_lk (zT8 []) k = fun _ => none := z_lk_above (by decide +kernel)
theorem z_FR_lk : z_FR 3 17 = z_lk (((1, 2), 3) :: ((1, 3), 17) :: z_FRt) := by
  funext k j
  unfold z_FR
  by_cases h1 : k = 1 ∧ j = 2
  · rw [if_pos h1, h1.1, h1.2, z_lk_hit]
  · rw [if_neg h1, z_lk_miss (by omega)]
    by_cases h2 : k = 1 ∧ j = 3
    · rw [if_pos h2, h2.1, h2.2, z_lk_hit]
    · rw [if_neg h2, z_lk_miss (by omega)]
      rfl
set_option maxRecDepth 100000 in
theorem zT9_FR : z_lk (zT9 (zT8 [])) = z_FR 3 17 := by
  rw [z_FR_lk]
  exact z_lk_same (by decide +kernel) (by decide +kernel)
/-- what is left: of pure functions alone -/
def zPure : Prop := ∀ (L : Nat) (xs : Nat → Int32), L ≤ 2048 → ∃ (b1 b2 : Unit × zS) (S : zS), f_X9_begins (zFI8 (zfi0 xs), 3, 17) = some b1 ∧ f_X9_settles b1.2 = some b2 ∧ f_L_law_18 L xs 1000 0 b2.2 = some (1, S)
set_option maxRecDepth 100000 in
set_option maxHeartbeats 8000000 in
theorem z_law2 (V : zV) {sh : List (Nat × Nat)} {fi : Nat → Nat → Int32} {t : List ((Nat × Nat) × Nat)} {b1 b2 : Unit × zS} {S : zS} (hn : sh.length = 87) (hZ8 : ∀ k, 87 ≤ k → fi k = fun _ => 0) (hR8 : ∀ k, 87 ≤ k → z_lk t k = fun _ => none) (hS : ((((((((((((((((((((((sh ++ [(9, 34)]) ++ [(100, 110)]) ++ [(100, 74)]) ++ [(100, 74)]) ++ [(100, 13)]) ++ [(100, 130)]) ++ [(100, 26)]) ++ [(101, 2)]) ++ [(100, 6)]) ++ [(100, 6)]) ++ [(100, 6)]) ++ [(100, 4)]) ++ [(100, 9)]) ++ [(100, 9)]) ++ [(100, 9)]) ++ [(100, 512)]) ++ [(100, 20)]) ++ [(101, 20)]) ++ [(100, 162)]) ++ [(100, 4)]) ++ [(100, 4)]) ++ [(100, 81)]) = z_SH V.2.2.2.2.1) (hT : z_lk (zT9 t) = z_FR 3 17) (hb1 : f_X9_begins (fi, 3, 17) = some b1) (hb2 : f_X9_settles b1.2 = some b2) (hl : f_L_law_18 V.2.2.2.2.1 V.2.2.2.2.2 1000 0 b2.2 = some (1, S)) :
    z_G V mL_law 20 22 1315 8 [.ref 0, .ref 1, .null, .null] [] (sh, fi, z_lk t) (fun v h' => v = some (.int 1)) := by
  refine zx_new (bc := 21) (bs := 1281) (n9 := 87) hn dL_law_8 zt_4_84 zt_4_85 zt_1_11 (ci := 9) rfl inlX9 tyX9_ok (by decide) (by decide) (hZ8 87 (Nat.le_refl _)) (hR8 87 (Nat.le_refl _)) ?_
  refine zg_dupr dL_law_11 ?_
  refine zg_callI (mc := 21) (ms := 1281) (bc := 0) (bs := 0) (As := []) dL_law_12 zk_L_12 rfl rfl (Nat.le_of_ble_eq_true rfl) (Nat.le_of_ble_eq_true rfl) rfl (zc_X9_init 15 (by simp [hn]) (z_last hn) (hZ8 87 (Nat.le_refl _)) (fun k hk => hZ8 k (by omega)) (fun k hk => hR8 k (by omega)) hS hT hb1 hb2) (fun v h9 q9 => ?_)
  obtain ⟨rfl, rfl⟩ := q9
  refine zg_astore_n (ls' := [_, _, _, _]) dL_law_15 (Nat.le_of_ble_eq_true rfl) rfl rfl ?_
  refine zg_iconst 0 dL_law_16 (by decide) (zg_istore_n (ls' := [_, _, _, _]) dL_law_17 (Nat.le_of_ble_eq_true rfl) rfl rfl ?_)
  exact (zd_L_law_18 V 7 1000 0 b2.2 (1, S) hl).mono (fun v h9 q9 => q9.1)
set_option maxRecDepth 100000 in
set_option maxHeartbeats 8000000 in
theorem z_law1 (V : zV) {sh : List (Nat × Nat)} {fi : Nat → Nat → Int32} {t : List ((Nat × Nat) × Nat)} {Φ : Option Value → zHP → Prop} (hn : sh.length = 1) (hZ : ∀ k, 1 ≤ k → fi k = fun _ => 0) (hR : ∀ k, 1 ≤ k → z_lk t k = fun _ => none)
    (k : z_G V mL_law 20 22 1315 8 [.ref 0, .ref 1, .null, .null] [] (((((((((((((((((((((((((((((((((((((((((((((((((((((((((((((((((((((((((((((((sh ++ [(8, 12)]) ++ [(100, 110)]) ++ [(1, 14)]) ++ [(100, 9)]) ++ [(100, 9)]) ++ [(100, 9)]) ++ [(100, 14)]) ++ [(100, 14)]) ++ [(100, 4)]) ++ [(102, 4), (100, 5), (100, 5), (100, 5), (100, 5)]) ++ [(100, 4)]) ++ [(100, 4)]) ++ [(1, 14)]) ++ [(100, 9)]) ++ [(100, 9)]) ++ [(100, 9)]) ++ [(100, 14)]) ++ [(100, 14)]) ++ [(100, 4)]) ++ [(102, 4), (100, 5), (100, 5), (100, 5), (100, 5)]) ++ [(100, 4)]) ++ [(100, 4)]) ++ [(3, 9)]) ++ [(2, 5)]) ++ [(100, 9)]) ++ [(0, 3)]) ++ [(103, 10)]) ++ [(2, 5)]) ++ [(100, 9)]) ++ [(2, 5)]) ++ [(100, 9)]) ++ [(2, 5)]) ++ [(100, 9)]) ++ [(2, 5)]) ++ [(100, 9)]) ++ [(2, 5)]) ++ [(100, 9)]) ++ [(2, 5)]) ++ [(100, 9)]) ++ [(2, 5)]) ++ [(100, 9)]) ++ [(2, 5)]) ++ [(100, 9)]) ++ [(2, 5)]) ++ [(100, 9)]) ++ [(2, 5)]) ++ [(100, 9)]) ++ [(103, 2)]) ++ [(4, 12)]) ++ [(100, 4)]) ++ [(100, 4)]) ++ [(100, 4)]) ++ [(100, 4)]) ++ [(100, 4)]) ++ [(100, 4)]) ++ [(100, 9)]) ++ [(100, 4)]) ++ [(6, 2)]) ++ [(100, 9)]) ++ [(100, 9)]) ++ [(5, 5)]) ++ [(100, 18)]) ++ [(100, 18)]) ++ [(6, 2)]) ++ [(100, 9)]) ++ [(100, 9)]) ++ [(7, 6)]) ++ [(100, 6)]) ++ [(100, 6)]) ++ [(100, 6)]) ++ [(100, 81)]) ++ [(6, 2)]) ++ [(100, 9)]) ++ [(100, 9)]) ++ [(2, 5)]) ++ [(100, 9)]) ++ [(2, 5)]) ++ [(100, 9)]), zFI8 fi, z_lk (zT8 t)) Φ) : z_G V mL_law 20 108 2108 0 (z_ent mL_law [.ref 0]) [] (sh, fi, z_lk t) Φ := by
  show z_G V mL_law 20 108 2108 0 [.ref 0, .null, .null, .null] [] (sh, fi, z_lk t) _
  refine zx_new (bc := 107) (bs := 2096) (n9 := 1) hn dL_law_0 zt_1_15 zt_1_16 zt_1_1 (ci := 8) rfl inlX8 tyX8_ok (by decide) (by decide) (hZ 1 (Nat.le_refl _)) (hR 1 (Nat.le_refl _)) ?_
  refine zg_dupr dL_law_3 ?_
  refine zg_callI (mc := 85) (ms := 781) (bc := 22) (bs := 1315) (As := []) dL_law_4 zk_L_9 rfl rfl (Nat.le_of_ble_eq_true rfl) (Nat.le_of_ble_eq_true rfl) rfl (zc_X8_init 16 (by simp [hn]) (z_last hn) (hZ 1 (Nat.le_refl _)) hZ (fun k hk => hR k (by omega))) (fun v h9 q9 => ?_)
  obtain ⟨rfl, rfl⟩ := q9
  refine zg_astore_n (ls' := [_, _, _, _]) dL_law_7 (Nat.le_of_ble_eq_true rfl) rfl rfl ?_
  exact k
set_option maxRecDepth 100000 in
theorem z_SH9 (L : Nat) : (((((((((((((((((((((((((((((((((((((((((((((((((((((((((((((((((((((((((((((((((((((((((((((((((((([(100, L)] ++ [(8, 12)]) ++ [(100, 110)]) ++ [(1, 14)]) ++ [(100, 9)]) ++ [(100, 9)]) ++ [(100, 9)]) ++ [(100, 14)]) ++ [(100, 14)]) ++ [(100, 4)]) ++ [(102, 4), (100, 5), (100, 5), (100, 5), (100, 5)]) ++ [(100, 4)]) ++ [(100, 4)]) ++ [(1, 14)]) ++ [(100, 9)]) ++ [(100, 9)]) ++ [(100, 9)]) ++ [(100, 14)]) ++ [(100, 14)]) ++ [(100, 4)]) ++ [(102, 4), (100, 5), (100, 5), (100, 5), (100, 5)]) ++ [(100, 4)]) ++ [(100, 4)]) ++ [(3, 9)]) ++ [(2, 5)]) ++ [(100, 9)]) ++ [(0, 3)]) ++ [(103, 10)]) ++ [(2, 5)]) ++ [(100, 9)]) ++ [(2, 5)]) ++ [(100, 9)]) ++ [(2, 5)]) ++ [(100, 9)]) ++ [(2, 5)]) ++ [(100, 9)]) ++ [(2, 5)]) ++ [(100, 9)]) ++ [(2, 5)]) ++ [(100, 9)]) ++ [(2, 5)]) ++ [(100, 9)]) ++ [(2, 5)]) ++ [(100, 9)]) ++ [(2, 5)]) ++ [(100, 9)]) ++ [(2, 5)]) ++ [(100, 9)]) ++ [(103, 2)]) ++ [(4, 12)]) ++ [(100, 4)]) ++ [(100, 4)]) ++ [(100, 4)]) ++ [(100, 4)]) ++ [(100, 4)]) ++ [(100, 4)]) ++ [(100, 9)]) ++ [(100, 4)]) ++ [(6, 2)]) ++ [(100, 9)]) ++ [(100, 9)]) ++ [(5, 5)]) ++ [(100, 18)]) ++ [(100, 18)]) ++ [(6, 2)]) ++ [(100, 9)]) ++ [(100, 9)]) ++ [(7, 6)]) ++ [(100, 6)]) ++ [(100, 6)]) ++ [(100, 6)]) ++ [(100, 81)]) ++ [(6, 2)]) ++ [(100, 9)]) ++ [(100, 9)]) ++ [(2, 5)]) ++ [(100, 9)]) ++ [(2, 5)]) ++ [(100, 9)]) ++ [(9, 34)]) ++ [(100, 110)]) ++ [(100, 74)]) ++ [(100, 74)]) ++ [(100, 13)]) ++ [(100, 130)]) ++ [(100, 26)]) ++ [(101, 2)]) ++ [(100, 6)]) ++ [(100, 6)]) ++ [(100, 6)]) ++ [(100, 4)]) ++ [(100, 9)]) ++ [(100, 9)]) ++ [(100, 9)]) ++ [(100, 512)]) ++ [(100, 20)]) ++ [(101, 20)]) ++ [(100, 162)]) ++ [(100, 4)]) ++ [(100, 4)]) ++ [(100, 81)]) = z_SH L := by
  simp only [List.append_assoc, List.cons_append, List.nil_append]
  rfl
set_option maxRecDepth 100000 in
theorem z_SH8 (L : Nat) : ((((((((((((((((((((((((((((((((((((((((((((((((((((((((((((((((((((((((((((((([(100, L)] ++ [(8, 12)]) ++ [(100, 110)]) ++ [(1, 14)]) ++ [(100, 9)]) ++ [(100, 9)]) ++ [(100, 9)]) ++ [(100, 14)]) ++ [(100, 14)]) ++ [(100, 4)]) ++ [(102, 4), (100, 5), (100, 5), (100, 5), (100, 5)]) ++ [(100, 4)]) ++ [(100, 4)]) ++ [(1, 14)]) ++ [(100, 9)]) ++ [(100, 9)]) ++ [(100, 9)]) ++ [(100, 14)]) ++ [(100, 14)]) ++ [(100, 4)]) ++ [(102, 4), (100, 5), (100, 5), (100, 5), (100, 5)]) ++ [(100, 4)]) ++ [(100, 4)]) ++ [(3, 9)]) ++ [(2, 5)]) ++ [(100, 9)]) ++ [(0, 3)]) ++ [(103, 10)]) ++ [(2, 5)]) ++ [(100, 9)]) ++ [(2, 5)]) ++ [(100, 9)]) ++ [(2, 5)]) ++ [(100, 9)]) ++ [(2, 5)]) ++ [(100, 9)]) ++ [(2, 5)]) ++ [(100, 9)]) ++ [(2, 5)]) ++ [(100, 9)]) ++ [(2, 5)]) ++ [(100, 9)]) ++ [(2, 5)]) ++ [(100, 9)]) ++ [(2, 5)]) ++ [(100, 9)]) ++ [(2, 5)]) ++ [(100, 9)]) ++ [(103, 2)]) ++ [(4, 12)]) ++ [(100, 4)]) ++ [(100, 4)]) ++ [(100, 4)]) ++ [(100, 4)]) ++ [(100, 4)]) ++ [(100, 4)]) ++ [(100, 9)]) ++ [(100, 4)]) ++ [(6, 2)]) ++ [(100, 9)]) ++ [(100, 9)]) ++ [(5, 5)]) ++ [(100, 18)]) ++ [(100, 18)]) ++ [(6, 2)]) ++ [(100, 9)]) ++ [(100, 9)]) ++ [(7, 6)]) ++ [(100, 6)]) ++ [(100, 6)]) ++ [(100, 6)]) ++ [(100, 81)]) ++ [(6, 2)]) ++ [(100, 9)]) ++ [(100, 9)]) ++ [(2, 5)]) ++ [(100, 9)]) ++ [(2, 5)]) ++ [(100, 9)])).length = 87 := by
  simp only [List.length_append, List.length_cons, List.length_nil]
theorem z_lawG (V : zV) {b1 b2 : Unit × zS} {S : zS} (hb1 : f_X9_begins (zFI8 (zfi0 V.2.2.2.2.2), 3, 17) = some b1) (hb2 : f_X9_settles b1.2 = some b2) (hl : f_L_law_18 V.2.2.2.2.1 V.2.2.2.2.2 1000 0 b2.2 = some (1, S)) :
    z_G V mL_law 20 108 2108 0 (z_ent mL_law [.ref 0]) [] ([(100, V.2.2.2.2.1)], zfi0 V.2.2.2.2.2, z_lk []) (fun v h' => v = some (.int 1)) :=
  z_law1 V rfl (zfi0_Z _) (fun _ _ => rfl) (z_law2 V (z_SH8 _) (zFI8_Z (zfi0_Z _)) zT8_above (z_SH9 _) zT9_FR hb1 hb2 hl)
/-- the law's own end -/
theorem z_lawret {p : Program} {l : Launch} {e : Env} {s : State} {m : MethodId} {below : List Frame} {meth : Method} {c : Code} {b : Nat} (hx : p.tables.exec = Jvm.exec) (hb : c.code = code) (hr : meth.sig.returnType = ret) (hlocks : meth.locks = false) {pc : Nat} {H : Heap} {ls : Array Slot} (hdg : decode code pc = .ok (.ireturn, 1)) : W p l e room_1 s m #[Value.ref b] below meth c H [] 600000 7302250 (lw_Z below #[Value.ref b] s) (F0 m pc ls [.int 1]) := lw_ret hx hb hr hlocks hdg
set_option maxRecDepth 100000 in
set_option maxHeartbeats 8000000 in
theorem z_start {p : Program} {e : Env} {s : State} {m : MethodId} {below : List Frame} {meth : Method} {c : Code} (hpure : zPure) (hnmL : meth.name = "law") (l : Launch) {b L : Nat} {xs : Nat → Int32} (hL : L ≤ 2048) (C0 : lw_At p s m meth c b L xs) : W p l e room_1 s m #[Value.ref b] below meth c s.heap [] 0 0 (lw_Z below #[Value.ref b] s) (entryFrame m ([Value.ref b] : List Value).toArray 4) := by
  obtain ⟨hx, hb, hr, hml, hown, hts, hX, hbl, hlocks, hgv⟩ := id C0
  obtain ⟨b1, b2, S, hb1, hb2, hl⟩ := hpure L xs hL
  have hts2 : ∀ w ∈ wsL_law, w.before #[Value.ref b] s = true := fun w h => hts w (wsL_law_in w h)
  obtain ⟨c0, i0, k0⟩ := u_known (C := RX0) (T := TX0) (N := 3) (n := 3) hts2 inlX0 (hts2 _ zt_1_173)
  obtain ⟨c1, i1, k1⟩ := u_known (C := RX1) (T := TX1) (N := 14) (n := 14) hts2 inlX1 (hts2 _ zt_1_24)
  obtain ⟨c2, i2, k2⟩ := u_known (C := RX2) (T := TX2) (N := 5) (n := 5) hts2 inlX2 (hts2 _ zt_1_145)
  obtain ⟨c3, i3, k3⟩ := u_known (C := RX3) (T := TX3) (N := 9) (n := 9) hts2 inlX3 (hts2 _ zt_1_111)
  obtain ⟨c4, i4, k4⟩ := u_known (C := RX4) (T := TX4) (N := 12) (n := 12) hts2 inlX4 (hts2 _ zt_1_193)
  obtain ⟨c5, i5, k5⟩ := u_known (C := RX5) (T := TX5) (N := 5) (n := 5) hts2 inlX5 (hts2 _ zt_2_24)
  obtain ⟨c6, i6, k6⟩ := u_known (C := RX6) (T := TX6) (N := 2) (n := 2) hts2 inlX6 (hts2 _ zt_1_199)
  obtain ⟨c7, i7, k7⟩ := u_known (C := RX7) (T := TX7) (N := 6) (n := 6) hts2 inlX7 (hts2 _ zt_2_52)
  obtain ⟨c8, i8, k8⟩ := u_known (C := RX8) (T := TX8) (N := 12) (n := 12) hts2 inlX8 (hts2 _ zt_1_16)
  obtain ⟨c9, i9, k9⟩ := u_known (C := RX9) (T := TX9) (N := 34) (n := 34) hts2 inlX9 (hts2 _ zt_4_85)
  obtain ⟨cI, kI, cmI, fI, gI, tI⟩ := Cond.arrayClass_spec (hts2 _ zt_1_109)
  obtain ⟨cZ, kZ, cmZ, fZ, gZ, tZ⟩ := Cond.arrayClass_spec (hts2 _ zt_4_220)
  have haq : va_AO "TorchPlate$Plight" s := va_AO.of (hts _ z_ao_q)
  have haa : z_AA s := z_AA.of (hts _ z_ao_a)
  obtain ⟨cmA, cA, kA, aA1, -, aA2, aA3, aA4⟩ := haa.spec
  obtain ⟨cmQ, cQ, kQ, aQ1, -, aQ2, aQ3, aQ4⟩ := Cond.arrayOver_spec haq
  let V : zV := ((fun k => match k with | 0 => c0 | 1 => c1 | 2 => c2 | 3 => c3 | 4 => c4 | 5 => c5 | 6 => c6 | 7 => c7 | 8 => c8 | _ => c9, fun k => match k with | 0 => i0 | 1 => i1 | 2 => i2 | 3 => i3 | 4 => i4 | 5 => i5 | 6 => i6 | 7 => i7 | 8 => i8 | _ => i9), b, s.heap.size, (cI, cZ, cA, cQ), L, xs)
  have hK : va_K V.1 vwCl (z_tys V) s := by
    refine ⟨fun k q hq => ?_, fun k q hq => ?_⟩
    · match k, hq with
      | 0, hq => cases hq; exact k0
      | 1, hq => cases hq; exact k1
      | 2, hq => cases hq; exact k2
      | 3, hq => cases hq; exact k3
      | 4, hq => cases hq; exact k4
      | 5, hq => cases hq; exact k5
      | 6, hq => cases hq; exact k6
      | 7, hq => cases hq; exact k7
      | 8, hq => cases hq; exact k8
      | 9, hq => cases hq; exact k9
      | k + 10, hq => simp [vwCl] at hq
    · match k, hq with
      | 0, hq => cases hq; exact ⟨fun n z => ⟨fun k h => (by cases h), kI, gI, cmI, tI⟩, fI⟩
      | 1, hq => cases hq; exact ⟨fun n z => ⟨fun k h => (by cases h), kZ, gZ, cmZ, tZ⟩, fZ⟩
      | 2, hq => cases hq; exact ⟨fun n z => ⟨fun k h => (by cases h), kA, aA2, cmA, aA3⟩, aA4⟩
      | 3, hq => cases hq; exact ⟨fun n z => ⟨fun k h => (by cases h), kQ, aQ2, cmQ, aQ3⟩, kQ, cmQ, aQ2, aQ3, aQ1, aQ4⟩
      | k + 4, hq => simp [z_tys] at hq
  have hN : z_N s := ⟨fun w hw => va_Nw.of (by
    obtain ⟨a, i, x, y, rfl⟩ : ∃ a i x y, w = .methodLinkNest a i x y := by
      unfold z_nest at hw
      simp only [List.mem_cons, List.not_mem_nil, or_false] at hw
      rcases hw with h | h | h | h | h | h | h | h | h | h | h | h | h | h | h | h <;> exact ⟨_, _, _, _, h⟩
    rfl) (hts w (z_nest_in w hw)), haq, haa⟩
  have C : z_C V mL_law 20 p l e room_1 s m #[Value.ref b] below meth c := ⟨hx, hb, hr, hml, hown, hlocks, hts2, hN, hK, by decide, by decide, hX, hbl, Nat.le_refl _, hnmL⟩
  have hw : z_W V ([(100, L)], zfi0 xs, z_lk []) s.heap := by
    refine ⟨fun k q hq => ?_, rfl, Nat.le_refl _, rfl, rfl⟩
    have := (List.getElem?_eq_some_iff.mp hq).1
    rw [z_len] at this
    exact absurd this (Nat.not_lt_zero _)
  have hG := z_budget (bc := 599892) (bs := 7300142) (z_lawG V hb1 hb2 hl)
  rw [lg_entry_eq]
  have hLs := z_entL (V := V) (M := mL_law) (as := [.ref 0]) (by decide) (by simp [z_ok])
  refine hG p l e room_1 s m #[Value.ref b] below meth c s.heap [] 0 0 _ _ C hw va_S.rf hLs rfl (by decide) (by decide) ?_
  intro v h' H' locs' pc' LS' i hv hw' hS' hR' hd'
  subst hv
  obtain ⟨rfl, -⟩ := hR'
  refine va_forget (fun q hq => hS'.2.2 q hq) ?_
  rw [Nat.zero_add, Nat.zero_add]
  exact lw_ret hx hb hr hlocks hd'

