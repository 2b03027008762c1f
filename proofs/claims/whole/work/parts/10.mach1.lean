/-! ===== the small machine: cells by places, their ints and their references apart ===== -/
abbrev zHP : Type := List (Nat × Nat) × (Nat → Nat → Int32) × (Nat → Nat → Option Nat)
/-- the world's names: slots and classes, the script's address, the first own address, array classes, the script -/
abbrev zV : Type := va_G × Nat × Nat × (ClassId × ClassId × ClassId × ClassId) × Nat × (Nat → Int32)
abbrev zM : Type := MethodName × ByteArray × Nat × Option FieldType
def z_ad (V : zV) : Nat → Nat
  | 0 => V.2.1
  | k + 1 => V.2.2.1 + k
def z_rl (V : zV) : Value → Value
  | .ref k => .ref (z_ad V k)
  | v => v
def z_tyR : FieldType → Bool
  | .object _ => true
  | .array _ => true
  | _ => false
def z_ty (ci : Nat) : Nat → FieldType := match ci with
  | 0 => tyX0
  | 1 => tyX1
  | 2 => tyX2
  | 3 => tyX3
  | 4 => tyX4
  | 5 => tyX5
  | 6 => tyX6
  | 7 => tyX7
  | 8 => tyX8
  | _ => tyX9
def z_val (V : zV) (h : zHP) (ci k j : Nat) : Value := if z_tyR (z_ty ci j) = true then va_rf ((h.2.2 k j).map (z_ad V)) else .int (h.2.1 k j)
def z_cell (V : zV) (h : zHP) (k : Nat) (t : Nat × Nat) : va_E :=
  if t.1 = 100 then .inl (V.2.2.2.1.1, t.2, .inl (h.2.1 k))
  else if t.1 = 101 then .inl (V.2.2.2.1.2.1, t.2, .inl (h.2.1 k))
  else if t.1 = 102 then .inl (V.2.2.2.1.2.2.1, t.2, .inr (.inr (.inr (.inr (fun j => (h.2.2 k j).map (z_ad V))))))
  else if t.1 = 103 then .inl (V.2.2.2.1.2.2.2, t.2, .inr (.inr (.inr (.inr (fun j => (h.2.2 k j).map (z_ad V))))))
  else .inr (t.1, (List.range t.2).map (z_val V h t.1 k))
def z_ws (V : zV) (h : zHP) : va_W := (List.range (h.1.length - 1)).map (fun q => (z_ad V (q + 1), z_cell V h (q + 1) (h.1.getD (q + 1) (0, 0))))
def z_ui (f : Nat → Nat → Int32) (k : Nat) (g : Nat → Int32) : Nat → Nat → Int32 := fun q => if q = k then g else f q
def z_ur (f : Nat → Nat → Option Nat) (k : Nat) (g : Nat → Option Nat) : Nat → Nat → Option Nat := fun q => if q = k then g else f q
theorem z_cell_kept {V : zV} {h h' : zHP} {k : Nat} {t : Nat × Nat} (h1 : h'.2.1 k = h.2.1 k) (h2 : h'.2.2 k = h.2.2 k) : z_cell V h' k t = z_cell V h k t := by
  unfold z_cell z_val
  rw [h1, h2]
theorem z_get {V : zV} {h : zHP} {k : Nat} {t : Nat × Nat} (hk : h.1[k + 1]? = some t) : (z_ws V h)[k]? = some (z_ad V (k + 1), z_cell V h (k + 1) t) := by
  have hl : k + 1 < h.1.length := (List.getElem?_eq_some_iff.mp hk).1
  unfold z_ws
  rw [List.getElem?_map, List.getElem?_range (by omega)]
  simp [List.getD, hk]
theorem z_len (V : zV) (h : zHP) : (z_ws V h).length = h.1.length - 1 := by simp [z_ws]
theorem z_at_of {V : zV} {h : zHP} {k : Nat} {q : Nat × va_E} (hk : (z_ws V h)[k]? = some q) : ∃ t, h.1[k + 1]? = some t ∧ q = (z_ad V (k + 1), z_cell V h (k + 1) t) := by
  have hl : k < (z_ws V h).length := (List.getElem?_eq_some_iff.mp hk).1
  rw [z_len] at hl
  have hg : h.1[k + 1]? = some (h.1[k + 1]'(by omega)) := List.getElem?_eq_getElem (by omega)
  refine ⟨_, hg, ?_⟩
  have := z_get (V := V) hg
  rw [hk] at this
  exact Option.some.inj this
theorem z_set_gen {V : zV} {h h' : zHP} {k : Nat} {t : Nat × Nat} (hk : h.1[k + 1]? = some t) (h0 : h'.1 = h.1) (h1 : ∀ q, q ≠ k + 1 → h'.2.1 q = h.2.1 q) (h2 : ∀ q, q ≠ k + 1 → h'.2.2 q = h.2.2 q) : z_ws V h' = (z_ws V h).set k (z_ad V (k + 1), z_cell V h' (k + 1) t) := by
  apply List.ext_getElem?
  intro i
  by_cases hi : i < h.1.length - 1
  · have hg : h.1[i + 1]? = some (h.1[i + 1]'(by omega)) := List.getElem?_eq_getElem (by omega)
    rw [z_get (V := V) (h := h') (t := h.1[i + 1]'(by omega)) (by rw [h0]; exact hg)]
    by_cases e : i = k
    · subst e
      rw [List.getElem?_set_self (by rw [z_len]; exact hi)]
      rw [hg] at hk
      rw [Option.some.inj hk]
    · rw [List.getElem?_set_ne (Ne.symm e), z_get hg]
      rw [z_cell_kept (h1 _ (by omega)) (h2 _ (by omega))]
  · rw [List.getElem?_eq_none (by rw [z_len, h0]; omega), List.getElem?_eq_none (by rw [List.length_set, z_len]; omega)]
theorem z_push {V : zV} {h h' : zHP} {t : Nat × Nat} (hl : 1 ≤ h.1.length) (h0 : h'.1 = h.1 ++ [t]) (h1 : ∀ q, q < h.1.length → h'.2.1 q = h.2.1 q) (h2 : ∀ q, q < h.1.length → h'.2.2 q = h.2.2 q) : z_ws V h' = z_ws V h ++ [(z_ad V h.1.length, z_cell V h' h.1.length t)] := by
  obtain ⟨n, hn⟩ : ∃ n, h.1.length = n + 1 := ⟨h.1.length - 1, by omega⟩
  apply List.ext_getElem?
  intro i
  by_cases hi : i < h.1.length - 1
  · have hg : h.1[i + 1]? = some (h.1[i + 1]'(by omega)) := List.getElem?_eq_getElem (by omega)
    rw [List.getElem?_append_left (by rw [z_len]; exact hi), z_get hg, z_get (V := V) (h := h') (t := h.1[i + 1]'(by omega)) (by rw [h0, List.getElem?_append_left (by omega)]; exact hg)]
    rw [z_cell_kept (h1 _ (by omega)) (h2 _ (by omega))]
  · by_cases e : i = n
    · subst e
      rw [List.getElem?_append_right (by rw [z_len]; omega), z_len, z_get (V := V) (h := h') (t := t) (by rw [h0, List.getElem?_append_right (by omega)]; simp [hn])]
      simp [hn]
    · rw [List.getElem?_eq_none (by rw [z_len, h0]; simp; omega), List.getElem?_eq_none (by simp [z_len]; omega)]
theorem z_D (V : zV) (h : zHP) : va_D (fun q => V.2.2.1 ≤ q) (z_ws V h) := by
  refine ⟨fun i j p q hi hj e => ?_, fun k q hk => ?_⟩
  · obtain ⟨t, -, rfl⟩ := z_at_of hi
    obtain ⟨u, -, rfl⟩ := z_at_of hj
    have : V.2.2.1 + i = V.2.2.1 + j := e
    omega
  · obtain ⟨t, -, rfl⟩ := z_at_of hk
    exact Nat.le_add_right _ _
/-- the heap holds the world -/
def z_W (V : zV) (h : zHP) (H : Heap) : Prop := va_P V.1 vwCl (z_ws V h) H ∧ H.size + 1 = V.2.2.1 + h.1.length ∧ 1 ≤ h.1.length ∧ h.1[0]? = some (100, V.2.2.2.2.1) ∧ h.2.1 0 = V.2.2.2.2.2
def z_tys (V : zV) : List (ClassId × FieldType) := [(V.2.2.2.1.1, .int), (V.2.2.2.1.2.1, .boolean), (V.2.2.2.1.2.2.1, .array .int), (V.2.2.2.1.2.2.2, .object "TorchPlate$Plight")]
def z_L (V : zV) (LS : Array Slot) (ls : List Value) : Prop := LS.size = ls.length ∧ lv_wf LS ∧ ∀ (i : Nat) (v : Value), ls[i]? = some v → v ≠ .null → LS[i]? = some (.val (z_rl V v))
def z_nest : List Cond := [.methodLinkNest RX8 19 yX1_init RX8, .methodLinkNest RX8 29 yX3_init RX8, .methodLinkNest RX8 36 yX2_init RX8, .methodLinkNest RX0 24 yX2_init RX8, .methodLinkNest RX8 57 yX4_init RX8, .methodLinkNest RX4 49 yX6_init RX8, .methodLinkNest RX8 64 yX5_init RX8, .methodLinkNest RX5 27 yX6_init RX8, .methodLinkNest RX8 71 yX7_init RX8, .methodLinkNest RX7 30 yX6_init RX8, .methodLinkNest RX1 73 yX8_has RX8, .methodLinkNest RX6 29 yX8_has RX8, .methodLinkNest RX4 95 yX8_has RX8, .methodLinkNest RX2 81 yX8_has RX8, .methodLinkNest RX5 68 yX8_has RX8, .methodLinkNest RX7 40 yX8_has RX8]
/-- the class of int[][] is there, found by its component -/
def z_AA (U : State) : Prop := (Cond.arrayOver (.array .int)).before #[] U = true
theorem z_AA.use {A : Array Value} {U : State} (h : z_AA U) : (Cond.arrayOver (.array .int)).before A U = true := h
theorem z_AA.of {A : Array Value} {U : State} (h : (Cond.arrayOver (.array .int)).before A U = true) : z_AA U := h
theorem z_AA.spec {s : State} (h : z_AA s) : ∃ comp c k, s.vm.findClass (FieldType.array .int).toString = some comp ∧ (s.vm.classes.findIdx? fun (x : Class) => match x.kind with | .array component _ => component == comp | _ => false) = some c ∧ s.vm.classes[c]? = some k ∧ k.kind = .array comp (.array .int) ∧ s.vm.findClass ("[" ++ (FieldType.array .int).toString) = some c := by
  unfold z_AA Cond.before at h
  simp only [Cond.holds, Cond.value, beq_iff_eq] at h
  cases hc : s.vm.findClass (FieldType.array .int).toString with
  | none => simp [hc] at h
  | some comp =>
    simp only [hc, Option.bind_some, Option.bind_eq_some_iff, Option.map_eq_some_iff] at h
    obtain ⟨c, hi, k, hk, hb⟩ := h
    obtain ⟨hlt, hp, -⟩ := Array.findIdx?_eq_some_iff_getElem.mp hi
    have hkk : s.vm.classes[c] = k := (Array.getElem?_eq_some_iff.mp hk).2
    rw [hkk] at hp
    cases hkind : k.kind with
    | array component ty =>
      rw [hkind] at hb hp
      simp at hb hp
      exact ⟨comp, c, k, rfl, hi, hk, by rw [hkind, hp, hb.1], hb.2⟩
    | _ => rw [hkind] at hb; simp at hb
theorem z_AA.moved {u U : State} (hvm : u.vm.Alike U.vm) (h : z_AA u) : z_AA U := by
  obtain ⟨comp, c, k, h1, h2, h3, h4, h5⟩ := h.spec
  obtain ⟨k', hk', he⟩ := hvm.2.2 _ _ h3
  have hi : (U.vm.classes.findIdx? fun (x : Class) => match x.kind with | .array component _ => component == comp | _ => false) = some c := by
    refine (va_idx_bare U.vm comp).symm.trans ?_
    refine Eq.trans ?_ ((va_idx_bare u.vm comp).trans h2)
    first | rw [hvm.bare_eq] | rw [← hvm.bare_eq]
  have hkind : k'.kind = .array comp (.array .int) := by rw [he]; exact h4
  have f1 : U.vm.findClass (FieldType.array .int).toString = some comp := by rw [hvm.findClass]; exact h1
  have f2 : U.vm.findClass ("[" ++ (FieldType.array .int).toString) = some c := by rw [hvm.findClass]; exact h5
  unfold z_AA Cond.before Cond.holds
  simp only [Cond.value]
  rw [f1, Option.bind_some]
  refine (congrArg (fun o : Option Nat => (o.bind (fun c => (U.vm.classes[c]?).map fun (k : Class) => match k.kind with | .array _ ty => decide (ty = FieldType.array .int) && decide (U.vm.findClass ("[" ++ (FieldType.array .int).toString) = some c) | _ => false) == some true)) hi).trans ?_
  simp [hk', hkind, f2]
def z_N (s : State) : Prop := (∀ w ∈ z_nest, va_Nw w s) ∧ va_AO "TorchPlate$Plight" s ∧ z_AA s
def z_C (V : zV) (M : zM) (d : Nat) (p : Program) (l : Launch) (e : Env) (R : Room) (s : State) (m : MethodId) (args : Array Value) (below : List Frame) (meth : Method) (c : Code) : Prop :=
  p.tables.exec = Jvm.exec ∧ c.code = M.2.1 ∧ meth.sig.returnType = M.2.2.2 ∧ c.maxLocals = M.2.2.1 ∧ s.vm.findClass M.1.cls = some m.cls ∧ meth.locks = false ∧ (∀ w ∈ wsL_law, w.before args s = true) ∧ z_N s ∧ va_K V.1 vwCl (z_tys V) s ∧ d ≤ R.frames ∧ 100 * d ≤ R.locals ∧ va_X V.2.1 V.2.2.2.2.1 V.2.2.2.2.2 s s.heap ∧ V.2.1 < V.2.2.1 ∧ V.2.2.1 ≤ s.heap.size ∧ meth.name = M.1.name
def z_R (M : zM) (v : Option Value) (i : Instr) : Prop := match v with
  | none => i = .return_ ∧ M.2.2.2 = none
  | some (.int x) => i = .ireturn ∧ ∃ ty, M.2.2.2 = some ty ∧ narrow ty (.int x) = .int x
  | some (.ref _) => i = .areturn ∧ ∃ rt, M.2.2.2 = some rt ∧ ((∃ n, rt = .object n) ∨ ∃ t, rt = .array t)
  | _ => False
/-- the judgement: from this frame, with this world, the method comes to a return with Φ -/
def z_G (V : zV) (M : zM) (d bc bs pc : Nat) (ls st : List Value) (h : zHP) (Φ : Option Value → zHP → Prop) : Prop :=
  ∀ (p : Program) (l : Launch) (e : Env) (R : Room) (s : State) (m : MethodId) (args : Array Value) (below : List Frame) (meth : Method) (c : Code) (H : Heap) (locs : List Loc) (cells slots : Nat) (LS : Array Slot) (QQ : State → Prop),
    z_C V M d p l e R s m args below meth c → z_W V h H → va_S (fun q => V.2.2.1 ≤ q) s.heap H locs → z_L V LS ls → M.2.2.1 = ls.length → cells + bc ≤ R.cells → slots + bs ≤ R.slots →
    (∀ (v : Option Value) (h' : zHP) (H' : Heap) (locs' : List Loc) (pc' : Nat) (LS' : Array Slot) (i : Instr), Φ v h' → z_W V h' H' → va_S (fun q => V.2.2.1 ≤ q) s.heap H' locs' → z_R M v i → decode M.2.1 pc' = .ok (i, 1) → W p l e R s m args below meth c H' locs' (cells + bc) (slots + bs) QQ (F0 m pc' LS' (v.toList.map (z_rl V)))) →
    W p l e R s m args below meth c H locs cells slots QQ (F0 m pc LS (st.map (z_rl V)))
theorem z_G.mono {V : zV} {M : zM} {d bc bs pc : Nat} {ls st : List Value} {h : zHP} {Φ Ψ : Option Value → zHP → Prop} (k : z_G V M d bc bs pc ls st h Φ) (hm : ∀ v h', Φ v h' → Ψ v h') : z_G V M d bc bs pc ls st h Ψ :=
  fun p l e R s m args below meth c H locs cells slots LS QQ C hw hS hL hn hc hs ret => k p l e R s m args below meth c H locs cells slots LS QQ C hw hS hL hn hc hs (fun v h' H' locs' pc' LS' i f => ret v h' H' locs' pc' LS' i (hm v h' f))
section ZG
variable {V : zV} {M : zM} {d bc bs pc : Nat} {ls st : List Value} {h : zHP} {Φ : Option Value → zHP → Prop}
/-- an instruction of the stack alone -/
theorem zg_go {pc' : Nat} {st st' : List Value} (hstep : ∀ (p : Program) (l : Launch) (e : Env) (R : Room) (s : State) (m : MethodId) (args : Array Value) (below : List Frame) (meth : Method) (c : Code) (H : Heap) (locs : List Loc) (cells slots : Nat) (LS : Array Slot) (QQ : State → Prop), z_C V M d p l e R s m args below meth c → z_L V LS ls → W p l e R s m args below meth c H locs cells slots QQ (F0 m pc' LS (st'.map (z_rl V))) → W p l e R s m args below meth c H locs cells slots QQ (F0 m pc LS (st.map (z_rl V))))
    (k : z_G V M d bc bs pc' ls st' h Φ) : z_G V M d bc bs pc ls st h Φ :=
  fun p l e R s m args below meth c H locs cells slots LS QQ C hw hS hL hn hc hs ret => hstep p l e R s m args below meth c H locs cells slots LS QQ C hL (k p l e R s m args below meth c H locs cells slots LS QQ C hw hS hL hn hc hs ret)
def z_at : List Value → Nat → Option Value
  | [], _ => none
  | v :: _, 0 => some v
  | _ :: l, n + 1 => z_at l n
def z_st : List Value → Nat → Value → List Value
  | [], _, _ => []
  | _ :: l, 0, x => x :: l
  | v :: l, n + 1, x => v :: z_st l n x
theorem z_at_eq : ∀ (l : List Value) (i : Nat), z_at l i = l[i]?
  | [], _ => rfl
  | _ :: _, 0 => rfl
  | _ :: l, n + 1 => by rw [List.getElem?_cons_succ]; exact z_at_eq l n
theorem z_st_eq : ∀ (l : List Value) (i : Nat) (x : Value), z_st l i x = l.set i x
  | [], _, _ => rfl
  | _ :: _, 0, _ => rfl
  | v :: l, n + 1, x => by rw [List.set_cons_succ, ← z_st_eq l n x]; rfl
theorem zg_iconst {n : Int} (v : Int32) (hd : decode M.2.1 pc = .ok (.iconst n, 1)) (hv : Int32.ofInt n = v) (k : z_G V M d bc bs (pc + 1) ls (.int v :: st) h Φ) : z_G V M d bc bs pc ls st h Φ :=
  zg_go (fun _ _ _ _ _ _ _ _ _ _ _ _ _ _ _ _ C _ w => lv_iconst C.1 C.2.1 hd hv w) k
theorem zg_bipush {n : Int} (v : Int32) (hd : decode M.2.1 pc = .ok (.bipush n, 2)) (hv : (Int8.ofInt n).toInt32 = v) (k : z_G V M d bc bs (pc + 2) ls (.int v :: st) h Φ) : z_G V M d bc bs pc ls st h Φ :=
  zg_go (fun _ _ _ _ _ _ _ _ _ _ _ _ _ _ _ _ C _ w => lv_bipush C.1 C.2.1 hd hv w) k
theorem zg_sipush {n : Int} (v : Int32) (hd : decode M.2.1 pc = .ok (.sipush n, 3)) (hv : (Int16.ofInt n).toInt32 = v) (k : z_G V M d bc bs (pc + 3) ls (.int v :: st) h Φ) : z_G V M d bc bs pc ls st h Φ :=
  zg_go (fun _ _ _ _ _ _ _ _ _ _ _ _ _ _ _ _ C _ w => lv_sipush C.1 C.2.1 hd hv w) k
theorem zg_ldc {i : Nat} (v : Int32) (hd : decode M.2.1 pc = .ok (.ldc i, 2)) (hw : Cond.constant M.1.cls i v ∈ wsL_law) (k : z_G V M d bc bs (pc + 2) ls (.int v :: st) h Φ) : z_G V M d bc bs pc ls st h Φ :=
  zg_go (fun _ _ _ _ _ _ _ _ _ _ _ _ _ _ _ _ C _ w => lv_ldc C.1 C.2.1 C.2.2.2.2.1 (C.2.2.2.2.2.2.1 _ hw) hd w) k
theorem zg_ldcw {i : Nat} (v : Int32) (hd : decode M.2.1 pc = .ok (.ldc_w i, 3)) (hw : Cond.constant M.1.cls i v ∈ wsL_law) (k : z_G V M d bc bs (pc + 3) ls (.int v :: st) h Φ) : z_G V M d bc bs pc ls st h Φ :=
  zg_go (fun _ _ _ _ _ _ _ _ _ _ _ _ _ _ _ _ C _ w => lv_ldcw C.1 C.2.1 C.2.2.2.2.1 (C.2.2.2.2.2.2.1 _ hw) hd w) k
theorem z_L.at {LS : Array Slot} {i : Nat} {v : Value} (hL : z_L V LS ls) (hv : z_at ls i = some v) (hn : v ≠ .null) : LS[i]? = some (.val (z_rl V v)) := hL.2.2 i v (by rw [← z_at_eq]; exact hv) hn
theorem zg_iload {i : Nat} {x : Int32} (hd : decode M.2.1 pc = .ok (.iload i, 2)) (hv : z_at ls i = some (.int x)) (k : z_G V M d bc bs (pc + 2) ls (.int x :: st) h Φ) : z_G V M d bc bs pc ls st h Φ :=
  zg_go (fun _ _ _ _ _ _ _ _ _ _ _ _ _ _ _ _ C hL w => lv_iload C.1 C.2.1 hd (hL.at hv (fun q => by cases q)) w) k
theorem zg_iload_n {i : Fin 4} {x : Int32} (hd : decode M.2.1 pc = .ok (.iload_n i, 1)) (hv : z_at ls i = some (.int x)) (k : z_G V M d bc bs (pc + 1) ls (.int x :: st) h Φ) : z_G V M d bc bs pc ls st h Φ :=
  zg_go (fun _ _ _ _ _ _ _ _ _ _ _ _ _ _ _ _ C hL w => lv_iload_n C.1 C.2.1 hd rfl (hL.at hv (fun q => by cases q)) w) k
theorem zg_aload {i : Nat} {x : Nat} (hd : decode M.2.1 pc = .ok (.aload i, 2)) (hv : z_at ls i = some (.ref x)) (k : z_G V M d bc bs (pc + 2) ls (.ref x :: st) h Φ) : z_G V M d bc bs pc ls st h Φ :=
  zg_go (fun _ _ _ _ _ _ _ _ _ _ _ _ _ _ _ _ C hL w => lv_aload C.1 C.2.1 hd (hL.at hv (fun q => by cases q)) w) k
theorem zg_aload_n {i : Fin 4} {x : Nat} (hd : decode M.2.1 pc = .ok (.aload_n i, 1)) (hv : z_at ls i = some (.ref x)) (k : z_G V M d bc bs (pc + 1) ls (.ref x :: st) h Φ) : z_G V M d bc bs pc ls st h Φ :=
  zg_go (fun _ _ _ _ _ _ _ _ _ _ _ _ _ _ _ _ C hL w => lv_aload_n C.1 C.2.1 hd rfl (hL.at hv (fun q => by cases q)) w) k
theorem zg_iadd {x y : Int32} (hd : decode M.2.1 pc = .ok (.iadd, 1)) (k : z_G V M d bc bs (pc + 1) ls (.int (x + y) :: st) h Φ) : z_G V M d bc bs pc ls (.int y :: .int x :: st) h Φ :=
  zg_go (fun _ _ _ _ _ _ _ _ _ _ _ _ _ _ _ _ C _ w => lv_iadd C.1 C.2.1 hd w) k
theorem zg_isub {x y : Int32} (hd : decode M.2.1 pc = .ok (.isub, 1)) (k : z_G V M d bc bs (pc + 1) ls (.int (x - y) :: st) h Φ) : z_G V M d bc bs pc ls (.int y :: .int x :: st) h Φ :=
  zg_go (fun _ _ _ _ _ _ _ _ _ _ _ _ _ _ _ _ C _ w => lv_isub C.1 C.2.1 hd w) k
theorem zg_imul {x y : Int32} (hd : decode M.2.1 pc = .ok (.imul, 1)) (k : z_G V M d bc bs (pc + 1) ls (.int (x * y) :: st) h Φ) : z_G V M d bc bs pc ls (.int y :: .int x :: st) h Φ :=
  zg_go (fun _ _ _ _ _ _ _ _ _ _ _ _ _ _ _ _ C _ w => lv_imul C.1 C.2.1 hd w) k
theorem zg_iand {x y : Int32} (hd : decode M.2.1 pc = .ok (.iand, 1)) (k : z_G V M d bc bs (pc + 1) ls (.int (x &&& y) :: st) h Φ) : z_G V M d bc bs pc ls (.int y :: .int x :: st) h Φ :=
  zg_go (fun _ _ _ _ _ _ _ _ _ _ _ _ _ _ _ _ C _ w => lv_iand C.1 C.2.1 hd w) k
theorem zg_ior {x y : Int32} (hd : decode M.2.1 pc = .ok (.ior, 1)) (k : z_G V M d bc bs (pc + 1) ls (.int (x ||| y) :: st) h Φ) : z_G V M d bc bs pc ls (.int y :: .int x :: st) h Φ :=
  zg_go (fun _ _ _ _ _ _ _ _ _ _ _ _ _ _ _ _ C _ w => lv_ior C.1 C.2.1 hd w) k
theorem zg_ixor {x y : Int32} (hd : decode M.2.1 pc = .ok (.ixor, 1)) (k : z_G V M d bc bs (pc + 1) ls (.int (x ^^^ y) :: st) h Φ) : z_G V M d bc bs pc ls (.int y :: .int x :: st) h Φ :=
  zg_go (fun _ _ _ _ _ _ _ _ _ _ _ _ _ _ _ _ C _ w => lv_ixor C.1 C.2.1 hd w) k
theorem zg_ishl {x y : Int32} (hd : decode M.2.1 pc = .ok (.ishl, 1)) (k : z_G V M d bc bs (pc + 1) ls (.int (x <<< (y &&& 31)) :: st) h Φ) : z_G V M d bc bs pc ls (.int y :: .int x :: st) h Φ :=
  zg_go (fun _ _ _ _ _ _ _ _ _ _ _ _ _ _ _ _ C _ w => lv_ishl C.1 C.2.1 hd w) k
theorem zg_ishr {x y : Int32} (hd : decode M.2.1 pc = .ok (.ishr, 1)) (k : z_G V M d bc bs (pc + 1) ls (.int (x >>> (y &&& 31)) :: st) h Φ) : z_G V M d bc bs pc ls (.int y :: .int x :: st) h Φ :=
  zg_go (fun _ _ _ _ _ _ _ _ _ _ _ _ _ _ _ _ C _ w => lv_ishr C.1 C.2.1 hd w) k
theorem zg_idiv {x y : Int32} (hd : decode M.2.1 pc = .ok (.idiv, 1)) (hne : ¬ y = 0) (k : z_G V M d bc bs (pc + 1) ls (.int (x / y) :: st) h Φ) : z_G V M d bc bs pc ls (.int y :: .int x :: st) h Φ :=
  zg_go (fun _ _ _ _ _ _ _ _ _ _ _ _ _ _ _ _ C _ w => lv_idiv C.1 C.2.1 hd hne w) k
theorem zg_irem {x y : Int32} (hd : decode M.2.1 pc = .ok (.irem, 1)) (hne : ¬ y = 0) (k : z_G V M d bc bs (pc + 1) ls (.int (x - x / y * y) :: st) h Φ) : z_G V M d bc bs pc ls (.int y :: .int x :: st) h Φ :=
  zg_go (fun _ _ _ _ _ _ _ _ _ _ _ _ _ _ _ _ C _ w => lv_irem C.1 C.2.1 hd hne w) k
theorem zg_ineg {x : Int32} (hd : decode M.2.1 pc = .ok (.ineg, 1)) (k : z_G V M d bc bs (pc + 1) ls (.int (-x) :: st) h Φ) : z_G V M d bc bs pc ls (.int x :: st) h Φ :=
  zg_go (fun _ _ _ _ _ _ _ _ _ _ _ _ _ _ _ _ C _ w => lv_ineg C.1 C.2.1 hd w) k
theorem zg_iushr {x y : Int32} (hd : decode M.2.1 pc = .ok (.iushr, 1)) (k : z_G V M d bc bs (pc + 1) ls (.int ((x.toUInt32 >>> (y.toUInt32 &&& Int32.toUInt32 31)).toInt32) :: st) h Φ) : z_G V M d bc bs pc ls (.int y :: .int x :: st) h Φ :=
  zg_go (fun _ _ _ _ _ _ _ _ _ _ _ _ _ _ _ _ C _ w => lv_iushr C.1 C.2.1 hd rfl w) k
theorem zg_dupi {x : Int32} (hd : decode M.2.1 pc = .ok (.dup, 1)) (k : z_G V M d bc bs (pc + 1) ls (.int x :: .int x :: st) h Φ) : z_G V M d bc bs pc ls (.int x :: st) h Φ :=
  zg_go (fun _ _ _ _ _ _ _ _ _ _ _ _ _ _ _ _ C _ w => lv_dup C.1 C.2.1 hd rfl w) k
theorem zg_dupr {x : Nat} (hd : decode M.2.1 pc = .ok (.dup, 1)) (k : z_G V M d bc bs (pc + 1) ls (.ref x :: .ref x :: st) h Φ) : z_G V M d bc bs pc ls (.ref x :: st) h Φ :=
  zg_go (fun _ _ _ _ _ _ _ _ _ _ _ _ _ _ _ _ C _ w => lv_dup C.1 C.2.1 hd rfl w) k
theorem zg_dup2 {x : Nat} {y : Int32} (hd : decode M.2.1 pc = .ok (.dup2, 1)) (k : z_G V M d bc bs (pc + 1) ls (.int y :: .ref x :: .int y :: .ref x :: st) h Φ) : z_G V M d bc bs pc ls (.int y :: .ref x :: st) h Φ :=
  zg_go (fun _ _ _ _ _ _ _ _ _ _ _ _ _ _ _ _ C _ w => lv_dup2_11 C.1 C.2.1 hd rfl rfl w) k
theorem zg_popi {x : Int32} (hd : decode M.2.1 pc = .ok (.pop, 1)) (k : z_G V M d bc bs (pc + 1) ls st h Φ) : z_G V M d bc bs pc ls (.int x :: st) h Φ :=
  zg_go (fun _ _ _ _ _ _ _ _ _ _ _ _ _ _ _ _ C _ w => lv_pop C.1 C.2.1 hd rfl w) k
theorem zg_goto {off : Int} (tgt : Nat) (hd : decode M.2.1 pc = .ok (.goto off, 3)) (ht : (pc : Int) + off = (tgt : Int)) (k : z_G V M d bc bs tgt ls st h Φ) : z_G V M d bc bs pc ls st h Φ :=
  zg_go (fun _ _ _ _ _ _ _ _ _ _ _ _ _ _ _ _ C _ w => lv_goto C.1 C.2.1 hd ht w) k
/-- a branch -/
theorem zg_br {P : Prop} {pc1 pc2 : Nat} {st' : List Value} (hstep : ∀ (p : Program) (l : Launch) (e : Env) (R : Room) (s : State) (m : MethodId) (args : Array Value) (below : List Frame) (meth : Method) (c : Code) (H : Heap) (locs : List Loc) (cells slots : Nat) (LS : Array Slot) (QQ : State → Prop), z_C V M d p l e R s m args below meth c → (P → W p l e R s m args below meth c H locs cells slots QQ (F0 m pc1 LS (st'.map (z_rl V)))) → (¬ P → W p l e R s m args below meth c H locs cells slots QQ (F0 m pc2 LS (st'.map (z_rl V)))) → W p l e R s m args below meth c H locs cells slots QQ (F0 m pc LS (st.map (z_rl V))))
    (kt : P → z_G V M d bc bs pc1 ls st' h Φ) (kf : ¬ P → z_G V M d bc bs pc2 ls st' h Φ) : z_G V M d bc bs pc ls st h Φ :=
  fun p l e R s m args below meth c H locs cells slots LS QQ C hw hS hL hn hc hs ret => hstep p l e R s m args below meth c H locs cells slots LS QQ C (fun q => kt q p l e R s m args below meth c H locs cells slots LS QQ C hw hS hL hn hc hs ret) (fun q => kf q p l e R s m args below meth c H locs cells slots LS QQ C hw hS hL hn hc hs ret)
theorem zg_if_eq {x : Int32} {off : Int} (tgt : Nat) (hd : decode M.2.1 pc = .ok (.ifCond .eq off, 3)) (ht : (pc : Int) + off = (tgt : Int)) (kt : x = 0 → z_G V M d bc bs tgt ls st h Φ) (kf : ¬ (x = 0) → z_G V M d bc bs (pc + 3) ls st h Φ) : z_G V M d bc bs pc ls (.int x :: st) h Φ :=
  zg_br (fun _ _ _ _ _ _ _ _ _ _ _ _ _ _ _ _ C a b => lv_if_eq C.1 C.2.1 hd ht a b) kt kf
theorem zg_icmp_eq {x y : Int32} {off : Int} (tgt : Nat) (hd : decode M.2.1 pc = .ok (.if_icmp .eq off, 3)) (ht : (pc : Int) + off = (tgt : Int)) (kt : x = y → z_G V M d bc bs tgt ls st h Φ) (kf : ¬ (x = y) → z_G V M d bc bs (pc + 3) ls st h Φ) : z_G V M d bc bs pc ls (.int y :: .int x :: st) h Φ :=
  zg_br (fun _ _ _ _ _ _ _ _ _ _ _ _ _ _ _ _ C a b => lv_icmp_eq C.1 C.2.1 hd ht a b) kt kf
theorem zg_if_ne {x : Int32} {off : Int} (tgt : Nat) (hd : decode M.2.1 pc = .ok (.ifCond .ne off, 3)) (ht : (pc : Int) + off = (tgt : Int)) (kt : x = 0 → z_G V M d bc bs (pc + 3) ls st h Φ) (kf : ¬ (x = 0) → z_G V M d bc bs tgt ls st h Φ) : z_G V M d bc bs pc ls (.int x :: st) h Φ :=
  zg_br (fun _ _ _ _ _ _ _ _ _ _ _ _ _ _ _ _ C a b => lv_if_ne C.1 C.2.1 hd ht b a) kt kf
theorem zg_icmp_ne {x y : Int32} {off : Int} (tgt : Nat) (hd : decode M.2.1 pc = .ok (.if_icmp .ne off, 3)) (ht : (pc : Int) + off = (tgt : Int)) (kt : x = y → z_G V M d bc bs (pc + 3) ls st h Φ) (kf : ¬ (x = y) → z_G V M d bc bs tgt ls st h Φ) : z_G V M d bc bs pc ls (.int y :: .int x :: st) h Φ :=
  zg_br (fun _ _ _ _ _ _ _ _ _ _ _ _ _ _ _ _ C a b => lv_icmp_ne C.1 C.2.1 hd ht b a) kt kf
theorem zg_if_lt {x : Int32} {off : Int} (tgt : Nat) (hd : decode M.2.1 pc = .ok (.ifCond .lt off, 3)) (ht : (pc : Int) + off = (tgt : Int)) (kt : x < 0 → z_G V M d bc bs tgt ls st h Φ) (kf : ¬ (x < 0) → z_G V M d bc bs (pc + 3) ls st h Φ) : z_G V M d bc bs pc ls (.int x :: st) h Φ :=
  zg_br (fun _ _ _ _ _ _ _ _ _ _ _ _ _ _ _ _ C a b => lv_if_lt C.1 C.2.1 hd ht a b) kt kf
theorem zg_icmp_lt {x y : Int32} {off : Int} (tgt : Nat) (hd : decode M.2.1 pc = .ok (.if_icmp .lt off, 3)) (ht : (pc : Int) + off = (tgt : Int)) (kt : x < y → z_G V M d bc bs tgt ls st h Φ) (kf : ¬ (x < y) → z_G V M d bc bs (pc + 3) ls st h Φ) : z_G V M d bc bs pc ls (.int y :: .int x :: st) h Φ :=
  zg_br (fun _ _ _ _ _ _ _ _ _ _ _ _ _ _ _ _ C a b => lv_icmp_lt C.1 C.2.1 hd ht a b) kt kf
theorem zg_if_ge {x : Int32} {off : Int} (tgt : Nat) (hd : decode M.2.1 pc = .ok (.ifCond .ge off, 3)) (ht : (pc : Int) + off = (tgt : Int)) (kt : 0 ≤ x → z_G V M d bc bs tgt ls st h Φ) (kf : ¬ (0 ≤ x) → z_G V M d bc bs (pc + 3) ls st h Φ) : z_G V M d bc bs pc ls (.int x :: st) h Φ :=
  zg_br (fun _ _ _ _ _ _ _ _ _ _ _ _ _ _ _ _ C a b => lv_if_ge C.1 C.2.1 hd ht a b) kt kf
theorem zg_icmp_ge {x y : Int32} {off : Int} (tgt : Nat) (hd : decode M.2.1 pc = .ok (.if_icmp .ge off, 3)) (ht : (pc : Int) + off = (tgt : Int)) (kt : y ≤ x → z_G V M d bc bs tgt ls st h Φ) (kf : ¬ (y ≤ x) → z_G V M d bc bs (pc + 3) ls st h Φ) : z_G V M d bc bs pc ls (.int y :: .int x :: st) h Φ :=
  zg_br (fun _ _ _ _ _ _ _ _ _ _ _ _ _ _ _ _ C a b => lv_icmp_ge C.1 C.2.1 hd ht a b) kt kf
theorem zg_if_gt {x : Int32} {off : Int} (tgt : Nat) (hd : decode M.2.1 pc = .ok (.ifCond .gt off, 3)) (ht : (pc : Int) + off = (tgt : Int)) (kt : 0 < x → z_G V M d bc bs tgt ls st h Φ) (kf : ¬ (0 < x) → z_G V M d bc bs (pc + 3) ls st h Φ) : z_G V M d bc bs pc ls (.int x :: st) h Φ :=
  zg_br (fun _ _ _ _ _ _ _ _ _ _ _ _ _ _ _ _ C a b => lv_if_gt C.1 C.2.1 hd ht a b) kt kf
theorem zg_icmp_gt {x y : Int32} {off : Int} (tgt : Nat) (hd : decode M.2.1 pc = .ok (.if_icmp .gt off, 3)) (ht : (pc : Int) + off = (tgt : Int)) (kt : y < x → z_G V M d bc bs tgt ls st h Φ) (kf : ¬ (y < x) → z_G V M d bc bs (pc + 3) ls st h Φ) : z_G V M d bc bs pc ls (.int y :: .int x :: st) h Φ :=
  zg_br (fun _ _ _ _ _ _ _ _ _ _ _ _ _ _ _ _ C a b => lv_icmp_gt C.1 C.2.1 hd ht a b) kt kf
theorem zg_if_le {x : Int32} {off : Int} (tgt : Nat) (hd : decode M.2.1 pc = .ok (.ifCond .le off, 3)) (ht : (pc : Int) + off = (tgt : Int)) (kt : x ≤ 0 → z_G V M d bc bs tgt ls st h Φ) (kf : ¬ (x ≤ 0) → z_G V M d bc bs (pc + 3) ls st h Φ) : z_G V M d bc bs pc ls (.int x :: st) h Φ :=
  zg_br (fun _ _ _ _ _ _ _ _ _ _ _ _ _ _ _ _ C a b => lv_if_le C.1 C.2.1 hd ht a b) kt kf
theorem zg_icmp_le {x y : Int32} {off : Int} (tgt : Nat) (hd : decode M.2.1 pc = .ok (.if_icmp .le off, 3)) (ht : (pc : Int) + off = (tgt : Int)) (kt : x ≤ y → z_G V M d bc bs tgt ls st h Φ) (kf : ¬ (x ≤ y) → z_G V M d bc bs (pc + 3) ls st h Φ) : z_G V M d bc bs pc ls (.int y :: .int x :: st) h Φ :=
  zg_br (fun _ _ _ _ _ _ _ _ _ _ _ _ _ _ _ _ C a b => lv_icmp_le C.1 C.2.1 hd ht a b) kt kf
theorem zg_lookup {dflt : Int} {ps : Array (Int × Int)} {len : Nat} {x : Int32} {off : Int} (tgt : Nat) (hd : decode M.2.1 pc = .ok (.lookupswitch dflt ps, len)) (hp : (ps.toList.zip (ps.toList.drop 1)).all (fun (a, next) => a.1 < next.1) = true) (ho : Op.lookupswitch.offset ps.toList dflt x.toInt = off) (ht : (pc : Int) + off = (tgt : Int)) (k : z_G V M d bc bs tgt ls st h Φ) : z_G V M d bc bs pc ls (.int x :: st) h Φ :=
  zg_go (fun _ _ _ _ _ _ _ _ _ _ _ _ _ _ _ _ C _ w => lv_lookup C.1 C.2.1 hd hp ho ht w) k
theorem zg_tableOut {dflt lo hi : Int} {offs : Array Int} {len : Nat} {x : Int32} (tgt : Nat) (hd : decode M.2.1 pc = .ok (.tableswitch dflt lo hi offs, len)) (hx : x.toInt < lo ∨ hi < x.toInt) (ht : (pc : Int) + dflt = (tgt : Int)) (k : z_G V M d bc bs tgt ls st h Φ) : z_G V M d bc bs pc ls (.int x :: st) h Φ :=
  zg_go (fun _ _ _ _ _ _ _ _ _ _ _ _ _ _ _ _ C _ w => lv_tableOut C.1 C.2.1 hd hx ht w) k
theorem zg_tableIn {dflt lo hi : Int} {offs : Array Int} {len : Nat} {x : Int32} {off : Int} (tgt : Nat) (hd : decode M.2.1 pc = .ok (.tableswitch dflt lo hi offs, len)) (h1 : ¬ x.toInt < lo) (h2 : ¬ hi < x.toInt) (ho : offs[(x.toInt - lo).toNat]? = some off) (ht : (pc : Int) + off = (tgt : Int)) (k : z_G V M d bc bs tgt ls st h Φ) : z_G V M d bc bs pc ls (.int x :: st) h Φ :=
  zg_go (fun _ _ _ _ _ _ _ _ _ _ _ _ _ _ _ _ C _ w => lv_tableIn C.1 C.2.1 hd h1 h2 ho ht w) k
/-- stores to locals -/
theorem z_store {LS : Array Slot} {i : Nat} {v : Value} (hL : z_L V LS ls) (hi : i < ls.length) (hc : ∀ w ∈ ls, w.category = 1) (hv : v.category = 1) : ∃ lv : List (Nat × Value), lv_has LS ls.length lv ∧ ∀ ls', lv_has ls' ls.length ((i, z_rl V v) :: lv.filter (fun q => !(q.1 == i) && !(q.1 + 1 == i && q.2.category == 2))) → z_L V ls' (ls.set i v) := by
  have hcr : ∀ w : Value, (z_rl V w).category = w.category := fun w => by cases w <;> rfl
  refine ⟨(List.range ls.length).filterMap (fun j => match ls[j]? with | some w => if w = .null then none else some (j, z_rl V w) | none => none), ⟨hL.1, hL.2.1, fun q hq => ?_⟩, fun ls' h' => ⟨by rw [h'.1, List.length_set], h'.2.1, fun j w hj hw => ?_⟩⟩
  · obtain ⟨j, -, hj⟩ := List.mem_filterMap.mp hq
    cases e : ls[j]? with
    | none => rw [e] at hj; cases hj
    | some w =>
      rw [e] at hj
      dsimp only at hj
      by_cases hw : w = .null
      · rw [if_pos hw] at hj; cases hj
      · rw [if_neg hw] at hj; cases hj
        exact hL.2.2 j w e hw
  · by_cases e : j = i
    · subst e
      rw [List.getElem?_set_self hi] at hj
      cases hj
      exact h'.2.2 (j, z_rl V v) List.mem_cons_self
    · rw [List.getElem?_set_ne (Ne.symm e)] at hj
      refine h'.2.2 (j, z_rl V w) (List.mem_cons_of_mem _ (List.mem_filter.mpr ⟨List.mem_filterMap.mpr ⟨j, List.mem_range.mpr (List.getElem?_eq_some_iff.mp hj).1, by rw [hj]; exact if_neg hw⟩, ?_⟩))
      have h2 : (z_rl V w).category = 1 := by rw [hcr]; exact hc w (List.mem_of_getElem? hj)
      simp [e, h2]
theorem zg_sto {pc' : Nat} {ls' st' : List Value} {i : Nat} {v : Value} (hi : i < ls.length) (hc : ls.all (fun w => w.category == 1) = true) (hv : v.category = 1) (he : z_st ls i v = ls') (hstep : ∀ (p : Program) (l : Launch) (e : Env) (R : Room) (s : State) (m : MethodId) (args : Array Value) (below : List Frame) (meth : Method) (c : Code) (H : Heap) (locs : List Loc) (cells slots : Nat) (LS : Array Slot) (QQ : State → Prop) (lv : List (Nat × Value)), z_C V M d p l e R s m args below meth c → z_L V LS ls → lv_has LS ls.length lv → (∀ LS', lv_has LS' ls.length ((i, z_rl V v) :: lv.filter (fun q => !(q.1 == i) && !(q.1 + 1 == i && q.2.category == 2))) → W p l e R s m args below meth c H locs cells slots QQ (F0 m pc' LS' (st'.map (z_rl V)))) → W p l e R s m args below meth c H locs cells slots QQ (F0 m pc LS (st.map (z_rl V))))
    (k : z_G V M d bc bs pc' ls' st' h Φ) : z_G V M d bc bs pc ls st h Φ := by
  intro p l e R s m args below meth c H locs cells slots LS QQ C hw hS hL hn hc9 hs ret
  obtain ⟨lv, h1, h2⟩ := z_store (V := V) (v := v) hL hi (fun w hw => by have := List.all_eq_true.mp hc w hw; simpa using this) hv
  rw [z_st_eq] at he
  subst he
  exact hstep p l e R s m args below meth c H locs cells slots LS QQ lv C hL h1 (fun LS' h' => k p l e R s m args below meth c H locs cells slots LS' QQ C hw hS (h2 LS' h') (by rw [List.length_set]; exact hn) hc9 hs ret)
theorem zg_istore {i : Nat} {x : Int32} {ls' : List Value} (hd : decode M.2.1 pc = .ok (.istore i, 2)) (hi : i < ls.length) (hc : ls.all (fun w => w.category == 1) = true) (he : z_st ls i (.int x) = ls') (k : z_G V M d bc bs (pc + 2) ls' st h Φ) : z_G V M d bc bs pc ls (.int x :: st) h Φ :=
  zg_sto (v := .int x) hi hc rfl he (fun _ _ _ _ _ _ _ _ _ _ _ _ _ _ _ _ _ C _ h1 w => lv_istore C.1 C.2.1 hd h1 hi rfl w) k
theorem zg_istore_n {i : Fin 4} {x : Int32} {ls' : List Value} (hd : decode M.2.1 pc = .ok (.istore_n i, 1)) (hi : i.val < ls.length) (hc : ls.all (fun w => w.category == 1) = true) (he : z_st ls i (.int x) = ls') (k : z_G V M d bc bs (pc + 1) ls' st h Φ) : z_G V M d bc bs pc ls (.int x :: st) h Φ :=
  zg_sto (v := .int x) hi hc rfl he (fun _ _ _ _ _ _ _ _ _ _ _ _ _ _ _ _ _ C _ h1 w => lv_istore_n C.1 C.2.1 hd rfl h1 hi rfl w) k
theorem zg_astore {i x : Nat} {ls' : List Value} (hd : decode M.2.1 pc = .ok (.astore i, 2)) (hi : i < ls.length) (hc : ls.all (fun w => w.category == 1) = true) (he : z_st ls i (.ref x) = ls') (k : z_G V M d bc bs (pc + 2) ls' st h Φ) : z_G V M d bc bs pc ls (.ref x :: st) h Φ :=
  zg_sto (v := .ref x) hi hc rfl he (fun _ _ _ _ _ _ _ _ _ _ _ _ _ _ _ _ _ C _ h1 w => lv_astore C.1 C.2.1 hd h1 hi rfl w) k
theorem zg_astore_n {i : Fin 4} {x : Nat} {ls' : List Value} (hd : decode M.2.1 pc = .ok (.astore_n i, 1)) (hi : i.val < ls.length) (hc : ls.all (fun w => w.category == 1) = true) (he : z_st ls i (.ref x) = ls') (k : z_G V M d bc bs (pc + 1) ls' st h Φ) : z_G V M d bc bs pc ls (.ref x :: st) h Φ :=
  zg_sto (v := .ref x) hi hc rfl he (fun _ _ _ _ _ _ _ _ _ _ _ _ _ _ _ _ _ C _ h1 w => lv_astore_n C.1 C.2.1 hd rfl h1 hi rfl w) k
theorem z_iinc_k {lv : List (Nat × Value)} {LS : Array Slot} {n i : Nat} {v : Value} (h : lv_has LS n lv) (hv : LS[i]? = some (.val v)) : lv_has LS n ((i, v) :: lv) := ⟨h.1, h.2.1, fun q hq => by
  rcases List.mem_cons.mp hq with rfl | hq
  · exact hv
  · exact h.2.2 q hq⟩
theorem zg_iinc {i : Nat} {n : Int} {x : Int32} {ls' : List Value} (w : Int32) (hd : decode M.2.1 pc = .ok (.iinc i n, 3)) (hv : z_at ls i = some (.int x)) (hn : Int32.ofInt n = w) (hi : i < ls.length) (hc : ls.all (fun w => w.category == 1) = true) (he : z_st ls i (.int (x + w)) = ls') (k : z_G V M d bc bs (pc + 3) ls' st h Φ) : z_G V M d bc bs pc ls st h Φ :=
  zg_sto (v := .int (x + w)) hi hc rfl he (fun p l e R s m args below meth c H locs cells slots LS QQ lv C hL h1 w9 => by
    refine lv_iinc C.1 C.2.1 hd (z_iinc_k h1 (hL.at hv (fun q => by cases q))) (k := 0) rfl (by rw [hn]) hi ?_ (fun LS' h' => w9 LS' h')
    simp [z_rl]) k
end ZG
