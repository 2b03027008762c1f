/-! ===== new int[4][5], out of the machine's own step: an outer row of nulls, then a row made and stored, four times ===== -/
section ZM
theorem zm_ext {A : ClassId} {N : Nat} {f g : Nat → Value} (h : ∀ j, j < N → f j = g j) : arrV A N f = arrV A N g := by
  have e : (fun j : Fin N => f j.val) = fun j : Fin N => g j.val := funext fun j => h _ j.isLt
  unfold arrV
  rw [e]
def zm_O (A : ClassId) (a i : Nat) : Cell := arrV A 4 (fun j => if j < i then .ref (a + 1 + j) else .null)
def zm_I (C : ClassId) : Cell := arrV C 5 (fun _ => .int 0)
/-- the state behind one more row -/
def zm_add (A C : ClassId) (a i : Nat) (U : State) : State := (U.pushCell (zm_I C)).setCell a (zm_O A a (i + 1))
def zm_all (A C : ClassId) (U : State) : State := zm_add A C U.heap.size 3 (zm_add A C U.heap.size 2 (zm_add A C U.heap.size 1 (zm_add A C U.heap.size 0 (U.pushCell (zm_O A U.heap.size 0)))))
theorem zm_put (A : ClassId) (a i : Nat) : (zm_O A a i).setSlot i (.ref (a + 1 + i)) = zm_O A a (i + 1) := by
  unfold zm_O
  rw [arrV_store]
  refine zm_ext fun j _ => ?_
  unfold updV
  by_cases e : j = i
  · subst e
    rw [if_pos rfl, if_pos (Nat.lt_succ_self _)]
  · rw [if_neg e]
    show (if j < i then Value.ref (a + 1 + j) else Value.null) = _
    by_cases e1 : j < i
    · rw [if_pos e1, if_pos (by omega)]
    · rw [if_neg e1, if_neg (by omega)]
/-- how things stand when i rows are made: tables, heap, slots -/
def zm_K (A C : ClassId) (S : State) (i : Nat) (U : State) : Prop :=
  U.vm = S.vm ∧ U.heap.size = S.heap.size + 1 + i ∧ U.heap[S.heap.size]? = some (zm_O A S.heap.size i) ∧ (∀ x : Nat, x < S.heap.size → U.heap[x]? = S.heap[x]?) ∧ (∀ j : Nat, j < i → U.heap[S.heap.size + 1 + j]? = some (zm_I C)) ∧ U.slotsUsed = S.slotsUsed + 4 + 5 * i
theorem zm_K0 (A C : ClassId) (S : State) : zm_K A C S 0 (S.pushCell (zm_O A S.heap.size 0)) := by
  refine ⟨rfl, ?_, ?_, ?_, fun j hj => absurd hj (Nat.not_lt_zero _), ?_⟩
  · show (S.heap.push _).size = _
    rw [Array.size_push]
  · show (S.heap.push _)[S.heap.size]? = _
    rw [Array.getElem?_push, if_pos rfl]
  · intro x hx
    show (S.heap.push _)[x]? = _
    rw [Array.getElem?_push, if_neg (Nat.ne_of_lt hx)]
  · show S.slotsUsed + (zm_O A S.heap.size 0).slots.size = _
    unfold zm_O
    rw [arrV_size]
theorem zm_KS {A C : ClassId} {S U : State} {i : Nat} (h : zm_K A C S i U) : zm_K A C S (i + 1) (zm_add A C S.heap.size i U) := by
  obtain ⟨h1, h2, h3, h4, h5, h6⟩ := h
  have hz : ((U.heap.push (zm_I C)).setIfInBounds S.heap.size (zm_O A S.heap.size (i + 1))).size = S.heap.size + 1 + (i + 1) := by
    rw [Array.size_setIfInBounds, Array.size_push, h2, Nat.add_assoc]
  refine ⟨h1, hz, ?_, ?_, ?_, ?_⟩
  · show ((U.heap.push (zm_I C)).setIfInBounds S.heap.size _)[S.heap.size]? = _
    rw [Array.getElem?_setIfInBounds_self_of_lt (by rw [Array.size_push]; omega)]
  · intro x hx
    show ((U.heap.push (zm_I C)).setIfInBounds S.heap.size _)[x]? = _
    rw [Array.getElem?_setIfInBounds_ne (by omega), Array.getElem?_push, if_neg (by omega)]
    exact h4 x hx
  · intro j hj
    show ((U.heap.push (zm_I C)).setIfInBounds S.heap.size _)[S.heap.size + 1 + j]? = _
    rw [Array.getElem?_setIfInBounds_ne (by omega), Array.getElem?_push]
    by_cases e : j = i
    · subst e
      rw [if_pos h2.symm]
    · rw [if_neg (by omega)]
      exact h5 j (by omega)
  · show U.slotsUsed + (zm_I C).slots.size = _
    unfold zm_I
    rw [arrV_size, h6]
    omega
theorem zm_Kall (A C : ClassId) (S : State) : zm_K A C S 4 (zm_all A C S) := zm_KS (zm_KS (zm_KS (zm_KS (zm_K0 A C S))))
theorem zm_top (A C : ClassId) (S : State) (f : JFrame) : zm_all A C (S.setTop f) = (zm_all A C S).setTop f := by
  unfold zm_all zm_add
  simp only [State.heap_setTop, State.pushCell_setTop, State.setCell_setTop]

variable {E : CtlPost} {e : Env} {d : Bool} {acts : List Action}
theorem zm_new {S : State} {c comp : ClassId} {k : Class} {ty : FieldType} {N : Nat} {v : Value} (hk : S.vm.classes[c]? = some k) (hkind : k.kind = .array comp ty) (hl : N ≤ e.platform.arrayLengthLimit) (hh : N * componentBytes ty ≤ e.platform.maxHeapBytes)
    (hv : fits ty v = true) (h1 : S.heap.size < e.platform.maxCells) (h2 : S.slotsUsed + N ≤ e.platform.maxSlots) {Q : Addr → Pre} (hq : ∀ acts', Q S.heap.size d acts' (S.pushCell (arrV c N fun _ => v))) : wp (Jvm.newArray c N v) Q E e d acts S := by
  have g1 : ¬ N > e.platform.arrayLengthLimit := by omega
  have g2 : ¬ N * componentBytes ty > e.platform.maxHeapBytes := by omega
  have g3 : ¬ N > e.platform.maxSlots := by omega
  unfold Jvm.newArray Jvm.arrayFits
  simp only [wp_bind', W.ask, W.ite, g1, if_false, wp_pure', W.theClass, hk, hkind, g2, g3, Option.some.injEq, exists_eq_left', W.alloc, Array.size_replicate]
  refine ⟨h1, h2, fun i w hw => ?_, ?_⟩
  · rw [Array.getElem?_replicate] at hw
    by_cases hi : i < N
    · rw [if_pos hi] at hw
      cases hw
      simp [State.fitsSlot, State.slotType?, hk, hkind, hv]
    · rw [if_neg hi] at hw
      cases hw
  · rw [arrV_new]
    exact hq _
/-- one row made and stored -/
theorem zm_one {A C : ClassId} {S U : State} {i : Nat} {kA kC : Class} {cc : ClassId} {md : Mode} (K : zm_K A C S i U) (hi : i < 4) (hkA : S.vm.classes[A]? = some kA) (hA : kA.kind = .array C (.array .int)) (hkC : S.vm.classes[C]? = some kC) (hC : kC.kind = .array cc .int)
    (hl : 5 ≤ e.platform.arrayLengthLimit) (hh : 20 ≤ e.platform.maxHeapBytes) (h1 : S.heap.size + 5 ≤ e.platform.maxCells) (h2 : S.slotsUsed + 24 ≤ e.platform.maxSlots) {Q : ForInStep PUnit → Pre}
    (hq : ∀ d' acts', Q (.yield PUnit.unit) d' acts' (zm_add A C S.heap.size i U)) : wp (multianewarray.make C [5]) (fun r => wp (Jvm.writeLoc S.heap.size i (.ref r) md >>= fun _ => Pure.pure (ForInStep.yield PUnit.unit)) Q E e) E e d acts U := by
  obtain ⟨k1, k2, k3, k4, k5, k6⟩ := K
  have n5 : ¬ (5 : Int32) < 0 := by decide
  have e5 : (5 : Int32).toNatClampNeg = 5 := by decide
  rw [multianewarray.make]
  simp only [wp_bind', W.ite, n5, if_false, wp_pure', W.theClass, k1, hkC, hC, Option.some.injEq, exists_eq_left', e5]
  refine zm_new (comp := cc) (k := kC) (by rw [k1]; exact hkC) hC hl (by show 5 * 4 ≤ _; omega) rfl (by omega) (by omega) fun acts' => ?_
  rw [wp_bind', W.writeLoc]
  have hlt : S.heap.size < U.heap.size := by omega
  refine ⟨zm_O A S.heap.size i, ?_, (fun z => by cases z), ?_, ?_, ?_⟩
  · show (U.heap.push _)[S.heap.size]? = _
    rw [Array.getElem?_push, if_neg (Nat.ne_of_lt hlt)]
    exact k3
  · unfold zm_O
    rw [arrV_size]
    exact hi
  · show (U.pushCell _).fitsSlot A .none i _ = true
    have e1 : U.vm.classes[A]? = some kA := by
      rw [k1]
      exact hkA
    simp [State.fitsSlot, State.slotType?, e1, hA, fits]
  · rw [k2, zm_put, wp_pure']
    exact hq _ _
/-- all of it -/
theorem zm_make {A C : ClassId} {S : State} {kA kC : Class} {cc : ClassId} (hkA : S.vm.classes[A]? = some kA) (hA : kA.kind = .array C (.array .int)) (hkC : S.vm.classes[C]? = some kC) (hC : kC.kind = .array cc .int)
    (hl : 5 ≤ e.platform.arrayLengthLimit) (hh : 20 ≤ e.platform.maxHeapBytes) (h1 : S.heap.size + 5 ≤ e.platform.maxCells) (h2 : S.slotsUsed + 24 ≤ e.platform.maxSlots) {Q : Addr → Pre}
    (hq : ∀ d' acts', Q S.heap.size d' acts' (zm_all A C S)) : wp (multianewarray.make A [4, 5]) Q E e d acts S := by
  have n4 : ¬ (4 : Int32) < 0 := by decide
  have e4 : (4 : Int32).toNatClampNeg = 4 := by decide
  have z4 : ((4 : Int32) == 0) = false := by decide
  have K0 := zm_K0 A C S
  have K1 := zm_KS K0
  have K2 := zm_KS K1
  have K3 := zm_KS K2
  rw [multianewarray.make]
  simp only [wp_bind', W.ite, n4, if_false, wp_pure', W.theClass, hkA, hA, Option.some.injEq, exists_eq_left', e4, z4]
  refine zm_new (comp := C) (k := kA) hkA hA (by omega) (by show 4 * 4 ≤ _; omega) rfl (by omega) (by omega) fun acts' => ?_
  have e0 : (arrV A 4 fun _ => .null) = zm_O A S.heap.size 0 := zm_ext fun j _ => by rw [if_neg (Nat.not_lt_zero _)]
  rw [e0, if_neg Bool.false_ne_true]
  simp only [Std.Legacy.Range.forIn_eq_forIn_range', wp_bind']
  have hr : List.range' 0 ([:4] : Std.Legacy.Range).size 1 = [0, 1, 2, 3] := by decide
  rw [hr]
  simp only [List.forIn_cons, List.forIn_nil, wp_bind']
  refine zm_one K0 (by decide) hkA hA hkC hC hl hh h1 h2 fun d1 a1 => ?_
  simp only [wp_pure', wp_bind']
  refine zm_one K1 (by decide) hkA hA hkC hC hl hh h1 h2 fun d2 a2 => ?_
  simp only [wp_pure', wp_bind']
  refine zm_one K2 (by decide) hkA hA hkC hC hl hh h1 h2 fun d3 a3 => ?_
  simp only [wp_pure', wp_bind']
  refine zm_one K3 (by decide) hkA hA hkC hC hl hh h1 h2 fun d4 a4 => ?_
  simp only [wp_pure', wp_bind']
  exact hq _ _
variable {p : Program} {l : Launch} {R : Room} {s : State} {m : MethodId} {args : Array Value} {below : List Frame} {meth : Method} {c : Code} {T : State} {locs : List Loc} {cells slots : Nat}
theorem zm_stand1 {A C : ClassId} {S U : State} {i : Nat} (K : zm_K A C S i U) (hS : s.heap.size ≤ S.heap.size) (X : Stand p l e R s m args below meth c U locs cells slots) : Stand p l e R s m args below meth c (zm_add A C S.heap.size i U) locs (cells + 1) (slots + 5) := by
  have hlt : S.heap.size < U.heap.size := by
    have := K.2.1
    omega
  have hc : (U.pushCell (zm_I C)).heap[S.heap.size]? = some (zm_O A S.heap.size i) := by
    show (U.heap.push _)[S.heap.size]? = _
    rw [Array.getElem?_push, if_neg (Nat.ne_of_lt hlt)]
    exact K.2.2.1
  have h1 := (X.pushed (zm_I C)).stored hc i (.ref (S.heap.size + 1 + i))
  rw [zm_put] at h1
  have e5 : (zm_I C).slots.size = 5 := by
    unfold zm_I
    rw [arrV_size]
  rw [e5] at h1
  exact h1.dropFresh fun x hx => by
    obtain rfl := List.mem_singleton.mp hx
    exact hS
theorem zm_stand {A C : ClassId} {S : State} (X : Stand p l e R s m args below meth c S locs cells slots) : Stand p l e R s m args below meth c (zm_all A C S) locs (cells + 5) (slots + 24) := by
  have hS := X.heapGrown
  have X0 := X.pushed (zm_O A S.heap.size 0)
  have e4 : (zm_O A S.heap.size 0).slots.size = 4 := by
    unfold zm_O
    rw [arrV_size]
  rw [e4] at X0
  have K0 := zm_K0 A C S
  exact zm_stand1 (zm_KS (zm_KS (zm_KS K0))) hS (zm_stand1 (zm_KS (zm_KS K0)) hS (zm_stand1 (zm_KS K0) hS (zm_stand1 K0 hS X0)))
/-- THE STEP -/
theorem zm_step (X : Stand p l e R s m args below meth c T locs cells slots) (hx : p.tables.exec = Jvm.exec) {own : String} {index : Nat} (hown : s.vm.findClass own = some m.cls) (hlk : (Cond.classLink own index ("[" ++ (FieldType.array .int).toString)).before args s = true) (hAA : z_AA s) (harr : (Cond.arrayClass .int).before args s = true)
    {g : JFrame} (hg : g.method = m) (hdg : decode c.code g.pc = .ok (.multianewarray index 2, 4)) {rest : List Value} (hst : g.stack = .int 5 :: .int 4 :: rest) (hc : cells + 5 ≤ R.cells) (hs : slots + 24 ≤ R.slots) :
    ∃ (F : State) (A C : ClassId), s.vm.findClass ("[" ++ (FieldType.array .int).toString) = some A ∧ s.vm.findClass ("[" ++ FieldType.int.toString) = some C ∧ F.heap.size = T.heap.size + 5 ∧ F.heap[T.heap.size]? = some (zm_O A T.heap.size 4) ∧ (∀ x : Nat, x < T.heap.size → F.heap[x]? = T.heap[x]?) ∧ (∀ j : Nat, j < 4 → F.heap[T.heap.size + 1 + j]? = some (zm_I C)) ∧
      Stand p l e R s m args below meth c F locs (cells + 5) (slots + 24) ∧ ∀ t, Steps p.tables e below (F.setTop { g with pc := g.pc + 4, stack := .ref T.heap.size :: rest }) t → Steps p.tables e below (T.setTop g) t := by
  subst hg
  obtain ⟨C, A, kA, hfC, -, hkA, hA, hfA⟩ := hAA.spec
  obtain ⟨C', kC, cc, hfC', hkC, hC⟩ := Cond.arrayClass_spec harr
  obtain rfl : C' = C := Option.some.inj (hfC'.symm.trans hfC)
  obtain ⟨A', hfA', hL⟩ := Cond.classLink_spec hown hlk e.platform (by rw [X.admits.platform])
  obtain rfl : A' = A := Option.some.inj (hfA'.symm.trans hfA)
  obtain ⟨hgv, hwm, -⟩ := State.classEntry (e := e) X.warmed hL
  generalize T.vm.noted g.method.cls index (.cls A') = vm at hgv hwm
  obtain ⟨kA1, hkA1, eA⟩ := hwm.alike.2.2 _ _ hkA
  obtain ⟨kC1, hkC1, eC⟩ := hwm.alike.2.2 _ _ hkC
  have X1 := X.noted hwm
  have X2 := zm_stand (A := A') (C := C') X1
  obtain ⟨r1, r2⟩ := X.roomAbove hc hs
  obtain ⟨-, f1, f2, f3, f4, -⟩ := zm_Kall A' C' (T.setVm vm)
  refine ⟨zm_all A' C' (T.setVm vm), A', C', hfA, hfC, f1, f2, f3, f4, X2, fun t ht => ?_⟩
  jvm_step X.here [hx, hdg]
  simp only [multianewarray.sem, wp_bind', W.resolveClassAt_links (State.method?_setTop g X.here.top) hgv]
  rw [W.popN, if_neg (by decide)]
  refine ⟨g, State.topJava?_setTop' (s := T.setVm vm) g X.here.top, [.int 4, .int 5], rest, rfl, hst, ?_⟩
  simp only [List.mapM_cons, List.mapM_nil, wp_bind', wp_pure']
  refine zm_make (S := ((T.setTop g).setVm vm).setTop { g with stack := rest }) hkA1 (by rw [eA]; exact hA) hkC1 (by rw [eC]; exact hC) ?_ ?_ r1 r2 fun d1 a1 => ?_
  · rw [Launch.admits_arrayLengthLimit X.admits]
    decide
  · rw [Launch.admits_maxHeapBytes X.admits]
    decide
  have e1 : zm_all A' C' (((T.setTop g).setVm vm).setTop { g with stack := rest }) = (zm_all A' C' (T.setVm vm)).setTop { g with stack := rest } := by
    rw [zm_top]
    show ((zm_all A' C' ((T.setVm vm).setTop g)).setTop _) = _
    rw [zm_top, State.setTop_setTop]
  rw [e1]
  simp only [wp_bind', W.mark, W.pushRef, State.topJava?_setTop' _ X2.here.top, Option.some.injEq, exists_eq_left', State.setTop_setTop, State.heap_setTop]
  intro a2
  simp [jvm, X2.here.top]
  exact ht
end ZM
