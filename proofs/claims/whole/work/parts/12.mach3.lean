/-! ===== returns, contracts, calls ===== -/
def z_Pc (V : zV) (as : List Value) (h : zHP) : Array Value → State → Prop := fun a U => a = (as.map (z_rl V)).toArray ∧ z_W V h U.heap ∧ va_K V.1 vwCl (z_tys V) U ∧ z_N U ∧ va_X V.2.1 V.2.2.2.2.1 V.2.2.2.2.2 U U.heap ∧ V.2.1 < V.2.2.1 ∧ V.2.2.1 ≤ U.heap.size
def z_Qc (V : zV) (Φ : Option Value → zHP → Prop) : Array Value → State → Outcome → State → Prop := fun _ st oc t => ∃ (v : Option Value) (h' : zHP), Φ v h' ∧ oc = .returned (v.map (z_rl V)) ∧ z_W V h' t.heap ∧ va_F (fun q => V.2.2.1 ≤ q) st t
def z_rm (d mc ms : Nat) : Room := { frames := d, cells := mc, slots := ms, locals := 100 * d }
def z_wsM (M : zM) : List Cond := Cond.code M.1 M.2.1 M.2.2.1 M.2.2.2 :: wsL_law
def z_ent (M : zM) (as : List Value) : List Value := as ++ List.replicate (M.2.2.1 - as.length) .null
def z_ok (v : Value) : Bool := match v with
  | .int _ => true
  | .ref _ => true
  | _ => false
theorem z_ok_cat {v : Value} (h : z_ok v = true) : v.category = 1 := by cases v <;> first | rfl | cases h
theorem z_N.moved {u U : State} (h : z_N u) (hW : u.WarmedH U.vm) : z_N U := by
  refine ⟨fun w hw => ?_, h.2.1.moved hW.alike, h.2.2.moved hW.alike⟩
  have hz := h.1 w hw
  obtain ⟨a, i, x, y, rfl⟩ : ∃ a i x y, w = .methodLinkNest a i x y := by
    unfold z_nest at hw
    simp only [List.mem_cons, List.not_mem_nil, or_false] at hw
    rcases hw with h | h | h | h | h | h | h | h | h | h | h | h | h | h | h | h <;> exact ⟨_, _, _, _, h⟩
  exact va_Nw.warmM hW hz
theorem z_Pc.blind {V : zV} {as : List Value} {h : zHP} : FrameBlind (z_Pc V as h) := by
  intro a U g mk hp
  obtain ⟨h1, h2, h3, h4, h5, h6, h7⟩ := hp
  refine ⟨h1, h2, va_K.moved (u := U) (U := U.calling g mk a) (Vm.Alike.refl U.vm) h3, ⟨fun w hw => ?_, h4.2.1.moved (u := U) (U := U.calling g mk a) (Vm.Alike.refl U.vm), h4.2.2.moved (u := U) (U := U.calling g mk a) (Vm.Alike.refl U.vm)⟩, va_X.moved (u := U) (U := U.calling g mk a) (Vm.Alike.refl U.vm) h5, h6, h7⟩
  have hz := h4.1 w hw
  obtain ⟨a9, i, x, y, rfl⟩ : ∃ a i x y, w = .methodLinkNest a i x y := by
    unfold z_nest at hw
    simp only [List.mem_cons, List.not_mem_nil, or_false] at hw
    rcases hw with h | h | h | h | h | h | h | h | h | h | h | h | h | h | h | h <;> exact ⟨_, _, _, _, h⟩
  exact va_Nw.same rfl (u := U) (U := U.calling g mk a) rfl hz
theorem z_lg : ∀ (vs : List Value), (∀ v ∈ vs, v.category = 1) → lg_sl vs = vs.map Slot.val
  | [], _ => rfl
  | v :: vs, h => by
    have h1 : v.category = 1 := h v List.mem_cons_self
    have ih := z_lg vs (fun w hw => h w (List.mem_cons_of_mem _ hw))
    have e : lg_sl (v :: vs) = [.val v] ++ lg_sl vs := by simp [lg_sl, h1]
    rw [e, ih]
    rfl
theorem z_entL {V : zV} {M : zM} {as : List Value} (hl : as.length ≤ M.2.2.1) (ha : ∀ v ∈ as, z_ok v = true) : z_L V ((lg_sl (as.map (z_rl V)) ++ List.replicate (M.2.2.1 - (lg_sl (as.map (z_rl V))).length) Slot.unset).toArray) (z_ent M as) := by
  have hc : ∀ v ∈ as.map (z_rl V), v.category = 1 := fun v hv => by
    obtain ⟨w, hw, rfl⟩ := List.mem_map.mp hv
    have := z_ok_cat (ha w hw)
    cases w <;> first | rfl | exact this
  have hle := lv_entry (as.map (z_rl V)) (n := M.2.2.1) (by rw [z_lg _ hc]; simpa using hl)
  have hg := z_lg _ hc
  refine ⟨by rw [hle.1]; unfold z_ent; simp; omega, hle.2.1, fun i v hv hnn => ?_⟩
  unfold z_ent at hv
  by_cases hi : i < as.length
  · rw [List.getElem?_append_left hi] at hv
    rw [hg, List.getElem?_toArray, List.getElem?_append_left (by simpa using hi), List.getElem?_map, List.getElem?_map, hv]
    rfl
  · rw [List.getElem?_append_right (by omega), List.getElem?_replicate] at hv
    split at hv
    · cases hv; exact absurd rfl hnn
    · cases hv
theorem z_met {V : zV} {M : zM} {d mc ms : Nat} {as : List Value} {h : zHP} {Φ : Option Value → zHP → Prop} (hp : plainName M.1.cls = true) (hl : as.length ≤ M.2.2.1) (ha : ∀ v ∈ as, z_ok v = true)
    (k : z_G V M d mc ms 0 (z_ent M as) [] h Φ) (l : Launch) : Met l M.1 (z_wsM M) (z_rm d mc ms) (z_Pc V as h) (z_Qc V Φ) mc ms (fun q => V.2.2.1 ≤ q) := by
  refine Met.ofW (cc := M.2.1) (maxL := M.2.2.1) (ret := M.2.2.2) hp rfl ?_
  intro p e s m args below meth c s₁ B hml hv
  obtain ⟨rfl, h2, h3, h4, h5, h6, h7⟩ := hv
  have hts := atoms_spec (ws := z_wsM M) B.pre
  rw [lg_entry_eq]
  have C : z_C V M d p l e (z_rm d mc ms) s m (as.map (z_rl V)).toArray below meth c := ⟨B.exec, B.bytes, B.returns, hml, findClass_of_methodNamed B.named, B.notSynchronized, fun w hw => hts w (List.mem_cons_of_mem _ hw), h4, h3, Nat.le_refl _, Nat.le_refl _, h5, h6, h7, (name_of_methodNamed B.named B.method).1⟩
  refine k p l e (z_rm d mc ms) s m _ below meth c s.heap [] 0 0 _ _ C h2 va_S.rf (z_entL hl ha) (by unfold z_ent; simp; omega) (by rw [Nat.zero_add]; exact Nat.le_refl _) (by rw [Nat.zero_add]; exact Nat.le_refl _) ?_
  intro v h' H' locs' pc' LS' i hΦ hw hS hR hd
  rw [Nat.zero_add, Nat.zero_add]
  have hlk := B.notSynchronized
  cases v with
  | none =>
    obtain ⟨rfl, hr⟩ := hR
    exact W.vret B.exec B.bytes (B.returns.trans hr) (fun t ht hW => ⟨none, h', hΦ, rfl, by rw [ht]; exact hw, hS.F ht⟩) hS.2.2 hd
  | some v =>
    cases v with
    | int x =>
      obtain ⟨rfl, ty, hr, hn⟩ := hR
      exact W.zret (v := x) B.exec B.bytes (B.returns.trans hr) hn (fun t ht hW => ⟨some (.int x), h', hΦ, rfl, by rw [ht]; exact hw, hS.F ht⟩) hS.2.2 hd
    | ref x =>
      obtain ⟨rfl, ty, hr, hn⟩ := hR
      exact W.aret (v := .ref (z_ad V x)) B.exec B.bytes (B.returns.trans hr) hn (Or.inr ⟨_, rfl⟩) (fun t ht hW => ⟨some (.ref x), h', hΦ, rfl, by rw [ht]; exact hw, hS.F ht⟩) hS.2.2 hd
    | _ => exact hR.elim
section ZG3
variable {V : zV} {M M' : zM} {d bc bs pc mc ms idx : Nat} {ls st rest : List Value} {h : zHP} {Φ Ψ : Option Value → zHP → Prop}
theorem zg_ret {v : Option Value} {i : Instr} (hd : decode M.2.1 pc = .ok (i, 1)) (hR : z_R M v i) (hst : st = v.toList) (k : Φ v h) : z_G V M d bc bs pc ls st h Φ := by
  intro p l e R s m args below meth c H locs cells slots LS QQ C hw hS hL hn hc hs ret
  subst hst
  exact W.widen (Nat.le_add_right _ _) (Nat.le_add_right _ _) (ret v h H locs pc LS i k hw hS hR hd)
theorem z_Pc.of {as : List Value} {p : Program} {l : Launch} {e : Env} {R : Room} {s U : State} {m : MethodId} {args : Array Value} {below : List Frame} {meth : Method} {c : Code} {H : Heap} {locs : List Loc} (C : z_C V M d p l e R s m args below meth c) (hw : z_W V h H) (hS : va_S (fun q => V.2.2.1 ≤ q) s.heap H locs) (hU : U.heap = H) (hW : s.WarmedH U.vm) : z_Pc V as h (as.map (z_rl V)).toArray U := by
  obtain ⟨hx, hb, hr, hml, hown, hlk, hts, hN, hK, hfr, hlo, hX, hbB, hBs, hnm⟩ := C
  refine ⟨rfl, by rw [hU]; exact hw, va_K.moved hW.alike hK, hN.moved hW, ?_, hbB, by rw [hU]; exact Nat.le_trans hBs hS.1⟩
  rw [hU]
  exact va_X.moved hW.alike (hX.kept (hS.2.1 V.2.1 (by omega) (by show ¬ V.2.2.1 ≤ V.2.1; omega)))
/-- behind a call -/
theorem z_behind {p : Program} {l : Launch} {e : Env} {R : Room} {s : State} {m : MethodId} {args : Array Value} {below : List Frame} {meth : Method} {c : Code} {H : Heap} {locs : List Loc} {cells slots : Nat} {LS : Array Slot} {QQ : State → Prop} {st0 : List Value} {a : Array Value}
    (C : z_C V M d p l e R s m args below meth c) (hS : va_S (fun q => V.2.2.1 ≤ q) s.heap H locs) (hL : z_L V LS ls) (hn : M.2.2.1 = ls.length) (hc : cells + (mc + bc) ≤ R.cells) (hs : slots + (ms + bs) ≤ R.slots)
    (hrun : va_Run p l e R s m args below meth c H locs cells slots mc ms (F0 m pc LS st0) (rest.map (z_rl V)) (z_Qc V Ψ a) (fun q => V.2.2.1 ≤ q))
    (ret : ∀ (v : Option Value) (h' : zHP) (H' : Heap) (locs' : List Loc) (pc' : Nat) (LS' : Array Slot) (i : Instr), Φ v h' → z_W V h' H' → va_S (fun q => V.2.2.1 ≤ q) s.heap H' locs' → z_R M v i → decode M.2.1 pc' = .ok (i, 1) → W p l e R s m args below meth c H' locs' (cells + (mc + bc)) (slots + (ms + bs)) QQ (F0 m pc' LS' (v.toList.map (z_rl V))))
    (k : ∀ v h', Ψ v h' → z_G V M d bc bs (pc + 3) ls (v.toList ++ rest) h' Φ) : W p l e R s m args below meth c H locs cells slots QQ (F0 m pc LS st0) := by
  intro T hT X
  obtain ⟨v, st₀, t, T', L, h0, X', hLo, e1, e2, ⟨v', h', hΨ, hv, hw', hF⟩, step⟩ := hrun T hT X
  cases hv
  have hS' : va_S (fun q => V.2.2.1 ≤ q) s.heap T'.heap (locs ++ L) := by
    rw [e1]
    refine ⟨Nat.le_trans hS.1 (by have := hF.1; rw [h0] at this; exact this), fun q h1 h2 => ?_, fun q hq => ?_⟩
    · have := hF.2 q (by rw [h0]; exact Nat.lt_of_lt_of_le h1 hS.1) h2
      rw [this, h0]
      exact hS.2.1 q h1 h2
    · rcases List.mem_append.mp hq with h9 | h9
      · exact hS.2.2 q h9
      · exact hLo q h9
  have k9 := k v' h' hΨ p l e R s m args below meth c T'.heap (locs ++ L) (cells + mc) (slots + ms) LS QQ C (by rw [e1]; exact hw') hS' hL hn (by omega) (by omega) (by
    intro v9 h9 H9 locs9 pc9 LS9 i9 a1 a2 a3 a4 a5
    have := ret v9 h9 H9 locs9 pc9 LS9 i9 a1 a2 a3 a4 a5
    rw [Nat.add_assoc, Nat.add_assoc]
    exact this)
  obtain ⟨t2, a1, b1⟩ := k9 T' rfl X'
  refine ⟨t2, step t2 ?_, b1⟩
  have e9 : (v'.toList ++ rest).map (z_rl V) = (v'.map (z_rl V)).toList ++ rest.map (z_rl V) := by cases v' <;> rfl
  rw [← e9]
  exact a1
/-- what the tables say of a method that is called -/
def z_K0 (M' : zM) (n : Nat) : Prop := Cond.code M'.1 M'.2.1 M'.2.2.1 M'.2.2.2 ∈ wsL_law ∧ Cond.initialized M'.1.cls ∈ wsL_law ∧ (M'.1.cls ≠ "java/lang/invoke/MethodHandle" ∧ M'.1.cls ≠ "java/lang/invoke/VarHandle") ∧ (parseMethodDescriptor M'.1.desc).map (fun d => d.parameters.length) = some n ∧ plainName M'.1.cls = true ∧ M'.2.2.1 ≤ 81
def z_KV (own : String) (idx : Nat) (M' : zM) (n : Nat) : Prop := z_K0 M' n ∧ Cond.methodLink own idx M'.1 ∈ wsL_law ∧ Cond.instanceMethod M'.1 ∈ wsL_law ∧ Cond.selects M'.1.cls M'.1 M'.1 ∈ wsL_law
def z_KS (own : String) (idx : Nat) (M' : zM) (n : Nat) : Prop := z_K0 M' n ∧ Cond.methodLink own idx M'.1 ∈ wsL_law ∧ Cond.static M'.1 ∈ wsL_law
def z_KT (own : String) (idx : Nat) (M' : zM) (n : Nat) : Prop := z_K0 M' n ∧ (∃ host, Cond.methodLinkNest own idx M'.1 host ∈ z_nest) ∧ Cond.static M'.1 ∈ wsL_law
def z_KI (own : String) (idx : Nat) (M' : zM) (n : Nat) : Prop := z_K0 M' n ∧ Cond.methodLink own idx M'.1 ∈ wsL_law ∧ Cond.instanceMethod M'.1 ∈ wsL_law ∧ M'.1.name = "<init>" ∧ M'.2.2.2 = none
def z_KJ (own : String) (idx : Nat) (M' : zM) (n : Nat) : Prop := z_K0 M' n ∧ (∃ host, Cond.methodLinkNest own idx M'.1 host ∈ z_nest) ∧ Cond.instanceMethod M'.1 ∈ wsL_law ∧ M'.1.name = "<init>" ∧ M'.2.2.2 = none
theorem z_gw {M' : zM} {n : Nat} (h : z_K0 M' n) : GoodIn wsL_law (z_wsM M') := by
  intro w hw
  rcases List.mem_cons.mp hw with rfl | hw
  · exact z_good _ h.1
  · exact z_good _ hw
theorem z_cat {l : List Value} : ((l.map (z_rl V)).map fun v => v.category) = l.map fun v => v.category := by
  rw [List.map_map]
  apply List.map_congr_left
  intro v _
  cases v <;> rfl
theorem z_hlen {M' : zM} {n : Nat} (h : z_K0 M' n) : ∀ sig, parseMethodDescriptor M'.1.desc = some sig → n = sig.parameters.length := by
  intro sig hs
  have h2 := h.2.2.2.1
  rw [hs] at h2
  exact (Option.some.inj h2).symm
theorem zg_callS {As : List Value} {n : Nat} (hd : decode M.2.1 pc = .ok (.invokestatic idx, 3)) (hk : z_KS M.1.cls idx M' n) (hn9 : As.length = n) (hst : st = As.reverse ++ rest) (hr : (rest.map fun v => v.category).sum ≤ 8) (hal : As.length ≤ M'.2.2.1) (ha : As.all z_ok = true)
    (kc : z_G V M' d mc ms 0 (z_ent M' As) [] h Ψ) (k : ∀ v h', Ψ v h' → z_G V M (d + 1) bc bs (pc + 3) ls (v.toList ++ rest) h' Φ) : z_G V M (d + 1) (mc + bc) (ms + bs) pc ls st h Φ := by
  intro p l e R s m args below meth c H locs cells slots LS QQ C hw hS hL hn hc hs ret
  have hM := z_met (V := V) hk.1.2.2.2.2.1 hal (List.all_eq_true.mp ha) kc l
  have C0 := C
  obtain ⟨hx, hb, hr9, hml, hown, hlk, hts, hN, hK, hfr, hlo, hX, hbB, hBs, hnm⟩ := C
  have h81 := hk.1.2.2.2.2.2
  refine z_behind (rest := rest) (a := (As.map (z_rl V)).toArray) C0 hS hL hn hc hs (va_runS (n := n) (As := As.map (z_rl V)) ⟨hx, hb, hml, hown, hts⟩ hM ⟨⟨rfl, rfl, by show d + 1 ≤ _; omega, by show 8 + (M'.2.2.1 + 11) + 100 * d ≤ _; omega, pay_in hts (z_gw hk.1), List.mem_cons_self, hts _ hk.1.1, hts _ hk.1.2.1, hk.1.2.2.1, z_hlen hk.1, hts _ hk.2.1⟩, hts _ hk.2.2⟩ ⟨z_Pc.blind, fun U hU hW => z_Pc.of C0 hw hS hU hW⟩ rfl (by rw [List.length_map]; exact hn9) (hL.1.trans hn.symm) (by subst hst; simp) (by rw [z_cat]; exact lv_room (m := m) (pc := 0) (ls := LS) (rest := []) hr) hd ⟨by omega, by omega⟩) ret k
theorem zg_callT {As : List Value} {n : Nat} (hd : decode M.2.1 pc = .ok (.invokestatic idx, 3)) (hk : z_KT M.1.cls idx M' n) (hn9 : As.length = n) (hst : st = As.reverse ++ rest) (hr : (rest.map fun v => v.category).sum ≤ 8) (hal : As.length ≤ M'.2.2.1) (ha : As.all z_ok = true)
    (kc : z_G V M' d mc ms 0 (z_ent M' As) [] h Ψ) (k : ∀ v h', Ψ v h' → z_G V M (d + 1) bc bs (pc + 3) ls (v.toList ++ rest) h' Φ) : z_G V M (d + 1) (mc + bc) (ms + bs) pc ls st h Φ := by
  intro p l e R s m args below meth c H locs cells slots LS QQ C hw hS hL hn hc hs ret
  have hM := z_met (V := V) hk.1.2.2.2.2.1 hal (List.all_eq_true.mp ha) kc l
  have C0 := C
  obtain ⟨hx, hb, hr9, hml, hown, hlk, hts, hN, hK, hfr, hlo, hX, hbB, hBs, hnm⟩ := C
  have h81 := hk.1.2.2.2.2.2
  obtain ⟨hk0, ⟨host, hkn⟩, hkst⟩ := hk
  refine z_behind (rest := rest) (a := (As.map (z_rl V)).toArray) C0 hS hL hn hc hs (va_runSN (n := n) (As := As.map (z_rl V)) (host := host) ⟨hx, hb, hml, hown, hts⟩ hM ⟨⟨⟨rfl, rfl, by show d + 1 ≤ _; omega, by show 8 + (M'.2.2.1 + 11) + 100 * d ≤ _; omega, pay_in hts (z_gw hk0), List.mem_cons_self⟩, hts _ hk0.1, hts _ hk0.2.1, hk0.2.2.1, z_hlen hk0, va_Nw.use rfl (hN.1 _ hkn)⟩, hts _ hkst, trivial⟩ ⟨z_Pc.blind, fun U hU hW => z_Pc.of C0 hw hS hU hW⟩ rfl (by rw [List.length_map]; exact hn9) (hL.1.trans hn.symm) (by subst hst; simp) (by rw [z_cat]; exact lv_room (m := m) (pc := 0) (ls := LS) (rest := []) hr) hd ⟨by omega, by omega⟩) ret k
theorem zg_callV {As : List Value} {n q ci nf : Nat} (hd : decode M.2.1 pc = .ok (.invokevirtual idx, 3)) (hk : z_KV M.1.cls idx M' n) (hsh : h.1[q]? = some (ci, nf)) (hci : ci < 100) (hcn : ∃ T N, vwCl[ci]? = some (M'.1.cls, T, N)) (hn9 : As.length = n) (hst : st = As.reverse ++ .ref q :: rest) (hr : (rest.map fun v => v.category).sum ≤ 8) (hal : As.length + 1 ≤ M'.2.2.1) (ha : As.all z_ok = true)
    (kc : z_G V M' d mc ms 0 (z_ent M' (.ref q :: As)) [] h Ψ) (k : ∀ v h', Ψ v h' → z_G V M (d + 1) bc bs (pc + 3) ls (v.toList ++ rest) h' Φ) : z_G V M (d + 1) (mc + bc) (ms + bs) pc ls st h Φ := by
  intro p l e R s m args below meth c H locs cells slots LS QQ C hw hS hL hn hc hs ret
  have hM := z_met (V := V) (as := .ref q :: As) hk.1.2.2.2.2.1 (by simpa using hal) (List.all_eq_true.mp (by rw [List.all_cons, ha]; rfl)) kc l
  have C0 := C
  obtain ⟨hx, hb, hr9, hml, hown, hlk, hts, hN, hK, hfr, hlo, hX, hbB, hBs, hnm⟩ := C
  have h81 := hk.1.2.2.2.2.2
  obtain ⟨T, N, hcn⟩ := hcn
  obtain ⟨q', rfl⟩ := hw.pos hsh hci
  have he : (z_ws V h)[q']? = some (z_ad V (q' + 1), .inr (ci, (List.range nf).map (z_val V h ci (q' + 1)))) := by rw [z_get hsh, z_cell_o hci]
  refine z_behind (rest := rest) (a := ((Value.ref (q' + 1) :: As).map (z_rl V)).toArray) C0 hS hL hn hc hs (va_runV (n := n) (As := As.map (z_rl V)) (b := z_ad V (q' + 1)) ⟨hx, hb, hml, hown, hts⟩ hM ⟨⟨rfl, rfl, by show d + 1 ≤ _; omega, by show 8 + (M'.2.2.1 + 11) + 100 * d ≤ _; omega, pay_in hts (z_gw hk.1), List.mem_cons_self, hts _ hk.1.1, hts _ hk.1.2.1, hk.1.2.2.1, z_hlen hk.1, hts _ hk.2.1⟩, hts _ hk.2.2.1, hts _ hk.2.2.2⟩ ⟨z_Pc.blind, va_recv hK hw.1 hcn he, fun U hU hW => z_Pc.of C0 hw hS hU hW⟩ rfl (by rw [List.length_map]; exact hn9) (hL.1.trans hn.symm) (by subst hst; simp [z_rl]) (by rw [z_cat]; exact lv_room (m := m) (pc := 0) (ls := LS) (rest := []) hr) hd ⟨by omega, by omega⟩) ret k
theorem zg_callI {As : List Value} {n q : Nat} (hd : decode M.2.1 pc = .ok (.invokespecial idx, 3)) (hk : z_KI M.1.cls idx M' n) (hn9 : As.length = n) (hst : st = As.reverse ++ .ref q :: rest) (hr : (rest.map fun v => v.category).sum ≤ 8) (hal : As.length + 1 ≤ M'.2.2.1) (ha : As.all z_ok = true)
    (kc : z_G V M' d mc ms 0 (z_ent M' (.ref q :: As)) [] h Ψ) (k : ∀ v h', Ψ v h' → z_G V M (d + 1) bc bs (pc + 3) ls (v.toList ++ rest) h' Φ) : z_G V M (d + 1) (mc + bc) (ms + bs) pc ls st h Φ := by
  intro p l e R s m args below meth c H locs cells slots LS QQ C hw hS hL hn hc hs ret
  have hM := z_met (V := V) (as := .ref q :: As) hk.1.2.2.2.2.1 (by simpa using hal) (List.all_eq_true.mp (by rw [List.all_cons, ha]; rfl)) kc l
  have C0 := C
  obtain ⟨hx, hb, hr9, hml, hown, hlk, hts, hN, hK, hfr, hlo, hX, hbB, hBs, hnm⟩ := C
  obtain ⟨hk0, hkl, hki, hkn, hkr⟩ := hk
  have h81 := hk0.2.2.2.2.2
  have hcd := hk0.1
  have hwm : z_wsM M' = Cond.code M'.1 M'.2.1 M'.2.2.1 none :: wsL_law := by unfold z_wsM; rw [hkr]
  refine z_behind (rest := rest) (a := ((Value.ref q :: As).map (z_rl V)).toArray) C0 hS hL hn hc hs (va_runI (n := n) (As := As.map (z_rl V)) (b := z_ad V q) (bytes := M'.2.1) (maxL := M'.2.2.1) ⟨hx, hb, hml, hown, hts⟩ hM ⟨⟨rfl, rfl, by show d + 1 ≤ _; omega, by show 8 + (M'.2.2.1 + 11) + 100 * d ≤ _; omega, pay_in hts (z_gw hk0), by rw [hwm]; exact List.mem_cons_self, hts _ (hkr ▸ hcd), hts _ hk0.2.1, hk0.2.2.1, z_hlen hk0, hts _ hkl⟩, hkn, hts _ hki⟩ ⟨z_Pc.blind, fun U hU hW => z_Pc.of C0 hw hS hU hW⟩ rfl (by rw [List.length_map]; exact hn9) (hL.1.trans hn.symm) (by subst hst; simp [z_rl]) (by rw [z_cat]; exact lv_room (m := m) (pc := 0) (ls := LS) (rest := []) hr) hd ⟨by omega, by omega⟩) ret k
theorem zg_callJ {As : List Value} {n q : Nat} (hd : decode M.2.1 pc = .ok (.invokespecial idx, 3)) (hk : z_KJ M.1.cls idx M' n) (hn9 : As.length = n) (hst : st = As.reverse ++ .ref q :: rest) (hr : (rest.map fun v => v.category).sum ≤ 8) (hal : As.length + 1 ≤ M'.2.2.1) (ha : As.all z_ok = true)
    (kc : z_G V M' d mc ms 0 (z_ent M' (.ref q :: As)) [] h Ψ) (k : ∀ v h', Ψ v h' → z_G V M (d + 1) bc bs (pc + 3) ls (v.toList ++ rest) h' Φ) : z_G V M (d + 1) (mc + bc) (ms + bs) pc ls st h Φ := by
  intro p l e R s m args below meth c H locs cells slots LS QQ C hw hS hL hn hc hs ret
  have hM := z_met (V := V) (as := .ref q :: As) hk.1.2.2.2.2.1 (by simpa using hal) (List.all_eq_true.mp (by rw [List.all_cons, ha]; rfl)) kc l
  have C0 := C
  obtain ⟨hx, hb, hr9, hml, hown, hlk, hts, hN, hK, hfr, hlo, hX, hbB, hBs, hnm⟩ := C
  obtain ⟨hk0, ⟨host, hkl⟩, hki, hkn, hkr⟩ := hk
  have h81 := hk0.2.2.2.2.2
  have hcd := hk0.1
  have hwm : z_wsM M' = Cond.code M'.1 M'.2.1 M'.2.2.1 none :: wsL_law := by unfold z_wsM; rw [hkr]
  refine z_behind (rest := rest) (a := ((Value.ref q :: As).map (z_rl V)).toArray) C0 hS hL hn hc hs (va_runIN (n := n) (As := As.map (z_rl V)) (host := host) (b := z_ad V q) (bytes := M'.2.1) (maxL := M'.2.2.1) ⟨hx, hb, hml, hown, hts⟩ hM ⟨⟨⟨rfl, rfl, by show d + 1 ≤ _; omega, by show 8 + (M'.2.2.1 + 11) + 100 * d ≤ _; omega, pay_in hts (z_gw hk0), by rw [hwm]; exact List.mem_cons_self⟩, hts _ (hkr ▸ hcd), hts _ hk0.2.1, hk0.2.2.1, z_hlen hk0, va_Nw.use rfl (hN.1 _ hkl)⟩, hkn, hts _ hki⟩ ⟨z_Pc.blind, fun U hU hW => z_Pc.of C0 hw hS hU hW⟩ rfl (by rw [List.length_map]; exact hn9) (hL.1.trans hn.symm) (by subst hst; simp [z_rl]) (by rw [z_cat]; exact lv_room (m := m) (pc := 0) (ls := LS) (rest := []) hr) hd ⟨by omega, by omega⟩) ret k
/-- Math's three -/
theorem zg_mmax {x y : Int32} (hd : decode M.2.1 pc = .ok (.invokestatic idx, 3)) (hk : Cond.methodLink M.1.cls idx Lib.Math.max.name ∈ wsL_law) (h1 : Cond.static Lib.Math.max.name ∈ wsL_law) (h2 : Cond.initialized "java/lang/Math" ∈ wsL_law) (h3 : Cond.code Lib.Math.max.name Lib.Math.max.code 2 (some .int) ∈ wsL_law) (hr : (rest.map fun v => v.category).sum ≤ 8) (k : z_G V M (d + 1) bc bs (pc + 3) ls (.int (if x < y then y else x) :: rest) h Φ) : z_G V M (d + 1) bc bs pc ls (.int y :: .int x :: rest) h Φ := by
  intro p l e R s m args below meth c H locs cells slots LS QQ C hw hS hL hn hc hs ret
  have k9 := k p l e R s m args below meth c H locs cells slots LS QQ C hw hS hL hn hc hs ret
  obtain ⟨hx, hb, hr9, hml, hown, hlk, hts, hN, hK, hfr, hlo, hX, hbB, hBs, hnm⟩ := C
  exact va_mmax hx hb (by rw [hml, hn]; exact hL.1.symm) hown (hts _ hk) (hts _ h1) (hts _ h2) (hts _ h3) (by omega) (by rw [z_cat]; omega) (by omega) (by omega) hd k9
theorem zg_mmin {x y : Int32} (hd : decode M.2.1 pc = .ok (.invokestatic idx, 3)) (hk : Cond.methodLink M.1.cls idx Lib.Math.min.name ∈ wsL_law) (h1 : Cond.static Lib.Math.min.name ∈ wsL_law) (h2 : Cond.initialized "java/lang/Math" ∈ wsL_law) (h3 : Cond.code Lib.Math.min.name Lib.Math.min.code 2 (some .int) ∈ wsL_law) (hr : (rest.map fun v => v.category).sum ≤ 8) (k : z_G V M (d + 1) bc bs (pc + 3) ls (.int (if y < x then y else x) :: rest) h Φ) : z_G V M (d + 1) bc bs pc ls (.int y :: .int x :: rest) h Φ := by
  intro p l e R s m args below meth c H locs cells slots LS QQ C hw hS hL hn hc hs ret
  have k9 := k p l e R s m args below meth c H locs cells slots LS QQ C hw hS hL hn hc hs ret
  obtain ⟨hx, hb, hr9, hml, hown, hlk, hts, hN, hK, hfr, hlo, hX, hbB, hBs, hnm⟩ := C
  exact va_mmin hx hb (by rw [hml, hn]; exact hL.1.symm) hown (hts _ hk) (hts _ h1) (hts _ h2) (hts _ h3) (by omega) (by rw [z_cat]; omega) (by omega) (by omega) hd k9
theorem zg_mabs {x : Int32} (hd : decode M.2.1 pc = .ok (.invokestatic idx, 3)) (hk : Cond.methodLink M.1.cls idx Lib.Math.abs.name ∈ wsL_law) (h1 : Cond.static Lib.Math.abs.name ∈ wsL_law) (h2 : Cond.initialized "java/lang/Math" ∈ wsL_law) (h3 : Cond.code Lib.Math.abs.name Lib.Math.abs.code 1 (some .int) ∈ wsL_law) (hr : (rest.map fun v => v.category).sum ≤ 8) (k : z_G V M (d + 1) bc bs (pc + 3) ls (.int (if 0 ≤ x then x else 0 - x) :: rest) h Φ) : z_G V M (d + 1) bc bs pc ls (.int x :: rest) h Φ := by
  intro p l e R s m args below meth c H locs cells slots LS QQ C hw hS hL hn hc hs ret
  have k9 := k p l e R s m args below meth c H locs cells slots LS QQ C hw hS hL hn hc hs ret
  obtain ⟨hx, hb, hr9, hml, hown, hlk, hts, hN, hK, hfr, hlo, hX, hbB, hBs, hnm⟩ := C
  exact va_mabs hx hb (by rw [hml, hn]; exact hL.1.symm) hown (hts _ hk) (hts _ h1) (hts _ h2) (hts _ h3) (by omega) (by rw [z_cat]; omega) (by omega) (by omega) hd k9
end ZG3
