/-! ===== making cells: the rules of the constructors ===== -/
def z_lk (t : List ((Nat × Nat) × Nat)) : Nat → Nat → Option Nat := fun k j => t.lookup (k, j)
theorem z_lk_cons (t : List ((Nat × Nat) × Nat)) (q j r : Nat) : z_ur (z_lk t) q (fun i => if i = j then some r else z_lk t q i) = z_lk (((q, j), r) :: t) := by
  funext k i
  unfold z_ur z_lk
  rw [List.lookup_cons]
  by_cases hk : k = q
  · subst hk
    rw [if_pos rfl]
    by_cases hi : i = j
    · subst hi
      simp
    · have : ((k, i) == (k, j)) = false := by simp [hi]
      rw [this]
      simp [hi]
  · have : ((k, i) == (q, j)) = false := by simp [hk]
    rw [this, if_neg hk]
theorem z_lk_hit (t : List ((Nat × Nat) × Nat)) (q j r : Nat) : z_lk (((q, j), r) :: t) q j = some r := by
  unfold z_lk
  rw [List.lookup_cons]
  simp
theorem z_lk_miss {t : List ((Nat × Nat) × Nat)} {k i q j r : Nat} (h : k ≠ q ∨ i ≠ j) : z_lk (((q, j), r) :: t) k i = z_lk t k i := by
  unfold z_lk
  rw [List.lookup_cons]
  have : ((k, i) == (q, j)) = false := by
    rcases h with h | h <;> simp [h]
  rw [this]
theorem z_lk_same {t1 t2 : List ((Nat × Nat) × Nat)} (h1 : t1.all (fun e => t2.lookup e.1 == some e.2) = true) (h2 : t2.all (fun e => t1.lookup e.1 == some e.2) = true) : z_lk t1 = z_lk t2 := by
  have key : ∀ (t : List ((Nat × Nat) × Nat)) (x : Nat × Nat) (v : Nat), t.lookup x = some v → (x, v) ∈ t := by
    intro t x v
    induction t with
    | nil => intro h; simp at h
    | cons a l ih =>
      intro h
      rw [List.lookup_cons] at h
      by_cases e : x == a.1
      · rw [e] at h
        have e2 : x = a.1 := by simpa using e
        have e3 : a.2 = v := by simpa using h
        rw [e2, ← e3]
        exact List.mem_cons_self
      · have e' : (x == a.1) = false := by simpa using e
        rw [e'] at h
        exact List.mem_cons_of_mem _ (ih h)
  funext k j
  unfold z_lk
  cases e1 : t1.lookup (k, j) with
  | some v =>
    have := List.all_eq_true.mp h1 _ (key _ _ _ e1)
    have e3 : t2.lookup (k, j) = some v := by simpa using this
    exact e3.symm
  | none =>
    cases e2 : t2.lookup (k, j) with
    | none => rfl
    | some v =>
      have := List.all_eq_true.mp h2 _ (key _ _ _ e2)
      rw [e1] at this
      simp at this
section ZC
variable {V : zV} {M : zM} {d bc bs pc idx : Nat} {ls st rest : List Value} {h : zHP} {Φ : Option Value → zHP → Prop}
theorem z_grow {p : Program} {l : Launch} {e : Env} {R : Room} {s : State} {m : MethodId} {args : Array Value} {below : List Frame} {meth : Method} {c : Code} {H H1 : Heap} {locs : List Loc} {cells slots a b pc' : Nat} {LS : Array Slot} {QQ : State → Prop} {st' : List Value} {h' : zHP} {t : List (Nat × Nat)}
    (C : z_C V M d p l e R s m args below meth c) (hw : z_W V h H) (hS : va_S (fun q => V.2.2.1 ≤ q) s.heap H locs) (hL : z_L V LS ls) (hn : M.2.2.1 = ls.length) (hc : cells + (bc + a) ≤ R.cells) (hs : slots + (bs + b) ≤ R.slots)
    (ret : ∀ (v : Option Value) (h' : zHP) (H' : Heap) (locs' : List Loc) (pc' : Nat) (LS' : Array Slot) (i : Instr), Φ v h' → z_W V h' H' → va_S (fun q => V.2.2.1 ≤ q) s.heap H' locs' → z_R M v i → decode M.2.1 pc' = .ok (i, 1) → W p l e R s m args below meth c H' locs' (cells + (bc + a)) (slots + (bs + b)) QQ (F0 m pc' LS' (v.toList.map (z_rl V))))
    (h0 : h'.1 = h.1 ++ t) (h1 : ∀ q, q < h.1.length → h'.2.1 q = h.2.1 q) (h2 : ∀ q, q < h.1.length → h'.2.2 q = h.2.2 q) (hz : H1.size = H.size + t.length) (o1 : ∀ q : Nat, q < H.size → H1[q]? = H[q]?)
    (hnew : ∀ (i : Nat) (x : Nat × Nat), t[i]? = some x → va_at V.1 vwCl (z_ad V (h.1.length + i), z_cell V h' (h.1.length + i) x) H1)
    (k : z_G V M d bc bs pc' ls st' h' Φ) : W p l e R s m args below meth c H1 locs (cells + a) (slots + b) QQ (F0 m pc' LS (st'.map (z_rl V))) := by
  have hl1 := hw.2.2.1
  have hP1 : va_P V.1 vwCl (z_ws V h') H1 := by
    intro i q hq
    obtain ⟨x, hx, rfl⟩ := z_at_of hq
    rw [h0] at hx
    by_cases hi : i + 1 < h.1.length
    · rw [List.getElem?_append_left hi] at hx
      rw [z_cell_kept (h1 _ hi) (h2 _ hi)]
      have h9 := hw.1 i _ (z_get hx)
      exact h9.kept (o1 _ h9.lt)
    · rw [List.getElem?_append_right (by omega)] at hx
      have h9 := hnew _ x hx
      have e9 : h.1.length + (i + 1 - h.1.length) = i + 1 := by omega
      rw [e9] at h9
      exact h9
  have hw1 : z_W V h' H1 := ⟨hP1, by rw [hz, h0, List.length_append]; have := hw.2.1; omega, by rw [h0, List.length_append]; omega, by rw [h0, List.getElem?_append_left (by omega)]; exact hw.2.2.2.1, by rw [h1 0 (by omega)]; exact hw.2.2.2.2⟩
  have hS1 : va_S (fun q => V.2.2.1 ≤ q) s.heap H1 locs := ⟨Nat.le_trans hS.1 (by omega), fun x g1 g2 => (o1 x (Nat.lt_of_lt_of_le g1 hS.1)).trans (hS.2.1 x g1 g2), hS.2.2⟩
  refine k p l e R s m args below meth c H1 locs (cells + a) (slots + b) LS QQ C hw1 hS1 hL hn (by omega) (by omega) ?_
  intro v9 h9 H9 locs9 pc9 LS9 i9 a1 a2 a3 a4 a5
  have := ret v9 h9 H9 locs9 pc9 LS9 i9 a1 a2 a3 a4 a5
  rw [show cells + a + bc = cells + (bc + a) by omega, show slots + b + bs = slots + (bs + b) by omega]
  exact this
theorem z_adN {H : Heap} (hw : z_W V h H) : z_ad V h.1.length = H.size := by
  obtain ⟨n, hn⟩ : ∃ n, h.1.length = n + 1 := ⟨h.1.length - 1, by have := hw.2.2.1; omega⟩
  rw [hn]
  show V.2.2.1 + n = H.size
  have := hw.2.1
  omega
theorem zc_new {ci N : Nat} {CC : String} {T : u_T} (hd : decode M.2.1 pc = .ok (.new idx, 3)) (w1 : Cond.classLink M.1.cls idx CC ∈ wsL_law) (w2 : Cond.instantiable CC N ∈ wsL_law) (w3 : Cond.initialized CC ∈ wsL_law) (hcl : vwCl[ci]? = some (CC, T, N)) (hin : ∀ w ∈ u_ws CC T N, w ∈ wsL_law) (hty : ∀ k, k < N → parseFieldDescriptor (T k).2.2.1 = some (z_ty ci k)) (hci : ci < 100)
    (hdf : ∀ j, j < N → defaultValue (z_ty ci j) = if z_tyR (z_ty ci j) = true then .null else .int 0) (hz : h.2.1 h.1.length = fun _ => 0) (hzr : h.2.2 h.1.length = fun _ => none)
    (k : z_G V M d bc bs (pc + 3) ls (.ref h.1.length :: st) (h.1 ++ [(ci, N)], h.2.1, h.2.2) Φ) : z_G V M d (bc + 1) (bs + N) pc ls st h Φ := by
  intro p l e R s m args below meth c H locs cells slots LS QQ C hw hS hL hn hc hs ret
  have C0 := C
  obtain ⟨hx, hb, hr, hml, hown, hlk, hts, hN, hK, hfr, hlo, hX, hbB, hBs, hnm⟩ := C
  have hKn := hK.1 ci _ hcl
  refine W.newcK hx hb hown (hts _ w1) (hts _ w2) (hts _ w3) rfl hd (by omega) (by omega) hKn.2.1 rfl fun H1 kC hkC e1 z1 o1 => ?_
  have k9 := z_grow (H1 := H1) (h' := (h.1 ++ [(ci, N)], h.2.1, h.2.2)) (t := [(ci, N)]) C0 hw hS hL hn hc hs ret rfl (fun _ _ => rfl) (fun _ _ => rfl) z1 o1 (fun i x hi => by
    have hi0 : i < 1 := (List.getElem?_eq_some_iff.mp hi).1
    obtain rfl : i = 0 := by omega
    cases hi
    rw [Nat.add_zero, z_adN hw, z_cell_o hci]
    refine ⟨_, hcl, (u_born (z_ty ci) hts hin hKn hkC e1 hty).to (fun j hj => ?_)⟩
    rw [hdf j hj]
    unfold vp_V
    rw [List.getD_eq_getElem?_getD, List.getElem?_map, List.getElem?_range hj]
    show _ = z_val V (h.1 ++ [(ci, N)], h.2.1, h.2.2) ci h.1.length j
    unfold z_val
    show _ = if z_tyR (z_ty ci j) = true then va_rf ((h.2.2 h.1.length j).map (z_ad V)) else Value.int (h.2.1 h.1.length j)
    rw [hz, hzr]
    rfl) k
  have e9 : ((Value.ref h.1.length :: st).map (z_rl V)) = .ref H.size :: st.map (z_rl V) := by rw [← z_adN hw]; rfl
  rw [e9] at k9
  exact k9
theorem z_cls {s : State} (hK : va_K V.1 vwCl (z_tys V) s) {t : Nat} {c : ClassId} {ty : FieldType} (ht : (z_tys V)[t]? = some (c, ty)) {cA : ClassId} (hf : s.vm.findClass ("[" ++ ty.toString) = some cA) (hno : ∀ C, ty ≠ .object C) : cA = c := by
  have h1 := (hK.2 t _ ht).2
  cases ty with
  | object C => exact absurd rfl (hno C)
  | _ => exact Option.some.inj (hf.symm.trans h1)
theorem zc_newi {n : Int32} {N : Nat} (hd : decode M.2.1 pc = .ok (.newarray .int, 2)) (w1 : Cond.arrayClass .int ∈ wsL_law) (hn0 : ¬ n < 0) (hN : n.toNatClampNeg = N) (hb9 : N * 4 ≤ 536870912) (hz : h.2.1 h.1.length = fun _ => 0)
    (k : z_G V M d bc bs (pc + 2) ls (.ref h.1.length :: st) (h.1 ++ [(100, N)], h.2.1, h.2.2) Φ) : z_G V M d (bc + 1) (bs + N) pc ls (.int n :: st) h Φ := by
  intro p l e R s m args below meth c H locs cells slots LS QQ C hw hS hL hn hc hs ret
  have C0 := C
  obtain ⟨hx, hb, hr, hml, hown, hlk, hts, hN9, hK, hfr, hlo, hX, hbB, hBs, hnm⟩ := C
  refine va_newaK (atype := .int) hx hb (hts _ w1) rfl hd rfl hn0 hN hb9 (by omega) (by omega) rfl fun H1 cA e1 z1 o1 _ hf => ?_
  have ec : cA = V.2.2.2.1.1 := z_cls hK (t := 0) rfl hf (fun _ q => by cases q)
  subst ec
  have k9 := z_grow (H1 := H1) (h' := (h.1 ++ [(100, N)], h.2.1, h.2.2)) (t := [(100, N)]) C0 hw hS hL hn hc hs ret rfl (fun _ _ => rfl) (fun _ _ => rfl) z1 o1 (fun i x hi => by
    have hi0 : i < 1 := (List.getElem?_eq_some_iff.mp hi).1
    obtain rfl : i = 0 := by omega
    cases hi
    rw [Nat.add_zero, z_adN hw]
    show H1[H.size]? = some (vp_cell V.2.2.2.1.1 (N, .inl (h.2.1 h.1.length)))
    rw [hz]
    exact e1) k
  have e9 : ((Value.ref h.1.length :: st).map (z_rl V)) = .ref H.size :: st.map (z_rl V) := by rw [← z_adN hw]; rfl
  rw [e9] at k9
  exact k9
theorem zc_newz {n : Int32} {N : Nat} (hd : decode M.2.1 pc = .ok (.newarray .boolean, 2)) (w1 : Cond.arrayClass .boolean ∈ wsL_law) (hn0 : ¬ n < 0) (hN : n.toNatClampNeg = N) (hb9 : N * 1 ≤ 536870912) (hz : h.2.1 h.1.length = fun _ => 0)
    (k : z_G V M d bc bs (pc + 2) ls (.ref h.1.length :: st) (h.1 ++ [(101, N)], h.2.1, h.2.2) Φ) : z_G V M d (bc + 1) (bs + N) pc ls (.int n :: st) h Φ := by
  intro p l e R s m args below meth c H locs cells slots LS QQ C hw hS hL hn hc hs ret
  have C0 := C
  obtain ⟨hx, hb, hr, hml, hown, hlk, hts, hN9, hK, hfr, hlo, hX, hbB, hBs, hnm⟩ := C
  refine va_newaK (atype := .boolean) hx hb (hts _ w1) rfl hd rfl hn0 hN hb9 (by omega) (by omega) rfl fun H1 cA e1 z1 o1 _ hf => ?_
  have ec : cA = V.2.2.2.1.2.1 := z_cls hK (t := 1) rfl hf (fun _ q => by cases q)
  subst ec
  have k9 := z_grow (H1 := H1) (h' := (h.1 ++ [(101, N)], h.2.1, h.2.2)) (t := [(101, N)]) C0 hw hS hL hn hc hs ret rfl (fun _ _ => rfl) (fun _ _ => rfl) z1 o1 (fun i x hi => by
    have hi0 : i < 1 := (List.getElem?_eq_some_iff.mp hi).1
    obtain rfl : i = 0 := by omega
    cases hi
    rw [Nat.add_zero, z_adN hw]
    show H1[H.size]? = some (vp_cell V.2.2.2.1.2.1 (N, .inl (h.2.1 h.1.length)))
    rw [hz]
    exact e1) k
  have e9 : ((Value.ref h.1.length :: st).map (z_rl V)) = .ref H.size :: st.map (z_rl V) := by rw [← z_adN hw]; rfl
  rw [e9] at k9
  exact k9
theorem zc_newq {n : Int32} {N : Nat} (hd : decode M.2.1 pc = .ok (.anewarray idx, 3)) (w1 : Cond.classLink M.1.cls idx "TorchPlate$Plight" ∈ wsL_law) (hn0 : ¬ n < 0) (hN : n.toNatClampNeg = N) (hb9 : N * 4 ≤ 536870912) (hzr : h.2.2 h.1.length = fun _ => none)
    (k : z_G V M d bc bs (pc + 3) ls (.ref h.1.length :: st) (h.1 ++ [(103, N)], h.2.1, h.2.2) Φ) : z_G V M d (bc + 1) (bs + N) pc ls (.int n :: st) h Φ := by
  intro p l e R s m args below meth c H locs cells slots LS QQ C hw hS hL hn hc hs ret
  have C0 := C
  obtain ⟨hx, hb, hr, hml, hown, hlk, hts, hN9, hK, hfr, hlo, hX, hbB, hBs, hnm⟩ := C
  subst hN
  refine W.anew hx hb hown (hts _ w1) (va_AO.use hN9.2.1) rfl hd rfl hn0 hb9 (by omega) (by omega) fun cA kA comp f1 f2 f3 f4 => ?_
  have ec : cA = V.2.2.2.1.2.2.2 := by
    obtain ⟨kA', comp', g1, g2, g3, g4⟩ := (hK.2 3 _ rfl).2
    exact Option.some.inj (f1.symm.trans g4)
  subst ec
  have e1 : (H.push ({ cls := V.2.2.2.1.2.2.2, slots := Array.replicate n.toNatClampNeg .null, vm := .none } : Cell))[H.size]? = some (arrV V.2.2.2.1.2.2.2 n.toNatClampNeg (fun _ => .null)) := by rw [Array.getElem?_push_size, ← arrV_new]
  have k9 := z_grow (H1 := H.push ({ cls := V.2.2.2.1.2.2.2, slots := Array.replicate n.toNatClampNeg .null, vm := .none } : Cell)) (h' := (h.1 ++ [(103, n.toNatClampNeg)], h.2.1, h.2.2)) (t := [(103, n.toNatClampNeg)]) C0 hw hS hL hn hc hs ret rfl (fun _ _ => rfl) (fun _ _ => rfl) (by rw [Array.size_push]; rfl) (fun q hq => by rw [Array.getElem?_push, if_neg (Nat.ne_of_lt hq)]) (fun i x hi => by
    have hi0 : i < 1 := (List.getElem?_eq_some_iff.mp hi).1
    obtain rfl : i = 0 := by omega
    cases hi
    rw [Nat.add_zero, z_adN hw]
    show (H.push _)[H.size]? = some (vp_cell V.2.2.2.1.2.2.2 (n.toNatClampNeg, .inr (.inr (.inr (.inr (fun j => (h.2.2 h.1.length j).map (z_ad V)))))))
    rw [hzr]
    exact e1) k
  have e9 : ((Value.ref h.1.length :: st).map (z_rl V)) = .ref H.size :: st.map (z_rl V) := by rw [← z_adN hw]; rfl
  rw [e9] at k9
  exact k9
theorem zc_oinit {q : Nat} (hd : decode M.2.1 pc = .ok (.invokespecial idx, 3)) (w1 : Cond.methodLink M.1.cls idx Lib.objectInit ∈ wsL_law) (w2 : Cond.instanceMethod Lib.objectInit ∈ wsL_law) (w3 : Cond.code Lib.objectInit ⟨#[0xb1]⟩ 1 none ∈ wsL_law) (hr : (rest.map fun v => v.category).sum ≤ 8) (k : z_G V M (d + 1) bc bs (pc + 3) ls rest h Φ) : z_G V M (d + 1) bc bs pc ls (.ref q :: rest) h Φ := by
  intro p l e R s m args below meth c H locs cells slots LS QQ C hw hS hL hn hc hs ret
  have k9 := k p l e R s m args below meth c H locs cells slots LS QQ C hw hS hL hn hc hs ret
  obtain ⟨hx, hb, hr9, hml, hown, hlk, hts, hN, hK, hfr, hlo, hX, hbB, hBs, hnm⟩ := C
  refine W.objInit hx hb hown (hts _ w1) (hts _ w2) (hts _ w3) rfl (by rw [hml, hn]; exact hL.1) rfl hd (by omega) (by rw [z_cat]; show 2 * 0 + _ + 12 ≤ _; omega) ?_
  exact k9
theorem zc_aast {q r n m9 : Nat} {i : Int32} (hd : decode M.2.1 pc = .ok (.aastore, 1)) (hsh : h.1[q]? = some (103, n)) (hsr : h.1[r]? = some (2, m9)) (hin : vp_in i n) (k : z_G V M d bc bs (pc + 1) ls st (h.1, h.2.1, z_ur h.2.2 q (fun x => if x = i.toNatClampNeg then some r else h.2.2 q x)) Φ) : z_G V M d bc bs pc ls (.ref r :: .int i :: .ref q :: st) h Φ := by
  intro p l e R s m args below meth c H locs cells slots LS QQ C hw hS hL hn hc hs ret
  have C0 := C
  have hlt : i.toNatClampNeg < n := Nat.not_le.mp fun z => hin (Or.inr z)
  have h0 : ¬ i < 0 := fun z => hin (Or.inl z)
  obtain ⟨q', rfl⟩ : ∃ q', q = q' + 1 := by
    cases q with
    | zero => rw [hw.2.2.2.1] at hsh; cases hsh
    | succ q9 => exact ⟨q9, rfl⟩
  obtain ⟨r', rfl⟩ := hw.pos hsr (by decide)
  obtain ⟨hx, hb, hr9, hml, hown, hlk, hts, hN, hK, hfr, hlo, hX, hbB, hBs, hnm⟩ := C
  have ha := hw.1 q' _ (z_get hsh)
  have he : (z_ws V h)[r']? = some (z_ad V (r' + 1), .inr (2, (List.range m9).map (z_val V h 2 (r' + 1)))) := by rw [z_get hsr, z_cell_o (by decide)]
  obtain ⟨r9, hr', cellV, g1, g2, g3, -⟩ := hw.1 r' _ he
  have hcls := (hK.1 2 _ rfl).2
  obtain ⟨kA, comp, k1, k2, k3, -⟩ := (hK.2 3 _ rfl).2
  have hcomp : comp = V.1.1 2 := Option.some.inj (k3.symm.trans hcls.1)
  subst hcomp
  obtain ⟨kC, hkC, -⟩ := hcls.2
  refine W.aast hx hb (cell := vp_cell V.2.2.2.1.2.2.2 (n, .inr (.inr (.inr (.inr (fun j => (h.2.2 (q' + 1) j).map (z_ad V))))))) ha (fun z y => by cases y) (fun y => by cases y) k1 k2 rfl hkC ⟨h0, by show _ < (arrV _ _ _).slots.size; rw [arrV_size]; exact hlt⟩ g1 (fun z y => by rw [g3] at y; cases y) (by rw [g2]; exact hkC) (by rw [g2]; exact va_assign hcls) rfl rfl hd fun H1 e9 z oq => ?_
  have hset : z_ws V (h.1, h.2.1, z_ur h.2.2 (q' + 1) (fun x => if x = i.toNatClampNeg then some (r' + 1) else h.2.2 (q' + 1) x)) = (z_ws V h).set q' (z_ad V (q' + 1), z_cell V (h.1, h.2.1, z_ur h.2.2 (q' + 1) (fun x => if x = i.toNatClampNeg then some (r' + 1) else h.2.2 (q' + 1) x)) (q' + 1) (103, n)) :=
    z_set_gen (h := h) (h' := (h.1, h.2.1, z_ur h.2.2 (q' + 1) (fun x => if x = i.toNatClampNeg then some (r' + 1) else h.2.2 (q' + 1) x))) hsh rfl (fun _ _ => rfl) (fun y hy => by show z_ur h.2.2 (q' + 1) _ y = _; unfold z_ur; rw [if_neg hy])
  have hat : va_at V.1 vwCl (z_ad V (q' + 1), z_cell V (h.1, h.2.1, z_ur h.2.2 (q' + 1) (fun x => if x = i.toNatClampNeg then some (r' + 1) else h.2.2 (q' + 1) x)) (q' + 1) (103, n)) H1 := by
    show H1[z_ad V (q' + 1)]? = some (vp_cell V.2.2.2.1.2.2.2 (n, .inr (.inr (.inr (.inr (fun j => (z_ur h.2.2 (q' + 1) (fun x => if x = i.toNatClampNeg then some (r' + 1) else h.2.2 (q' + 1) x) (q' + 1) j).map (z_ad V)))))))
    rw [e9, vp_cell_q, vp_cell_q, arrV_store]
    congr 2
    funext j
    unfold z_ur
    rw [if_pos rfl]
    by_cases hq : j = i.toNatClampNeg
    · subst hq
      simp [updV, va_rf]
    · simp [updV, hq]
  exact k p l e R s m args below meth c H1 _ cells slots LS QQ C0 (hw.upd_r (by rw [hset]; exact hw.1.set (z_D V h) (z_get hsh) hat oq) z) (hS.put z oq ((z_D V h).2 q' _ (z_get hsh))) hL hn hc hs ret
/-- new int[4][5] -/
theorem zc_multi (hd : decode M.2.1 pc = .ok (.multianewarray idx 2, 4)) (w1 : Cond.classLink M.1.cls idx "[[I" ∈ wsL_law) (w2 : Cond.arrayClass .int ∈ wsL_law) (hz : ∀ j, h.1.length ≤ j → h.2.1 j = fun _ => 0) {t : List ((Nat × Nat) × Nat)} (hfr9 : h.2.2 = z_lk t) (hzr : h.2.2 h.1.length = fun _ => none)
    (k : z_G V M d bc bs (pc + 4) ls (.ref h.1.length :: st) (h.1 ++ [(102, 4), (100, 5), (100, 5), (100, 5), (100, 5)], h.2.1, z_lk (((h.1.length, 0), h.1.length + 1) :: ((h.1.length, 1), h.1.length + 2) :: ((h.1.length, 2), h.1.length + 3) :: ((h.1.length, 3), h.1.length + 4) :: t)) Φ) : z_G V M d (bc + 5) (bs + 24) pc ls (.int 5 :: .int 4 :: st) h Φ := by
  intro p l e R s m args below meth c H locs cells slots LS QQ C hw hS hL hn hc hs ret
  have C0 := C
  obtain ⟨hx, hb, hr, hml, hown, hlk, hts, hN9, hK, hfr, hlo, hX, hbB, hBs, hnm⟩ := C
  intro T hT X
  obtain ⟨F, cA, comp, fA, fC, f1, f2, hold, hrow, X', step⟩ := zm_step X hx hown (hts _ w1) hN9.2.2 (hts _ w2) (g := F0 m pc LS (.int 5 :: .int 4 :: st.map (z_rl V))) (rest := st.map (z_rl V)) rfl (by rw [hb]; exact hd) rfl (by omega) (by omega)
  have ecA : cA = V.2.2.2.1.2.2.1 := z_cls hK (t := 2) rfl fA (fun _ q => by cases q)
  have ecI : comp = V.2.2.2.1.1 := z_cls hK (t := 0) rfl fC (fun _ q => by cases q)
  subst ecA
  subst ecI
  rw [hT] at f1 f2 hold hrow
  have hin9 : zm_I V.2.2.2.1.1 = vp_cell V.2.2.2.1.1 (5, .inl (fun _ => 0)) := by
    rw [vp_cell_i]
    rfl
  have hadd : ∀ j : Nat, z_ad V (h.1.length + j) = H.size + j := fun j => by
    obtain ⟨n, hn9⟩ : ∃ n, h.1.length = n + 1 := ⟨h.1.length - 1, by have := hw.2.2.1; omega⟩
    have h8 := hw.2.1
    rw [hn9]
    show z_ad V (n + 1 + j) = _
    rw [show n + 1 + j = (n + j) + 1 by omega]
    show V.2.2.1 + (n + j) = _
    omega
  have hlkN : ∀ j : Nat, z_lk t h.1.length j = none := fun j => by rw [← hfr9, hzr]
  have hadd0 : z_ad V h.1.length = H.size := hadd 0
  have hwalk := z_grow (a := 5) (b := 24) (H1 := F.heap) (h' := (h.1 ++ [(102, 4), (100, 5), (100, 5), (100, 5), (100, 5)], h.2.1, z_lk (((h.1.length, 0), h.1.length + 1) :: ((h.1.length, 1), h.1.length + 2) :: ((h.1.length, 2), h.1.length + 3) :: ((h.1.length, 3), h.1.length + 4) :: t))) (t := [(102, 4), (100, 5), (100, 5), (100, 5), (100, 5)]) C0 hw hS hL hn hc hs ret rfl (fun _ _ => rfl) (fun q hq => by
      rw [hfr9]
      funext j
      show z_lk _ q j = z_lk t q j
      have a : q ≠ h.1.length := by omega
      rw [z_lk_miss (Or.inl a), z_lk_miss (Or.inl a), z_lk_miss (Or.inl a), z_lk_miss (Or.inl a)]) f1 hold (fun i x hi => by
    have hi0 : i < 5 := (List.getElem?_eq_some_iff.mp hi).1
    rcases (show i = 0 ∨ i = 1 ∨ i = 2 ∨ i = 3 ∨ i = 4 by omega) with rfl | rfl | rfl | rfl | rfl
    · cases hi
      rw [Nat.add_zero, hadd0]
      show F.heap[H.size]? = some (vp_cell V.2.2.2.1.2.2.1 (4, .inr (.inr (.inr (.inr (fun j => (z_lk _ h.1.length j).map (z_ad V)))))))
      rw [f2, vp_cell_q]
      refine congrArg some ?_
      refine zm_ext ?_
      · intro j hj
        rw [if_pos hj]
        symm
        rcases (show j = 0 ∨ j = 1 ∨ j = 2 ∨ j = 3 by omega) with rfl | rfl | rfl | rfl
        · rw [z_lk_hit]
          show Value.ref (z_ad V (h.1.length + 1)) = _
          rw [hadd]
        · rw [z_lk_miss (Or.inr (by decide)), z_lk_hit]
          show Value.ref (z_ad V (h.1.length + 2)) = _
          rw [hadd]
        · rw [z_lk_miss (Or.inr (by decide)), z_lk_miss (Or.inr (by decide)), z_lk_hit]
          show Value.ref (z_ad V (h.1.length + 3)) = _
          rw [hadd]
        · rw [z_lk_miss (Or.inr (by decide)), z_lk_miss (Or.inr (by decide)), z_lk_miss (Or.inr (by decide)), z_lk_hit]
          show Value.ref (z_ad V (h.1.length + 4)) = _
          rw [hadd]
    · cases hi
      rw [hadd]
      show F.heap[H.size + 1]? = some (vp_cell V.2.2.2.1.1 (5, .inl (h.2.1 (h.1.length + 1))))
      rw [hz _ (by omega), ← hin9]
      exact hrow 0 (by decide)
    · cases hi
      rw [hadd]
      show F.heap[H.size + 2]? = some (vp_cell V.2.2.2.1.1 (5, .inl (h.2.1 (h.1.length + 2))))
      rw [hz _ (by omega), ← hin9]
      exact hrow 1 (by decide)
    · cases hi
      rw [hadd]
      show F.heap[H.size + 3]? = some (vp_cell V.2.2.2.1.1 (5, .inl (h.2.1 (h.1.length + 3))))
      rw [hz _ (by omega), ← hin9]
      exact hrow 2 (by decide)
    · cases hi
      rw [hadd]
      show F.heap[H.size + 4]? = some (vp_cell V.2.2.2.1.1 (5, .inl (h.2.1 (h.1.length + 4))))
      rw [hz _ (by omega), ← hin9]
      exact hrow 3 (by decide)) k
  have e9 : ((Value.ref h.1.length :: st).map (z_rl V)) = .ref H.size :: st.map (z_rl V) := by rw [← z_adN hw]; rfl
  rw [e9] at hwalk
  obtain ⟨t9, a1, b1⟩ := hwalk F rfl X'
  refine ⟨t9, step t9 ?_, b1⟩
  rw [hT]
  exact a1
/-- a put that changes nothing -/
theorem zc_putS {ci j n q : Nat} {x : Int32} (hd : decode M.2.1 pc = .ok (.putfield idx, 3)) (hf : z_F M.1.cls idx ci j false) (hty : z_ty ci j = .int ∨ (z_ty ci j = .boolean ∧ (x = 0 ∨ x = 1))) (hsh : h.1[q]? = some (ci, n)) (hci : ci < 100) (hj : j < n) (hv : h.2.1 q j = x)
    (k : z_G V M d bc bs (pc + 3) ls st h Φ) : z_G V M d bc bs pc ls (.int x :: .ref q :: st) h Φ := by
  have e : (h.1, z_ui h.2.1 q (upd (h.2.1 q) j x), h.2.2) = h := by
    obtain ⟨a, b, c⟩ := h
    refine congrArg (fun z => (a, z, c)) ?_
    funext k i
    show z_ui b q (upd (b q) j x) k i = b k i
    unfold z_ui upd
    by_cases hk : k = q
    · subst hk
      rw [if_pos rfl]
      by_cases hi : i = j
      · subst hi
        show (if i = i then x else b k i) = b k i
        rw [if_pos rfl]
        exact hv.symm
      · show (if i = j then x else b k i) = b k i
        rw [if_neg hi]
    · rw [if_neg hk]
  rcases hty with hty | ⟨hty, hx⟩
  · refine zg_putI hd hf hty hsh hci hj ?_
    rw [e]
    exact k
  · refine zg_putZ hd hf hty hx hsh hci hj ?_
    rw [e]
    exact k
theorem zc_putR {ci j n q r : Nat} {fin : Bool} {sh : List (Nat × Nat)} {fi : Nat → Nat → Int32} {t : List ((Nat × Nat) × Nat)} (hd : decode M.2.1 pc = .ok (.putfield idx, 3)) (hf : z_F M.1.cls idx ci j fin) (hfin : fin = false ∨ (fin = true ∧ M.1.name = "<init>" ∧ ∀ C T N, vwCl[ci]? = some (C, T, N) → (T j).1 = M.1.cls)) (hty : z_tyR (z_ty ci j) = true) (hsh : sh[q]? = some (ci, n)) (hci : ci < 100) (hj : j < n)
    (k : z_G V M d bc bs (pc + 3) ls st (sh, fi, z_lk (((q, j), r) :: t)) Φ) : z_G V M d bc bs pc ls (.ref r :: .ref q :: st) (sh, fi, z_lk t) Φ := by
  refine zg_putR hd hf hfin hty hsh hci hj ?_
  show z_G V M d bc bs (pc + 3) ls st (sh, fi, z_ur (z_lk t) q (fun i => if i = j then some r else z_lk t q i)) Φ
  rw [z_lk_cons]
  exact k
end ZC
