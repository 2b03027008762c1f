/-! ===== fields, arrays, calls and returns of the small machine ===== -/
def z_F (own : String) (idx ci j : Nat) (fin : Bool) : Prop := ∃ (C : String) (T : u_T) (N : Nat), vwCl[ci]? = some (C, T, N) ∧ j < N ∧ Cond.fieldLink own idx (T j).1 (T j).2.1 (T j).2.2.1 ∈ wsL_law ∧ (∀ w ∈ u_ws C T N, w ∈ wsL_law) ∧ (∀ k, k < N → parseFieldDescriptor (T k).2.2.1 = some (z_ty ci k)) ∧ (∀ a, a < N → ∀ b, b < N → a ≠ b → (T a).2.1 ≠ (T b).2.1) ∧ (T j).2.2.2 = fin
theorem z_cell_o {V : zV} {h : zHP} {k ci n : Nat} (hci : ci < 100) : z_cell V h k (ci, n) = .inr (ci, (List.range n).map (z_val V h ci k)) := by
  unfold z_cell
  rw [if_neg (by show ¬ ci = 100; omega), if_neg (by show ¬ ci = 101; omega), if_neg (by show ¬ ci = 102; omega), if_neg (by show ¬ ci = 103; omega)]
theorem z_map_set {V : zV} {h h' : zHP} {ci k j n : Nat} {v : Value} (hj : j < n) (h1 : z_val V h' ci k j = v) (h2 : ∀ i, i ≠ j → z_val V h' ci k i = z_val V h ci k i) : (List.range n).map (z_val V h' ci k) = ((List.range n).map (z_val V h ci k)).set j v := by
  apply List.ext_getElem?
  intro i
  by_cases hi : i < n
  · rw [List.getElem?_map, List.getElem?_range hi]
    by_cases e : i = j
    · subst e
      rw [List.getElem?_set_self (by simpa using hi), ← h1]
      rfl
    · rw [List.getElem?_set_ne (Ne.symm e), List.getElem?_map, List.getElem?_range hi]
      show some _ = some _
      rw [h2 i e]
  · rw [List.getElem?_eq_none (by simp; omega), List.getElem?_eq_none (by simp; omega)]
section ZG2
variable {V : zV} {M : zM} {d bc bs pc : Nat} {ls st : List Value} {h : zHP} {Φ : Option Value → zHP → Prop}
theorem z_W.pos {H : Heap} {q ci n : Nat} (hw : z_W V h H) (hsh : h.1[q]? = some (ci, n)) (hci : ci < 100) : ∃ k, q = k + 1 := by
  cases q with
  | zero =>
    rw [hw.2.2.2.1] at hsh
    cases hsh
    omega
  | succ k => exact ⟨k, rfl⟩
theorem zg_getv {idx ci j n q : Nat} {fin : Bool} (hd : decode M.2.1 pc = .ok (.getfield idx, 3)) (hf : z_F M.1.cls idx ci j fin) (hsh : h.1[q]? = some (ci, n)) (hci : ci < 100) (hj : j < n) {w : Value} (hw9 : z_rl V w = z_val V h ci q j)
    (k : z_G V M d bc bs (pc + 3) ls (w :: st) h Φ) : z_G V M d bc bs pc ls (.ref q :: st) h Φ := by
  intro p l e R s m args below meth c H locs cells slots LS QQ C hw hS hL hn hc hs ret
  obtain ⟨CC, T, N, f1, f2, f3, f4, f5, f6, f7⟩ := hf
  obtain ⟨q', rfl⟩ := hw.pos hsh hci
  have k9 := k p l e R s m args below meth c H locs cells slots LS QQ C hw hS hL hn hc hs ret
  obtain ⟨hx, hb, hr, hml, hown, hlk, hts, hN, hK, hfr, hlo, hX, hbB, hBs, hnm⟩ := C
  have he : (z_ws V h)[q']? = some (z_ad V (q' + 1), .inr (ci, (List.range n).map (z_val V h ci (q' + 1)))) := by rw [z_get hsh, z_cell_o hci]
  refine va_get (D := V.1) (ci := ci) (C := CC) (T := T) (N := N) hx hb hts f4 hown hK hw.1 q' he f1 j f2 (hts _ f3) (fun _ h9 => h9) (v := z_rl V w) ?_ hd k9
  rw [List.getElem?_map, List.getElem?_range hj, hw9]
  rfl
theorem zg_getI {idx ci j n q : Nat} {fin : Bool} (hd : decode M.2.1 pc = .ok (.getfield idx, 3)) (hf : z_F M.1.cls idx ci j fin) (hty : z_tyR (z_ty ci j) = false) (hsh : h.1[q]? = some (ci, n)) (hci : ci < 100) (hj : j < n)
    (k : z_G V M d bc bs (pc + 3) ls (.int (h.2.1 q j) :: st) h Φ) : z_G V M d bc bs pc ls (.ref q :: st) h Φ :=
  zg_getv hd hf hsh hci hj (w := .int (h.2.1 q j)) (by unfold z_val; rw [hty]; rfl) k
theorem zg_getR {idx ci j n q r : Nat} {fin : Bool} (hd : decode M.2.1 pc = .ok (.getfield idx, 3)) (hf : z_F M.1.cls idx ci j fin) (hty : z_tyR (z_ty ci j) = true) (hsh : h.1[q]? = some (ci, n)) (hci : ci < 100) (hj : j < n) (hr : h.2.2 q j = some r)
    (k : z_G V M d bc bs (pc + 3) ls (.ref r :: st) h Φ) : z_G V M d bc bs pc ls (.ref q :: st) h Φ :=
  zg_getv hd hf hsh hci hj (w := .ref r) (by unfold z_val; rw [hty, hr]; rfl) k
theorem z_W.upd_i {H H1 : Heap} {q : Nat} {g : Nat → Int32} (hw : z_W V h H) (hP : va_P V.1 vwCl (z_ws V (h.1, z_ui h.2.1 (q + 1) g, h.2.2)) H1) (hz : H1.size = H.size) : z_W V (h.1, z_ui h.2.1 (q + 1) g, h.2.2) H1 := by
  refine ⟨hP, by rw [hz]; exact hw.2.1, hw.2.2.1, hw.2.2.2.1, ?_⟩
  show z_ui h.2.1 (q + 1) g 0 = _
  unfold z_ui
  rw [if_neg (by omega)]
  exact hw.2.2.2.2
theorem z_W.upd_r {H H1 : Heap} {q : Nat} {g : Nat → Option Nat} (hw : z_W V h H) (hP : va_P V.1 vwCl (z_ws V (h.1, h.2.1, z_ur h.2.2 (q + 1) g)) H1) (hz : H1.size = H.size) : z_W V (h.1, h.2.1, z_ur h.2.2 (q + 1) g) H1 :=
  ⟨hP, by rw [hz]; exact hw.2.1, hw.2.2.1, hw.2.2.2.1, hw.2.2.2.2⟩
theorem z_put_core {idx ci j n q : Nat} {fin : Bool} {h' : zHP} {v : Value} (hd : decode M.2.1 pc = .ok (.putfield idx, 3)) (hf : z_F M.1.cls idx ci j fin) (hfin : fin = false ∨ (fin = true ∧ M.1.name = "<init>" ∧ ∀ C T N, vwCl[ci]? = some (C, T, N) → (T j).1 = M.1.cls)) (hsh : h.1[q]? = some (ci, n)) (hci : ci < 100) (hj : j < n)
    (hnar : narrow (z_ty ci j) v = v) (hfit : fits (z_ty ci j) v = true) (h0 : h'.1 = h.1) (h1 : ∀ i, i ≠ q → h'.2.1 i = h.2.1 i) (h2 : ∀ i, i ≠ q → h'.2.2 i = h.2.2 i) (hv : z_val V h' ci q j = v) (ho : ∀ i, i ≠ j → z_val V h' ci q i = z_val V h ci q i) (h3 : q ≠ 0 → h'.2.1 0 = h.2.1 0) {w : Value} (hwv : z_rl V w = v)
    (k : z_G V M d bc bs (pc + 3) ls st h' Φ) : z_G V M d bc bs pc ls (w :: .ref q :: st) h Φ := by
  intro p l e R s m args below meth c H locs cells slots LS QQ C hw hS hL hn hc hs ret
  have C0 := C
  obtain ⟨CC, T, N, f1, f2, f3, f4, f5, f6, f7⟩ := hf
  obtain ⟨q', rfl⟩ := hw.pos hsh hci
  obtain ⟨hx, hb, hr, hml, hown, hlk, hts, hN, hK, hfr, hlo, hX, hbB, hBs, hnm⟩ := C
  have he : (z_ws V h)[q']? = some (z_ad V (q' + 1), .inr (ci, (List.range n).map (z_val V h ci (q' + 1)))) := by rw [z_get hsh, z_cell_o hci]
  have hset : z_ws V h' = (z_ws V h).set q' (z_ad V (q' + 1), .inr (ci, ((List.range n).map (z_val V h ci (q' + 1))).set j v)) := by
    rw [z_set_gen hsh h0 h1 h2, z_cell_o hci, z_map_set hj hv ho]
  have fin9 : ∀ (H1 : Heap) (locs1 : List Loc), va_P V.1 vwCl ((z_ws V h).set q' (z_ad V (q' + 1), .inr (ci, ((List.range n).map (z_val V h ci (q' + 1))).set j v))) H1 → va_S (fun q => V.2.2.1 ≤ q) s.heap H1 locs1 → H1.size = H.size → W p l e R s m args below meth c H1 locs1 cells slots QQ (F0 m (pc + 3) LS (st.map (z_rl V))) := by
    intro H1 locs1 hP1 hS1 hz
    rw [← hset] at hP1
    exact k p l e R s m args below meth c H1 locs1 cells slots LS QQ C0 ⟨hP1, by rw [hz, h0]; exact hw.2.1, by rw [h0]; exact hw.2.2.1, by rw [h0]; exact hw.2.2.2.1, by rw [h3 (by omega)]; exact hw.2.2.2.2⟩ hS1 hL hn hc hs ret
  show W p l e R s m args below meth c H locs cells slots QQ (F0 m pc LS (z_rl V w :: .ref (z_ad V (q' + 1)) :: st.map (z_rl V)))
  rw [hwv]
  obtain ⟨r, g1, cell, q1, q2, q3, q4⟩ := hw.1 q' _ he
  have hr9 : r = (CC, T, N) := Option.some.inj (g1.symm.trans f1)
  subst hr9
  have hap := va_apart (own := M.1.cls) hts f4 (z_ty ci) f5 f6 hK f1
  obtain ⟨hSl, hfc, kC, hkC, hkind⟩ := hK.1 ci _ f1
  obtain ⟨cf, kf, fi, f, hi, hsl⟩ := hSl j f2
  have hst := (u_facts hfc hkC (u_lays hts f4 f2) hi).1
  have hfl := u_fits hfc hkC hkind (u_lays hts f4 f2) hi (f5 j f2) hnar hfit
  have hlt : f.slot < cell.slots.size := by rw [hsl]; exact (Array.getElem?_eq_some_iff.mp (q4 j f2)).1
  have hlay := hts _ (f4 _ (u_in_lay f2))
  unfold u_lay at hlay
  have hfinal : hasFlag f.accessFlags Acc.final = false ∨ (m.cls = cf ∧ meth.name = "<init>") := by
    rcases hfin with hfin | ⟨hfin, hnm2, hdc⟩
    · rw [if_neg (by rw [f7, hfin]; decide)] at hlay
      obtain ⟨c9, k9, cf9, kf9, fi9, fd9, r1, r2, hi9, hst9, hfin9, -⟩ := Cond.lays_spec hlay
      cases hi.symm.trans hi9
      exact Or.inl hfin9
    · refine Or.inr ⟨?_, hnm.trans hnm2⟩
      rw [if_pos (by rw [f7, hfin])] at hlay
      obtain ⟨_, _, c', _, _, _, -, -, hf', -, -, -, hown2, -⟩ := Cond.laysFinal_spec hlay
      have e1 : c' = cf := by have := hi.symm.trans hf'; simp at this; exact this.1.symm
      rw [hdc CC T N f1] at hown2
      rw [← e1]; exact Option.some.inj (hown.symm.trans hown2)
  refine W.putf hx hb hown (hts _ f3) hi hst hfinal q1 (by rw [q3]; exact fun h => by cases h) hlt hfl.1 (by rw [q2, q3]; exact hfl.2) rfl rfl hd ?_
  have hal : z_ad V (q' + 1) < H.size := (hw.1 q' _ he).lt
  have e1 : (H.setIfInBounds (z_ad V (q' + 1)) (cell.setSlot f.slot v))[z_ad V (q' + 1)]? = some (cell.setSlot f.slot v) := by simp [Array.getElem?_setIfInBounds, hal]
  have e2 : (H.setIfInBounds (z_ad V (q' + 1)) (cell.setSlot f.slot v)).size = H.size := by simp
  have e3 : ∀ x : Nat, x ≠ z_ad V (q' + 1) → (H.setIfInBounds (z_ad V (q' + 1)) (cell.setSlot f.slot v))[x]? = H[x]? := fun x hx9 => by simp [Array.getElem?_setIfInBounds, Ne.symm hx9]
  rw [hsl] at e1 e2 e3 ⊢
  exact fin9 _ _ (hw.1.set (z_D V h) he ⟨_, f1, t_OB.to (V := updV (vp_V ((List.range n).map (z_val V h ci (q' + 1)))) j v) ⟨_, e1, q2, q3, t_set q4 hap f2 v⟩ (fun i _ => vp_updV_set (by simpa using hj) v i)⟩ e3) (hS.put e2 e3 ((z_D V h).2 q' _ he)) e2
theorem z_val_i {h : zHP} {ci q j : Nat} (hty : z_tyR (z_ty ci j) = false) : z_val V h ci q j = .int (h.2.1 q j) := by unfold z_val; rw [hty]; rfl
theorem z_val_r {h : zHP} {ci q j : Nat} (hty : z_tyR (z_ty ci j) = true) : z_val V h ci q j = va_rf ((h.2.2 q j).map (z_ad V)) := by unfold z_val; rw [hty]; rfl
theorem z_val_eq {h h' : zHP} {ci q j : Nat} (h1 : h'.2.1 q j = h.2.1 q j) (h2 : h'.2.2 q j = h.2.2 q j) : z_val V h' ci q j = z_val V h ci q j := by unfold z_val; rw [h1, h2]
theorem z_putI {idx ci j n q : Nat} {x : Int32} (hd : decode M.2.1 pc = .ok (.putfield idx, 3)) (hf : z_F M.1.cls idx ci j false) (hty : z_tyR (z_ty ci j) = false) (hnar : narrow (z_ty ci j) (.int x) = .int x) (hfit : fits (z_ty ci j) (.int x) = true) (hsh : h.1[q]? = some (ci, n)) (hci : ci < 100) (hj : j < n)
    (k : z_G V M d bc bs (pc + 3) ls st (h.1, z_ui h.2.1 q (upd (h.2.1 q) j x), h.2.2) Φ) : z_G V M d bc bs pc ls (.int x :: .ref q :: st) h Φ := by
  refine z_put_core (V := V) (h' := (h.1, z_ui h.2.1 q (upd (h.2.1 q) j x), h.2.2)) (v := .int x) (w := .int x) hd hf (Or.inl rfl) hsh hci hj hnar hfit rfl (fun i hi => ?_) (fun _ _ => rfl) ?_ (fun i hi => ?_) (fun hq => ?_) rfl k
  · show z_ui h.2.1 q _ i = _
    unfold z_ui; rw [if_neg hi]
  · rw [z_val_i hty]
    show Value.int (z_ui h.2.1 q _ q j) = _
    unfold z_ui upd; rw [if_pos rfl, if_pos rfl]
  · refine z_val_eq ?_ rfl
    show z_ui h.2.1 q _ q i = _
    unfold z_ui upd; rw [if_pos rfl, if_neg hi]
  · show z_ui h.2.1 q _ 0 = _
    unfold z_ui; rw [if_neg (Ne.symm hq)]
theorem zg_putI {idx ci j n q : Nat} {x : Int32} (hd : decode M.2.1 pc = .ok (.putfield idx, 3)) (hf : z_F M.1.cls idx ci j false) (hty : z_ty ci j = .int) (hsh : h.1[q]? = some (ci, n)) (hci : ci < 100) (hj : j < n)
    (k : z_G V M d bc bs (pc + 3) ls st (h.1, z_ui h.2.1 q (upd (h.2.1 q) j x), h.2.2) Φ) : z_G V M d bc bs pc ls (.int x :: .ref q :: st) h Φ :=
  z_putI hd hf (by rw [hty]; rfl) (by rw [hty]; rfl) (by rw [hty]; rfl) hsh hci hj k
theorem z_nar_z {x : Int32} (hx : x = 0 ∨ x = 1) : narrow .boolean (.int x) = .int x ∧ fits .boolean (.int x) = true := by
  rcases hx with rfl | rfl <;> exact ⟨by decide, by decide⟩
theorem zg_putZ {idx ci j n q : Nat} {x : Int32} (hd : decode M.2.1 pc = .ok (.putfield idx, 3)) (hf : z_F M.1.cls idx ci j false) (hty : z_ty ci j = .boolean) (hx : x = 0 ∨ x = 1) (hsh : h.1[q]? = some (ci, n)) (hci : ci < 100) (hj : j < n)
    (k : z_G V M d bc bs (pc + 3) ls st (h.1, z_ui h.2.1 q (upd (h.2.1 q) j x), h.2.2) Φ) : z_G V M d bc bs pc ls (.int x :: .ref q :: st) h Φ :=
  z_putI hd hf (by rw [hty]; rfl) (by rw [hty]; exact (z_nar_z hx).1) (by rw [hty]; exact (z_nar_z hx).2) hsh hci hj k
theorem z_nar_r {ty : FieldType} {a : Nat} (h : z_tyR ty = true) : narrow ty (.ref a) = .ref a ∧ fits ty (.ref a) = true := by
  cases ty <;> first | exact ⟨rfl, rfl⟩ | cases h
theorem zg_putR {idx ci j n q r : Nat} {fin : Bool} (hd : decode M.2.1 pc = .ok (.putfield idx, 3)) (hf : z_F M.1.cls idx ci j fin) (hfin : fin = false ∨ (fin = true ∧ M.1.name = "<init>" ∧ ∀ C T N, vwCl[ci]? = some (C, T, N) → (T j).1 = M.1.cls)) (hty : z_tyR (z_ty ci j) = true) (hsh : h.1[q]? = some (ci, n)) (hci : ci < 100) (hj : j < n)
    (k : z_G V M d bc bs (pc + 3) ls st (h.1, h.2.1, z_ur h.2.2 q (fun i => if i = j then some r else h.2.2 q i)) Φ) : z_G V M d bc bs pc ls (.ref r :: .ref q :: st) h Φ := by
  refine z_put_core (V := V) (h' := (h.1, h.2.1, z_ur h.2.2 q (fun i => if i = j then some r else h.2.2 q i))) (v := .ref (z_ad V r)) (w := .ref r) hd hf hfin hsh hci hj (z_nar_r hty).1 (z_nar_r hty).2 rfl (fun _ _ => rfl) (fun i hi => ?_) ?_ (fun i hi => ?_) (fun hq => rfl) rfl k
  · show z_ur h.2.2 q _ i = _
    unfold z_ur; rw [if_neg hi]
  · rw [z_val_r hty]
    show va_rf ((z_ur h.2.2 q _ q j).map (z_ad V)) = _
    unfold z_ur; rw [if_pos rfl, if_pos rfl]; rfl
  · refine z_val_eq rfl ?_
    show z_ur h.2.2 q _ q i = _
    unfold z_ur; rw [if_pos rfl, if_neg hi]
/-- arrays -/
theorem z_get_a {q n : Nat} (hsh : h.1[q + 1]? = some (100, n)) : (z_ws V h)[q]? = some (z_ad V (q + 1), .inl (V.2.2.2.1.1, n, .inl (h.2.1 (q + 1)))) := z_get hsh
theorem z_get_z {q n : Nat} (hsh : h.1[q + 1]? = some (101, n)) : (z_ws V h)[q]? = some (z_ad V (q + 1), .inl (V.2.2.2.1.2.1, n, .inl (h.2.1 (q + 1)))) := z_get hsh
theorem zg_iald {q n : Nat} {i : Int32} (hd : decode M.2.1 pc = .ok (.iaload, 1)) (hq : 0 < q) (hsh : h.1[q]? = some (100, n)) (hin : vp_in i n) (k : z_G V M d bc bs (pc + 1) ls (.int (h.2.1 q i.toNatClampNeg) :: st) h Φ) : z_G V M d bc bs pc ls (.int i :: .ref q :: st) h Φ := by
  intro p l e R s m args below meth c H locs cells slots LS QQ C hw hS hL hn hc hs ret
  obtain ⟨q', rfl⟩ : ∃ q', q = q' + 1 := ⟨q - 1, by omega⟩
  exact va_iald C.1 C.2.1 C.2.2.2.2.2.2.2.2.1 hw.1 q' 0 (z_get_a hsh) rfl hin hd (k p l e R s m args below meth c H locs cells slots LS QQ C hw hS hL hn hc hs ret)
theorem zg_zald {q n : Nat} {i : Int32} (hd : decode M.2.1 pc = .ok (.baload, 1)) (hq : 0 < q) (hsh : h.1[q]? = some (101, n)) (hin : vp_in i n) (k : z_G V M d bc bs (pc + 1) ls (.int (h.2.1 q i.toNatClampNeg) :: st) h Φ) : z_G V M d bc bs pc ls (.int i :: .ref q :: st) h Φ := by
  intro p l e R s m args below meth c H locs cells slots LS QQ C hw hS hL hn hc hs ret
  obtain ⟨q', rfl⟩ : ∃ q', q = q' + 1 := ⟨q - 1, by omega⟩
  exact va_zald C.1 C.2.1 C.2.2.2.2.2.2.2.2.1 hw.1 q' 1 (z_get_z hsh) rfl hin hd (k p l e R s m args below meth c H locs cells slots LS QQ C hw hS hL hn hc hs ret)
theorem zg_sld {i : Int32} (hd : decode M.2.1 pc = .ok (.iaload, 1)) (hin : vp_in i V.2.2.2.2.1) (k : z_G V M d bc bs (pc + 1) ls (.int (V.2.2.2.2.2 i.toNatClampNeg) :: st) h Φ) : z_G V M d bc bs pc ls (.int i :: .ref 0 :: st) h Φ := by
  intro p l e R s m args below meth c H locs cells slots LS QQ C hw hS hL hn hc hs ret
  have k9 := k p l e R s m args below meth c H locs cells slots LS QQ C hw hS hL hn hc hs ret
  obtain ⟨hx, hb, hr, hml, hown, hlk, hts, hN, hK, hfr, hlo, hX, hbB, hBs, hnm⟩ := C
  exact va_sld (b := V.2.1) hx hb hX (by omega) (A := fun q => V.2.2.1 ≤ q) (by show ¬ V.2.2.1 ≤ V.2.1; omega) hS hin hd k9
theorem zg_slen (hd : decode M.2.1 pc = .ok (.arraylength, 1)) (k : z_G V M d bc bs (pc + 1) ls (.int (Int32.ofNat V.2.2.2.2.1) :: st) h Φ) : z_G V M d bc bs pc ls (.ref 0 :: st) h Φ := by
  intro p l e R s m args below meth c H locs cells slots LS QQ C hw hS hL hn hc hs ret
  have k9 := k p l e R s m args below meth c H locs cells slots LS QQ C hw hS hL hn hc hs ret
  obtain ⟨hx, hb, hr, hml, hown, hlk, hts, hN, hK, hfr, hlo, hX, hbB, hBs, hnm⟩ := C
  exact va_slen (b := V.2.1) hx hb hX (by omega) (A := fun q => V.2.2.1 ≤ q) (by show ¬ V.2.2.1 ≤ V.2.1; omega) hS hd k9
theorem zg_alen {q n : Nat} (v : Int32) (hd : decode M.2.1 pc = .ok (.arraylength, 1)) (hq : 0 < q) (hsh : h.1[q]? = some (100, n)) (hv : Int32.ofNat n = v) (k : z_G V M d bc bs (pc + 1) ls (.int v :: st) h Φ) : z_G V M d bc bs pc ls (.ref q :: st) h Φ := by
  intro p l e R s m args below meth c H locs cells slots LS QQ C hw hS hL hn hc hs ret
  obtain ⟨q', rfl⟩ : ∃ q', q = q' + 1 := ⟨q - 1, by omega⟩
  exact va_alen C.1 C.2.1 C.2.2.2.2.2.2.2.2.1 hw.1 q' 0 (z_get_a hsh) rfl hv hd (k p l e R s m args below meth c H locs cells slots LS QQ C hw hS hL hn hc hs ret)
/-- after a store into an int array: the world -/
theorem z_arr_set {H H1 : Heap} {q n t : Nat} {cA : ClassId} {g : Nat → Int32} {locs : List Loc} {s : State} {i : Nat} (hw : z_W V h H) (hS : va_S (fun q => V.2.2.1 ≤ q) s.heap H locs) (ht : t = 100 ∨ t = 101) (hsh : h.1[q + 1]? = some (t, n)) (hcell : z_cell V (h.1, z_ui h.2.1 (q + 1) g, h.2.2) (q + 1) (t, n) = .inl (cA, n, .inl g)) (e : H1[z_ad V (q + 1)]? = some (vp_cell cA (n, .inl g))) (hz : H1.size = H.size) (oq : ∀ x : Nat, x ≠ z_ad V (q + 1) → H1[x]? = H[x]?) :
    z_W V (h.1, z_ui h.2.1 (q + 1) g, h.2.2) H1 ∧ va_S (fun q => V.2.2.1 ≤ q) s.heap H1 (locs ++ [⟨z_ad V (q + 1), i⟩]) := by
  have he := z_get (V := V) hsh
  have hset : z_ws V (h.1, z_ui h.2.1 (q + 1) g, h.2.2) = (z_ws V h).set q (z_ad V (q + 1), .inl (cA, n, .inl g)) := by
    rw [z_set_gen (h := h) (h' := (h.1, z_ui h.2.1 (q + 1) g, h.2.2)) hsh rfl (fun x hx => by show z_ui h.2.1 (q + 1) g x = _; unfold z_ui; rw [if_neg hx]) (fun _ _ => rfl), hcell]
  refine ⟨hw.upd_i (by rw [hset]; exact hw.1.set (z_D V h) he e oq) hz, hS.put hz oq ((z_D V h).2 q _ he)⟩
theorem zg_iast {q n : Nat} {i x : Int32} (hd : decode M.2.1 pc = .ok (.iastore, 1)) (hq : 0 < q) (hsh : h.1[q]? = some (100, n)) (hin : vp_in i n) (k : z_G V M d bc bs (pc + 1) ls st (h.1, z_ui h.2.1 q (upd (h.2.1 q) i.toNatClampNeg x), h.2.2) Φ) : z_G V M d bc bs pc ls (.int x :: .int i :: .ref q :: st) h Φ := by
  intro p l e R s m args below meth c H locs cells slots LS QQ C hw hS hL hn hc hs ret
  obtain ⟨q', rfl⟩ : ∃ q', q = q' + 1 := ⟨q - 1, by omega⟩
  refine W.iast C.1 C.2.1 (hw.1 q' _ (z_get_a hsh)) ((C.2.2.2.2.2.2.2.2.1.2 0 _ rfl).1 n (fun j => .int (h.2.1 (q' + 1) j))) (fun z => by cases z) (by show ¬ (i < 0 ∨ (arrV _ _ _).slots.size ≤ _); rw [arrV_size]; exact hin) rfl rfl hd fun H1 e9 z oq => ?_
  obtain ⟨hw1, hS1⟩ := z_arr_set (V := V) (h := h) (g := upd (h.2.1 (q' + 1)) i.toNatClampNeg x) (cA := V.2.2.2.1.1) (i := i.toNatClampNeg) hw hS (Or.inl rfl) hsh (by unfold z_cell; rw [if_pos rfl]; show Sum.inl (_, _, Sum.inl (z_ui _ _ _ _)) = _; unfold z_ui; rw [if_pos rfl]) (by
    rw [e9, vp_cell_i, vp_cell_i, arrV_store]
    congr 2
    funext j
    unfold updV upd
    split <;> rfl) z oq
  exact k p l e R s m args below meth c H1 _ cells slots LS QQ C hw1 hS1 hL hn hc hs ret
theorem zg_zast {q n : Nat} {i x : Int32} (hd : decode M.2.1 pc = .ok (.bastore, 1)) (hx : x = 0 ∨ x = 1) (hq : 0 < q) (hsh : h.1[q]? = some (101, n)) (hin : vp_in i n) (k : z_G V M d bc bs (pc + 1) ls st (h.1, z_ui h.2.1 q (upd (h.2.1 q) i.toNatClampNeg x), h.2.2) Φ) : z_G V M d bc bs pc ls (.int x :: .int i :: .ref q :: st) h Φ := by
  intro p l e R s m args below meth c H locs cells slots LS QQ C hw hS hL hn hc hs ret
  obtain ⟨q', rfl⟩ : ∃ q', q = q' + 1 := ⟨q - 1, by omega⟩
  refine W.zast C.1 C.2.1 (hw.1 q' _ (z_get_z hsh)) ((C.2.2.2.2.2.2.2.2.1.2 1 _ rfl).1 n (fun j => .int (h.2.1 (q' + 1) j))) (fun z => by cases z) (by show ¬ (i < 0 ∨ (arrV _ _ _).slots.size ≤ _); rw [arrV_size]; exact hin) rfl rfl hd fun H1 e9 z oq => ?_
  have hb9 : narrow .boolean (.int x) = .int x := (z_nar_z hx).1
  obtain ⟨hw1, hS1⟩ := z_arr_set (V := V) (h := h) (g := upd (h.2.1 (q' + 1)) i.toNatClampNeg x) (cA := V.2.2.2.1.2.1) (i := i.toNatClampNeg) hw hS (Or.inr rfl) hsh (by unfold z_cell; rw [if_neg (by show ¬ (101 : Nat) = 100; decide), if_pos rfl]; show Sum.inl (_, _, Sum.inl (z_ui _ _ _ _)) = _; unfold z_ui; rw [if_pos rfl]) (by
    rw [e9, vp_cell_i, vp_cell_i]
    try rw [hb9]
    rw [arrV_store]
    congr 2
    funext j
    unfold updV upd
    split <;> rfl) z oq
  exact k p l e R s m args below meth c H1 _ cells slots LS QQ C hw1 hS1 hL hn hc hs ret
theorem zg_aald {q n t r : Nat} {i : Int32} (hd : decode M.2.1 pc = .ok (.aaload, 1)) (ht : t = 102 ∨ t = 103) (hsh : h.1[q]? = some (t, n)) (hin : vp_in i n) (hr : h.2.2 q i.toNatClampNeg = some r) (k : z_G V M d bc bs (pc + 1) ls (.ref r :: st) h Φ) : z_G V M d bc bs pc ls (.int i :: .ref q :: st) h Φ := by
  intro p l e R s m args below meth c H locs cells slots LS QQ C hw hS hL hn hc hs ret
  have hlt : i.toNatClampNeg < n := Nat.not_le.mp fun z => hin (Or.inr z)
  obtain ⟨q', rfl⟩ : ∃ q', q = q' + 1 := by
    cases q with
    | zero =>
      rw [hw.2.2.2.1] at hsh
      cases hsh
      rcases ht with ht | ht <;> cases ht
    | succ k => exact ⟨k, rfl⟩
  have k9 := k p l e R s m args below meth c H locs cells slots LS QQ C hw hS hL hn hc hs ret
  have hK := C.2.2.2.2.2.2.2.2.1
  rcases ht with rfl | rfl
  · have hg := hw.1 q' _ (z_get hsh)
    refine W.aald (v := va_rf ((h.2.2 (q' + 1) i.toNatClampNeg).map (z_ad V))) (ty := .array .int) C.1 C.2.1 (cell := vp_cell V.2.2.2.1.2.2.1 (n, .inr (.inr (.inr (.inr (fun j => (h.2.2 (q' + 1) j).map (z_ad V))))))) hg ((hK.2 2 _ rfl).1 n (fun j => va_rf ((h.2.2 (q' + 1) j).map (z_ad V)))) rfl (fun z => by cases z) (by show ¬ (i < 0 ∨ (arrV _ _ _).slots.size ≤ _); rw [arrV_size]; exact hin) (by show (arrV _ _ _).slots[_]? = _; rw [arrV_read _ _ hlt]) rfl rfl hd ?_
    rw [hr]
    exact k9
  · have hg := hw.1 q' _ (z_get hsh)
    refine W.aald (v := va_rf ((h.2.2 (q' + 1) i.toNatClampNeg).map (z_ad V))) (ty := .object "TorchPlate$Plight") C.1 C.2.1 (cell := vp_cell V.2.2.2.1.2.2.2 (n, .inr (.inr (.inr (.inr (fun j => (h.2.2 (q' + 1) j).map (z_ad V))))))) hg ((hK.2 3 _ rfl).1 n (fun j => va_rf ((h.2.2 (q' + 1) j).map (z_ad V)))) rfl (fun z => by cases z) (by show ¬ (i < 0 ∨ (arrV _ _ _).slots.size ≤ _); rw [arrV_size]; exact hin) (by show (arrV _ _ _).slots[_]? = _; rw [arrV_read _ _ hlt]) rfl rfl hd ?_
    rw [hr]
    exact k9
end ZG2
