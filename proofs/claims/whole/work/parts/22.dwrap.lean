section ZDW
variable {V : zV} {M M' : zM} {d pc idx : Nat} {ls st rest : List Value} {S : zS} {β : Type} {en2 : β → Option Value} {n : Nat} {As : List Value}
theorem d_cSi {F : Option (Int32 × zS)} {E' : Int32 × zS → Option (β × zS)} (hd : decode M.2.1 pc = .ok (.invokestatic idx, 3)) (hk : z_KS M.1.cls idx M' n) (hn9 : As.length = n) (hst : st = As.reverse ++ rest) (hr : (rest.map fun v => v.category).sum ≤ 8) (hal : As.length ≤ M'.2.2.1) (ha : As.all z_ok = true)
    (kc : z_J zeI V M' d F 0 (z_ent M' As) [] S) (k : ∀ r, F = some r → z_J en2 V M (d + 1) (E' r) (pc + 3) ls (.int r.1 :: rest) r.2) : z_J en2 V M (d + 1) (F.bind E') pc ls st S := d_cS hd hk hn9 hst hr hal ha kc k
theorem d_cSv {F : Option (Unit × zS)} {E' : Unit × zS → Option (β × zS)} (hd : decode M.2.1 pc = .ok (.invokestatic idx, 3)) (hk : z_KS M.1.cls idx M' n) (hn9 : As.length = n) (hst : st = As.reverse ++ rest) (hr : (rest.map fun v => v.category).sum ≤ 8) (hal : As.length ≤ M'.2.2.1) (ha : As.all z_ok = true)
    (kc : z_J zeV V M' d F 0 (z_ent M' As) [] S) (k : ∀ r, F = some r → z_J en2 V M (d + 1) (E' r) (pc + 3) ls (rest) r.2) : z_J en2 V M (d + 1) (F.bind E') pc ls st S := d_cS hd hk hn9 hst hr hal ha kc k
theorem d_cSs {F : Option (Unit × zS)} {E' : Unit × zS → Option (β × zS)} (hd : decode M.2.1 pc = .ok (.invokestatic idx, 3)) (hk : z_KS M.1.cls idx M' n) (hn9 : As.length = n) (hst : st = As.reverse ++ rest) (hr : (rest.map fun v => v.category).sum ≤ 8) (hal : As.length ≤ M'.2.2.1) (ha : As.all z_ok = true)
    (kc : z_J zeS V M' d F 0 (z_ent M' As) [] S) (k : ∀ r, F = some r → z_J en2 V M (d + 1) (E' r) (pc + 3) ls (.ref 57 :: rest) r.2) : z_J en2 V M (d + 1) (F.bind E') pc ls st S := d_cS hd hk hn9 hst hr hal ha kc k
theorem d_cTi {F : Option (Int32 × zS)} {E' : Int32 × zS → Option (β × zS)} (hd : decode M.2.1 pc = .ok (.invokestatic idx, 3)) (hk : z_KT M.1.cls idx M' n) (hn9 : As.length = n) (hst : st = As.reverse ++ rest) (hr : (rest.map fun v => v.category).sum ≤ 8) (hal : As.length ≤ M'.2.2.1) (ha : As.all z_ok = true)
    (kc : z_J zeI V M' d F 0 (z_ent M' As) [] S) (k : ∀ r, F = some r → z_J en2 V M (d + 1) (E' r) (pc + 3) ls (.int r.1 :: rest) r.2) : z_J en2 V M (d + 1) (F.bind E') pc ls st S := d_cT hd hk hn9 hst hr hal ha kc k
theorem d_cTv {F : Option (Unit × zS)} {E' : Unit × zS → Option (β × zS)} (hd : decode M.2.1 pc = .ok (.invokestatic idx, 3)) (hk : z_KT M.1.cls idx M' n) (hn9 : As.length = n) (hst : st = As.reverse ++ rest) (hr : (rest.map fun v => v.category).sum ≤ 8) (hal : As.length ≤ M'.2.2.1) (ha : As.all z_ok = true)
    (kc : z_J zeV V M' d F 0 (z_ent M' As) [] S) (k : ∀ r, F = some r → z_J en2 V M (d + 1) (E' r) (pc + 3) ls (rest) r.2) : z_J en2 V M (d + 1) (F.bind E') pc ls st S := d_cT hd hk hn9 hst hr hal ha kc k
theorem d_cTs {F : Option (Unit × zS)} {E' : Unit × zS → Option (β × zS)} (hd : decode M.2.1 pc = .ok (.invokestatic idx, 3)) (hk : z_KT M.1.cls idx M' n) (hn9 : As.length = n) (hst : st = As.reverse ++ rest) (hr : (rest.map fun v => v.category).sum ≤ 8) (hal : As.length ≤ M'.2.2.1) (ha : As.all z_ok = true)
    (kc : z_J zeS V M' d F 0 (z_ent M' As) [] S) (k : ∀ r, F = some r → z_J en2 V M (d + 1) (E' r) (pc + 3) ls (.ref 57 :: rest) r.2) : z_J en2 V M (d + 1) (F.bind E') pc ls st S := d_cT hd hk hn9 hst hr hal ha kc k
theorem d_cVi {F : Option (Int32 × zS)} {E' : Int32 × zS → Option (β × zS)} {q ci nf : Nat} (hd : decode M.2.1 pc = .ok (.invokevirtual idx, 3)) (hk : z_KV M.1.cls idx M' n) (hsh : (z_SH V.2.2.2.2.1)[q]? = some (ci, nf)) (hci : ci < 100) (hcn : ∃ T N, vwCl[ci]? = some (M'.1.cls, T, N)) (hn9 : As.length = n) (hst : st = As.reverse ++ .ref q :: rest) (hr : (rest.map fun v => v.category).sum ≤ 8) (hal : As.length + 1 ≤ M'.2.2.1) (ha : As.all z_ok = true)
    (kc : z_J zeI V M' d F 0 (z_ent M' (.ref q :: As)) [] S) (k : ∀ r, F = some r → z_J en2 V M (d + 1) (E' r) (pc + 3) ls (.int r.1 :: rest) r.2) : z_J en2 V M (d + 1) (F.bind E') pc ls st S := d_cV hd hk hsh hci hcn hn9 hst hr hal ha kc k
theorem d_cVv {F : Option (Unit × zS)} {E' : Unit × zS → Option (β × zS)} {q ci nf : Nat} (hd : decode M.2.1 pc = .ok (.invokevirtual idx, 3)) (hk : z_KV M.1.cls idx M' n) (hsh : (z_SH V.2.2.2.2.1)[q]? = some (ci, nf)) (hci : ci < 100) (hcn : ∃ T N, vwCl[ci]? = some (M'.1.cls, T, N)) (hn9 : As.length = n) (hst : st = As.reverse ++ .ref q :: rest) (hr : (rest.map fun v => v.category).sum ≤ 8) (hal : As.length + 1 ≤ M'.2.2.1) (ha : As.all z_ok = true)
    (kc : z_J zeV V M' d F 0 (z_ent M' (.ref q :: As)) [] S) (k : ∀ r, F = some r → z_J en2 V M (d + 1) (E' r) (pc + 3) ls (rest) r.2) : z_J en2 V M (d + 1) (F.bind E') pc ls st S := d_cV hd hk hsh hci hcn hn9 hst hr hal ha kc k
theorem d_cVs {F : Option (Unit × zS)} {E' : Unit × zS → Option (β × zS)} {q ci nf : Nat} (hd : decode M.2.1 pc = .ok (.invokevirtual idx, 3)) (hk : z_KV M.1.cls idx M' n) (hsh : (z_SH V.2.2.2.2.1)[q]? = some (ci, nf)) (hci : ci < 100) (hcn : ∃ T N, vwCl[ci]? = some (M'.1.cls, T, N)) (hn9 : As.length = n) (hst : st = As.reverse ++ .ref q :: rest) (hr : (rest.map fun v => v.category).sum ≤ 8) (hal : As.length + 1 ≤ M'.2.2.1) (ha : As.all z_ok = true)
    (kc : z_J zeS V M' d F 0 (z_ent M' (.ref q :: As)) [] S) (k : ∀ r, F = some r → z_J en2 V M (d + 1) (E' r) (pc + 3) ls (.ref 57 :: rest) r.2) : z_J en2 V M (d + 1) (F.bind E') pc ls st S := d_cV hd hk hsh hci hcn hn9 hst hr hal ha kc k
end ZDW
theorem z_tb2 {x : Int32} (h0 : ¬ x = 0) (h1 : ¬ x = 1) (h2 : ¬ x = 2) : x.toInt < 0 ∨ 2 < x.toInt := by
  have e0 : ¬ x.toInt = 0 := fun q => h0 (Int32.toInt_inj.mp q)
  have e1 : ¬ x.toInt = 1 := fun q => h1 (Int32.toInt_inj.mp q)
  have e2 : ¬ x.toInt = 2 := fun q => h2 (Int32.toInt_inj.mp q)
  omega
theorem z_tb3 {x : Int32} (h0 : ¬ x = 0) (h1 : ¬ x = 1) (h2 : ¬ x = 2) (h3 : ¬ x = 3) : x.toInt < 0 ∨ 3 < x.toInt := by
  have e0 : ¬ x.toInt = 0 := fun q => h0 (Int32.toInt_inj.mp q)
  have e1 : ¬ x.toInt = 1 := fun q => h1 (Int32.toInt_inj.mp q)
  have e2 : ¬ x.toInt = 2 := fun q => h2 (Int32.toInt_inj.mp q)
  have e3 : ¬ x.toInt = 3 := fun q => h3 (Int32.toInt_inj.mp q)
  omega
theorem z_tb4 {x : Int32} (h0 : ¬ x = 0) (h1 : ¬ x = 1) (h2 : ¬ x = 2) (h3 : ¬ x = 3) (h4 : ¬ x = 4) : x.toInt < 0 ∨ 4 < x.toInt := by
  have e0 : ¬ x.toInt = 0 := fun q => h0 (Int32.toInt_inj.mp q)
  have e1 : ¬ x.toInt = 1 := fun q => h1 (Int32.toInt_inj.mp q)
  have e2 : ¬ x.toInt = 2 := fun q => h2 (Int32.toInt_inj.mp q)
  have e3 : ¬ x.toInt = 3 := fun q => h3 (Int32.toInt_inj.mp q)
  have e4 : ¬ x.toInt = 4 := fun q => h4 (Int32.toInt_inj.mp q)
  omega
theorem z_tb10 {x : Int32} (h0 : ¬ x = 0) (h1 : ¬ x = 1) (h2 : ¬ x = 2) (h3 : ¬ x = 3) (h4 : ¬ x = 4) (h5 : ¬ x = 5) (h6 : ¬ x = 6) (h7 : ¬ x = 7) (h8 : ¬ x = 8) (h9 : ¬ x = 9) (h10 : ¬ x = 10) : x.toInt < 0 ∨ 10 < x.toInt := by
  have e0 : ¬ x.toInt = 0 := fun q => h0 (Int32.toInt_inj.mp q)
  have e1 : ¬ x.toInt = 1 := fun q => h1 (Int32.toInt_inj.mp q)
  have e2 : ¬ x.toInt = 2 := fun q => h2 (Int32.toInt_inj.mp q)
  have e3 : ¬ x.toInt = 3 := fun q => h3 (Int32.toInt_inj.mp q)
  have e4 : ¬ x.toInt = 4 := fun q => h4 (Int32.toInt_inj.mp q)
  have e5 : ¬ x.toInt = 5 := fun q => h5 (Int32.toInt_inj.mp q)
  have e6 : ¬ x.toInt = 6 := fun q => h6 (Int32.toInt_inj.mp q)
  have e7 : ¬ x.toInt = 7 := fun q => h7 (Int32.toInt_inj.mp q)
  have e8 : ¬ x.toInt = 8 := fun q => h8 (Int32.toInt_inj.mp q)
  have e9 : ¬ x.toInt = 9 := fun q => h9 (Int32.toInt_inj.mp q)
  have e10 : ¬ x.toInt = 10 := fun q => h10 (Int32.toInt_inj.mp q)
  omega
theorem z_tb20 {x : Int32} (h0 : ¬ x = 0) (h1 : ¬ x = 1) (h2 : ¬ x = 2) (h3 : ¬ x = 3) (h4 : ¬ x = 4) (h5 : ¬ x = 5) (h6 : ¬ x = 6) (h7 : ¬ x = 7) (h8 : ¬ x = 8) (h9 : ¬ x = 9) (h10 : ¬ x = 10) (h11 : ¬ x = 11) (h12 : ¬ x = 12) (h13 : ¬ x = 13) (h14 : ¬ x = 14) (h15 : ¬ x = 15) (h16 : ¬ x = 16) (h17 : ¬ x = 17) (h18 : ¬ x = 18) (h19 : ¬ x = 19) (h20 : ¬ x = 20) : x.toInt < 0 ∨ 20 < x.toInt := by
  have e0 : ¬ x.toInt = 0 := fun q => h0 (Int32.toInt_inj.mp q)
  have e1 : ¬ x.toInt = 1 := fun q => h1 (Int32.toInt_inj.mp q)
  have e2 : ¬ x.toInt = 2 := fun q => h2 (Int32.toInt_inj.mp q)
  have e3 : ¬ x.toInt = 3 := fun q => h3 (Int32.toInt_inj.mp q)
  have e4 : ¬ x.toInt = 4 := fun q => h4 (Int32.toInt_inj.mp q)
  have e5 : ¬ x.toInt = 5 := fun q => h5 (Int32.toInt_inj.mp q)
  have e6 : ¬ x.toInt = 6 := fun q => h6 (Int32.toInt_inj.mp q)
  have e7 : ¬ x.toInt = 7 := fun q => h7 (Int32.toInt_inj.mp q)
  have e8 : ¬ x.toInt = 8 := fun q => h8 (Int32.toInt_inj.mp q)
  have e9 : ¬ x.toInt = 9 := fun q => h9 (Int32.toInt_inj.mp q)
  have e10 : ¬ x.toInt = 10 := fun q => h10 (Int32.toInt_inj.mp q)
  have e11 : ¬ x.toInt = 11 := fun q => h11 (Int32.toInt_inj.mp q)
  have e12 : ¬ x.toInt = 12 := fun q => h12 (Int32.toInt_inj.mp q)
  have e13 : ¬ x.toInt = 13 := fun q => h13 (Int32.toInt_inj.mp q)
  have e14 : ¬ x.toInt = 14 := fun q => h14 (Int32.toInt_inj.mp q)
  have e15 : ¬ x.toInt = 15 := fun q => h15 (Int32.toInt_inj.mp q)
  have e16 : ¬ x.toInt = 16 := fun q => h16 (Int32.toInt_inj.mp q)
  have e17 : ¬ x.toInt = 17 := fun q => h17 (Int32.toInt_inj.mp q)
  have e18 : ¬ x.toInt = 18 := fun q => h18 (Int32.toInt_inj.mp q)
  have e19 : ¬ x.toInt = 19 := fun q => h19 (Int32.toInt_inj.mp q)
  have e20 : ¬ x.toInt = 20 := fun q => h20 (Int32.toInt_inj.mp q)
  omega
theorem zp_prow {P j : Nat} : 0 < P + 8 + j := by omega
theorem z_le_n : z_le [] [] := trivial
theorem z_le_s {a : Value} {l m : List Value} (h : z_le l m) : z_le (a :: l) (a :: m) := ⟨Or.inr rfl, h⟩
theorem z_le_0 {b : Value} {l m : List Value} (h : z_le l m) : z_le (.null :: l) (b :: m) := ⟨Or.inl rfl, h⟩
