section ST
variable {p : Program} {l : Launch} {e : Env} {R : Room} {s : State} {m : MethodId} {args : Array Value} {below : List Frame} {meth : Method} {c : Code} {Q : State → Prop} {D : va_G} {dA : Nat → ClassId} {X : XT} {n0 w0 d mi : Nat}
theorem i32_nn {n : Int32} (h : 0 ≤ n.toInt) : ¬ n < 0 := by
  intro z
  have := Int32.lt_iff_toInt_lt.mp z
  have e : (0 : Int32).toInt = 0 := by decide
  omega
theorem new_addr {h : AH} {q : Nat} {en : va_E} {H1 : Heap} (hP : va_P D vwCl (wl X dA h ++ [(q, en)]) H1) (hD : va_D (fun q => X.1 ≤ q) (wl X dA h ++ [(q, en)])) (hz : H1.size ≤ X.1 + hN h + 1) : q = X.1 + hN h := by
  have hlen : (wl X dA h).length = hN h := by simp [wl]
  have hat : (wl X dA h ++ [(q, en)])[hN h]? = some (q, en) := by
    rw [List.getElem?_append_right (by rw [hlen]; exact Nat.le_refl _), hlen, Nat.sub_self]
    rfl
  have h1 := (hP _ _ hat).lt
  have h2 : X.1 ≤ q := hD.2 _ _ hat
  have h1' : q < H1.size := h1
  rcases Nat.lt_or_ge q (X.1 + hN h) with h3 | h3
  · have hj : q - X.1 < hN h := by omega
    have hat2 : (wl X dA h ++ [(q, en)])[q - X.1]? = some (X.1 + (q - X.1), cel X dA h (q - X.1)) := by
      rw [List.getElem?_append_left (by rw [hlen]; exact hj)]
      exact wl_get hj
    have := hD.1 _ _ _ _ hat2 hat (by show X.1 + (q - X.1) = q; omega)
    omega
  · omega
/-- behind a new cell -/
theorem new_go {h : AH} {ln sl pc' q : Nat} {ls r : List Value} {en : va_E} {H1 : Heap} {locs : List Loc} {lsS : Array Slot} (hX2 : s.heap.size ≤ X.1 + n0) (hn0 : n0 ≤ hN h) (hw0 : w0 ≤ hW h) (hmx : hN (alc h ln sl) ≤ 1000000) (hcl : cel X dA (alc h ln sl) (hN h) = en)
    (k : WW p l e R s m args below meth c Q D dA X n0 w0 mi pc' ls (.ref (hN h) :: r) (alc h ln sl)) (hP : va_P D vwCl (wl X dA h ++ [(q, en)]) H1) (hD : va_D (fun q => X.1 ≤ q) (wl X dA h ++ [(q, en)])) (hS : va_S (fun q => X.1 ≤ q) s.heap H1 locs) (hl : LV X (mlOf mi) lsS ls) :
    W p l e R s m args below meth c H1 locs (hN h - n0 + 1) (hW h - w0 + sl) Q (F0 m pc' lsS (.ref q :: r.map (cv X))) := by
  intro T hT Z
  have h1 := Z.heapSize
  have hq : q = X.1 + hN h := new_addr hP hD (by rw [← hT]; omega)
  subst hq
  have e1 : hN h - n0 + 1 = hN (alc h ln sl) - n0 := by
    show _ = hN h + 1 - n0
    omega
  have e2 : hW h - w0 + sl = hW (alc h ln sl) - w0 := by
    show _ = hW h + sl - w0
    omega
  subst hcl
  rw [← wl_push] at hP
  have k1 := k H1 locs lsS hP hS hl
  rw [List.map_cons, cv_ref (a := hN h) (Nat.lt_of_lt_of_le (Nat.lt_succ_self _) hmx), ← e1, ← e2] at k1
  exact k1 T hT Z
theorem ra_eq {c1 c2 : ClassId} {ty : FieldType} (h1 : va_RA s c1 ty) (h2 : va_RA s c2 ty) : c1 = c2 := by
  cases ty with
  | object C =>
    obtain ⟨_, _, _, _, _, h1⟩ := h1
    obtain ⟨_, _, _, _, _, h2⟩ := h2
    exact Option.some.inj (h1.symm.trans h2)
  | _ => exact Option.some.inj ((show s.vm.findClass _ = some c1 from h1).symm.trans h2)
theorem alc_I {h : AH} {ln sl : Nat} : hI (alc h ln sl) (hN h) = fun _ => 0 := by
  funext j
  simp [hI, alc, z2, hN]
theorem alc_L {h : AH} {ln sl : Nat} : hL (alc h ln sl) (hN h) = fun _ => 0 := by
  funext j
  simp [hL, alc, z2, hN]
theorem alc_R {h : AH} {ln sl : Nat} : hR (alc h ln sl) (hN h) = fun _ => none := by
  funext j
  simp [hR, alc, z2, hN]
theorem alc_n {h : AH} {ln sl : Nat} : hLn (alc h ln sl) (hN h) = ln := by
  simp [hLn, alc, hN]
theorem cl_at {o idx ci pl : Nat} (ho : o < 18) (h : clsT o idx = some (ci, pl)) : ci < 10 ∧ Jvm.Cond.classLink (ownL.getD o "") idx (vwN ci) ∈ GW ∧ Jvm.Cond.instantiable (vwN ci) (vwK ci) ∈ GW ∧ Jvm.Cond.initialized (vwN ci) ∈ GW := by
  have h0 := List.all_eq_true.mp ck_ok o (List.mem_range.mpr ho)
  have h1 := List.all_eq_true.mp h0 _ (lookup_mem h)
  simp only [Bool.and_eq_true, decide_eq_true_eq] at h1
  exact ⟨h1.1.1.1, hasW_mem h1.1.1.2, hasW_mem h1.1.2, hasW_mem h1.2⟩
theorem ac_in : Jvm.Cond.arrayClass .int ∈ GW ∧ Jvm.Cond.arrayClass .byte ∈ GW ∧ Jvm.Cond.arrayClass .boolean ∈ GW ∧ Jvm.Cond.arrayClass .long ∈ GW := by
  have h := ac_ok
  simp only [Bool.and_eq_true] at h
  exact ⟨hasW_mem h.1.1.1, hasW_mem h.1.1.2, hasW_mem h.1.2, hasW_mem h.2⟩

theorem fty_all : (List.range 10).all (fun ci => (List.range (vwK ci)).all fun k => decide (fty ci k = 0 ∨ fty ci k = 1 ∨ fty ci k = 2 ∨ fty ci k = 3)) = true := by decide +kernel
theorem fty_lt {ci k : Nat} (hci : ci < 10) (hk : k < vwK ci) : fty ci k = 0 ∨ fty ci k = 1 ∨ fty ci k = 2 ∨ fty ci k = 3 := by
  have h1 := List.all_eq_true.mp fty_all ci (List.mem_range.mpr hci)
  have h2 := List.all_eq_true.mp h1 k (List.mem_range.mpr hk)
  simpa using h2
theorem sd_newarray {pc len pc' : Nat} {t : ArrayType} {ls st ls' st' : List Value} {h h' : AH} (C0 : Cx D dA X d mi n0 p R s m args meth c) (hi : ins mi pc = some (.newarray t, len)) (hs : step mi (.newarray t) pc ls st h = some (.inl (pc', ls', st', h'))) (hn0 : n0 ≤ hN h) (hw0 : w0 ≤ hW h) (hc1 : hN h' - n0 ≤ R.cells) (hc2 : hW h' - w0 ≤ R.slots) (hmx : hN h' ≤ 1000000) (hsc : hS h = X.2.2.2) (k : WW p l e R s m args below meth c Q D dA X n0 w0 mi pc' ls' st' h') : WW p l e R s m args below meth c Q D dA X n0 w0 mi pc ls st h := by
  obtain ⟨hx, hb, hml, hown, hts, ⟨hfr, hlo⟩, hini, ⟨hK, hNW, hAO⟩, hX1, hX2, hEX⟩ := C0
  have hg := dec_n hi (n := 1) rfl
  obtain ⟨n, r, rfl, hs⟩ := pI_inv hs
  obtain ⟨⟨hn1, hn2, hly⟩, hs⟩ := ck_inv hs
  obtain ⟨rfl, rfl, rfl, rfl⟩ := nx_inv hs
  have hNn : n.toNatClampNeg ≤ 1000000 := by
    have : n.toNatClampNeg = n.toInt.toNat := rfl
    omega
  have hcc : hN h - n0 + 1 ≤ R.cells := by
    have : hN (alc h n.toNatClampNeg n.toNatClampNeg) = hN h + 1 := rfl
    omega
  have hss : hW h - w0 + n.toNatClampNeg ≤ R.slots := by
    have : hW (alc h n.toNatClampNeg n.toNatClampNeg) = hW h + n.toNatClampNeg := rfl
    omega
  intro H locs lsS hP hS hl
  cases t
  case int =>
    refine va_newa (atype := .int) (ty := .int) (a0 := (n.toNatClampNeg, .inl (fun _ => 0))) hx hb (hts _ ac_in.1) rfl hK hP wl_D hS (fun q h => Nat.le_trans hX1 h) (fun _ => rfl) (i32_nn hn1) rfl ?_ hcc hss hg (fun q cA H1 hK1 hP1 hD1 hS1 => ?_)
    · show n.toNatClampNeg * 4 ≤ 536870912
      omega
    · have hcA : cA = dA 10 := ra_eq (hK1.2 5 (cA, .int) rfl).2 (hK.2 0 (dA 10, .int) rfl).2
      subst hcA
      exact new_go hX2 hn0 hw0 hmx (by rw [cel_ints hly (Or.inl rfl), alc_I, alc_n]; rfl) k hP1 hD1 hS1 hl
  case byte =>
    refine va_newa (atype := .byte) (ty := .byte) (a0 := (n.toNatClampNeg, .inl (fun _ => 0))) hx hb (hts _ ac_in.2.1) rfl hK hP wl_D hS (fun q h => Nat.le_trans hX1 h) (fun _ => rfl) (i32_nn hn1) rfl ?_ hcc hss hg (fun q cA H1 hK1 hP1 hD1 hS1 => ?_)
    · show n.toNatClampNeg * 1 ≤ 536870912
      omega
    · have hcA : cA = dA 11 := ra_eq (hK1.2 5 (cA, .byte) rfl).2 (hK.2 1 (dA 11, .byte) rfl).2
      subst hcA
      exact new_go hX2 hn0 hw0 hmx (by rw [cel_ints hly (Or.inr (Or.inl rfl)), alc_I, alc_n]; rfl) k hP1 hD1 hS1 hl
  case boolean =>
    refine va_newa (atype := .boolean) (ty := .boolean) (a0 := (n.toNatClampNeg, .inl (fun _ => 0))) hx hb (hts _ ac_in.2.2.1) rfl hK hP wl_D hS (fun q h => Nat.le_trans hX1 h) (fun _ => rfl) (i32_nn hn1) rfl ?_ hcc hss hg (fun q cA H1 hK1 hP1 hD1 hS1 => ?_)
    · show n.toNatClampNeg * 1 ≤ 536870912
      omega
    · have hcA : cA = dA 12 := ra_eq (hK1.2 5 (cA, .boolean) rfl).2 (hK.2 2 (dA 12, .boolean) rfl).2
      subst hcA
      exact new_go hX2 hn0 hw0 hmx (by rw [cel_ints hly (Or.inr (Or.inr rfl)), alc_I, alc_n]; rfl) k hP1 hD1 hS1 hl
  case long =>
    refine va_newa (atype := .long) (ty := .long) (a0 := (n.toNatClampNeg, .inr (.inl (fun _ => 0)))) hx hb (hts _ ac_in.2.2.2) rfl hK hP wl_D hS (fun q h => Nat.le_trans hX1 h) (fun _ => rfl) (i32_nn hn1) rfl ?_ hcc hss hg (fun q cA H1 hK1 hP1 hD1 hS1 => ?_)
    · show n.toNatClampNeg * 8 ≤ 536870912
      omega
    · have hcA : cA = dA 13 := ra_eq (hK1.2 5 (cA, .long) rfl).2 (hK.2 3 (dA 13, .long) rfl).2
      subst hcA
      exact new_go hX2 hn0 hw0 hmx (by rw [cel_long hly, alc_L, alc_n]) k hP1 hD1 hS1 hl
  all_goals
    have hz : lay (hN h) = 99 := hly
    exact absurd hz (by
      have hb2 : ∀ q ∈ layL, q < 20 := by decide +kernel
      unfold lay
      rcases Nat.lt_or_ge (hN h) layL.length with q | q
      · have := hb2 _ (List.mem_of_getElem? (getD_some (d := 10) q))
        omega
      · rw [List.getD_eq_getElem?_getD, List.getElem?_eq_none q]
        decide)
theorem sd_anewarray {pc len pc' : Nat} {idx : Nat} {ls st ls' st' : List Value} {h h' : AH} (C0 : Cx D dA X d mi n0 p R s m args meth c) (hi : ins mi pc = some (.anewarray idx, len)) (hs : step mi (.anewarray idx) pc ls st h = some (.inl (pc', ls', st', h'))) (hn0 : n0 ≤ hN h) (hw0 : w0 ≤ hW h) (hc1 : hN h' - n0 ≤ R.cells) (hc2 : hW h' - w0 ≤ R.slots) (hmx : hN h' ≤ 1000000) (hsc : hS h = X.2.2.2) (k : WW p l e R s m args below meth c Q D dA X n0 w0 mi pc' ls' st' h') : WW p l e R s m args below meth c Q D dA X n0 w0 mi pc ls st h := by
  obtain ⟨hx, hb, hml, hown, hts, ⟨hfr, hlo⟩, hini, ⟨hK, hNW, hAO⟩, hX1, hX2, hEX⟩ := C0
  have hg := dec_n hi (n := 2) rfl
  have ho := oi_lt hi
  change (match clsT (oiOf mi) idx with
    | some (ci, _) => bif ci == 6 then pI st fun n r => ck (0 ≤ n.toInt ∧ n.toInt ≤ 1000000 ∧ lay (hN h) = 14) (nx (pc + 3) ls (.ref (hN h) :: r) (alc h n.toNatClampNeg n.toNatClampNeg)) else none
    | none => none) = _ at hs
  cases hf : clsT (oiOf mi) idx with
  | none => rw [hf] at hs; cases hs
  | some q =>
    obtain ⟨ci, pl⟩ := q
    rw [hf] at hs
    cases h6 : (ci == 6) with
    | false => simp only [h6, cond_false] at hs; cases hs
    | true =>
      simp only [h6, cond_true] at hs
      have h6' : ci = 6 := by simpa using h6
      subst h6'
      obtain ⟨n, r, rfl, hs⟩ := pI_inv hs
      obtain ⟨⟨hn1, hn2, hly⟩, hs⟩ := ck_inv hs
      obtain ⟨rfl, rfl, rfl, rfl⟩ := nx_inv hs
      obtain ⟨-, hlk, -, -⟩ := cl_at ho hf
      have hNn : n.toNatClampNeg ≤ 1000000 := by
        have : n.toNatClampNeg = n.toInt.toNat := rfl
        omega
      have hcc : hN h - n0 + 1 ≤ R.cells := by
        have : hN (alc h n.toNatClampNeg n.toNatClampNeg) = hN h + 1 := rfl
        omega
      have hss : hW h - w0 + n.toNatClampNeg ≤ R.slots := by
        have : hW (alc h n.toNatClampNeg n.toNatClampNeg) = hW h + n.toNatClampNeg := rfl
        omega
      intro H locs lsS hP hS hl
      refine va_newq (C := RX7) hx hb hown (hts _ hlk) hAO hK hP wl_D hS (fun q h => Nat.le_trans hX1 h) (i32_nn hn1) rfl (by omega) hcc hss hg (fun q cA H1 hK1 hP1 hD1 hS1 => ?_)
      have hcA : cA = dA 14 := ra_eq (hK1.2 5 (cA, .object RX7) rfl).2 (hK.2 4 (dA 14, .object RX7) rfl).2
      subst hcA
      exact new_go hX2 hn0 hw0 hmx (by rw [cel_refs hly, alc_R, alc_n]; rfl) k hP1 hD1 hS1 hl
theorem sd_new {pc len pc' : Nat} {idx : Nat} {ls st ls' st' : List Value} {h h' : AH} (C0 : Cx D dA X d mi n0 p R s m args meth c) (hi : ins mi pc = some (.new idx, len)) (hs : step mi (.new idx) pc ls st h = some (.inl (pc', ls', st', h'))) (hn0 : n0 ≤ hN h) (hw0 : w0 ≤ hW h) (hc1 : hN h' - n0 ≤ R.cells) (hc2 : hW h' - w0 ≤ R.slots) (hmx : hN h' ≤ 1000000) (hsc : hS h = X.2.2.2) (k : WW p l e R s m args below meth c Q D dA X n0 w0 mi pc' ls' st' h') : WW p l e R s m args below meth c Q D dA X n0 w0 mi pc ls st h := by
  obtain ⟨hx, hb, hml, hown, hts, ⟨hfr, hlo⟩, hini, ⟨hK, hNW, hAO⟩, hX1, hX2, hEX⟩ := C0
  have hg := dec_n hi (n := 2) rfl
  have ho := oi_lt hi
  change (match clsT (oiOf mi) idx with
    | some (ci, _) => ck (lay (hN h) = ci) (nx (pc + 3) ls (.ref (hN h) :: st) (alc h 0 (nfl ci)))
    | none => none) = _ at hs
  cases hf : clsT (oiOf mi) idx with
  | none => rw [hf] at hs; cases hs
  | some q =>
    obtain ⟨ci, pl⟩ := q
    rw [hf] at hs
    obtain ⟨hly, hs⟩ := ck_inv hs
    obtain ⟨rfl, rfl, rfl, rfl⟩ := nx_inv hs
    obtain ⟨hci, hlk, hin, hii⟩ := cl_at ho hf
    have hcc : hN h - n0 + 1 ≤ R.cells := by
      have : hN (alc h 0 (nfl ci)) = hN h + 1 := rfl
      omega
    have hss : hW h - w0 + vwK ci ≤ R.slots := by
      have : hW (alc h 0 (nfl ci)) = hW h + vwK ci := rfl
      omega
    intro H locs lsS hP hS hl
    refine va_new (N := vwK ci) (fs := (List.range (nfl ci)).map fun k => cv X (fv (alc h 0 (nfl ci)) (hN h) ci k)) hx hb hts (vw_ws hci) (vwY ci) (vw_ty hci) hown (hts _ hlk) (hts _ hin) (hts _ hii) hK hP wl_D hS (fun q h => Nat.le_trans hX1 h) (vw_at hci) ?_ hcc hss hg (fun q H1 hP1 hD1 hS1 => new_go hX2 hn0 hw0 hmx (cel_obj hly hci) k hP1 hD1 hS1 hl)
    intro j hj
    have e : vp_V ((List.range (nfl ci)).map fun k => cv X (fv (alc h 0 (nfl ci)) (hN h) ci k)) j = cv X (fv (alc h 0 (nfl ci)) (hN h) ci j) := by
      unfold vp_V
      rw [List.getD_eq_getElem?_getD, fs_get hj]
      rfl
    rw [e]
    have hty := (vw_f hci hj).2.2.1
    have hcd : tyCd (vwY ci j) = 0 ∨ tyCd (vwY ci j) = 1 ∨ tyCd (vwY ci j) = 2 ∨ tyCd (vwY ci j) = 3 := by
      rw [← hty]
      exact fty_lt hci hj
    rcases hcd with z | z | z | z
    · rw [ty_int z, fv_int (Or.inl (hty.trans z)), alc_I]; rfl
    · rw [ty_bool z, fv_int (Or.inr (hty.trans z)), alc_I]; rfl
    · rw [ty_long z, fv_long (hty.trans z), alc_L]; rfl
    · rw [fv_ref (hty.trans z), alc_R]
      rcases ty_ref z with ⟨y, hy⟩ | ⟨y, hy⟩ <;> rw [hy] <;> rfl
theorem sd_arraylength {pc len pc' : Nat} {ls st ls' st' : List Value} {h h' : AH} (C0 : Cx D dA X d mi n0 p R s m args meth c) (hi : ins mi pc = some (.arraylength, len)) (hs : step mi (.arraylength) pc ls st h = some (.inl (pc', ls', st', h'))) (hn0 : n0 ≤ hN h) (hw0 : w0 ≤ hW h) (hc1 : hN h' - n0 ≤ R.cells) (hc2 : hW h' - w0 ≤ R.slots) (hmx : hN h' ≤ 1000000) (hsc : hS h = X.2.2.2) (k : WW p l e R s m args below meth c Q D dA X n0 w0 mi pc' ls' st' h') : WW p l e R s m args below meth c Q D dA X n0 w0 mi pc ls st h := by
  obtain ⟨hx, hb, hml, hown, hts, ⟨hfr, hlo⟩, hini, ⟨hK, hNW, hAO⟩, hX1, hX2, hEX⟩ := C0
  have hg := dec_n hi (n := 0) rfl
  obtain ⟨a, r, rfl, hs1⟩ := pR_inv hs
  rcases br_inv hs1 with ⟨rfl, hs2⟩ | ⟨-, hs2⟩
  · obtain ⟨rfl, rfl, rfl, rfl⟩ := nx_inv hs2
    exact fun H locs lsS hP hS hl => va_tlen hx hb hEX.2.1 hS rfl hg (k H locs lsS hP hS hl)
  rcases br_inv hs2 with ⟨rfl, hs3⟩ | ⟨-, hs3⟩
  · obtain ⟨rfl, rfl, rfl, rfl⟩ := nx_inv hs3
    have hE := hEX.2.2.2.1.1 0 (Nat.lt_succ_self 0)
    exact fun H locs lsS hP hS hl => va_tlen hx hb hE.2.2.2 hS rfl hg (k H locs lsS hP hS hl)
  rcases br_inv hs3 with ⟨rfl, hs4⟩ | ⟨-, hs4⟩
  · obtain ⟨rfl, rfl, rfl, rfl⟩ := nx_inv hs4
    rw [hsc] at k
    exact fun H locs lsS hP hS hl => va_tlen hx hb hEX.2.2.2.2.2.2 hS rfl hg (k H locs lsS hP hS hl)
  obtain ⟨⟨ha, hly⟩, hs5⟩ := ck_inv hs4
  obtain ⟨rfl, rfl, rfl, rfl⟩ := nx_inv hs5
  intro H locs lsS hP hS hl
  have hw := wl_get (X := X) (dA := dA) ha
  rw [List.map_cons, cv_ref (Nat.lt_of_lt_of_le ha hmx)]
  have hl5 : lay a = 10 ∨ lay a = 11 ∨ lay a = 12 ∨ lay a = 13 ∨ lay a = 14 := by
    have hb2 : ∀ q ∈ layL, q < 15 := by decide +kernel
    have : lay a < 15 := by
      unfold lay
      rcases Nat.lt_or_ge a layL.length with q | q
      · exact hb2 _ (List.mem_of_getElem? (getD_some (d := 10) q))
      · rw [List.getD_eq_getElem?_getD, List.getElem?_eq_none q]
        decide
    omega
  rcases hl5 with z | z | z | z | z
  · rw [cel_ints z (Or.inl rfl)] at hw
    exact va_alen hx hb hK hP a 0 hw rfl rfl hg (k H locs lsS hP hS hl)
  · rw [cel_ints z (Or.inr (Or.inl rfl))] at hw
    exact va_alen hx hb hK hP a 1 hw rfl rfl hg (k H locs lsS hP hS hl)
  · rw [cel_ints z (Or.inr (Or.inr rfl))] at hw
    exact va_alen hx hb hK hP a 2 hw rfl rfl hg (k H locs lsS hP hS hl)
  · rw [cel_long z] at hw
    exact va_alen hx hb hK hP a 3 hw rfl rfl hg (k H locs lsS hP hS hl)
  · rw [cel_refs z] at hw
    exact va_alen hx hb hK hP a 4 hw rfl rfl hg (k H locs lsS hP hS hl)
theorem cst_at {o idx pl : Nat} {v : Int32} (ho : o < 18) (h : cstT o idx = some (v, pl)) : Jvm.Cond.constant (ownL.getD o "") idx v ∈ GW := by
  have h0 := List.all_eq_true.mp cc_ok o (List.mem_range.mpr ho)
  exact hasW_mem (List.all_eq_true.mp h0 _ (lookup_mem h))
theorem lng_at {o idx pl : Nat} {v : Int64} (ho : o < 18) (h : lngT o idx = some (v, pl)) : Jvm.Cond.constantLong (ownL.getD o "") idx v ∈ GW := by
  have h0 := List.all_eq_true.mp cl_ok o (List.mem_range.mpr ho)
  exact hasW_mem (List.all_eq_true.mp h0 _ (lookup_mem h))
theorem sd_ldc {pc len pc' : Nat} {idx : Nat} {ls st ls' st' : List Value} {h h' : AH} (C0 : Cx D dA X d mi n0 p R s m args meth c) (hi : ins mi pc = some (.ldc idx, len)) (hs : step mi (.ldc idx) pc ls st h = some (.inl (pc', ls', st', h'))) (hn0 : n0 ≤ hN h) (hw0 : w0 ≤ hW h) (hc1 : hN h' - n0 ≤ R.cells) (hc2 : hW h' - w0 ≤ R.slots) (hmx : hN h' ≤ 1000000) (hsc : hS h = X.2.2.2) (k : WW p l e R s m args below meth c Q D dA X n0 w0 mi pc' ls' st' h') : WW p l e R s m args below meth c Q D dA X n0 w0 mi pc ls st h := by
  obtain ⟨hx, hb, hml, hown, hts, ⟨hfr, hlo⟩, hini, ⟨hK, hNW, hAO⟩, hX1, hX2, hEX⟩ := C0
  have hg := dec_n hi (n := 1) rfl
  have ho := oi_lt hi
  change (match cstT (oiOf mi) idx with
    | some (v, _) => nx (pc + 2) ls (.int v :: st) h
    | none => bif strP (oiOf mi) idx then nx (pc + 2) ls (.ref 1000001 :: st) h else none) = _ at hs
  cases hf : cstT (oiOf mi) idx with
  | none =>
    rw [hf] at hs
    dsimp only at hs
    cases hp5 : strP (oiOf mi) idx with
    | false => rw [hp5] at hs; cases hs
    | true =>
      rw [hp5] at hs
      simp only [strP, Bool.and_eq_true, beq_iff_eq] at hp5
      obtain ⟨rfl, rfl, rfl, rfl⟩ := nx_inv hs
      obtain ⟨e1, rfl⟩ := hp5
      rw [e1] at hown
      exact fun H locs lsS hP hS hl => va_ldcS hx hb hown hEX.2.2.1 hg (k H locs lsS hP hS hl)
  | some q =>
    obtain ⟨v, pl⟩ := q
    rw [hf] at hs
    obtain ⟨rfl, rfl, rfl, rfl⟩ := nx_inv hs
    have hlk := cst_at ho hf
    exact fun H locs lsS hP hS hl => lv_ldc hx hb hown (hts _ hlk) hg (k H locs lsS hP hS hl)
theorem sd_ldc_w {pc len pc' : Nat} {idx : Nat} {ls st ls' st' : List Value} {h h' : AH} (C0 : Cx D dA X d mi n0 p R s m args meth c) (hi : ins mi pc = some (.ldc_w idx, len)) (hs : step mi (.ldc_w idx) pc ls st h = some (.inl (pc', ls', st', h'))) (hn0 : n0 ≤ hN h) (hw0 : w0 ≤ hW h) (hc1 : hN h' - n0 ≤ R.cells) (hc2 : hW h' - w0 ≤ R.slots) (hmx : hN h' ≤ 1000000) (hsc : hS h = X.2.2.2) (k : WW p l e R s m args below meth c Q D dA X n0 w0 mi pc' ls' st' h') : WW p l e R s m args below meth c Q D dA X n0 w0 mi pc ls st h := by
  obtain ⟨hx, hb, hml, hown, hts, ⟨hfr, hlo⟩, hini, ⟨hK, hNW, hAO⟩, hX1, hX2, hEX⟩ := C0
  have hg := dec_n hi (n := 2) rfl
  have ho := oi_lt hi
  change (match cstT (oiOf mi) idx with
    | some (v, _) => nx (pc + 3) ls (.int v :: st) h
    | none => none) = _ at hs
  cases hf : cstT (oiOf mi) idx with
  | none => rw [hf] at hs; cases hs
  | some q =>
    obtain ⟨v, pl⟩ := q
    rw [hf] at hs
    obtain ⟨rfl, rfl, rfl, rfl⟩ := nx_inv hs
    have hlk := cst_at ho hf
    exact fun H locs lsS hP hS hl => lv_ldcw hx hb hown (hts _ hlk) hg (k H locs lsS hP hS hl)
theorem sd_ldc2_w {pc len pc' : Nat} {idx : Nat} {ls st ls' st' : List Value} {h h' : AH} (C0 : Cx D dA X d mi n0 p R s m args meth c) (hi : ins mi pc = some (.ldc2_w idx, len)) (hs : step mi (.ldc2_w idx) pc ls st h = some (.inl (pc', ls', st', h'))) (hn0 : n0 ≤ hN h) (hw0 : w0 ≤ hW h) (hc1 : hN h' - n0 ≤ R.cells) (hc2 : hW h' - w0 ≤ R.slots) (hmx : hN h' ≤ 1000000) (hsc : hS h = X.2.2.2) (k : WW p l e R s m args below meth c Q D dA X n0 w0 mi pc' ls' st' h') : WW p l e R s m args below meth c Q D dA X n0 w0 mi pc ls st h := by
  obtain ⟨hx, hb, hml, hown, hts, ⟨hfr, hlo⟩, hini, ⟨hK, hNW, hAO⟩, hX1, hX2, hEX⟩ := C0
  have hg := dec_n hi (n := 2) rfl
  have ho := oi_lt hi
  change (match lngT (oiOf mi) idx with
    | some (v, _) => nx (pc + 3) ls (.long v :: st) h
    | none => none) = _ at hs
  cases hf : lngT (oiOf mi) idx with
  | none => rw [hf] at hs; cases hs
  | some q =>
    obtain ⟨v, pl⟩ := q
    rw [hf] at hs
    obtain ⟨rfl, rfl, rfl, rfl⟩ := nx_inv hs
    have hlk := lng_at ho hf
    exact fun H locs lsS hP hS hl => lv_ldc2 hx hb hown (hts _ hlk) hg (k H locs lsS hP hS hl)
theorem lsw_inv {pc : Nat} {x : Int32} {dd : Int} {k : Nat → Option NX} {q : NX} : ∀ {ps : List (Int × Int)}, lsw pc x dd k ps = some q → ∃ t : Nat, (pc : Int) + Op.lookupswitch.offset ps dd x.toInt = (t : Int) ∧ k t = some q
  | [], hs => jm_inv hs
  | (a, b) :: ps, hs => by
    rcases br_inv hs with ⟨hc, hs⟩ | ⟨hc, hs⟩
    · obtain ⟨t, h1, h2⟩ := jm_inv hs
      exact ⟨t, by rw [Op.lookupswitch.offset_cons, if_pos (Eq.symm hc)]; exact h1, h2⟩
    · obtain ⟨t, h1, h2⟩ := lsw_inv hs
      exact ⟨t, by rw [Op.lookupswitch.offset_cons, if_neg (fun z => hc (Eq.symm z))]; exact h1, h2⟩
theorem tsw_inv {pc : Nat} {x : Int32} {dd : Int} {k : Nat → Option NX} {q : NX} : ∀ {os : List Int} {lo : Int}, tsw pc x dd k lo os = some q → (((x.toInt < lo ∨ lo + os.length ≤ x.toInt) ∧ ∃ t : Nat, (pc : Int) + dd = (t : Int) ∧ k t = some q) ∨ (lo ≤ x.toInt ∧ x.toInt < lo + os.length ∧ ∃ off : Int, os[(x.toInt - lo).toNat]? = some off ∧ ∃ t : Nat, (pc : Int) + off = (t : Int) ∧ k t = some q))
  | [], lo, hs => by
    refine Or.inl ⟨?_, jm_inv hs⟩
    simp only [List.length_nil]
    omega
  | o :: os, lo, hs => by
    simp only [List.length_cons]
    rcases br_inv hs with ⟨hc, hs⟩ | ⟨hc, hs⟩
    · refine Or.inr ⟨by omega, by omega, o, ?_, jm_inv hs⟩
      rw [show (x.toInt - lo).toNat = 0 by omega]
      rfl
    · rcases tsw_inv hs with ⟨h1, h2⟩ | ⟨h1, h2, off, h3, h4⟩
      · exact Or.inl ⟨by omega, h2⟩
      · refine Or.inr ⟨by omega, by omega, off, ?_, h4⟩
        rw [show (x.toInt - lo).toNat = (x.toInt - (lo + 1)).toNat + 1 by omega]
        exact h3
/-- the switches of the tables: as many offsets as places, keys in order -/
def swOk (i : Instr) : Bool := match i with
  | .tableswitch _ lo hi offs => decide (hi + 1 = lo + offs.toList.length)
  | .lookupswitch _ ps => (ps.toList.zip (ps.toList.drop 1)).all (fun (a, next) => a.1 < next.1)
  | _ => true
theorem sw_ok : (tbs.all fun t => t.all fun q => swOk q.2.1) = true := by decide +kernel
theorem sw_at {mi pc : Nat} {i : Instr} {len : Nat} (h : ins mi pc = some (i, len)) : swOk i = true := by
  have h1 := (dec_at h).1
  have hlt : mi < tbs.length := by rw [tbs_len]; exact h1
  have h4 := List.all_eq_true.mp sw_ok _ (List.mem_of_getElem? (getD_some (d := []) hlt))
  exact List.all_eq_true.mp h4 _ (lookup_mem h)
theorem sd_tableswitch {pc len pc' : Nat} {dd lo hh : Int} {offs : Array Int} {ls st ls' st' : List Value} {h h' : AH} (C0 : Cx D dA X d mi n0 p R s m args meth c) (hi : ins mi pc = some (.tableswitch dd lo hh offs, len)) (hs : step mi (.tableswitch dd lo hh offs) pc ls st h = some (.inl (pc', ls', st', h'))) (hn0 : n0 ≤ hN h) (hw0 : w0 ≤ hW h) (hc1 : hN h' - n0 ≤ R.cells) (hc2 : hW h' - w0 ≤ R.slots) (hmx : hN h' ≤ 1000000) (hsc : hS h = X.2.2.2) (k : WW p l e R s m args below meth c Q D dA X n0 w0 mi pc' ls' st' h') : WW p l e R s m args below meth c Q D dA X n0 w0 mi pc ls st h := by
  obtain ⟨hx, hb, hml, hown, hts, ⟨hfr, hlo⟩, hini, ⟨hK, hNW, hAO⟩, hX1, hX2, hEX⟩ := C0
  have hg := (dec_at hi).2.1
  have hsw := sw_at hi
  simp only [swOk, decide_eq_true_eq] at hsw
  obtain ⟨x, r, rfl, hs⟩ := pI_inv hs
  rcases tsw_inv hs with ⟨h1, t, ht, hs⟩ | ⟨h1, h2, off, h3, t, ht, hs⟩
  · obtain ⟨rfl, rfl, rfl, rfl⟩ := nx_inv hs
    exact fun H locs lsS hP hS hl => lv_tableOut hx hb hg (by omega) ht (k H locs lsS hP hS hl)
  · obtain ⟨rfl, rfl, rfl, rfl⟩ := nx_inv hs
    exact fun H locs lsS hP hS hl => lv_tableIn hx hb hg (by omega) (by omega) (by rw [← Array.getElem?_toList]; exact h3) ht (k H locs lsS hP hS hl)
theorem sd_lookupswitch {pc len pc' : Nat} {dd : Int} {ps : Array (Int × Int)} {ls st ls' st' : List Value} {h h' : AH} (C0 : Cx D dA X d mi n0 p R s m args meth c) (hi : ins mi pc = some (.lookupswitch dd ps, len)) (hs : step mi (.lookupswitch dd ps) pc ls st h = some (.inl (pc', ls', st', h'))) (hn0 : n0 ≤ hN h) (hw0 : w0 ≤ hW h) (hc1 : hN h' - n0 ≤ R.cells) (hc2 : hW h' - w0 ≤ R.slots) (hmx : hN h' ≤ 1000000) (hsc : hS h = X.2.2.2) (k : WW p l e R s m args below meth c Q D dA X n0 w0 mi pc' ls' st' h') : WW p l e R s m args below meth c Q D dA X n0 w0 mi pc ls st h := by
  obtain ⟨hx, hb, hml, hown, hts, ⟨hfr, hlo⟩, hini, ⟨hK, hNW, hAO⟩, hX1, hX2, hEX⟩ := C0
  have hg := (dec_at hi).2.1
  have hsw := sw_at hi
  obtain ⟨x, r, rfl, hs⟩ := pI_inv hs
  obtain ⟨t, ht, hs⟩ := lsw_inv hs
  obtain ⟨rfl, rfl, rfl, rfl⟩ := nx_inv hs
  exact fun H locs lsS hP hS hl => lv_lookup hx hb hg hsw rfl ht (k H locs lsS hP hS hl)
end ST
