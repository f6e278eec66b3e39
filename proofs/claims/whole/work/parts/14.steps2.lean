section ST
variable {p : Program} {l : Launch} {e : Env} {R : Room} {s : State} {m : MethodId} {args : Array Value} {below : List Frame} {meth : Method} {c : Code} {Q : State → Prop} {D : va_G} {dA : Nat → ClassId} {X : XT} {n0 w0 d mi : Nat}
theorem oi_lt {mi pc : Nat} {i : Instr} {len : Nat} (h : ins mi pc = some (i, len)) : oiOf mi < 18 := by
  have h1 := (dec_at h).1
  have h2 : ∀ q ∈ mOi, q < 18 := by decide +kernel
  refine h2 _ (List.mem_of_getElem? (i := mi) ?_)
  exact getD_some (by rw [mOi_len]; exact h1)
theorem fld_at {o idx ci k pl : Nat} (ho : o < 18) (h : fldT o idx = some (ci, k, pl)) : ci < 10 ∧ k < vwK ci ∧ Jvm.Cond.fieldLink (ownL.getD o "") idx (vwN ci) (vwT ci k).2.1 (vwT ci k).2.2.1 ∈ GW := by
  have h1 := List.all_eq_true.mp (fk_at ho) _ (lookup_mem h)
  simp only [fkOk, Bool.and_eq_true, decide_eq_true_eq] at h1
  exact ⟨h1.1.1, h1.1.2, hasW_mem h1.2⟩
theorem fs_get {X : XT} {h : AH} {a ci k : Nat} (hk : k < vwK ci) : ((List.range (nfl ci)).map fun k => cv X (fv h a ci k))[k]? = some (cv X (fv h a ci k)) := by
  have : k < nfl ci := hk
  simp [this]
theorem fs_len {X : XT} {h : AH} {a ci : Nat} : ((List.range (nfl ci)).map fun k => cv X (fv h a ci k)).length = vwK ci := by
  simp [nfl, vwK]
theorem fs_set {X : XT} {h h' : AH} {a ci k : Nat} {v : Value} (hv : cv X (fv h' a ci k) = v) (ho : ∀ j, j ≠ k → fv h' a ci j = fv h a ci j) : ((List.range (nfl ci)).map fun k => cv X (fv h a ci k)).set k v = (List.range (nfl ci)).map fun k => cv X (fv h' a ci k) := by
  apply List.ext_getElem?
  intro j
  rw [List.getElem?_set]
  by_cases hj : k = j
  · subst hj
    rw [if_pos rfl]
    by_cases hl : k < nfl ci
    · simp [hl, hv]
    · simp [hl]
  · rw [if_neg hj]
    by_cases hl : j < nfl ci
    · simp [hl, ho j (fun z => hj z.symm)]
    · simp [hl]
theorem sI_hI (h : AH) (a i : Nat) (v : Int32) (b j : Nat) : hI (sI h a i v) b j = if b = a ∧ j = i then v else hI h b j := rfl
theorem sL_hL (h : AH) (a i : Nat) (v : Int64) (b j : Nat) : hL (sL h a i v) b j = if b = a ∧ j = i then v else hL h b j := rfl
theorem sR_hR (h : AH) (a i : Nat) (v : Option Nat) (b j : Nat) : hR (sR h a i v) b j = if b = a ∧ j = i then v else hR h b j := rfl
theorem sI_ne {h : AH} {a i b : Nat} {v : Int32} (hb : b ≠ a) : cel X dA (sI h a i v) b = cel X dA h b := cel_congr rfl (by funext j; rw [sI_hI, if_neg (fun z => hb z.1)]) rfl rfl
theorem sL_ne {h : AH} {a i b : Nat} {v : Int64} (hb : b ≠ a) : cel X dA (sL h a i v) b = cel X dA h b := cel_congr rfl rfl (by funext j; rw [sL_hL, if_neg (fun z => hb z.1)]) rfl
theorem sR_ne {h : AH} {a i b : Nat} {v : Option Nat} (hb : b ≠ a) : cel X dA (sR h a i v) b = cel X dA h b := cel_congr rfl rfl rfl (by funext j; rw [sR_hR, if_neg (fun z => hb z.1)])
theorem sA_ne {h : AH} {a b : Nat} {f : Nat → Int32} (hb : b ≠ a) : cel X dA (sA h a f) b = cel X dA h b := cel_congr rfl (by funext j; show (if b = a then f j else hI h b j) = _; rw [if_neg hb]) rfl rfl
theorem fv_int {h : AH} {a ci k : Nat} (e : fty ci k = 0 ∨ fty ci k = 1) : fv h a ci k = .int (hI h a k) := by
  unfold fv
  rcases e with e | e <;> rw [e] <;> rfl
theorem fv_long {h : AH} {a ci k : Nat} (e : fty ci k = 2) : fv h a ci k = .long (hL h a k) := by
  unfold fv
  rw [e]
  rfl
theorem fv_ref {h : AH} {a ci k : Nat} (e : fty ci k = 3) : fv h a ci k = rv (hR h a k) := by
  unfold fv
  rw [e]
  rfl
theorem fv_off {h h' : AH} {a ci j : Nat} (e1 : hI h' a j = hI h a j) (e2 : hL h' a j = hL h a j) (e3 : hR h' a j = hR h a j) : fv h' a ci j = fv h a ci j := by
  unfold fv
  rw [e1, e2, e3]

theorem sd_getfield {pc len pc' : Nat} {idx : Nat} {ls st ls' st' : List Value} {h h' : AH} (C0 : Cx D dA X d mi n0 p R s m args meth c) (hi : ins mi pc = some (.getfield idx, len)) (hs : step mi (.getfield idx) pc ls st h = some (.inl (pc', ls', st', h'))) (hn0 : n0 ≤ hN h) (hw0 : w0 ≤ hW h) (hc1 : hN h' - n0 ≤ R.cells) (hc2 : hW h' - w0 ≤ R.slots) (hmx : hN h' ≤ 1000000) (hsc : hS h = X.2.2.2) (k : WW p l e R s m args below meth c Q D dA X n0 w0 mi pc' ls' st' h') : WW p l e R s m args below meth c Q D dA X n0 w0 mi pc ls st h := by
  obtain ⟨hx, hb, hml, hown, hts, ⟨hfr, hlo⟩, hini, ⟨hK, hNW, hAO⟩, hX1, hX2, hEX⟩ := C0
  have hg := dec_n hi (n := 2) rfl
  have ho := oi_lt hi
  change getF mi idx pc ls st h = _ at hs
  unfold getF at hs
  cases hf : fldT (oiOf mi) idx with
  | none =>
    rw [hf] at hs
    dsimp only at hs
    cases hf2 : sfT (oiOf mi) idx with
    | none => rw [hf2] at hs; cases hs
    | some q =>
      obtain ⟨kd, pl⟩ := q
      rw [hf2] at hs
      dsimp only at hs
      have hlk := List.all_eq_true.mp (List.all_eq_true.mp sk_ok _ (List.mem_range.mpr ho)) _ (lookup_mem hf2)
      have hE := hEX.2.2.2.1.1 0 (Nat.lt_succ_self 0)
      split at hs
      · obtain ⟨a, r, rfl, hs1⟩ := pR_inv hs
        obtain ⟨rfl, hs2⟩ := ck_inv hs1
        obtain ⟨rfl, rfl, rfl, rfl⟩ := nx_inv hs2
        exact fun H locs lsS hP hS hl => vk_getf hx hb hE.2.2.1 hS hown (hts _ (hasW_mem hlk)) (fun _ z => z) hg (k H locs lsS hP hS hl)
      · obtain ⟨a, r, rfl, hs1⟩ := pR_inv hs
        obtain ⟨rfl, hs2⟩ := ck_inv hs1
        obtain ⟨rfl, rfl, rfl, rfl⟩ := nx_inv hs2
        exact fun H locs lsS hP hS hl => vk_getf hx hb hE.2.1 hS hown (hts _ (hasW_mem hlk)) (fun _ z => z) hg (k H locs lsS hP hS hl)
      · cases hs
  | some q =>
    obtain ⟨ci, j, pl⟩ := q
    rw [hf] at hs
    obtain ⟨a, r, rfl, hs⟩ := pR_inv hs
    obtain ⟨⟨ha, hly⟩, hs⟩ := ck_inv hs
    obtain ⟨rfl, rfl, rfl, rfl⟩ := nx_inv hs
    obtain ⟨hci, hj, hlk⟩ := fld_at ho hf
    have hfv := vw_f hci hj
    intro H locs lsS hP hS hl
    have hw := wl_get (X := X) (dA := dA) ha
    rw [cel_obj hly hci] at hw
    rw [List.map_cons, cv_ref (by omega)]
    exact va_get hx hb hts (vw_ws hci) hown hK hP a hw (vw_at hci) j hj (hts _ hlk) (fun x z => by rw [hfv.1] at z; exact z) (fs_get hj) hg (k H locs lsS hP hS hl)
theorem put_go {mi idx pc len ci j pl : Nat} {ls r : List Value} {a : Nat} {v : Value} {h h' : AH} (C0 : Cx D dA X d mi n0 p R s m args meth c) (hi : ins mi pc = some (.putfield idx, len)) (hf : fldT (oiOf mi) idx = some (ci, j, pl)) (hfin : (!ffn ci j || (isIni mi && oiOf mi == ci)) = true) (ha : a < hN h) (hly : lay a = ci) (hmx : hN h ≤ 1000000)
    (hN' : hN h' = hN h) (hW' : hW h' = hW h) (hv : cv X (fv h' a ci j) = v) (hoj : ∀ i, i ≠ j → fv h' a ci i = fv h a ci i) (hob : ∀ b, b ≠ a → cel X dA h' b = cel X dA h b) (hn : narrow (vwY ci j) v = v) (hfit : fits (vwY ci j) v = true)
    (k : WW p l e R s m args below meth c Q D dA X n0 w0 mi (pc + 3) ls r h') (H : Heap) (locs : List Loc) (lsS : Array Slot) (hP : va_P D vwCl (wl X dA h) H) (hS : va_S (fun q => X.1 ≤ q) s.heap H locs) (hl : LV X (mlOf mi) lsS ls) : W p l e R s m args below meth c H locs (hN h - n0) (hW h - w0) Q (F0 m pc lsS (v :: .ref (X.1 + a) :: r.map (cv X))) := by
  obtain ⟨hx, hb, hml, hown, hts, ⟨hfr, hlo⟩, hini, ⟨hK, hNW, hAO⟩, hX1, hX2, hEX⟩ := C0
  have hg := dec_n hi (n := 2) rfl
  have ho := oi_lt hi
  obtain ⟨hci, hj, hlk⟩ := fld_at ho hf
  have hfv := vw_f hci hj
  have hw := wl_get (X := X) (dA := dA) ha
  rw [cel_obj hly hci] at hw
  have hgo : ∀ (H1 : Heap) (locs1 : List Loc), va_P D vwCl ((wl X dA h).set a (X.1 + a, .inr (ci, ((List.range (nfl ci)).map fun k => cv X (fv h a ci k)).set j v))) H1 → va_D (fun q => X.1 ≤ q) ((wl X dA h).set a (X.1 + a, .inr (ci, ((List.range (nfl ci)).map fun k => cv X (fv h a ci k)).set j v))) → va_S (fun q => X.1 ≤ q) s.heap H1 locs1 → W p l e R s m args below meth c H1 locs1 (hN h - n0) (hW h - w0) Q (F0 m (pc + 3) lsS (r.map (cv X))) := by
    intro H1 locs1 hP1 _ hS1
    rw [wl_set (h' := h') ha hN' (by rw [cel_obj hly hci, fs_set hv hoj]) hob] at hP1
    rw [← hN', ← hW']
    exact k H1 locs1 lsS hP1 hS1 hl
  rcases Bool.or_eq_true _ _ ▸ hfin with h1 | h1
  · have h2 : (vwT ci j).2.2.2 = false := by rw [← hfv.2.2.2]; simpa using h1
    exact va_put hx hb hts (vw_ws hci) (vwY ci) (vw_ty hci) (vw_nm hci) hown hK hP wl_D hS a hw (vw_at hci) j hj (hts _ hlk) (fun x z => by rw [hfv.1] at z; exact z) h2 (vw_ty hci j hj) hn hfit (by rw [fs_len]; exact hj) hg hgo
  · rw [Bool.and_eq_true] at h1
    have h2 : oiOf mi = ci := by simpa using h1.2
    cases hfl : (vwT ci j).2.2.2 with
    | false => exact va_put hx hb hts (vw_ws hci) (vwY ci) (vw_ty hci) (vw_nm hci) hown hK hP wl_D hS a hw (vw_at hci) j hj (hts _ hlk) (fun x z => by rw [hfv.1] at z; exact z) hfl (vw_ty hci j hj) hn hfit (by rw [fs_len]; exact hj) hg hgo
    | true => exact va_putF hx hb hts (vw_ws hci) (vwY ci) (vw_ty hci) (vw_nm hci) hown hK hP wl_D hS a hw (vw_at hci) j hj (hts _ hlk) (fun x z => by rw [hfv.1] at z; exact z) hfl (hini h1.1) (by rw [hfv.1, hfv.2.1, h2]) (vw_ty hci j hj) hn hfit (by rw [fs_len]; exact hj) hg hgo
theorem tyCd_of {ci j n : Nat} (hci : ci < 10) (hj : j < vwK ci) (h : fty ci j = n) : tyCd (vwY ci j) = n := by rw [← (vw_f hci hj).2.2.1]; exact h

theorem sd_putfield {pc len pc' : Nat} {idx : Nat} {ls st ls' st' : List Value} {h h' : AH} (C0 : Cx D dA X d mi n0 p R s m args meth c) (hi : ins mi pc = some (.putfield idx, len)) (hs : step mi (.putfield idx) pc ls st h = some (.inl (pc', ls', st', h'))) (hn0 : n0 ≤ hN h) (hw0 : w0 ≤ hW h) (hc1 : hN h' - n0 ≤ R.cells) (hc2 : hW h' - w0 ≤ R.slots) (hmx : hN h' ≤ 1000000) (hsc : hS h = X.2.2.2) (k : WW p l e R s m args below meth c Q D dA X n0 w0 mi pc' ls' st' h') : WW p l e R s m args below meth c Q D dA X n0 w0 mi pc ls st h := by
  obtain ⟨hx, hb, hml, hown, hts, ⟨hfr, hlo⟩, hini, ⟨hK, hNW, hAO⟩, hX1, hX2, hEX⟩ := C0
  have hg := dec_n hi (n := 2) rfl
  have ho := oi_lt hi
  have C1 : Cx D dA X d mi n0 p R s m args meth c := ⟨hx, hb, hml, hown, hts, ⟨hfr, hlo⟩, hini, ⟨hK, hNW, hAO⟩, hX1, hX2, hEX⟩
  change putF mi idx pc ls st h = _ at hs
  unfold putF at hs
  cases hf : fldT (oiOf mi) idx with
  | none => rw [hf] at hs; cases hs
  | some q =>
    obtain ⟨ci, j, pl⟩ := q
    rw [hf] at hs
    obtain ⟨hci, hj, hlk⟩ := fld_at ho hf
    cases hfin : (!ffn ci j || (isIni mi && oiOf mi == ci)) with
    | false => simp only [hfin, cond_false] at hs; cases hs
    | true =>
      simp only [hfin, cond_true] at hs
      split at hs
      · rename_i hty
        obtain ⟨a, x, r, rfl, hs⟩ := pRI_inv hs
        obtain ⟨⟨ha, hly⟩, hs⟩ := ck_inv hs
        obtain ⟨rfl, rfl, rfl, rfl⟩ := nx_inv hs
        have ht := ty_int (tyCd_of hci hj hty)
        intro H locs lsS hP hS hl
        rw [List.map_cons, List.map_cons, cv_ref (Nat.lt_of_lt_of_le ha hmx)]
        exact put_go (h' := sI h a j x) C1 hi hf hfin ha hly hmx rfl rfl (by rw [fv_int (Or.inl hty), sI_hI, if_pos ⟨rfl, rfl⟩]) (fun i hij => fv_off (by rw [sI_hI, if_neg (fun z => hij z.2)]) rfl rfl) (fun b hb => sI_ne hb) (by rw [ht]; rfl) (by rw [ht]; rfl) k H locs lsS hP hS hl
      · rename_i hty
        obtain ⟨a, x, r, rfl, hs⟩ := pRI_inv hs
        obtain ⟨⟨⟨ha, hly⟩, hx01⟩, hs⟩ := ck_inv hs
        obtain ⟨rfl, rfl, rfl, rfl⟩ := nx_inv hs
        have ht := ty_bool (tyCd_of hci hj hty)
        intro H locs lsS hP hS hl
        rw [List.map_cons, List.map_cons, cv_ref (Nat.lt_of_lt_of_le ha hmx)]
        exact put_go (h' := sI h a j x) C1 hi hf hfin ha hly hmx rfl rfl (by rw [fv_int (Or.inr hty), sI_hI, if_pos ⟨rfl, rfl⟩]) (fun i hij => fv_off (by rw [sI_hI, if_neg (fun z => hij z.2)]) rfl rfl) (fun b hb => sI_ne hb) (by rw [ht]; rcases hx01 with rfl | rfl <;> rfl) (by rw [ht]; rcases hx01 with rfl | rfl <;> rfl) k H locs lsS hP hS hl
      · rename_i hty
        obtain ⟨a, x, r, rfl, hs⟩ := pRJ_inv hs
        obtain ⟨⟨ha, hly⟩, hs⟩ := ck_inv hs
        obtain ⟨rfl, rfl, rfl, rfl⟩ := nx_inv hs
        have ht := ty_long (tyCd_of hci hj hty)
        intro H locs lsS hP hS hl
        rw [List.map_cons, List.map_cons, cv_ref (Nat.lt_of_lt_of_le ha hmx)]
        exact put_go (h' := sL h a j x) C1 hi hf hfin ha hly hmx rfl rfl (by rw [fv_long hty, sL_hL, if_pos ⟨rfl, rfl⟩]) (fun i hij => fv_off rfl (by rw [sL_hL, if_neg (fun z => hij z.2)]) rfl) (fun b hb => sL_ne hb) (by rw [ht]; rfl) (by rw [ht]; rfl) k H locs lsS hP hS hl
      · rename_i hty
        obtain ⟨a, x, r, rfl, hs⟩ := pRR_inv hs
        obtain ⟨⟨ha, hly⟩, hs⟩ := ck_inv hs
        obtain ⟨rfl, rfl, rfl, rfl⟩ := nx_inv hs
        have ht := ty_ref (tyCd_of hci hj hty)
        intro H locs lsS hP hS hl
        rw [List.map_cons, List.map_cons, cv_ref (Nat.lt_of_lt_of_le ha hmx)]
        exact put_go (h' := sR h a j (some x)) C1 hi hf hfin ha hly hmx rfl rfl (by rw [fv_ref hty, sR_hR, if_pos ⟨rfl, rfl⟩]; rfl) (fun i hij => fv_off rfl rfl (by rw [sR_hR, if_neg (fun z => hij z.2)])) (fun b hb => sR_ne hb) (by rcases ht with ⟨z, ht⟩ | ⟨z, ht⟩ <;> rw [ht] <;> rfl) (by rcases ht with ⟨z, ht⟩ | ⟨z, ht⟩ <;> rw [ht] <;> rfl) k H locs lsS hP hS hl
      · cases hs
theorem sd_iaload {pc len pc' : Nat} {ls st ls' st' : List Value} {h h' : AH} (C0 : Cx D dA X d mi n0 p R s m args meth c) (hi : ins mi pc = some (.iaload, len)) (hs : step mi (.iaload) pc ls st h = some (.inl (pc', ls', st', h'))) (hn0 : n0 ≤ hN h) (hw0 : w0 ≤ hW h) (hc1 : hN h' - n0 ≤ R.cells) (hc2 : hW h' - w0 ≤ R.slots) (hmx : hN h' ≤ 1000000) (hsc : hS h = X.2.2.2) (k : WW p l e R s m args below meth c Q D dA X n0 w0 mi pc' ls' st' h') : WW p l e R s m args below meth c Q D dA X n0 w0 mi pc ls st h := by
  obtain ⟨hx, hb, hml, hown, hts, ⟨hfr, hlo⟩, hini, ⟨hK, hNW, hAO⟩, hX1, hX2, hEX⟩ := C0
  have hg := dec_n hi (n := 0) rfl
  obtain ⟨a, i, r, rfl, hs1⟩ := pRI_inv hs
  rcases br_inv hs1 with ⟨rfl, hs2⟩ | ⟨-, hs2⟩
  · obtain ⟨hin, hs3⟩ := ck_inv hs2
    obtain ⟨rfl, rfl, rfl, rfl⟩ := nx_inv hs3
    rw [hsc] at hin k
    exact fun H locs lsS hP hS hl => va_ti hx hb hEX.2.2.2.2.2.2 hS (inb_in hin) rfl hg (k H locs lsS hP hS hl)
  obtain ⟨⟨⟨ha, hly⟩, hin⟩, hs3⟩ := ck_inv hs2
  obtain ⟨rfl, rfl, rfl, rfl⟩ := nx_inv hs3
  intro H locs lsS hP hS hl
  have hw := wl_get (X := X) (dA := dA) ha
  rw [cel_ints hly (Or.inl rfl)] at hw
  rw [List.map_cons, List.map_cons, cv_ref (Nat.lt_of_lt_of_le ha hmx)]
  exact va_iald hx hb hK hP a 0 hw rfl (inb_in hin) hg (k H locs lsS hP hS hl)
theorem sd_laload {pc len pc' : Nat} {ls st ls' st' : List Value} {h h' : AH} (C0 : Cx D dA X d mi n0 p R s m args meth c) (hi : ins mi pc = some (.laload, len)) (hs : step mi (.laload) pc ls st h = some (.inl (pc', ls', st', h'))) (hn0 : n0 ≤ hN h) (hw0 : w0 ≤ hW h) (hc1 : hN h' - n0 ≤ R.cells) (hc2 : hW h' - w0 ≤ R.slots) (hmx : hN h' ≤ 1000000) (hsc : hS h = X.2.2.2) (k : WW p l e R s m args below meth c Q D dA X n0 w0 mi pc' ls' st' h') : WW p l e R s m args below meth c Q D dA X n0 w0 mi pc ls st h := by
  obtain ⟨hx, hb, hml, hown, hts, ⟨hfr, hlo⟩, hini, ⟨hK, hNW, hAO⟩, hX1, hX2, hEX⟩ := C0
  have hg := dec_n hi (n := 0) rfl
  obtain ⟨a, i, r, rfl, hs⟩ := pRI_inv hs
  obtain ⟨⟨⟨ha, hly⟩, hin⟩, hs⟩ := ck_inv hs
  obtain ⟨rfl, rfl, rfl, rfl⟩ := nx_inv hs
  intro H locs lsS hP hS hl
  have hw := wl_get (X := X) (dA := dA) ha
  rw [cel_long hly] at hw
  rw [List.map_cons, List.map_cons, cv_ref (Nat.lt_of_lt_of_le ha hmx)]
  exact va_lald hx hb hK hP a 3 hw rfl (inb_in hin) hg (k H locs lsS hP hS hl)
theorem sd_baload {pc len pc' : Nat} {ls st ls' st' : List Value} {h h' : AH} (C0 : Cx D dA X d mi n0 p R s m args meth c) (hi : ins mi pc = some (.baload, len)) (hs : step mi (.baload) pc ls st h = some (.inl (pc', ls', st', h'))) (hn0 : n0 ≤ hN h) (hw0 : w0 ≤ hW h) (hc1 : hN h' - n0 ≤ R.cells) (hc2 : hW h' - w0 ≤ R.slots) (hmx : hN h' ≤ 1000000) (hsc : hS h = X.2.2.2) (k : WW p l e R s m args below meth c Q D dA X n0 w0 mi pc' ls' st' h') : WW p l e R s m args below meth c Q D dA X n0 w0 mi pc ls st h := by
  obtain ⟨hx, hb, hml, hown, hts, ⟨hfr, hlo⟩, hini, ⟨hK, hNW, hAO⟩, hX1, hX2, hEX⟩ := C0
  have hg := dec_n hi (n := 0) rfl
  obtain ⟨a, i, r, rfl, hs1⟩ := pRI_inv hs
  rcases br_inv hs1 with ⟨rfl, hs2⟩ | ⟨-, hs2⟩
  · obtain ⟨hin, hs3⟩ := ck_inv hs2
    obtain ⟨rfl, rfl, rfl, rfl⟩ := nx_inv hs3
    have hE := hEX.2.2.2.1.1 0 (Nat.lt_succ_self 0)
    exact fun H locs lsS hP hS hl => va_tb hx hb hE.2.2.2 hS (inb_in hin) rfl hg (k H locs lsS hP hS hl)
  obtain ⟨⟨hly2, hin⟩, hs3⟩ := ck_inv hs2
  obtain ⟨rfl, rfl, rfl, rfl⟩ := nx_inv hs3
  intro H locs lsS hP hS hl
  rcases hly2 with ⟨ha, hly⟩ | ⟨ha, hly⟩
  · have hw := wl_get (X := X) (dA := dA) ha
    rw [cel_ints hly (Or.inr (Or.inl rfl))] at hw
    rw [List.map_cons, List.map_cons, cv_ref (Nat.lt_of_lt_of_le ha hmx)]
    exact va_bald hx hb hK hP a 1 hw rfl (inb_in hin) hg (k H locs lsS hP hS hl)
  · have hw := wl_get (X := X) (dA := dA) ha
    rw [cel_ints hly (Or.inr (Or.inr rfl))] at hw
    rw [List.map_cons, List.map_cons, cv_ref (Nat.lt_of_lt_of_le ha hmx)]
    exact va_zald hx hb hK hP a 2 hw rfl (inb_in hin) hg (k H locs lsS hP hS hl)
theorem sd_getstatic {pc len pc' : Nat} {idx : Nat} {ls st ls' st' : List Value} {h h' : AH} (C0 : Cx D dA X d mi n0 p R s m args meth c) (hi : ins mi pc = some (.getstatic idx, len)) (hs : step mi (.getstatic idx) pc ls st h = some (.inl (pc', ls', st', h'))) (hn0 : n0 ≤ hN h) (hw0 : w0 ≤ hW h) (hc1 : hN h' - n0 ≤ R.cells) (hc2 : hW h' - w0 ≤ R.slots) (hmx : hN h' ≤ 1000000) (hsc : hS h = X.2.2.2) (k : WW p l e R s m args below meth c Q D dA X n0 w0 mi pc' ls' st' h') : WW p l e R s m args below meth c Q D dA X n0 w0 mi pc ls st h := by
  obtain ⟨hx, hb, hml, hown, hts, ⟨hfr, hlo⟩, hini, ⟨hK, hNW, hAO⟩, hX1, hX2, hEX⟩ := C0
  have hg := dec_n hi (n := 2) rfl
  have ho := oi_lt hi
  change getS mi idx pc ls st h = _ at hs
  unfold getS at hs
  cases hf : gsT (oiOf mi) idx with
  | none => rw [hf] at hs; cases hs
  | some q =>
    obtain ⟨kd, pl⟩ := q
    rw [hf] at hs
    dsimp only at hs
    have hlk := List.all_eq_true.mp (List.all_eq_true.mp gk_ok _ (List.mem_range.mpr ho)) _ (lookup_mem hf)
    split at hs
    · obtain ⟨rfl, rfl, rfl, rfl⟩ := nx_inv hs
      exact fun H locs lsS hP hS hl => va_gets hx hb hEX.1 hS hown (hts _ (hasW_mem hlk)) (fun _ z => z) hg (k H locs lsS hP hS hl)
    · obtain ⟨rfl, rfl, rfl, rfl⟩ := nx_inv hs
      exact fun H locs lsS hP hS hl => va_gets hx hb hEX.2.2.2.2.1 hS hown (hts _ (hasW_mem hlk)) (fun _ z => z) hg (k H locs lsS hP hS hl)
    · obtain ⟨rfl, rfl, rfl, rfl⟩ := nx_inv hs
      exact fun H locs lsS hP hS hl => va_gets hx hb hEX.2.2.2.2.2.1 hS hown (hts _ (hasW_mem hlk)) (fun _ z => z) hg (k H locs lsS hP hS hl)
    · cases hs
theorem sd_aaload {pc len pc' : Nat} {ls st ls' st' : List Value} {h h' : AH} (C0 : Cx D dA X d mi n0 p R s m args meth c) (hi : ins mi pc = some (.aaload, len)) (hs : step mi (.aaload) pc ls st h = some (.inl (pc', ls', st', h'))) (hn0 : n0 ≤ hN h) (hw0 : w0 ≤ hW h) (hc1 : hN h' - n0 ≤ R.cells) (hc2 : hW h' - w0 ≤ R.slots) (hmx : hN h' ≤ 1000000) (hsc : hS h = X.2.2.2) (k : WW p l e R s m args below meth c Q D dA X n0 w0 mi pc' ls' st' h') : WW p l e R s m args below meth c Q D dA X n0 w0 mi pc ls st h := by
  obtain ⟨hx, hb, hml, hown, hts, ⟨hfr, hlo⟩, hini, ⟨hK, hNW, hAO⟩, hX1, hX2, hEX⟩ := C0
  have hg := dec_n hi (n := 0) rfl
  obtain ⟨a, i, r, rfl, hs⟩ := pRI_inv hs
  obtain ⟨⟨⟨ha, hly⟩, hin⟩, hs⟩ := ck_inv hs
  obtain ⟨rfl, rfl, rfl, rfl⟩ := nx_inv hs
  intro H locs lsS hP hS hl
  have hw := wl_get (X := X) (dA := dA) ha
  rw [cel_refs hly] at hw
  rw [List.map_cons, List.map_cons, cv_ref (Nat.lt_of_lt_of_le ha hmx)]
  refine va_aldq hx hb hK hP a 4 hw rfl (inb_in hin) hg ?_
  have e : va_rf ((hR h a i.toNatClampNeg).map (adr X)) = cv X (rv (hR h a i.toNatClampNeg)) := by cases hR h a i.toNatClampNeg <;> rfl
  rw [e]
  exact k H locs lsS hP hS hl
theorem upd_sI {h : AH} {a i : Nat} {v : Int32} : hI (sI h a i v) a = upd (hI h a) i v := by
  funext j
  simp [sI_hI, upd]
theorem upd_sL {h : AH} {a i : Nat} {v : Int64} : hL (sL h a i v) a = vp_updL (hL h a) i v := by
  funext j
  simp [sL_hL, vp_updL]
theorem sd_iastore {pc len pc' : Nat} {ls st ls' st' : List Value} {h h' : AH} (C0 : Cx D dA X d mi n0 p R s m args meth c) (hi : ins mi pc = some (.iastore, len)) (hs : step mi (.iastore) pc ls st h = some (.inl (pc', ls', st', h'))) (hn0 : n0 ≤ hN h) (hw0 : w0 ≤ hW h) (hc1 : hN h' - n0 ≤ R.cells) (hc2 : hW h' - w0 ≤ R.slots) (hmx : hN h' ≤ 1000000) (hsc : hS h = X.2.2.2) (k : WW p l e R s m args below meth c Q D dA X n0 w0 mi pc' ls' st' h') : WW p l e R s m args below meth c Q D dA X n0 w0 mi pc ls st h := by
  obtain ⟨hx, hb, hml, hown, hts, ⟨hfr, hlo⟩, hini, ⟨hK, hNW, hAO⟩, hX1, hX2, hEX⟩ := C0
  have hg := dec_n hi (n := 0) rfl
  obtain ⟨a, i, x, r, rfl, hs⟩ := pRII_inv hs
  obtain ⟨⟨⟨ha, hly⟩, hin⟩, hs⟩ := ck_inv hs
  obtain ⟨rfl, rfl, rfl, rfl⟩ := nx_inv hs
  intro H locs lsS hP hS hl
  have hw := wl_get (X := X) (dA := dA) ha
  rw [cel_ints hly (Or.inl rfl)] at hw
  rw [List.map_cons, List.map_cons, List.map_cons, cv_ref (Nat.lt_of_lt_of_le ha hmx)]
  refine va_iast hx hb hK hP wl_D hS a 0 hw rfl (inb_in hin) hg (fun H1 locs1 hP1 _ hS1 => ?_)
  rw [wl_set (h' := sI h a i.toNatClampNeg x) ha rfl (by rw [cel_ints hly (Or.inl rfl), upd_sI]; rfl) (fun b hb => sI_ne hb)] at hP1
  exact k H1 locs1 lsS hP1 hS1 hl
theorem sd_lastore {pc len pc' : Nat} {ls st ls' st' : List Value} {h h' : AH} (C0 : Cx D dA X d mi n0 p R s m args meth c) (hi : ins mi pc = some (.lastore, len)) (hs : step mi (.lastore) pc ls st h = some (.inl (pc', ls', st', h'))) (hn0 : n0 ≤ hN h) (hw0 : w0 ≤ hW h) (hc1 : hN h' - n0 ≤ R.cells) (hc2 : hW h' - w0 ≤ R.slots) (hmx : hN h' ≤ 1000000) (hsc : hS h = X.2.2.2) (k : WW p l e R s m args below meth c Q D dA X n0 w0 mi pc' ls' st' h') : WW p l e R s m args below meth c Q D dA X n0 w0 mi pc ls st h := by
  obtain ⟨hx, hb, hml, hown, hts, ⟨hfr, hlo⟩, hini, ⟨hK, hNW, hAO⟩, hX1, hX2, hEX⟩ := C0
  have hg := dec_n hi (n := 0) rfl
  obtain ⟨a, i, x, r, rfl, hs⟩ := pRIJ_inv hs
  obtain ⟨⟨⟨ha, hly⟩, hin⟩, hs⟩ := ck_inv hs
  obtain ⟨rfl, rfl, rfl, rfl⟩ := nx_inv hs
  intro H locs lsS hP hS hl
  have hw := wl_get (X := X) (dA := dA) ha
  rw [cel_long hly] at hw
  rw [List.map_cons, List.map_cons, List.map_cons, cv_ref (Nat.lt_of_lt_of_le ha hmx)]
  refine va_last hx hb hK hP wl_D hS a 3 hw rfl (inb_in hin) hg (fun H1 locs1 hP1 _ hS1 => ?_)
  rw [wl_set (h' := sL h a i.toNatClampNeg x) ha rfl (by rw [cel_long hly, upd_sL]; rfl) (fun b hb => sL_ne hb)] at hP1
  exact k H1 locs1 lsS hP1 hS1 hl
theorem sd_bastore {pc len pc' : Nat} {ls st ls' st' : List Value} {h h' : AH} (C0 : Cx D dA X d mi n0 p R s m args meth c) (hi : ins mi pc = some (.bastore, len)) (hs : step mi (.bastore) pc ls st h = some (.inl (pc', ls', st', h'))) (hn0 : n0 ≤ hN h) (hw0 : w0 ≤ hW h) (hc1 : hN h' - n0 ≤ R.cells) (hc2 : hW h' - w0 ≤ R.slots) (hmx : hN h' ≤ 1000000) (hsc : hS h = X.2.2.2) (k : WW p l e R s m args below meth c Q D dA X n0 w0 mi pc' ls' st' h') : WW p l e R s m args below meth c Q D dA X n0 w0 mi pc ls st h := by
  obtain ⟨hx, hb, hml, hown, hts, ⟨hfr, hlo⟩, hini, ⟨hK, hNW, hAO⟩, hX1, hX2, hEX⟩ := C0
  have hg := dec_n hi (n := 0) rfl
  obtain ⟨a, i, x, r, rfl, hs⟩ := pRII_inv hs
  obtain ⟨⟨hly2, hin⟩, hs⟩ := ck_inv hs
  obtain ⟨rfl, rfl, rfl, rfl⟩ := nx_inv hs
  intro H locs lsS hP hS hl
  rcases hly2 with ⟨ha, hly⟩ | ⟨ha, hly⟩
  · have hw := wl_get (X := X) (dA := dA) ha
    rw [cel_ints hly (Or.inr (Or.inl rfl))] at hw
    rw [if_pos hly] at k
    rw [List.map_cons, List.map_cons, List.map_cons, cv_ref (Nat.lt_of_lt_of_le ha hmx)]
    refine va_bast hx hb hK hP wl_D hS a 1 hw rfl (inb_in hin) hg (fun H1 locs1 hP1 _ hS1 => ?_)
    rw [wl_set (h' := sI h a i.toNatClampNeg (vp_nar .byte x)) ha rfl (by rw [cel_ints hly (Or.inr (Or.inl rfl)), upd_sI]; rfl) (fun b hb => sI_ne hb)] at hP1
    exact k H1 locs1 lsS hP1 hS1 hl
  · have hw := wl_get (X := X) (dA := dA) ha
    rw [cel_ints hly (Or.inr (Or.inr rfl))] at hw
    rw [if_neg (by omega)] at k
    rw [List.map_cons, List.map_cons, List.map_cons, cv_ref (Nat.lt_of_lt_of_le ha hmx)]
    refine va_zast hx hb hK hP wl_D hS a 2 hw rfl (inb_in hin) hg (fun H1 locs1 hP1 _ hS1 => ?_)
    rw [wl_set (h' := sI h a i.toNatClampNeg (vp_nar .boolean x)) ha rfl (by rw [cel_ints hly (Or.inr (Or.inr rfl)), upd_sI]; rfl) (fun b hb => sI_ne hb)] at hP1
    exact k H1 locs1 lsS hP1 hS1 hl
theorem sd_aastore {pc len pc' : Nat} {ls st ls' st' : List Value} {h h' : AH} (C0 : Cx D dA X d mi n0 p R s m args meth c) (hi : ins mi pc = some (.aastore, len)) (hs : step mi (.aastore) pc ls st h = some (.inl (pc', ls', st', h'))) (hn0 : n0 ≤ hN h) (hw0 : w0 ≤ hW h) (hc1 : hN h' - n0 ≤ R.cells) (hc2 : hW h' - w0 ≤ R.slots) (hmx : hN h' ≤ 1000000) (hsc : hS h = X.2.2.2) (k : WW p l e R s m args below meth c Q D dA X n0 w0 mi pc' ls' st' h') : WW p l e R s m args below meth c Q D dA X n0 w0 mi pc ls st h := by
  obtain ⟨hx, hb, hml, hown, hts, ⟨hfr, hlo⟩, hini, ⟨hK, hNW, hAO⟩, hX1, hX2, hEX⟩ := C0
  have hg := dec_n hi (n := 0) rfl
  obtain ⟨a, i, x, r, rfl, hs⟩ := pRIR_inv hs
  obtain ⟨⟨⟨ha, hly⟩, ⟨hx1, hx2⟩, hin⟩, hs⟩ := ck_inv hs
  obtain ⟨rfl, rfl, rfl, rfl⟩ := nx_inv hs
  intro H locs lsS hP hS hl
  have hw := wl_get (X := X) (dA := dA) ha
  rw [cel_refs hly] at hw
  have hv := wl_get (X := X) (dA := dA) hx1
  rw [cel_obj hx2 (by omega)] at hv
  have hax : adr X x = X.1 + x := by rw [adr, if_pos (Nat.lt_of_lt_of_le hx1 hmx)]
  rw [List.map_cons, List.map_cons, List.map_cons, cv_ref (Nat.lt_of_lt_of_le ha hmx), cv_ref (Nat.lt_of_lt_of_le hx1 hmx)]
  refine va_astq (r := (RX7, TX7, 9)) hx hb hK hP wl_D hS a 4 x 6 hw rfl hv rfl (inb_in hin) hg (fun H1 locs1 hP1 _ hS1 => ?_)
  rw [wl_set (h' := sR h a i.toNatClampNeg (some x)) ha rfl ?_ (fun b hb => sR_ne hb)] at hP1
  · exact k H1 locs1 lsS hP1 hS1 hl
  · rw [cel_refs hly]
    have e : (fun j => (hR (sR h a i.toNatClampNeg (some x)) a j).map (adr X)) = va_up (fun j => (hR h a j).map (adr X)) i.toNatClampNeg (some (X.1 + x)) := by
      funext j
      rw [sR_hR]
      by_cases hj : j = i.toNatClampNeg
      · rw [if_pos ⟨rfl, hj⟩]
        simp [va_up, hj, hax]
      · rw [if_neg (fun z => hj z.2)]
        simp [va_up, hj]
    rw [e]
    rfl
end ST
