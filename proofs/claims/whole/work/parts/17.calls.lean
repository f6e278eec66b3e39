section ST
variable {p : Program} {l : Launch} {e : Env} {R : Room} {s : State} {m : MethodId} {args : Array Value} {below : List Frame} {meth : Method} {c : Code} {Q : State → Prop} {D : va_G} {dA : Nat → ClassId} {X : XT} {n0 w0 d mi : Nat}
theorem cll_inv {m' : Nat} {as r : List Value} {q : NX} (hs : cll m' as r = some q) : (flt as).length ≤ mlOf m' ∧ q = .inr (.inl (m', as, r)) := by
  unfold cll at hs
  split at hs
  · rename_i h
    exact ⟨h, (Option.some.inj hs).symm⟩
  · cases hs
theorem sp_call {a b : Nat × List Value × List Value} (h : (Sum.inr (Sum.inl a) : NX) = .inr (.inl b)) : a = b := by
  cases h
  rfl
/-- what a call needs of the callee -/
def MT (l : Launch) (X : XT) (dA : Nat → ClassId) (D : va_G) (d' m' : Nat) (as : List Value) (h : AH) (r : Option Value) (h1 : AH) : Prop := Met l (yOf m') (cwd m' :: GW) (RM d' h h1) (PR X dA D h as) (QR X dA D r h1) (hN h1 - hN h) (hW h1 - hW h) (fun q => X.1 ≤ q)
theorem room8 {r : List Value} (hr : r.length ≤ 4) : ((r.map (cv X)).map fun v => v.category).sum ≤ 8 := by
  have := cat_sum (X := X) r
  omega
theorem sd_call {pc len d' m' : Nat} {i : Instr} {ls st as rest : List Value} {h h1 : AH} {r : Option Value} (C0 : Cx D dA X (d' + 1) mi n0 p R s m args meth c) (hi : ins mi pc = some (i, len)) (hs : step mi i pc ls st h = some (.inr (.inl (m', as, rest)))) (hn0 : n0 ≤ hN h) (hw0 : w0 ≤ hW h) (hm1 : hN h ≤ hN h1) (hm2 : hW h ≤ hW h1) (hc1 : hN h1 - n0 ≤ R.cells) (hc2 : hW h1 - w0 ≤ R.slots) (hmx : hN h ≤ 1000000)
    (hM : m' < 291 → (flt as).length ≤ mlOf m' → MT l X dA D d' m' as h r h1) (hIx : (∃ idx, i = .invokevirtual idx) ∨ (∃ idx, i = .invokestatic idx) ∨ ∃ idx, i = .invokespecial idx)
    (k : WW p l e R s m args below meth c Q D dA X n0 w0 mi (pc + 3) ls (r.toList ++ rest) h1) : WW p l e R s m args below meth c Q D dA X n0 w0 mi pc ls st h := by
  have ho := oi_lt hi
  obtain ⟨hx, hb, hml, hown, hts, ⟨hfr, hlo⟩, hini, hWr, hX1, hX2, hEX⟩ := id C0
  obtain ⟨hK, hNW, hAO⟩ := id hWr
  have hroom : ∀ m', m' < 291 → (RM d' h h1).frames + 1 ≤ R.frames ∧ 8 + (mlOf m' + 11) + (RM d' h h1).locals ≤ R.locals := by
    intro m' hm
    have := (mt_f hm).2.2.1
    show d' + 1 + 1 ≤ _ ∧ 8 + (mlOf m' + 11) + 40 * (d' + 1) ≤ _
    omega
  have hfit : hN h - n0 + (hN h1 - hN h) = hN h1 - n0 ∧ hW h - w0 + (hW h1 - hW h) = hW h1 - w0 := by omega
  have hcs : hN h - n0 + (hN h1 - hN h) ≤ R.cells ∧ hW h - w0 + (hW h1 - hW h) ≤ R.slots := by omega
  have hd : ∀ m', m' < 291 → (yOf m').cls ≠ "java/lang/invoke/MethodHandle" ∧ (yOf m').cls ≠ "java/lang/invoke/VarHandle" ∧ (parseMethodDescriptor (yOf m').desc).map (fun d => d.parameters.length) = some (naOf m') := fun m' hm => ⟨(ow_f hm).1.1, (ow_f hm).1.2, (mt_f hm).2.1⟩
  have fin : ∀ (H : Heap) (locs : List Loc) (lsS : Array Slot) (a : Array Value), va_S (fun q => X.1 ≤ q) s.heap H locs → LV X (mlOf mi) lsS ls → va_Run p l e R s m args below meth c H locs (hN h - n0) (hW h - w0) (hN h1 - hN h) (hW h1 - hW h) (F0 m pc lsS (st.map (cv X))) (rest.map (cv X)) (QR X dA D r h1 a) (fun q => X.1 ≤ q) → W p l e R s m args below meth c H locs (hN h - n0) (hW h - w0) Q (F0 m pc lsS (st.map (cv X))) := by
    intro H locs lsS a hS hl hr
    refine cal_go hr hS (fun H1 locs1 hP1 hS1 => ?_)
    rw [hfit.1, hfit.2]
    exact k H1 locs1 lsS hP1 hS1 hl
  -- the facts of the heap at the call
  have szs : ∀ (H : Heap) (locs : List Loc), va_S (fun q => X.1 ≤ q) s.heap H locs → (∀ T : State, T.heap = H → Stand p l e R s m args below meth c T locs (hN h - n0) (hW h - w0) → H.size ≤ X.1 + hN h) ∧ X.1 ≤ H.size := by
    intro H locs hS
    refine ⟨fun T hT Z => ?_, Nat.le_trans hX1 hS.1⟩
    have := Z.heapSize
    rw [hT] at this
    omega
  rcases hIx with ⟨idx, rfl⟩ | ⟨idx, rfl⟩ | ⟨idx, rfl⟩
  · have hg := dec_n hi (n := 2) rfl
    change invV mi idx st h = _ at hs
    unfold invV at hs
    cases hf : mthT (oiOf mi) idx with
    | none => rw [hf] at hs; cases hs
    | some q =>
      obtain ⟨kd, m2, pl⟩ := q
      rw [hf] at hs
      have hlk := lk_f ho hf
      match kd, hs, hlk with
      | 0, hs, hlk =>
        cases h10 : Nat.blt (oiOf m2) 10 with
        | false =>
          simp only [h10, cond_false] at hs
          obtain ⟨as2, r2, rfl, hlen, hs⟩ := pA_inv hs
          obtain ⟨a, r3, rfl, hs⟩ := pR_inv hs
          obtain ⟨⟨hr4, rfl, ho13⟩, hs⟩ := ck_inv hs
          obtain ⟨hfl, hs⟩ := cll_inv hs
          cases sp_call hs
          simp only [lkOk, Bool.and_eq_true, decide_eq_true_eq] at hlk
          obtain ⟨⟨⟨h1', h2'⟩, h3'⟩, h4'⟩ := hlk
          have hms := (mt_f h2').2.2.2
          rw [if_neg (by unfold stOf; simpa using h3')] at hms
          intro H locs lsS hP hS hl
          have hcn : (yOf m').cls = "java/lang/String" := by
            rw [(mt_f h2').1, ho13]
            rfl
          have hex : cv X (.ref 1000001) = .ref (X.2.1 1) := rfl
          intro T hT Z
          have hsz := (szs H locs hS).1 T hT Z
          refine fin H locs lsS (((.ref 1000001 :: as2).map (cv X)).toArray) hS hl ?_ T hT Z
          have hst : (as2.reverse ++ Value.ref 1000001 :: rest).map (cv X) = (as2.map (cv X)).reverse ++ .ref (X.2.1 1) :: rest.map (cv X) := by
            rw [List.map_append, List.map_reverse, List.map_cons, hex]
          rw [hst]
          have hrv := vk_recv hEX.2.2.2.1 (Nat.lt_succ_self 0) hS
          rw [← hcn] at hrv
          have hgo := va_runV (cells := hN h - n0) (slots := hW h - w0) (locs := locs) (below := below) (meth := meth) (e := e) (g := F0 m pc lsS ((as2.map (cv X)).reverse ++ .ref (X.2.1 1) :: rest.map (cv X))) (b := X.2.1 1) (As := as2.map (cv X)) (rest := rest.map (cv X)) (Ts := GW) ⟨hx, hb, hml, hown, hts⟩ (hM h2' hfl) (⟨callB_of (naOf m') hts (cwG h2') rfl rfl rfl (hts _ (ow_f h2').2) (hts _ (hasW_mem h1')) (hd m' h2') (hroom m' h2'), hts _ hms, hts _ (hasW_mem h4')⟩ : CallW R s args _ (yOf m').cls _ _ _ _ _ _ _ _ _ _) ⟨PR_blind, hrv, fun U hU hW => PR_at (as := .ref 1000001 :: as2) hP hWr hEX hS (szs H locs hS).2 hsz U hU hW⟩ rfl (by rw [List.length_map]; exact hlen) hl.2.1 rfl (lv_room (room8 hr4)) hg hcs
          rw [List.map_cons, hex]
          exact hgo
        | true =>
        simp only [h10, cond_true] at hs
        have hci : oiOf m2 < 10 := by simpa [Nat.blt_eq] using h10
        obtain ⟨as2, r2, rfl, hlen, hs⟩ := pA_inv hs
        obtain ⟨a, r3, rfl, hs⟩ := pR_inv hs
        obtain ⟨⟨hr4, ha, hly⟩, hs⟩ := ck_inv hs
        obtain ⟨hfl, hs⟩ := cll_inv hs
        cases sp_call hs
        simp only [lkOk, Bool.and_eq_true, decide_eq_true_eq] at hlk
        obtain ⟨⟨⟨h1', h2'⟩, h3'⟩, h4'⟩ := hlk
        have hms := (mt_f h2').2.2.2
        rw [if_neg (by unfold stOf; simpa using h3')] at hms
        intro H locs lsS hP hS hl
        have hw := wl_get (X := X) (dA := dA) ha
        rw [cel_obj hly hci] at hw
        have hcn : (yOf m').cls = vwN (oiOf m') := by
          rw [(mt_f h2').1]
          have := (vw_f hci (k := 0) (by
            have : ∀ q, q < 10 → 0 < vwK q := by decide +kernel
            exact this _ hci)).2.1
          exact this.symm
        intro T hT Z
        have hsz := (szs H locs hS).1 T hT Z
        refine fin H locs lsS (((.ref a :: as2).map (cv X)).toArray) hS hl ?_ T hT Z
        have hst : (as2.reverse ++ Value.ref a :: rest).map (cv X) = (as2.map (cv X)).reverse ++ .ref (X.1 + a) :: rest.map (cv X) := by
          rw [List.map_append, List.map_reverse, List.map_cons, cv_ref (Nat.lt_of_lt_of_le ha hmx)]
        rw [hst]
        have hrv := va_recv hK hP (vw_at hci) hw
        rw [show ((vwN (oiOf m'), vwT (oiOf m'), vwK (oiOf m')) : vw_C).1 = (yOf m').cls from hcn.symm] at hrv
        have hgo := va_runV (cells := hN h - n0) (slots := hW h - w0) (locs := locs) (below := below) (meth := meth) (e := e) (g := F0 m pc lsS ((as2.map (cv X)).reverse ++ .ref (X.1 + a) :: rest.map (cv X))) (b := X.1 + a) (As := as2.map (cv X)) (rest := rest.map (cv X)) (Ts := GW) ⟨hx, hb, hml, hown, hts⟩ (hM h2' hfl) (⟨callB_of (naOf m') hts (cwG h2') rfl rfl rfl (hts _ (ow_f h2').2) (hts _ (hasW_mem h1')) (hd m' h2') (hroom m' h2'), hts _ hms, hts _ (hasW_mem h4')⟩ : CallW R s args _ (yOf m').cls _ _ _ _ _ _ _ _ _ _) ⟨PR_blind, hrv, fun U hU hW => by
          have := PR_at (as := .ref a :: as2) hP hWr hEX hS (szs H locs hS).2 hsz U hU hW
          rw [List.map_cons, cv_ref (Nat.lt_of_lt_of_le ha hmx)] at this
          exact this⟩ rfl (by rw [List.length_map]; exact hlen) hl.2.1 rfl (lv_room (room8 hr4)) hg hcs
        rw [List.map_cons, cv_ref (Nat.lt_of_lt_of_le ha hmx)]
        exact hgo
      | kd + 1, hs, _ => cases hs
  · have hg := dec_n hi (n := 2) rfl
    change invS mi idx pc ls st h = _ at hs
    unfold invS at hs
    cases hf : mthT (oiOf mi) idx with
    | none => rw [hf] at hs; cases hs
    | some q =>
      obtain ⟨kd, m2, pl⟩ := q
      rw [hf] at hs
      dsimp only at hs
      have hlk := lk_f ho hf
      split at hs
      · obtain ⟨as2, r2, rfl, hlen, hs⟩ := pA_inv hs
        obtain ⟨hr4, hs⟩ := ck_inv hs
        obtain ⟨hfl, hs⟩ := cll_inv hs
        cases sp_call hs
        simp only [lkOk, Bool.and_eq_true, decide_eq_true_eq] at hlk
        obtain ⟨⟨h1', h2'⟩, h3'⟩ := hlk
        have hms := (mt_f h2').2.2.2
        rw [if_pos (by unfold stOf; exact h3')] at hms
        intro H locs lsS hP hS hl T hT Z
        have hsz := (szs H locs hS).1 T hT Z
        refine fin H locs lsS ((as.map (cv X)).toArray) hS hl ?_ T hT Z
        rw [List.map_append, List.map_reverse]
        exact va_runS (cells := hN h - n0) (slots := hW h - w0) (locs := locs) (below := below) (meth := meth) (e := e) (Ts := GW) ⟨hx, hb, hml, hown, hts⟩ (hM h2' hfl) ⟨callB_of (naOf m') hts (cwG h2') rfl rfl rfl (hts _ (ow_f h2').2) (hts _ (hasW_mem h1')) (hd m' h2') (hroom m' h2'), hts _ hms⟩ ⟨PR_blind, fun U hU hW => PR_at hP hWr hEX hS (szs H locs hS).2 hsz U hU hW⟩ rfl (by rw [List.length_map]; exact hlen) hl.2.1 rfl (lv_room (room8 hr4)) hg hcs
      · obtain ⟨as2, r2, rfl, hlen, hs⟩ := pA_inv hs
        obtain ⟨hr4, hs⟩ := ck_inv hs
        obtain ⟨hfl, hs⟩ := cll_inv hs
        cases sp_call hs
        simp only [lkOk, Bool.and_eq_true, decide_eq_true_eq] at hlk
        obtain ⟨⟨h1', h2'⟩, h3'⟩ := hlk
        have hms := (mt_f h2').2.2.2
        rw [if_pos (by unfold stOf; exact h3')] at hms
        intro H locs lsS hP hS hl T hT Z
        have hsz := (szs H locs hS).1 T hT Z
        refine fin H locs lsS ((as.map (cv X)).toArray) hS hl ?_ T hT Z
        rw [List.map_append, List.map_reverse]
        exact va_runSN (cells := hN h - n0) (slots := hW h - w0) (locs := locs) (below := below) (meth := meth) (e := e) (Ts := GW) ⟨hx, hb, hml, hown, hts⟩ (hM h2' hfl) ⟨va_cnB (naOf m') hts (cwG h2') rfl rfl rfl (hNW _ (hasN_mem h1' rfl)) (hts _ (ow_f h2').2) (hd m' h2') (hroom m' h2'), hts _ hms, trivial⟩ ⟨PR_blind, fun U hU hW => PR_at hP hWr hEX hS (szs H locs hS).2 hsz U hU hW⟩ rfl (by rw [List.length_map]; exact hlen) hl.2.1 rfl (lv_room (room8 hr4)) hg hcs
      · obtain ⟨a0, sp, a, dp, n, r2, rfl, hs⟩ := pCopy_inv hs
        obtain ⟨-, hs⟩ := ck_inv hs
        cases hs
      · cases hs
  · have hg := dec_n hi (n := 2) rfl
    change invI mi idx pc ls st h = _ at hs
    unfold invI at hs
    cases hf : mthT (oiOf mi) idx with
    | none => rw [hf] at hs; cases hs
    | some q =>
      obtain ⟨kd, m2, pl⟩ := q
      rw [hf] at hs
      dsimp only at hs
      have hlk := lk_f ho hf
      split at hs
      · obtain ⟨as2, r2, rfl, hlen, hs⟩ := pA_inv hs
        obtain ⟨a, r3, rfl, hs⟩ := pR_inv hs
        obtain ⟨⟨hr4, ha, hly⟩, hs⟩ := ck_inv hs
        obtain ⟨hfl, hs⟩ := cll_inv hs
        cases sp_call hs
        simp only [lkOk, Bool.and_eq_true, decide_eq_true_eq] at hlk
        obtain ⟨⟨⟨⟨h1', h2'⟩, h3'⟩, h4'⟩, h5'⟩ := hlk
        have hms := (mt_f h2').2.2.2
        rw [if_neg (by unfold stOf; simpa using h3')] at hms
        intro H locs lsS hP hS hl T hT Z
        have hsz := (szs H locs hS).1 T hT Z
        refine fin H locs lsS (((.ref a :: as2).map (cv X)).toArray) hS hl ?_ T hT Z
        have hst : (as2.reverse ++ Value.ref a :: rest).map (cv X) = (as2.map (cv X)).reverse ++ .ref (X.1 + a) :: rest.map (cv X) := by
          rw [List.map_append, List.map_reverse, List.map_cons, cv_ref (Nat.lt_of_lt_of_le ha hmx)]
        have hM1 := hM h2' hfl
        rw [hst]
        have hcw : cwd m' = Jvm.Cond.code (yOf m') (cOf m') (mlOf m') none := by rw [← h5']; rfl
        have hgo := va_runI (cells := hN h - n0) (slots := hW h - w0) (locs := locs) (below := below) (meth := meth) (e := e) (g := F0 m pc lsS ((as2.map (cv X)).reverse ++ .ref (X.1 + a) :: rest.map (cv X))) (b := X.1 + a) (As := as2.map (cv X)) (rest := rest.map (cv X)) (Ts := GW) ⟨hx, hb, hml, hown, hts⟩ hM1 ⟨callB_of (naOf m') hts (cwG h2') (by rw [hcw]) rfl rfl (hts _ (ow_f h2').2) (hts _ (hasW_mem h1')) (hd m' h2') (hroom m' h2'), h4', hts _ hms⟩ ⟨PR_blind, fun U hU hW => by
          have := PR_at (as := .ref a :: as2) hP hWr hEX hS (szs H locs hS).2 hsz U hU hW
          rw [List.map_cons, cv_ref (Nat.lt_of_lt_of_le ha hmx)] at this
          exact this⟩ rfl (by rw [List.length_map]; exact hlen) hl.2.1 rfl (lv_room (room8 hr4)) hg hcs
        rw [List.map_cons, cv_ref (Nat.lt_of_lt_of_le ha hmx)]
        exact hgo
      · obtain ⟨as2, r2, rfl, hlen, hs⟩ := pA_inv hs
        obtain ⟨a, r3, rfl, hs⟩ := pR_inv hs
        obtain ⟨⟨hr4, ha, hly⟩, hs⟩ := ck_inv hs
        obtain ⟨hfl, hs⟩ := cll_inv hs
        cases sp_call hs
        simp only [lkOk, Bool.and_eq_true, decide_eq_true_eq] at hlk
        obtain ⟨⟨⟨⟨h1', h2'⟩, h3'⟩, h4'⟩, h5'⟩ := hlk
        have hms := (mt_f h2').2.2.2
        rw [if_neg (by unfold stOf; simpa using h3')] at hms
        intro H locs lsS hP hS hl T hT Z
        have hsz := (szs H locs hS).1 T hT Z
        refine fin H locs lsS (((.ref a :: as2).map (cv X)).toArray) hS hl ?_ T hT Z
        have hst : (as2.reverse ++ Value.ref a :: rest).map (cv X) = (as2.map (cv X)).reverse ++ .ref (X.1 + a) :: rest.map (cv X) := by
          rw [List.map_append, List.map_reverse, List.map_cons, cv_ref (Nat.lt_of_lt_of_le ha hmx)]
        have hM1 := hM h2' hfl
        rw [hst]
        have hcw : cwd m' = Jvm.Cond.code (yOf m') (cOf m') (mlOf m') none := by rw [← h5']; rfl
        have hgo := va_runIN (cells := hN h - n0) (slots := hW h - w0) (locs := locs) (below := below) (meth := meth) (e := e) (g := F0 m pc lsS ((as2.map (cv X)).reverse ++ .ref (X.1 + a) :: rest.map (cv X))) (b := X.1 + a) (As := as2.map (cv X)) (rest := rest.map (cv X)) (Ts := GW) ⟨hx, hb, hml, hown, hts⟩ hM1 ⟨va_cnB (naOf m') hts (cwG h2') (by rw [hcw]) rfl rfl (hNW _ (hasN_mem h1' rfl)) (hts _ (ow_f h2').2) (hd m' h2') (hroom m' h2'), h4', hts _ hms⟩ ⟨PR_blind, fun U hU hW => by
          have := PR_at (as := .ref a :: as2) hP hWr hEX hS (szs H locs hS).2 hsz U hU hW
          rw [List.map_cons, cv_ref (Nat.lt_of_lt_of_le ha hmx)] at this
          exact this⟩ rfl (by rw [List.length_map]; exact hlen) hl.2.1 rfl (lv_room (room8 hr4)) hg hcs
        rw [List.map_cons, cv_ref (Nat.lt_of_lt_of_le ha hmx)]
        exact hgo
      · obtain ⟨a, r2, rfl, hs⟩ := pR_inv hs
        obtain ⟨-, hs⟩ := ck_inv hs
        cases hs
      · cases hs
end ST
