-- ===== end of PART A; then your names; then what follows =====
/-! THE CLAIM OUT OF ONE WALK OF THE LAW'S BODY. Your part is whole_start (and what it stands on); all else here is the same for every law, but numbers. -/
def R_law : String := "BlissMarketLaw"
def lw_P (b : Addr) (xs : List Int32) (args : Array Value) (s : State) : Prop := args = #[.ref b] ∧ s.IntsAt b xs ∧ xs.length ≤ 3072 ∧ (Jvm.Cond.and given_1 narrow_1).before args s = true
def lw_Q (_ : Array Value) (s : State) (o : Outcome) (t : State) : Prop := o = .returned (some (.int 1)) ∧ Framed s o t [] 600000 7302250
def lw_Z (below : List Frame) (a : Array Value) (s : State) : State → Prop := fun t => ∃ o, t.status = .running ∧ Ended t below o ∧ lw_Q a s o t
/-- the law's own end, with 1 on the stack, nothing written that was there before, its room as the claim has it -/
theorem lw_ret {p : Program} {l : Launch} {e : Env} {s : State} {m : MethodId} {below : List Frame} {meth : Method} {c : Code} {b : Nat} (hx : p.tables.exec = Jvm.exec) (hb : c.code = code) (hr : meth.sig.returnType = ret) (hlocks : meth.locks = false) {pc : Nat} {H : Heap} {ls : Array Slot} (hdg : decode code pc = .ok (.ireturn, 1)) : W p l e room_1 s m #[Value.ref b] below meth c H [] 600000 7302250 (lw_Z below #[Value.ref b] s) (F0 m pc ls [.int 1]) := by
  intro T hT X
  obtain ⟨fs, hret, hrun, hended, hW, hframe⟩ := X.leave (v := some (.int 1)) (hlocks := hlocks) (fun h => by rw [hr] at h; cases h)
  have hmeth' : T.vm.method? m = some meth := X.method'
  refine ⟨T.setFrames fs, ?_, .returned (some (.int 1)), hrun, hended, rfl, ⟨_, rfl⟩, hW, hframe⟩
  jvm_step X.here [X.here.top, hx, hb, hdg, hmeth', hr, ret, narrow_b1]
  (try refine ⟨rfl, ?_⟩); (try refine ⟨rfl, ?_⟩)
  first | (intro acts; rw [hret _ acts rfl rfl rfl]) | rw [hret _ _ rfl rfl rfl]
  exact Steps.refl _
/-- what holds at the law's entry: the machine, the code, the tables' words (any of lw_tbl by 'hts w (by decide +kernel)'), the script of L ints xs at the cell b, what the Statement gives of the start (any of its parts by flat_of_before) -/
def lw_At (p : Program) (s : State) (m : MethodId) (meth : Method) (c : Code) (b L : Nat) (xs : Nat → Int32) : Prop :=
  p.tables.exec = Jvm.exec ∧ c.code = code ∧ meth.sig.returnType = ret ∧ c.maxLocals = 4 ∧ s.vm.findClass R_law = some m.cls ∧ (∀ w ∈ lw_tbl, w.before #[Value.ref b] s = true) ∧ va_X b L xs s s.heap ∧ b < s.heap.size ∧ meth.locks = false ∧ (Jvm.Cond.and given_1 narrow_1).before #[Value.ref b] s = true

/-! THE LAW, out of one run of the reader -/
theorem ret_int {mi pc : Nat} {i : Instr} {ls st : List Value} {h : AH} {v : Int32} (hs : step mi i pc ls st h = some (.inr (.inr (some (.int v))))) : i = .ireturn ∧ st = [.int v] := by
  have hno : ∀ {m' : Nat} {as r1 : List Value}, cll m' as r1 = some (.inr (.inr (some (.int v)))) → False := by
    intro m' as r1 z
    have := (cll_inv z).2
    cases this
  cases hrc : isRC i with
  | false =>
    obtain ⟨t, ht, h1⟩ := step_nxt (mi := mi) (pc := pc) (ls := ls) (st := st) (h := h) hrc _ hs
    cases ht
  | true =>
    cases i <;> try (exact Bool.noConfusion (show false = true from hrc))
    case ireturn =>
      obtain ⟨x, rfl, hs1⟩ := pIe_inv hs
      split at hs1
      · cases hs1
        exact ⟨rfl, rfl⟩
      · have := (ck_inv hs1).2
        cases this
        exact ⟨rfl, rfl⟩
      · have := (ck_inv hs1).2
        cases this
        exact ⟨rfl, rfl⟩
      · cases hs1
    case lreturn =>
      obtain ⟨x, rfl, hs1⟩ := pJe_inv hs
      split at hs1 <;> cases hs1
    case areturn =>
      obtain ⟨x, rfl, hs1⟩ := pRe_inv hs
      split at hs1 <;> cases hs1
    case return_ =>
      obtain ⟨rfl, hs1⟩ := pE_inv hs
      split at hs1 <;> cases hs1
    case invokevirtual idx =>
      change invV mi idx st h = _ at hs
      unfold invV at hs
      cases hf : mthT (oiOf mi) idx with
      | none => rw [hf] at hs; cases hs
      | some q =>
        obtain ⟨kd, m2, pl⟩ := q
        rw [hf] at hs
        dsimp only at hs
        split at hs
        · cases h10 : Nat.blt (oiOf m2) 10 with
          | false =>
            simp only [h10, cond_false] at hs
            obtain ⟨as2, r2, -, -, hs1⟩ := pA_inv hs
            obtain ⟨a, r3, -, hs2⟩ := pR_inv hs1
            exact absurd (ck_inv hs2).2 (fun z => hno z)
          | true =>
            simp only [h10, cond_true] at hs
            obtain ⟨as2, r2, -, -, hs1⟩ := pA_inv hs
            obtain ⟨a, r3, -, hs2⟩ := pR_inv hs1
            exact absurd (ck_inv hs2).2 (fun z => hno z)
        · cases hs
    case invokestatic idx =>
      change invS mi idx pc ls st h = _ at hs
      unfold invS at hs
      cases hf : mthT (oiOf mi) idx with
      | none => rw [hf] at hs; cases hs
      | some q =>
        obtain ⟨kd, m2, pl⟩ := q
        rw [hf] at hs
        dsimp only at hs
        split at hs
        · obtain ⟨as2, r2, -, -, hs1⟩ := pA_inv hs
          exact absurd (ck_inv hs1).2 (fun z => hno z)
        · obtain ⟨as2, r2, -, -, hs1⟩ := pA_inv hs
          exact absurd (ck_inv hs1).2 (fun z => hno z)
        · obtain ⟨a0, sp, a, dp, n, r, -, hs1⟩ := pCopy_inv hs
          obtain ⟨-, hs2⟩ := ck_inv hs1
          cases hs2
        · cases hs
    case invokespecial idx =>
      change invI mi idx pc ls st h = _ at hs
      unfold invI at hs
      cases hf : mthT (oiOf mi) idx with
      | none => rw [hf] at hs; cases hs
      | some q =>
        obtain ⟨kd, m2, pl⟩ := q
        rw [hf] at hs
        dsimp only at hs
        split at hs
        · obtain ⟨as2, r2, -, -, hs1⟩ := pA_inv hs
          obtain ⟨a, r3, -, hs2⟩ := pR_inv hs1
          exact absurd (ck_inv hs2).2 (fun z => hno z)
        · obtain ⟨as2, r2, -, -, hs1⟩ := pA_inv hs
          obtain ⟨a, r3, -, hs2⟩ := pR_inv hs1
          exact absurd (ck_inv hs2).2 (fun z => hno z)
        · obtain ⟨a, r, -, hs1⟩ := pR_inv hs
          obtain ⟨-, hs2⟩ := ck_inv hs1
          cases hs2
        · cases hs
theorem GW_tbl {w : Jvm.Cond} (h : w ∈ GW) : w ∈ lw_tbl := (List.mem_filter.mp h).1
theorem arr_known {s : State} {args : Array Value} {ty : FieldType} (hobj : ∀ C, ty ≠ .object C) (h : (Jvm.Cond.arrayClass ty).before args s = true) : ∃ cA : ClassId, ArrOfT s cA ty ∧ va_RA s cA ty := by
  obtain ⟨c, k, comp, h1, h2, h3⟩ := Cond.arrayClass_spec h
  refine ⟨c, fun n z => ⟨fun k h => (by cases h), k, h2, comp, h3⟩, ?_⟩
  cases ty with
  | object C => exact absurd rfl (hobj C)
  | _ => exact h1
theorem over_known {s : State} {C : String} (h : va_AO C s) : ∃ cA : ClassId, ArrOfT s cA (.object C) ∧ va_RA s cA (.object C) := by
  obtain ⟨comp, c, k, h1, h2, h3, h4, h5⟩ := Cond.arrayOver_spec h
  exact ⟨c, fun n z => ⟨fun k h => (by cases h), k, h3, comp, h4⟩, k, comp, h3, h4, h1, h5⟩
theorem cOf_law : cOf 291 = code := by
  have h : mCs[291]? = some cL_law := by
    rw [mCs_eq]
    rfl
  unfold cOf
  rw [List.getD_eq_getElem?_getD, h]
  rfl
theorem isIni_law : isIni 291 = false := by decide +kernel
abbrev flT : List Jvm.Cond := flatC (Jvm.Cond.and given_1 narrow_1)
def elC (j : Nat) : Jvm.Cond := .eq (.elem (.field (.string RX6 25) "java/lang/String" "value" "[B") (.int (Int32.ofNat j))) (.int (ownBs.getD j 0))
theorem el_0 : ((List.range 52).all fun j => decide (flT[16 + j]? = some (elC j))) = true := by decide +kernel
theorem el_1 : ((List.range 52).all fun j => decide (flT[16 + (52 + j)]? = some (elC (52 + j)))) = true := by decide +kernel
theorem el_2 : ((List.range 52).all fun j => decide (flT[16 + (104 + j)]? = some (elC (104 + j)))) = true := by decide +kernel
theorem el_3 : ((List.range 52).all fun j => decide (flT[16 + (156 + j)]? = some (elC (156 + j)))) = true := by decide +kernel
theorem el_at {j : Nat} (hj : j < 208) : flT[16 + j]? = some (elC j) := by
  have hd : j < 52 ∨ (52 ≤ j ∧ j < 104) ∨ (104 ≤ j ∧ j < 156) ∨ 156 ≤ j := by omega
  rcases hd with h | h | h | h
  · have := List.all_eq_true.mp el_0 j (List.mem_range.mpr h)
    exact of_decide_eq_true this
  · have := List.all_eq_true.mp el_1 (j - 52) (List.mem_range.mpr (by omega))
    have := of_decide_eq_true this
    rwa [show 52 + (j - 52) = j by omega] at this
  · have := List.all_eq_true.mp el_2 (j - 104) (List.mem_range.mpr (by omega))
    have := of_decide_eq_true this
    rwa [show 104 + (j - 104) = j by omega] at this
  · have := List.all_eq_true.mp el_3 (j - 156) (List.mem_range.mpr (by omega))
    have := of_decide_eq_true this
    rwa [show 156 + (j - 156) = j by omega] at this
theorem kn_at {s : State} {args : Array Value} (hts : ∀ w ∈ GW, w.before args s = true) (ci : Nat) (hci : ci < 10) : ∃ (cC : ClassId) (iS : Nat → Nat), u_Kn s (vwN ci) (vwT ci) (vwK ci) cC iS := by
  have h1 : ∀ q, q < 10 → hasW (kPi.getD q 0) (.instantiable (vwN q) (vwK q)) = true := by decide +kernel
  exact u_known hts (vw_ws hci) (hts _ (hasW_mem (h1 ci hci)))
theorem whole_start {p : Program} {e : Env} {s : State} {m : MethodId} {below : List Frame} {meth : Method} {c : Code} (l : Launch) (hflags : l.flags = flags0) {b L : Nat} {xs : Nat → Int32} (hL : L ≤ 3072) (C0 : lw_At p s m meth c b L xs) : W p l e room_1 s m #[Value.ref b] below meth c s.heap [] 0 0 (lw_Z below #[Value.ref b] s) (entryFrame m ([Value.ref b] : List Value).toArray 4) := by
  obtain ⟨hx, hb, hr, hml, hown, hts0, hX, hbl, hlocks, hgv⟩ := C0
  have hts : ∀ w ∈ GW, w.before #[Value.ref b] s = true := fun w h => hts0 w (GW_tbl h)
  -- the classes
  have hkn : ∀ ci : Nat, ∃ q : ClassId × (Nat → Nat), ci < 10 → u_Kn s (vwN ci) (vwT ci) (vwK ci) q.1 q.2 := by
    intro ci
    by_cases h : ci < 10
    · obtain ⟨cC, iS, h1⟩ := kn_at hts ci h
      exact ⟨(cC, iS), fun _ => h1⟩
    · exact ⟨(0, fun _ => 0), fun z => absurd z h⟩
  obtain ⟨DD, hDD⟩ := Classical.axiomOfChoice hkn
  have hAO : va_AO RX7 s := by
    have := hts0 (.arrayOver (.object "BlissMarket$State")) (List.mem_of_getElem? (i := 506) (by decide +kernel))
    exact va_AO.of this
  obtain ⟨a10, k10⟩ := arr_known (s := s) (fun C z => by cases z) (hts _ ac_in.1)
  obtain ⟨a11, k11⟩ := arr_known (s := s) (fun C z => by cases z) (hts _ ac_in.2.1)
  obtain ⟨a12, k12⟩ := arr_known (s := s) (fun C z => by cases z) (hts _ ac_in.2.2.1)
  obtain ⟨a13, k13⟩ := arr_known (s := s) (fun C z => by cases z) (hts _ ac_in.2.2.2)
  obtain ⟨a14, k14⟩ := over_known hAO
  -- what the statement says of the start
  have hf := flat_of_before _ hgv
  have hA : ∀ a : Nat, a < s.heap.size → ¬ (fun q : Nat => s.heap.size ≤ q) a := fun a h z => absurd h (Nat.not_lt.mpr z)
  have hlays : ∀ (C n d : String), Jvm.Cond.laysStatic C n d ∈ lw_tbl → (Jvm.Cond.laysStatic C n d).before #[Value.ref b] s = true := fun C n d h => hts0 _ h
  obtain ⟨tN, htN, hTN⟩ := va_Tof (N := 0) (f := fun _ => .int 0) (A := fun q : Nat => s.heap.size ≤ q) (ty := .int) (by decide) (hf (.arrayOf (.static RX0 "NOT_TOLD" "[I") .int) (by decide +kernel)) (va_eqt (hf (.eq (.length (.static RX0 "NOT_TOLD" "[I")) (.int 0)) (by decide +kernel))) (fun j hj => absurd hj (Nat.not_lt_zero j)) hA
  have hZN := va_Zref (A := fun q : Nat => s.heap.size ≤ q) (hlays RX0 "NOT_TOLD" "[I" (List.mem_of_getElem? (i := 270) (by decide +kernel))) (hts0 (.initialized RX0) (List.mem_of_getElem? (i := 137) (by decide +kernel))) htN hA
  have hZC := va_Zof (A := fun q : Nat => s.heap.size ≤ q) (hlays "java/lang/String" "COMPACT_STRINGS" "Z" (List.mem_of_getElem? (i := 172) (by decide +kernel))) (hts0 (.initialized "java/lang/String") (List.mem_of_getElem? (i := 132) (by decide +kernel))) (va_eqi (hf (.eq (.static "java/lang/String" "COMPACT_STRINGS" "Z") (.int 1)) (by decide +kernel))) hA
  have hZS := va_Zqof (A := fun q : Nat => s.heap.size ≤ q) (hlays "jdk/internal/util/Preconditions" "SIOOBE_FORMATTER" "Ljava/util/function/BiFunction;" (List.mem_of_getElem? (i := 180) (by decide +kernel))) (hts0 (.initialized "jdk/internal/util/Preconditions") (List.mem_of_getElem? (i := 134) (by decide +kernel))) (hf (.isRef (.static "jdk/internal/util/Preconditions" "SIOOBE_FORMATTER" "Ljava/util/function/BiFunction;")) (by decide +kernel)) hA
  obtain ⟨sio, hsio⟩ : ∃ sio : Option Nat, va_Z "jdk/internal/util/Preconditions" "SIOOBE_FORMATTER" "Ljava/util/function/BiFunction;" (va_rf sio) (fun q : Nat => s.heap.size ≤ q) s s.heap := by
    rcases hZS with h | ⟨t, h⟩
    · exact ⟨none, h⟩
    · exact ⟨some t, h⟩
  have hone : ∀ i : Nat, i < 1 → i = 0 := fun i h => by omega
  have hstr : ∀ i : Nat, i < 1 → ([208].getD i 0) < 2 ^ 31 := fun i h => by rw [hone i h]; decide
  obtain ⟨adK, adV, hSS, hSe⟩ := vk_Sof (A := fun q : Nat => s.heap.size ≤ q) (args := #[Value.ref b]) (s := s) (N := 1) (tm := fun _ => Term.string RX6 25) (len := [208]) (byt := [ownBs]) hstr
    (fun i h => hf (.exactly (.string RX6 25) "java/lang/String") (by decide +kernel))
    (fun i h => hf (.eq (.field (.string RX6 25) "java/lang/String" "coder" "B") (.int 0)) (by decide +kernel))
    (fun i h => hf (.arrayOf (.field (.string RX6 25) "java/lang/String" "value" "[B") .byte) (by decide +kernel))
    (fun i h => by rw [hone i h]; exact hf (.eq (.length (.field (.string RX6 25) "java/lang/String" "value" "[B")) (.int (Int32.ofNat 208))) (by decide +kernel))
    (fun i h j hj => by
      rw [hone i h] at hj ⊢
      exact hf _ (List.mem_of_getElem? (el_at hj)))
    (fun i j hi hj hij => absurd ((hone i hi).trans (hone j hj).symm) hij) hA
  have hvR : vk_R RX6 25 ownTx (adK 0) s := vk_R.of (hts0 (.stringRef RX6 25 ownTx) (List.mem_of_getElem? (i := 162) (by decide +kernel))) (hSe 0 (Nat.lt_succ_self 0))
  -- the reader's world at the start
  obtain ⟨X, hXd⟩ : ∃ X : XT, X = (s.heap.size, (fun k => if k = 0 then tN else if k = 1 then adK 0 else if k = 2 then adV 0 else b), sio, (L, xs)) := ⟨_, rfl⟩
  obtain ⟨dA, hdA⟩ : ∃ dA : Nat → ClassId, dA = fun k => if k = 10 then a10 else if k = 11 then a11 else if k = 12 then a12 else if k = 13 then a13 else a14 := ⟨_, rfl⟩
  have hTs : va_T .int b L (fun j => .int (xs j)) (fun q : Nat => s.heap.size ≤ q) s s.heap := by
    obtain ⟨scr, h1, h2, h3, h4, h5⟩ := hX
    exact ⟨scr, h1, h2, h3, by rw [h4]; exact Nat.le_refl _, by rw [h4], h5, hA b hbl⟩
  have hEX : EXT X s s.heap := by
    rw [hXd]
    exact ⟨hZN, hTN, hvR, ⟨fun i hi => by rw [hone i hi]; exact hSS.1 0 (Nat.lt_succ_self 0), fun i j hi hj _ => (hone i hi).trans (hone j hj).symm⟩, hZC, hsio, hTs⟩
  have hK : va_K ((fun ci => (DD ci).1), (fun ci => (DD ci).2)) vwCl (tysA dA) s := by
    refine ⟨fun ci q hq => ?_, fun k q hk => ?_⟩
    · have hci : ci < 10 := (List.getElem?_eq_some_iff.mp hq).1
      rw [vw_at hci] at hq
      cases hq
      exact hDD ci hci
    · rw [hdA] at hk
      match k, hk with
      | 0, hk => cases hk; exact k10
      | 1, hk => cases hk; exact k11
      | 2, hk => cases hk; exact k12
      | 3, hk => cases hk; exact k13
      | 4, hk => cases hk; exact k14
      | k + 5, hk => cases hk
  have hNW : ∀ w ∈ NW, va_Nw w s := fun w hw => va_Nw.of (nst_tab (List.mem_filter.mp hw).2) (hts0 w (List.mem_filter.mp hw).1)
  have C1 : Cx ((fun ci => (DD ci).1), (fun ci => (DD ci).2)) dA X 1000 291 0 p room_1 s m #[Value.ref b] meth c := by
    refine ⟨hx, by rw [cOf_law]; exact hb, hml, hown, hts, ⟨by decide, by decide⟩, fun z => (by rw [isIni_law] at z; cases z), ⟨hK, hNW, hAO⟩, by rw [hXd]; exact Nat.le_refl _, by rw [hXd]; exact Nat.le_refl _, hEX⟩
  obtain ⟨f, r, h', hxc, hr1, hcN, hcW⟩ := lawG L xs hL
  have k := sound f p l e room_1 s m #[Value.ref b] below meth c (lw_Z below #[Value.ref b] s) ((fun ci => (DD ci).1), (fun ci => (DD ci).2)) dA X 0 0 1000 291 0 _ [] (h00 L xs) r h' hxc C1 (Nat.zero_le _) (Nat.zero_le _) (show hN h' - 0 ≤ 600000 by omega) (show hW h' - 0 ≤ 7302250 by omega) (by omega) (by rw [hXd]; rfl) (fun pcR lsR stR i len hi hs => by
    subst hr1
    obtain ⟨rfl, rfl⟩ := ret_int hs
    have hg := dec_n hi (n := 0) rfl
    rw [cOf_law] at hg
    intro H locs lsS hP hS hl
    refine va_forget (fun q hq => by have := hS.2.2 q hq; rw [hXd] at this; exact this) ?_
    refine W.widen (k := 600000) (n := 7302250) (by omega) (by omega) ?_
    exact lw_ret hx hb hr hlocks hg)
  have hl0 := LV_ent (X := X) (ml := 4) (as := [.ref 1000003]) (by decide)
  have hP0 : va_P ((fun ci => (DD ci).1), (fun ci => (DD ci).2)) vwCl (wl X dA (h00 L xs)) s.heap := fun k q h => by
    simp [wl, h00, hN] at h
  have k1 := k s.heap [] _ hP0 va_S.rf hl0
  have e1 : ([Value.ref 1000003] : List Value).map (cv X) = [Value.ref b] := by
    rw [hXd]
    rfl
  rw [e1] at k1
  rw [lg_entry_eq]
  exact k1
-- ===== YOUR PART ENDS =====
set_option maxHeartbeats 4000000 in
theorem lw_walk (l : Launch) (hflags : l.flags = flags0) (b : Addr) (xs : List Int32) : MetFree l x (headSpec (Jvm.Cond.code x code maxLocals ret :: tables_1) room_1) (lw_P b xs) (fun _ _ _ _ _ => True) lw_Q := by
  refine MetFree.of_bodyS (code := code) (maxLocals := maxLocals) (ret := ret) (by decide) ?_ ?_
  · intro args s m h hn
    obtain ⟨meth, c, h1, h2, h3, h4, h5, h6, -, -⟩ := Cond.code_spec hn (atoms_spec (ws := Jvm.Cond.code x code maxLocals ret :: tables_1) h _ List.mem_cons_self)
    exact ⟨meth, c, h1, h2, h3, h4, h5, h6⟩
  · intro p e s m args below meth c s₁ B hml0 hP _
    obtain ⟨rfl, hx, hbd, hgv⟩ := hP
    obtain ⟨scr, harrAt, hlist, hof, hsmall⟩ := hx
    obtain ⟨hcb, hkn, -, -⟩ := State.arrayAt?_spec harrAt
    have hown : s.vm.findClass R_law = some m.cls := findClass_of_methodNamed B.named
    have hts0 : ∀ c ∈ (Jvm.Cond.code x code maxLocals ret :: tables_1), c.before #[Value.ref b] s = true := atoms_spec (ws := Jvm.Cond.code x code maxLocals ret :: tables_1) B.pre
    have hts : ∀ w ∈ lw_tbl, w.before #[Value.ref b] s = true := k2_hts_sels lw_privs (fun w hw => hts0 w (List.mem_cons_of_mem _ hw)) lw_privs_ok
    have hml : c.maxLocals = 4 := B.maxLocals_eq (hts0 _ List.mem_cons_self)
    have X₀ : Stand p l e room_1 s m #[Value.ref b] below meth c s₁ [] 0 0 := Stand.of_body B
    have hh0 : s₁.heap = s.heap := by rw [B.state]; rfl
    have hsz : scr.slots.size = xs.length := by rw [← Array.length_toList, hlist, List.length_map]
    have hval : ∀ j : Nat, j < xs.length → scr.slots[j]? = some (.int (xs.getD j 0)) := fun j hj => by
      rw [← Array.getElem?_toList, hlist]
      simp [hj]
    have hbl : b < s.heap.size := (Array.getElem?_eq_some_iff.mp hcb).1
    have hX : va_X b xs.length (fun j => xs.getD j 0) s s.heap := ⟨scr, hcb, hof, hkn, hsz, hval⟩
    have K : W p l e room_1 s m #[Value.ref b] below meth c s₁.heap [] 0 0 (lw_Z below #[Value.ref b] s) (entryFrame m ([Value.ref b] : List Value).toArray 4) := by
      rw [hh0]
      exact whole_start l hflags hbd ⟨B.exec, B.bytes, B.returns, hml, hown, hts, hX, hbl, B.notSynchronized, hgv⟩
    obtain ⟨t, a1, o, b1, b2, b3⟩ := K s₁ rfl X₀
    exact ⟨t, o, a1, b1, b2, b3⟩
theorem lw_pre_spec {args : Array Value} {s : State} (h : (Jvm.Cond.and given_1 narrow_1).before args s = true) (hr : rest_1_c.before args s = true) : ∃ (b : Addr) (xs : List Int32), lw_P b xs args s := by
  have hs := flat_of_before _ h
  have hq := flat_of_before _ hr
  have hc : (Cond.count 1).before args s = true := hs _ (by decide +kernel)
  have harr : (Cond.arrayOf (.arg 0) .int).before args s = true := hs _ (by decide +kernel)
  have hle : (Cond.le (.length (.arg 0)) (.int 3072)).before args s = true := hs _ (by decide +kernel)
  have hlen : (Cond.isInt (.length (.arg 0))).before args s = true := hq _ (by decide +kernel)
  have hall : (Cond.all (.arg 0) (.isInt (.elem (.arg 0) (.index 0)))).before args s = true := hq _ (by decide +kernel)
  obtain ⟨b, xs, hb, hx⟩ := State.ints_of_pre rfl harr hlen hall
  have hsm : xs.length < 2 ^ 31 := hx.choose_spec.2.2.2
  have hev : (Term.length (.arg 0)).eval args s none [] s = some (.int xs.length.toInt32) := hx.length_eval hb
  have hv := Cond.le_ints hev (show (Term.int 3072).eval args s none [] s = some (.int 3072) from rfl)
  have hd : xs.length.toInt32 ≤ 3072 := by
    simpa [Cond.before, Cond.holds, hv] using hle
  have hN : xs.length ≤ 3072 := (Int32.ofNat_le_ofNat hsm (by decide)).mp (show Int32.ofNat xs.length ≤ Int32.ofNat 3072 from hd)
  exact ⟨b, xs, Cond.one_arg hc (show args[0]? = some (.ref b) from hb), hx, hN, h⟩
theorem lw_comes (l : Launch) (hflags : l.flags = flags0) : Comes l x (Jvm.Cond.code x code maxLocals ret :: tables_1) room_1 (fun tb e args s => Calls_1 tb e args s ∧ rest_1 tb e args s ∧ Pre_1 tb e args s)
    (fun _ _ args s o t => lw_Q args s o t) := by
  intro p e ha hc hk s m args below hf hfit hheap happ hpre
  obtain ⟨b, xs, hP⟩ := lw_pre_spec hpre.2.2 hpre.2.1
  obtain ⟨k, o, h1, h2, h3, hQ⟩ := lw_walk l hflags b xs p e ha hc hk s m args below hf ((Spec.applies_iff_loose hf).mp happ).1 hP trivial
  exact ⟨k, o, h1, h2, h3, hQ⟩
theorem lw_frame {s t : State} {o : Outcome} {args : Array Value} (h : Framed s o t [] 600000 7302250) :
    Framed s o t (fieldLocs frame_1_writes args s ++ arrayLocs frame_1_arrays args s ++ staticLocs frame_1_statics s) 600000 7302250 := h
theorem lw_limb (L : Cond) (hL : ∀ (args : Array Value) (s t : State), L.after args s (.returned (some (.int 1))) t = true) :
    ArmFor flags0 classFile x code maxLocals ret World_1 tables_1 room_1 Calls_1 rest_1 Pre_1
      (fun tb e a s o t => postC L tb e a s o t ∧ Framed s o t (fieldLocs frame_1_writes a s ++ arrayLocs frame_1_arrays a s ++ staticLocs frame_1_statics s) 600000 7302250) := by
  intro l hflags _ _ p e ha hc hk s m args below hf hfit hheap happ hpre
  obtain ⟨k, o, h1, h2, h3, rfl, hF⟩ := lw_comes l hflags p e ha hc hk s m args below hf hfit hheap happ hpre
  exact ⟨k, _, h1, h2, h3, hL args s _, lw_frame hF⟩
theorem i_vc : Claimed_1_1 ∧ Claimed_1_2 := ⟨lw_limb limb_1_1 (fun args s t => by simp [limb_1_1, Cond.after, Cond.holds, Cond.value]), lw_limb limb_1_2 (fun args s t => Cond.after_iff.mpr (by
  first | (rw [show limb_1_2 = Cond.eq .result (.int 1) from rfl, Cond.eq_ints (x := 1) (y := 1) rfl rfl]; simp; done) | (simp [limb_1_2, Cond.value, Term.eval]; done)))⟩
