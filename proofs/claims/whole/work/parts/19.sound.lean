section ST
variable {p : Program} {l : Launch} {e : Env} {R : Room} {s : State} {m : MethodId} {args : Array Value} {below : List Frame} {meth : Method} {c : Code} {Q : State → Prop} {D : va_G} {dA : Nat → ClassId} {X : XT} {n0 w0 d mi : Nat}
/-- a step that goes on -/
theorem sd_all {pc len pc' : Nat} {i : Instr} {ls st ls' st' : List Value} {h h' : AH} (C0 : Cx D dA X d mi n0 p R s m args meth c) (hi : ins mi pc = some (i, len)) (hs : step mi i pc ls st h = some (.inl (pc', ls', st', h'))) (hn0 : n0 ≤ hN h) (hw0 : w0 ≤ hW h) (hc1 : hN h' - n0 ≤ R.cells) (hc2 : hW h' - w0 ≤ R.slots) (hmx : hN h' ≤ 1000000) (hmx0 : hN h ≤ 1000000) (hsc : hS h = X.2.2.2) (k : WW p l e R s m args below meth c Q D dA X n0 w0 mi pc' ls' st' h') : WW p l e R s m args below meth c Q D dA X n0 w0 mi pc ls st h := by
  cases i
  case iadd => exact sd_iadd C0 hi hs hn0 hw0 hc1 hc2 hmx hsc k
  case isub => exact sd_isub C0 hi hs hn0 hw0 hc1 hc2 hmx hsc k
  case imul => exact sd_imul C0 hi hs hn0 hw0 hc1 hc2 hmx hsc k
  case iand => exact sd_iand C0 hi hs hn0 hw0 hc1 hc2 hmx hsc k
  case ior => exact sd_ior C0 hi hs hn0 hw0 hc1 hc2 hmx hsc k
  case ixor => exact sd_ixor C0 hi hs hn0 hw0 hc1 hc2 hmx hsc k
  case ishl => exact sd_ishl C0 hi hs hn0 hw0 hc1 hc2 hmx hsc k
  case ishr => exact sd_ishr C0 hi hs hn0 hw0 hc1 hc2 hmx hsc k
  case iushr => exact sd_iushr C0 hi hs hn0 hw0 hc1 hc2 hmx hsc k
  case idiv => exact sd_idiv C0 hi hs hn0 hw0 hc1 hc2 hmx hsc k
  case irem => exact sd_irem C0 hi hs hn0 hw0 hc1 hc2 hmx hsc k
  case ladd => exact sd_ladd C0 hi hs hn0 hw0 hc1 hc2 hmx hsc k
  case lsub => exact sd_lsub C0 hi hs hn0 hw0 hc1 hc2 hmx hsc k
  case lmul => exact sd_lmul C0 hi hs hn0 hw0 hc1 hc2 hmx hsc k
  case land => exact sd_land C0 hi hs hn0 hw0 hc1 hc2 hmx hsc k
  case lor => exact sd_lor C0 hi hs hn0 hw0 hc1 hc2 hmx hsc k
  case lxor => exact sd_lxor C0 hi hs hn0 hw0 hc1 hc2 hmx hsc k
  case ldiv => exact sd_ldiv C0 hi hs hn0 hw0 hc1 hc2 hmx hsc k
  case lrem => exact sd_lrem C0 hi hs hn0 hw0 hc1 hc2 hmx hsc k
  case lcmp => exact sd_lcmp C0 hi hs hn0 hw0 hc1 hc2 hmx hsc k
  case lshl => exact sd_lshl C0 hi hs hn0 hw0 hc1 hc2 hmx hsc k
  case lshr => exact sd_lshr C0 hi hs hn0 hw0 hc1 hc2 hmx hsc k
  case ineg => exact sd_ineg C0 hi hs hn0 hw0 hc1 hc2 hmx hsc k
  case i2l => exact sd_i2l C0 hi hs hn0 hw0 hc1 hc2 hmx hsc k
  case i2b => exact sd_i2b C0 hi hs hn0 hw0 hc1 hc2 hmx hsc k
  case i2c => exact sd_i2c C0 hi hs hn0 hw0 hc1 hc2 hmx hsc k
  case l2i => exact sd_l2i C0 hi hs hn0 hw0 hc1 hc2 hmx hsc k
  case iconst => exact sd_iconst C0 hi hs hn0 hw0 hc1 hc2 hmx hsc k
  case bipush => exact sd_bipush C0 hi hs hn0 hw0 hc1 hc2 hmx hsc k
  case sipush => exact sd_sipush C0 hi hs hn0 hw0 hc1 hc2 hmx hsc k
  case lconst => exact sd_lconst C0 hi hs hn0 hw0 hc1 hc2 hmx hsc k
  case iload => exact sd_iload C0 hi hs hn0 hw0 hc1 hc2 hmx hsc k
  case iload_n => exact sd_iload_n C0 hi hs hn0 hw0 hc1 hc2 hmx hsc k
  case lload => exact sd_lload C0 hi hs hn0 hw0 hc1 hc2 hmx hsc k
  case lload_n => exact sd_lload_n C0 hi hs hn0 hw0 hc1 hc2 hmx hsc k
  case aload_n => exact sd_aload_n C0 hi hs hn0 hw0 hc1 hc2 hmx hsc k
  case istore => exact sd_istore C0 hi hs hn0 hw0 hc1 hc2 hmx hsc k
  case istore_n => exact sd_istore_n C0 hi hs hn0 hw0 hc1 hc2 hmx hsc k
  case lstore => exact sd_lstore C0 hi hs hn0 hw0 hc1 hc2 hmx hsc k
  case lstore_n => exact sd_lstore_n C0 hi hs hn0 hw0 hc1 hc2 hmx hsc k
  case astore_n => exact sd_astore_n C0 hi hs hn0 hw0 hc1 hc2 hmx hsc k
  case iinc => exact sd_iinc C0 hi hs hn0 hw0 hc1 hc2 hmx hsc k
  case dup => exact sd_dup C0 hi hs hn0 hw0 hc1 hc2 hmx hsc k
  case dup2 => exact sd_dup2 C0 hi hs hn0 hw0 hc1 hc2 hmx hsc k
  case pop => exact sd_pop C0 hi hs hn0 hw0 hc1 hc2 hmx hsc k
  case goto => exact sd_goto C0 hi hs hn0 hw0 hc1 hc2 hmx hsc k
  case ifCond => exact sd_ifCond C0 hi hs hn0 hw0 hc1 hc2 hmx hsc k
  case if_icmp => exact sd_if_icmp C0 hi hs hn0 hw0 hc1 hc2 hmx hsc k
  case getfield => exact sd_getfield C0 hi hs hn0 hw0 hc1 hc2 hmx hsc k
  case putfield => exact sd_putfield C0 hi hs hn0 hw0 hc1 hc2 hmx hsc k
  case iaload => exact sd_iaload C0 hi hs hn0 hw0 hc1 hc2 hmx hsc k
  case laload => exact sd_laload C0 hi hs hn0 hw0 hc1 hc2 hmx hsc k
  case baload => exact sd_baload C0 hi hs hn0 hw0 hc1 hc2 hmx hsc k
  case getstatic => exact sd_getstatic C0 hi hs hn0 hw0 hc1 hc2 hmx hsc k
  case aaload => exact sd_aaload C0 hi hs hn0 hw0 hc1 hc2 hmx hsc k
  case iastore => exact sd_iastore C0 hi hs hn0 hw0 hc1 hc2 hmx hsc k
  case lastore => exact sd_lastore C0 hi hs hn0 hw0 hc1 hc2 hmx hsc k
  case bastore => exact sd_bastore C0 hi hs hn0 hw0 hc1 hc2 hmx hsc k
  case aastore => exact sd_aastore C0 hi hs hn0 hw0 hc1 hc2 hmx hsc k
  case newarray => exact sd_newarray C0 hi hs hn0 hw0 hc1 hc2 hmx hsc k
  case anewarray => exact sd_anewarray C0 hi hs hn0 hw0 hc1 hc2 hmx hsc k
  case new => exact sd_new C0 hi hs hn0 hw0 hc1 hc2 hmx hsc k
  case arraylength => exact sd_arraylength C0 hi hs hn0 hw0 hc1 hc2 hmx hsc k
  case ldc => exact sd_ldc C0 hi hs hn0 hw0 hc1 hc2 hmx hsc k
  case ldc_w => exact sd_ldc_w C0 hi hs hn0 hw0 hc1 hc2 hmx hsc k
  case ldc2_w => exact sd_ldc2_w C0 hi hs hn0 hw0 hc1 hc2 hmx hsc k
  case tableswitch => exact sd_tableswitch C0 hi hs hn0 hw0 hc1 hc2 hmx hsc k
  case lookupswitch => exact sd_lookupswitch C0 hi hs hn0 hw0 hc1 hc2 hmx hsc k
  case invokevirtual idx => exact (sd_prim C0 hi hs hmx0 (Or.inl ⟨idx, rfl⟩) k).1
  case invokestatic idx => exact (sd_prim C0 hi hs hmx0 (Or.inr (Or.inl ⟨idx, rfl⟩)) k).1
  case invokespecial idx => exact (sd_prim C0 hi hs hmx0 (Or.inr (Or.inr ⟨idx, rfl⟩)) k).1
  case ireturn =>
    obtain ⟨x, rfl, hs1⟩ := pIe_inv hs
    split at hs1
    · cases hs1
    · cases (ck_inv hs1).2
    · cases (ck_inv hs1).2
    · cases hs1
  case lreturn =>
    obtain ⟨x, rfl, hs1⟩ := pJe_inv hs
    split at hs1 <;> cases hs1
  case areturn =>
    obtain ⟨x, rfl, hs1⟩ := pRe_inv hs
    split at hs1 <;> cases hs1
  case return_ =>
    obtain ⟨rfl, hs1⟩ := pE_inv hs
    split at hs1 <;> cases hs1
  all_goals cases hs
/-- a step never takes cells away -/
theorem sd_mono {pc len pc' : Nat} {i : Instr} {ls st ls' st' : List Value} {h h' : AH} (hi : ins mi pc = some (i, len)) (hs : step mi i pc ls st h = some (.inl (pc', ls', st', h'))) : hN h ≤ hN h' ∧ hW h ≤ hW h' ∧ hS h' = hS h := by
  cases hrc : isRC i with
  | false =>
    obtain ⟨t, ht, h1⟩ := step_nxt (mi := mi) (pc := pc) (ls := ls) (st := st) (h := h) hrc _ hs
    cases ht
    exact h1
  | true =>
    have hno : ∀ {m' : Nat} {as r : List Value}, cll m' as r = some (.inl (pc', ls', st', h')) → False := by
      intro m' as r z
      have := (cll_inv z).2
      cases this
    cases i <;> try (exact Bool.noConfusion (show false = true from hrc))
    case ireturn =>
      obtain ⟨x, rfl, hs1⟩ := pIe_inv hs
      split at hs1
      · cases hs1
      · cases (ck_inv hs1).2
      · cases (ck_inv hs1).2
      · cases hs1
    case lreturn =>
      obtain ⟨x, rfl, hs1⟩ := pJe_inv hs
      split at hs1 <;> cases hs1
    case areturn =>
      obtain ⟨x, rfl, hs1⟩ := pRe_inv hs
      split at hs1 <;> cases hs1
    case return_ =>
      obtain ⟨rfl, hs1⟩ := pE_inv hs
      split at hs1 <;> cases hs1
    case invokevirtual idx =>
      change invV mi idx st h = _ at hs
      unfold invV at hs
      cases hf : mthT (oiOf mi) idx with
      | none => rw [hf] at hs; cases hs
      | some q =>
        obtain ⟨kd, m2, pl⟩ := q
        rw [hf] at hs
        dsimp only at hs
        split at hs
        · cases h10 : Nat.blt (oiOf m2) 10 with
          | false =>
            simp only [h10, cond_false] at hs
            obtain ⟨as2, r2, -, -, hs1⟩ := pA_inv hs
            obtain ⟨a, r3, -, hs2⟩ := pR_inv hs1
            exact absurd (ck_inv hs2).2 (fun z => hno z)
          | true =>
            simp only [h10, cond_true] at hs
            obtain ⟨as2, r2, -, -, hs1⟩ := pA_inv hs
            obtain ⟨a, r3, -, hs2⟩ := pR_inv hs1
            exact absurd (ck_inv hs2).2 (fun z => hno z)
        · cases hs
    case invokestatic idx =>
      change invS mi idx pc ls st h = _ at hs
      unfold invS at hs
      cases hf : mthT (oiOf mi) idx with
      | none => rw [hf] at hs; cases hs
      | some q =>
        obtain ⟨kd, m2, pl⟩ := q
        rw [hf] at hs
        dsimp only at hs
        split at hs
        · obtain ⟨as2, r2, -, -, hs1⟩ := pA_inv hs
          exact absurd (ck_inv hs1).2 (fun z => hno z)
        · obtain ⟨as2, r2, -, -, hs1⟩ := pA_inv hs
          exact absurd (ck_inv hs1).2 (fun z => hno z)
        · obtain ⟨a0, sp, a, dp, n, r, -, hs1⟩ := pCopy_inv hs
          obtain ⟨-, hs2⟩ := ck_inv hs1
          obtain ⟨rfl, rfl, rfl, rfl⟩ := nx_inv hs2
          exact ⟨Nat.le_refl _, Nat.le_refl _, rfl⟩
        · cases hs
    case invokespecial idx =>
      change invI mi idx pc ls st h = _ at hs
      unfold invI at hs
      cases hf : mthT (oiOf mi) idx with
      | none => rw [hf] at hs; cases hs
      | some q =>
        obtain ⟨kd, m2, pl⟩ := q
        rw [hf] at hs
        dsimp only at hs
        split at hs
        · obtain ⟨as2, r2, -, -, hs1⟩ := pA_inv hs
          obtain ⟨a, r3, -, hs2⟩ := pR_inv hs1
          exact absurd (ck_inv hs2).2 (fun z => hno z)
        · obtain ⟨as2, r2, -, -, hs1⟩ := pA_inv hs
          obtain ⟨a, r3, -, hs2⟩ := pR_inv hs1
          exact absurd (ck_inv hs2).2 (fun z => hno z)
        · obtain ⟨a, r, -, hs1⟩ := pR_inv hs
          obtain ⟨-, hs2⟩ := ck_inv hs1
          obtain ⟨rfl, rfl, rfl, rfl⟩ := nx_inv hs2
          exact ⟨Nat.le_refl _, Nat.le_refl _, rfl⟩
        · cases hs
theorem call_kind {pc : Nat} {i : Instr} {ls st : List Value} {h : AH} {q : Nat × List Value × List Value} (hs : step mi i pc ls st h = some (.inr (.inl q))) : (∃ idx, i = .invokevirtual idx) ∨ (∃ idx, i = .invokestatic idx) ∨ ∃ idx, i = .invokespecial idx := by
  cases hrc : isRC i with
  | false =>
    obtain ⟨t, ht, h1⟩ := step_nxt (mi := mi) (pc := pc) (ls := ls) (st := st) (h := h) hrc _ hs
    cases ht
  | true =>
    cases i <;> try (exact Bool.noConfusion (show false = true from hrc))
    case ireturn =>
      obtain ⟨x, rfl, hs1⟩ := pIe_inv hs
      split at hs1
      · cases hs1
      · cases (ck_inv hs1).2
      · cases (ck_inv hs1).2
      · cases hs1
    case lreturn =>
      obtain ⟨x, rfl, hs1⟩ := pJe_inv hs
      split at hs1 <;> cases hs1
    case areturn =>
      obtain ⟨x, rfl, hs1⟩ := pRe_inv hs
      split at hs1 <;> cases hs1
    case return_ =>
      obtain ⟨rfl, hs1⟩ := pE_inv hs
      split at hs1 <;> cases hs1
    case invokevirtual idx => exact Or.inl ⟨idx, rfl⟩
    case invokestatic idx => exact Or.inr (Or.inl ⟨idx, rfl⟩)
    case invokespecial idx => exact Or.inr (Or.inr ⟨idx, rfl⟩)
theorem exec_mono : ∀ (f d mi pc : Nat) (ls st : List Value) (h : AH) (r : Option Value) (h' : AH), exec f d mi pc ls st h = some (r, h') → hN h ≤ hN h' ∧ hW h ≤ hW h' ∧ hS h' = hS h
  | 0, _, _, _, _, _, _, _, _, hx => by cases hx
  | f + 1, d, mi, pc, ls, st, h, r, h', hx => by
    unfold exec at hx
    cases hi : ins mi pc with
    | none => rw [hi] at hx; cases hx
    | some q =>
      obtain ⟨i, len⟩ := q
      rw [hi] at hx
      dsimp only at hx
      cases hs : step mi i pc ls st h with
      | none => rw [hs] at hx; cases hx
      | some q =>
        rw [hs] at hx
        rcases q with ⟨pc1, ls1, st1, h1⟩ | ⟨m', as, rest⟩ | r1
        · dsimp only at hx
          have e1 := sd_mono hi hs
          have e2 := exec_mono f _ _ _ _ _ _ _ _ hx
          exact ⟨by omega, by omega, e2.2.2.trans e1.2.2⟩
        · dsimp only at hx
          cases d with
          | zero => cases hx
          | succ d' =>
            dsimp only at hx
            cases hc : exec f d' m' 0 (ent (mlOf m') as) [] h with
            | none => rw [hc] at hx; cases hx
            | some q =>
              obtain ⟨r2, h2⟩ := q
              rw [hc] at hx
              dsimp only at hx
              have e1 := exec_mono f _ _ _ _ _ _ _ _ hc
              have e2 := exec_mono f _ _ _ _ _ _ _ _ hx
              exact ⟨by omega, by omega, e2.2.2.trans e1.2.2⟩
        · dsimp only at hx
          cases hx
          exact ⟨Nat.le_refl _, Nat.le_refl _, rfl⟩
/-- what the reader's runs of f steps say of the machine, in any frame of any caller -/
def SND (f : Nat) : Prop := ∀ (p : Program) (l : Launch) (e : Env) (R : Room) (s : State) (m : MethodId) (args : Array Value) (below : List Frame) (meth : Method) (c : Code) (Q : State → Prop) (D : va_G) (dA : Nat → ClassId) (X : XT) (n0 w0 d mi pc : Nat) (ls st : List Value) (h : AH) (r : Option Value) (h' : AH),
  exec f d mi pc ls st h = some (r, h') → Cx D dA X d mi n0 p R s m args meth c → n0 ≤ hN h → w0 ≤ hW h → hN h' - n0 ≤ R.cells → hW h' - w0 ≤ R.slots → hN h' ≤ 1000000 → hS h = X.2.2.2 →
  (∀ (pcR : Nat) (lsR stR : List Value) (i : Instr) (len : Nat), ins mi pcR = some (i, len) → step mi i pcR lsR stR h' = some (.inr (.inr r)) → WW p l e R s m args below meth c Q D dA X n0 w0 mi pcR lsR stR h') →
  WW p l e R s m args below meth c Q D dA X n0 w0 mi pc ls st h
theorem rt_f {m' : Nat} (h : m' < 292) : rtCd (rtOf m') = rkOf m' := by
  have := List.all_eq_true.mp rt_ok m' (List.mem_range.mpr h)
  exact of_decide_eq_true this
theorem rt_int {t : Option FieldType} (h : rtCd t = 0) : t = some .int := by
  cases t with
  | none => cases h
  | some t => cases t <;> first | rfl | cases h
theorem rt_bool {t : Option FieldType} (h : rtCd t = 1) : t = some .boolean := by
  cases t with
  | none => cases h
  | some t => cases t <;> first | rfl | cases h
theorem rt_char {t : Option FieldType} (h : rtCd t = 5) : t = some .char := by
  cases t with
  | none => cases h
  | some t => cases t <;> first | rfl | cases h
theorem nar_char {x : Int32} (h : 0 ≤ x.toInt ∧ x.toInt < 65536) : narrow .char (.int x) = .int x := by
  obtain ⟨n, hn, rfl⟩ := nI_of (i32_nn h.1)
  rw [nI_toInt hn] at h
  exact (pk_charN (by omega)).1
theorem rt_long {t : Option FieldType} (h : rtCd t = 2) : t = some .long := by
  cases t with
  | none => cases h
  | some t => cases t <;> first | rfl | cases h
theorem rt_ref {t : Option FieldType} (h : rtCd t = 3) : ∃ rt, t = some rt ∧ ((∃ n, rt = .object n) ∨ ∃ u, rt = .array u) := by
  cases t with
  | none => cases h
  | some t => cases t <;> first | exact ⟨_, rfl, Or.inl ⟨_, rfl⟩⟩ | exact ⟨_, rfl, Or.inr ⟨_, rfl⟩⟩ | cases h
theorem rt_void {t : Option FieldType} (h : rtCd t = 4) : t = none := by
  cases t with
  | none => rfl
  | some t => cases t <;> cases h
theorem WW.ret {pc len : Nat} {ls st : List Value} {i : Instr} {h' : AH} {r : Option Value} {d : Nat} (C0 : Cx D dA X d mi n0 p R s m args meth c) (hmi : mi < 292) (hret : meth.sig.returnType = rtOf mi) (hlocks : meth.locks = false) (hi : ins mi pc = some (i, len)) (hs : step mi i pc ls st h' = some (.inr (.inr r))) : WW p l e R s m args below meth c (MQ below (QR X dA D r h') args s (hN h' - n0) (hW h' - w0) (fun q => X.1 ≤ q)) D dA X n0 w0 mi pc ls st h' := by
  obtain ⟨hx, hb, hml, hown, hts, ⟨hfr, hlo⟩, hini, hWr, hX1, hX2, hEX⟩ := C0
  have hrt := rt_f hmi
  have hno : ∀ {m' : Nat} {as r1 : List Value}, cll m' as r1 = some (.inr (.inr r)) → False := by
    intro m' as r1 z
    have := (cll_inv z).2
    cases this
  cases hrc : isRC i with
  | false =>
    obtain ⟨t, ht, h1⟩ := step_nxt (mi := mi) (pc := pc) (ls := ls) (st := st) (h := h') hrc _ hs
    cases ht
  | true =>
    cases i <;> try (exact Bool.noConfusion (show false = true from hrc))
    case ireturn =>
      have hg := dec_n hi (n := 0) rfl
      obtain ⟨x, rfl, hs1⟩ := pIe_inv hs
      split at hs1
      · rename_i hk
        cases hs1
        rw [hk] at hrt
        exact fun H locs lsS hP hS hl => W.iret hx hb (hret.trans (rt_int hrt)) (fun t ht hW => ⟨rfl, by rw [ht]; exact hP, hS.F ht⟩) hS.2.2 hg hlocks
      · rename_i hk
        obtain ⟨h01, hs2⟩ := ck_inv hs1
        cases hs2
        rw [hk] at hrt
        exact fun H locs lsS hP hS hl => W.zret hx hb (hret.trans (rt_bool hrt)) (by rcases h01 with rfl | rfl <;> rfl) (fun t ht hW => ⟨rfl, by rw [ht]; exact hP, hS.F ht⟩) hS.2.2 hg hlocks
      · rename_i hk
        obtain ⟨h01, hs2⟩ := ck_inv hs1
        cases hs2
        rw [hk] at hrt
        exact fun H locs lsS hP hS hl => W.zret hx hb (hret.trans (rt_char hrt)) (nar_char h01) (fun t ht hW => ⟨rfl, by rw [ht]; exact hP, hS.F ht⟩) hS.2.2 hg hlocks
      · cases hs1
    case lreturn =>
      have hg := dec_n hi (n := 0) rfl
      obtain ⟨x, rfl, hs1⟩ := pJe_inv hs
      split at hs1
      · rename_i hk
        cases hs1
        rw [hk] at hrt
        exact fun H locs lsS hP hS hl => W.lret hx hb (hret.trans (rt_long hrt)) (fun t ht hW => ⟨rfl, by rw [ht]; exact hP, hS.F ht⟩) hS.2.2 hg hlocks
      · cases hs1
    case areturn =>
      have hg := dec_n hi (n := 0) rfl
      obtain ⟨x, rfl, hs1⟩ := pRe_inv hs
      split at hs1
      · rename_i hk
        cases hs1
        rw [hk] at hrt
        obtain ⟨rt, h1, h2⟩ := rt_ref hrt
        exact fun H locs lsS hP hS hl => W.aret hx hb (hret.trans h1) h2 (Or.inr ⟨_, rfl⟩) (fun t ht hW => ⟨rfl, by rw [ht]; exact hP, hS.F ht⟩) hS.2.2 hg hlocks
      · cases hs1
    case return_ =>
      have hg := dec_n hi (n := 0) rfl
      obtain ⟨rfl, hs1⟩ := pE_inv hs
      split at hs1
      · rename_i hk
        cases hs1
        rw [hk] at hrt
        exact fun H locs lsS hP hS hl => W.vret hx hb (hret.trans (rt_void hrt)) (fun t ht hW => ⟨rfl, by rw [ht]; exact hP, hS.F ht⟩) hS.2.2 hg hlocks
      · cases hs1
    case invokevirtual idx =>
      change invV mi idx st h' = _ at hs
      unfold invV at hs
      cases hf : mthT (oiOf mi) idx with
      | none => rw [hf] at hs; cases hs
      | some q =>
        obtain ⟨kd, m2, pl⟩ := q
        rw [hf] at hs
        dsimp only at hs
        split at hs
        · cases h10 : Nat.blt (oiOf m2) 10 with
          | false =>
            simp only [h10, cond_false] at hs
            obtain ⟨as2, r2, -, -, hs1⟩ := pA_inv hs
            obtain ⟨a, r3, -, hs2⟩ := pR_inv hs1
            exact absurd (ck_inv hs2).2 (fun z => hno z)
          | true =>
            simp only [h10, cond_true] at hs
            obtain ⟨as2, r2, -, -, hs1⟩ := pA_inv hs
            obtain ⟨a, r3, -, hs2⟩ := pR_inv hs1
            exact absurd (ck_inv hs2).2 (fun z => hno z)
        · cases hs
    case invokestatic idx =>
      change invS mi idx pc ls st h' = _ at hs
      unfold invS at hs
      cases hf : mthT (oiOf mi) idx with
      | none => rw [hf] at hs; cases hs
      | some q =>
        obtain ⟨kd, m2, pl⟩ := q
        rw [hf] at hs
        dsimp only at hs
        split at hs
        · obtain ⟨as2, r2, -, -, hs1⟩ := pA_inv hs
          exact absurd (ck_inv hs1).2 (fun z => hno z)
        · obtain ⟨as2, r2, -, -, hs1⟩ := pA_inv hs
          exact absurd (ck_inv hs1).2 (fun z => hno z)
        · obtain ⟨a0, sp, a, dp, n, r, -, hs1⟩ := pCopy_inv hs
          obtain ⟨-, hs2⟩ := ck_inv hs1
          cases hs2
        · cases hs
    case invokespecial idx =>
      change invI mi idx pc ls st h' = _ at hs
      unfold invI at hs
      cases hf : mthT (oiOf mi) idx with
      | none => rw [hf] at hs; cases hs
      | some q =>
        obtain ⟨kd, m2, pl⟩ := q
        rw [hf] at hs
        dsimp only at hs
        split at hs
        · obtain ⟨as2, r2, -, -, hs1⟩ := pA_inv hs
          obtain ⟨a, r3, -, hs2⟩ := pR_inv hs1
          exact absurd (ck_inv hs2).2 (fun z => hno z)
        · obtain ⟨as2, r2, -, -, hs1⟩ := pA_inv hs
          obtain ⟨a, r3, -, hs2⟩ := pR_inv hs1
          exact absurd (ck_inv hs2).2 (fun z => hno z)
        · obtain ⟨a, r, -, hs1⟩ := pR_inv hs
          obtain ⟨-, hs2⟩ := ck_inv hs1
          cases hs2
        · cases hs
theorem pf_at {m' : Nat} (h : m' < 291) : plainFor (yOf m') = true := List.all_eq_true.mp pf_ok m' (List.mem_range.mpr h)
/-- a method's contract, out of a run of its body -/
theorem met_of {f d' m' : Nat} {as : List Value} {h h1 : AH} {r : Option Value} (hSn : SND f) (hx : exec f d' m' 0 (ent (mlOf m') as) [] h = some (r, h1)) (hm : m' < 291) (hfl : (flt as).length ≤ mlOf m') (hmx : hN h1 ≤ 1000000) (hsc : hS h = X.2.2.2) : MT l X dA D d' m' as h r h1 := by
  refine ofWF (cc := cOf m') (maxL := mlOf m') (ret := rtOf m') (pf_at hm) rfl ?_
  intro p e s m args below meth c s₁ B hml hv
  obtain ⟨rfl, hP, hWr, hX1, hX2, hEX⟩ := hv
  have hts := atoms_spec (ws := cwd m' :: GW) B.pre
  have hown : s.vm.findClass (yOf m').cls = some m.cls := findClass_of_methodNamed B.named
  rw [(mt_f hm).1] at hown
  have C0 : Cx D dA X d' m' (hN h) p (RM d' h h1) s m ((as.map (cv X)).toArray) meth c := ⟨B.exec, B.bytes, hml, hown, fun w hw => hts w (List.mem_cons_of_mem _ hw), ⟨Nat.le_refl _, Nat.le_refl _⟩, fun hini => by
    have h1 := (name_of_methodNamed B.named B.method).1
    rw [h1]
    simpa [isIni, yOf] using hini, hWr, hX1, hX2, hEX⟩
  rw [lg_entry_eq]
  have k := hSn p l e (RM d' h h1) s m ((as.map (cv X)).toArray) below meth c (MQ below (QR X dA D r h1) ((as.map (cv X)).toArray) s (hN h1 - hN h) (hW h1 - hW h) (fun q => X.1 ≤ q)) D dA X (hN h) (hW h) d' m' 0 (ent (mlOf m') as) [] h r h1 hx C0 (Nat.le_refl _) (Nat.le_refl _) (Nat.le_refl _) (Nat.le_refl _) hmx hsc (fun pcR lsR stR i len hi hs => WW.ret C0 (by omega) B.returns B.notSynchronized hi hs)
  have k1 := k s.heap [] _ hP va_S.rf (LV_ent hfl)
  rw [Nat.sub_self, Nat.sub_self] at k1
  exact k1
theorem sound : ∀ f, SND f
  | 0 => fun p l e R s m args below meth c Q D dA X n0 w0 d mi pc ls st h r h' hx => by cases hx
  | f + 1 => fun p l e R s m args below meth c Q D dA X n0 w0 d mi pc ls st h r h' hx C0 hn0 hw0 hc1 hc2 hmx hsc hret => by
    have IH := sound f
    unfold exec at hx
    cases hi : ins mi pc with
    | none => rw [hi] at hx; cases hx
    | some q =>
      obtain ⟨i, len⟩ := q
      rw [hi] at hx
      dsimp only at hx
      cases hs : step mi i pc ls st h with
      | none => rw [hs] at hx; cases hx
      | some q =>
        rw [hs] at hx
        rcases q with ⟨pc1, ls1, st1, h1⟩ | ⟨m', as, rest⟩ | r1
        · dsimp only at hx
          have e1 := sd_mono hi hs
          have e2 := exec_mono f _ _ _ _ _ _ _ _ hx
          exact sd_all C0 hi hs hn0 hw0 (by omega) (by omega) (by omega) (by omega) hsc (IH p l e R s m args below meth c Q D dA X n0 w0 d mi pc1 ls1 st1 h1 r h' hx C0 (by omega) (by omega) hc1 hc2 hmx (e1.2.2.trans hsc) hret)
        · dsimp only at hx
          cases d with
          | zero => cases hx
          | succ d' =>
            dsimp only at hx
            cases hc : exec f d' m' 0 (ent (mlOf m') as) [] h with
            | none => rw [hc] at hx; cases hx
            | some q =>
              obtain ⟨r2, h2⟩ := q
              rw [hc] at hx
              dsimp only at hx
              have e1 := exec_mono f _ _ _ _ _ _ _ _ hc
              have e2 := exec_mono f _ _ _ _ _ _ _ _ hx
              exact sd_call C0 hi hs hn0 hw0 e1.1 e1.2.1 (by omega) (by omega) (by omega) (fun hm hfl => met_of IH hc hm hfl (by omega) hsc) (call_kind hs) (IH p l e R s m args below meth c Q D dA X n0 w0 (d' + 1) mi (pc + 3) ls (r2.toList ++ rest) h2 r h' hx C0 (by omega) (by omega) hc1 hc2 hmx (e1.2.2.trans hsc) hret)
        · dsimp only at hx
          cases hx
          exact hret pc ls st i len hi hs
end ST
