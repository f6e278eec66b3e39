section ST
/-! one step that goes on, whichever it is; what a run of the reader says of the machine -/
def Nxt (h : AH) (z : Option NX) : Prop := ∀ q, z = some q → ∃ t, q = .inl t ∧ hN h ≤ hN t.2.2.2 ∧ hW h ≤ hW t.2.2.2 ∧ hS t.2.2.2 = hS h
theorem Nxt_none {h : AH} : Nxt h none := fun _ h => by cases h
theorem Nxt_nx {h h' : AH} {pc : Nat} {ls st : List Value} (h1 : hN h ≤ hN h') (h2 : hW h ≤ hW h') (h3 : hS h' = hS h := by rfl) : Nxt h (nx pc ls st h') := fun q hq => ⟨_, (Option.some.inj hq).symm, h1, h2, h3⟩
theorem Nxt_ck {h : AH} {c : Prop} [Decidable c] {z : Option NX} (hz : Nxt h z) : Nxt h (ck c z) := fun q hq => hz q (ck_inv hq).2
theorem Nxt_br {h : AH} {c : Prop} [Decidable c] {a b : Option NX} (ha : Nxt h a) (hb : Nxt h b) : Nxt h (br c a b) := fun q hq => (br_inv hq).elim (fun z => ha q z.2) (fun z => hb q z.2)
theorem Nxt_jm {h : AH} {pc : Nat} {off : Int} {k : Nat → Option NX} (hk : ∀ t, Nxt h (k t)) : Nxt h (jm pc off k) := fun q hq => by
  obtain ⟨t, -, hq⟩ := jm_inv hq
  exact hk t q hq
theorem Nxt_pI {h : AH} {st : List Value} {k} (hk : ∀ x r, Nxt h (k x r)) : Nxt h (pI st k) := fun q hq => by
  obtain ⟨x, r, -, hq⟩ := pI_inv hq
  exact hk x r q hq
theorem Nxt_pII {h : AH} {st : List Value} {k} (hk : ∀ x y r, Nxt h (k x y r)) : Nxt h (pII st k) := fun q hq => by
  obtain ⟨x, y, r, -, hq⟩ := pII_inv hq
  exact hk x y r q hq
theorem Nxt_pJ {h : AH} {st : List Value} {k} (hk : ∀ x r, Nxt h (k x r)) : Nxt h (pJ st k) := fun q hq => by
  obtain ⟨x, r, -, hq⟩ := pJ_inv hq
  exact hk x r q hq
theorem Nxt_pJJ {h : AH} {st : List Value} {k} (hk : ∀ x y r, Nxt h (k x y r)) : Nxt h (pJJ st k) := fun q hq => by
  obtain ⟨x, y, r, -, hq⟩ := pJJ_inv hq
  exact hk x y r q hq
theorem Nxt_pJI {h : AH} {st : List Value} {k} (hk : ∀ x y r, Nxt h (k x y r)) : Nxt h (pJI st k) := fun q hq => by
  obtain ⟨x, y, r, -, hq⟩ := pJI_inv hq
  exact hk x y r q hq
theorem Nxt_pR {h : AH} {st : List Value} {k} (hk : ∀ x r, Nxt h (k x r)) : Nxt h (pR st k) := fun q hq => by
  obtain ⟨x, r, -, hq⟩ := pR_inv hq
  exact hk x r q hq
theorem Nxt_pRI {h : AH} {st : List Value} {k} (hk : ∀ x y r, Nxt h (k x y r)) : Nxt h (pRI st k) := fun q hq => by
  obtain ⟨x, y, r, -, hq⟩ := pRI_inv hq
  exact hk x y r q hq
theorem Nxt_pRJ {h : AH} {st : List Value} {k} (hk : ∀ x y r, Nxt h (k x y r)) : Nxt h (pRJ st k) := fun q hq => by
  obtain ⟨x, y, r, -, hq⟩ := pRJ_inv hq
  exact hk x y r q hq
theorem Nxt_pRR {h : AH} {st : List Value} {k} (hk : ∀ x y r, Nxt h (k x y r)) : Nxt h (pRR st k) := fun q hq => by
  obtain ⟨x, y, r, -, hq⟩ := pRR_inv hq
  exact hk x y r q hq
theorem Nxt_pRII {h : AH} {st : List Value} {k} (hk : ∀ x y z r, Nxt h (k x y z r)) : Nxt h (pRII st k) := fun q hq => by
  obtain ⟨x, y, z, r, -, hq⟩ := pRII_inv hq
  exact hk x y z r q hq
theorem Nxt_pRIJ {h : AH} {st : List Value} {k} (hk : ∀ x y z r, Nxt h (k x y z r)) : Nxt h (pRIJ st k) := fun q hq => by
  obtain ⟨x, y, z, r, -, hq⟩ := pRIJ_inv hq
  exact hk x y z r q hq
theorem Nxt_pRIR {h : AH} {st : List Value} {k} (hk : ∀ x y z r, Nxt h (k x y z r)) : Nxt h (pRIR st k) := fun q hq => by
  obtain ⟨x, y, z, r, -, hq⟩ := pRIR_inv hq
  exact hk x y z r q hq
theorem Nxt_p1 {h : AH} {st : List Value} {k} (hk : ∀ x r, Nxt h (k x r)) : Nxt h (p1 st k) := fun q hq => by
  obtain ⟨x, r, -, -, hq⟩ := p1_inv hq
  exact hk x r q hq
theorem Nxt_p11 {h : AH} {st : List Value} {k} (hk : ∀ x y r, Nxt h (k x y r)) : Nxt h (p11 st k) := fun q hq => by
  obtain ⟨x, y, r, -, -, -, hq⟩ := p11_inv hq
  exact hk x y r q hq
theorem Nxt_ldI {h : AH} {ls : List Value} {i : Nat} {k} (hk : ∀ x, Nxt h (k x)) : Nxt h (ldI ls i k) := fun q hq => by
  obtain ⟨x, -, hq⟩ := ldI_inv hq
  exact hk x q hq
theorem Nxt_ldJ {h : AH} {ls : List Value} {i : Nat} {k} (hk : ∀ x, Nxt h (k x)) : Nxt h (ldJ ls i k) := fun q hq => by
  obtain ⟨x, -, hq⟩ := ldJ_inv hq
  exact hk x q hq
theorem Nxt_ldR {h : AH} {ls : List Value} {i : Nat} {k} (hk : ∀ x, Nxt h (k x)) : Nxt h (ldR ls i k) := fun q hq => by
  obtain ⟨x, -, hq⟩ := ldR_inv hq
  exact hk x q hq
theorem Nxt_cc {h : AH} {cc : ClassFile.Cond} {x y : Int32} {a b : Option NX} (ha : Nxt h a) (hb : Nxt h b) : Nxt h (ccI cc x y a b) := by
  cases cc <;> exact Nxt_br ha hb
theorem Nxt_tsw {h : AH} {pc : Nat} {x : Int32} {dd : Int} {k : Nat → Option NX} (hk : ∀ t, Nxt h (k t)) : ∀ (os : List Int) (lo : Int), Nxt h (tsw pc x dd k lo os)
  | [], _ => Nxt_jm hk
  | _ :: os, lo => Nxt_br (Nxt_jm hk) (Nxt_tsw hk os (lo + 1))
theorem Nxt_lsw {h : AH} {pc : Nat} {x : Int32} {dd : Int} {k : Nat → Option NX} (hk : ∀ t, Nxt h (k t)) : ∀ (os : List (Int × Int)), Nxt h (lsw pc x dd k os)
  | [] => Nxt_jm hk
  | _ :: os => Nxt_br (Nxt_jm hk) (Nxt_lsw hk os)
theorem Nxt_bif {h : AH} {b : Bool} {z : Option NX} (hz : Nxt h z) : Nxt h (bif b then z else none) := by
  cases b
  · exact Nxt_none
  · exact hz
def isRC (i : Instr) : Bool := match i with
  | .ireturn => true
  | .lreturn => true
  | .areturn => true
  | .return_ => true
  | .invokevirtual _ => true
  | .invokestatic _ => true
  | .invokespecial _ => true
  | _ => false
set_option maxHeartbeats 4000000 in
theorem step_nxt {mi pc : Nat} {ls st : List Value} {h : AH} {i : Instr} (hi : isRC i = false) : Nxt h (step mi i pc ls st h) := by
  cases i
  case ireturn => cases hi
  case lreturn => cases hi
  case areturn => cases hi
  case return_ => cases hi
  case invokevirtual => cases hi
  case invokestatic => cases hi
  case invokespecial => cases hi
  case tableswitch => exact Nxt_pI fun _ _ => Nxt_tsw (fun _ => Nxt_nx (Nat.le_refl _) (Nat.le_refl _)) _ _
  case lookupswitch => exact Nxt_pI fun _ _ => Nxt_lsw (fun _ => Nxt_nx (Nat.le_refl _) (Nat.le_refl _)) _
  case ifCond => exact Nxt_pI fun _ _ => Nxt_jm fun _ => Nxt_cc (Nxt_nx (Nat.le_refl _) (Nat.le_refl _)) (Nxt_nx (Nat.le_refl _) (Nat.le_refl _))
  case if_icmp => exact Nxt_pII fun _ _ _ => Nxt_jm fun _ => Nxt_cc (Nxt_nx (Nat.le_refl _) (Nat.le_refl _)) (Nxt_nx (Nat.le_refl _) (Nat.le_refl _))
  case getfield idx =>
    show Nxt h (getF mi idx pc ls st h)
    unfold getF
    split
    · exact Nxt_pR fun _ _ => Nxt_ck (Nxt_nx (Nat.le_refl _) (Nat.le_refl _))
    · split
      · split
        · exact Nxt_pR fun _ _ => Nxt_ck (Nxt_nx (Nat.le_refl _) (Nat.le_refl _))
        · exact Nxt_pR fun _ _ => Nxt_ck (Nxt_nx (Nat.le_refl _) (Nat.le_refl _))
        · exact Nxt_none
      · exact Nxt_none
  case getstatic idx =>
    show Nxt h (getS mi idx pc ls st h)
    unfold getS
    split
    · split
      · exact Nxt_nx (Nat.le_refl _) (Nat.le_refl _)
      · exact Nxt_nx (Nat.le_refl _) (Nat.le_refl _)
      · exact Nxt_nx (Nat.le_refl _) (Nat.le_refl _)
      · exact Nxt_none
    · exact Nxt_none
  case baload => exact Nxt_pRI fun _ _ _ => Nxt_br (Nxt_ck (Nxt_nx (Nat.le_refl _) (Nat.le_refl _))) (Nxt_ck (Nxt_nx (Nat.le_refl _) (Nat.le_refl _)))
  case iaload => exact Nxt_pRI fun _ _ _ => Nxt_br (Nxt_ck (Nxt_nx (Nat.le_refl _) (Nat.le_refl _))) (Nxt_ck (Nxt_nx (Nat.le_refl _) (Nat.le_refl _)))
  case arraylength => exact Nxt_pR fun _ _ => Nxt_br (Nxt_nx (Nat.le_refl _) (Nat.le_refl _)) (Nxt_br (Nxt_nx (Nat.le_refl _) (Nat.le_refl _)) <| Nxt_br (Nxt_nx (Nat.le_refl _) (Nat.le_refl _)) (Nxt_ck (Nxt_nx (Nat.le_refl _) (Nat.le_refl _))))
  case putfield idx =>
    show Nxt h (putF mi idx pc ls st h)
    unfold putF
    split
    · refine Nxt_bif ?_
      split
      · exact Nxt_pRI fun _ _ _ => Nxt_ck (Nxt_nx (Nat.le_refl _) (Nat.le_refl _))
      · exact Nxt_pRI fun _ _ _ => Nxt_ck (Nxt_nx (Nat.le_refl _) (Nat.le_refl _))
      · exact Nxt_pRJ fun _ _ _ => Nxt_ck (Nxt_nx (Nat.le_refl _) (Nat.le_refl _))
      · exact Nxt_pRR fun _ _ _ => Nxt_ck (Nxt_nx (Nat.le_refl _) (Nat.le_refl _))
      · exact Nxt_none
    · exact Nxt_none
  case new idx =>
    show Nxt h (match clsT (oiOf mi) idx with
      | some (ci, _) => ck (lay (hN h) = ci) (nx (pc + 3) ls (.ref (hN h) :: st) (alc h 0 (nfl ci)))
      | none => none)
    split
    · exact Nxt_ck (Nxt_nx (Nat.le_succ _) (Nat.le_add_right _ _))
    · exact Nxt_none
  case newarray => exact Nxt_pI fun _ _ => Nxt_ck (Nxt_nx (Nat.le_succ _) (Nat.le_add_right _ _))
  case anewarray idx =>
    show Nxt h (match clsT (oiOf mi) idx with
      | some (ci, _) => bif ci == 6 then pI st fun n r => ck (0 ≤ n.toInt ∧ n.toInt ≤ 1000000 ∧ lay (hN h) = 14) (nx (pc + 3) ls (.ref (hN h) :: r) (alc h n.toNatClampNeg n.toNatClampNeg)) else none
      | none => none)
    split
    · exact Nxt_bif <| Nxt_pI fun _ _ => Nxt_ck (Nxt_nx (Nat.le_succ _) (Nat.le_add_right _ _))
    · exact Nxt_none
  case ldc idx =>
    show Nxt h (match cstT (oiOf mi) idx with
      | some (v, _) => nx (pc + 2) ls (.int v :: st) h
      | none => bif strP (oiOf mi) idx then nx (pc + 2) ls (.ref 1000001 :: st) h else none)
    split
    · exact Nxt_nx (Nat.le_refl _) (Nat.le_refl _)
    · exact Nxt_bif (Nxt_nx (Nat.le_refl _) (Nat.le_refl _))
  case ldc_w idx =>
    show Nxt h (match cstT (oiOf mi) idx with
      | some (v, _) => nx (pc + 3) ls (.int v :: st) h
      | none => none)
    split
    · exact Nxt_nx (Nat.le_refl _) (Nat.le_refl _)
    · exact Nxt_none
  case ldc2_w idx =>
    show Nxt h (match lngT (oiOf mi) idx with
      | some (v, _) => nx (pc + 3) ls (.long v :: st) h
      | none => none)
    split
    · exact Nxt_nx (Nat.le_refl _) (Nat.le_refl _)
    · exact Nxt_none
  all_goals first
    | exact Nxt_none
    | exact Nxt_nx (Nat.le_refl _) (Nat.le_refl _)
    | exact Nxt_jm fun _ => Nxt_nx (Nat.le_refl _) (Nat.le_refl _)
    | exact Nxt_pII fun _ _ _ => Nxt_nx (Nat.le_refl _) (Nat.le_refl _)
    | exact Nxt_pII fun _ _ _ => Nxt_ck (Nxt_nx (Nat.le_refl _) (Nat.le_refl _))
    | exact Nxt_pJJ fun _ _ _ => Nxt_nx (Nat.le_refl _) (Nat.le_refl _)
    | exact Nxt_pJJ fun _ _ _ => Nxt_ck (Nxt_nx (Nat.le_refl _) (Nat.le_refl _))
    | exact Nxt_pJI fun _ _ _ => Nxt_nx (Nat.le_refl _) (Nat.le_refl _)
    | exact Nxt_pI fun _ _ => Nxt_nx (Nat.le_refl _) (Nat.le_refl _)
    | exact Nxt_pI fun _ _ => Nxt_ck (Nxt_nx (Nat.le_refl _) (Nat.le_refl _))
    | exact Nxt_pJ fun _ _ => Nxt_nx (Nat.le_refl _) (Nat.le_refl _)
    | exact Nxt_pJ fun _ _ => Nxt_ck (Nxt_nx (Nat.le_refl _) (Nat.le_refl _))
    | exact Nxt_pR fun _ _ => Nxt_ck (Nxt_nx (Nat.le_refl _) (Nat.le_refl _))
    | exact Nxt_pRI fun _ _ _ => Nxt_ck (Nxt_nx (Nat.le_refl _) (Nat.le_refl _))
    | exact Nxt_pRII fun _ _ _ _ => Nxt_ck (Nxt_nx (Nat.le_refl _) (Nat.le_refl _))
    | exact Nxt_pRIJ fun _ _ _ _ => Nxt_ck (Nxt_nx (Nat.le_refl _) (Nat.le_refl _))
    | exact Nxt_pRIR fun _ _ _ _ => Nxt_ck (Nxt_nx (Nat.le_refl _) (Nat.le_refl _))
    | exact Nxt_p1 fun _ _ => Nxt_nx (Nat.le_refl _) (Nat.le_refl _)
    | exact Nxt_p11 fun _ _ _ => Nxt_nx (Nat.le_refl _) (Nat.le_refl _)
    | exact Nxt_ldI fun _ => Nxt_nx (Nat.le_refl _) (Nat.le_refl _)
    | exact Nxt_ldJ fun _ => Nxt_nx (Nat.le_refl _) (Nat.le_refl _)
    | exact Nxt_ldR fun _ => Nxt_nx (Nat.le_refl _) (Nat.le_refl _)
/-! THE READER IS SOUND -/
variable {p : Program} {l : Launch} {e : Env} {R : Room} {s : State} {m : MethodId} {args : Array Value} {below : List Frame} {meth : Method} {c : Code} {Q : State → Prop} {D : va_G} {dA : Nat → ClassId} {X : XT} {n0 w0 d mi : Nat}
/-- arraycopy and Object's constructor: the calls that the reader does itself -/
theorem cpy_in : Jvm.Cond.native arraycopyName ∈ GW ∧ Jvm.Cond.static arraycopyName ∈ GW ∧ Jvm.Cond.initialized "java/lang/System" ∈ GW := by
  have h := cpy_ok
  simp only [Bool.and_eq_true] at h
  exact ⟨hasW_mem h.1.1, hasW_mem h.1.2, hasW_mem h.2⟩
theorem obj_in : Jvm.Cond.instanceMethod objectInit ∈ GW ∧ Jvm.Cond.code objectInit ⟨#[0xb1]⟩ 1 none ∈ GW := by
  have h := obj_ok
  simp only [Bool.and_eq_true] at h
  exact ⟨hasW_mem h.1, hasW_mem h.2⟩
theorem sd_prim {pc len pc' : Nat} {i : Instr} {ls st ls' st' : List Value} {h h' : AH} (C0 : Cx D dA X d mi n0 p R s m args meth c) (hi : ins mi pc = some (i, len)) (hs : step mi i pc ls st h = some (.inl (pc', ls', st', h'))) (hmx : hN h ≤ 1000000) (hIx : (∃ idx, i = .invokevirtual idx) ∨ (∃ idx, i = .invokestatic idx) ∨ ∃ idx, i = .invokespecial idx)
    (k : WW p l e R s m args below meth c Q D dA X n0 w0 mi pc' ls' st' h') : WW p l e R s m args below meth c Q D dA X n0 w0 mi pc ls st h ∧ hN h' = hN h ∧ hW h' = hW h ∧ hS h' = hS h := by
  have ho := oi_lt hi
  obtain ⟨hx, hb, hml, hown, hts, ⟨hfr, hlo⟩, hini, ⟨hK, hNW, hAO⟩, hX1, hX2, hEX⟩ := C0
  have hno : ∀ {m' : Nat} {as r : List Value}, cll m' as r = some (.inl (pc', ls', st', h')) → False := by
    intro m' as r z
    have := (cll_inv z).2
    cases this
  rcases hIx with ⟨idx, rfl⟩ | ⟨idx, rfl⟩ | ⟨idx, rfl⟩
  · change invV mi idx st h = _ at hs
    unfold invV at hs
    cases hf : mthT (oiOf mi) idx with
    | none => rw [hf] at hs; cases hs
    | some q =>
      obtain ⟨kd, m2, pl⟩ := q
      rw [hf] at hs
      dsimp only at hs
      split at hs
      · cases h10 : Nat.blt (oiOf m2) 10 with
        | false =>
          simp only [h10, cond_false] at hs
          obtain ⟨as2, r2, -, -, hs1⟩ := pA_inv hs
          obtain ⟨a, r3, -, hs2⟩ := pR_inv hs1
          exact absurd (ck_inv hs2).2 (fun z => hno z)
        | true =>
          simp only [h10, cond_true] at hs
          obtain ⟨as2, r2, -, -, hs1⟩ := pA_inv hs
          obtain ⟨a, r3, -, hs2⟩ := pR_inv hs1
          exact absurd (ck_inv hs2).2 (fun z => hno z)
      · cases hs
  · have hg := dec_n hi (n := 2) rfl
    change invS mi idx pc ls st h = _ at hs
    unfold invS at hs
    cases hf : mthT (oiOf mi) idx with
    | none => rw [hf] at hs; cases hs
    | some q =>
      obtain ⟨kd, m2, pl⟩ := q
      rw [hf] at hs
      dsimp only at hs
      have hlk := lk_f ho hf
      split at hs
      · obtain ⟨as2, r2, -, -, hs1⟩ := pA_inv hs
        exact absurd (ck_inv hs1).2 (fun z => hno z)
      · obtain ⟨as2, r2, -, -, hs1⟩ := pA_inv hs
        exact absurd (ck_inv hs1).2 (fun z => hno z)
      · obtain ⟨a0, sp, a, dp, n, r, rfl, hs1⟩ := pCopy_inv hs
        obtain ⟨⟨hr4, ⟨ha0, hl0⟩, ⟨ha, hly⟩, ⟨g1, g2, g3⟩, g4, g5⟩, hs2⟩ := ck_inv hs1
        obtain ⟨rfl, rfl, rfl, rfl⟩ := nx_inv hs2
        have hlw := hasW_mem hlk
        refine ⟨?_, rfl, rfl, rfl⟩
        intro H locs lsS hP hS hl
        have hw0' := wl_get (X := X) (dA := dA) ha0
        rw [cel_ints hl0 (Or.inl rfl)] at hw0'
        have hw1' := wl_get (X := X) (dA := dA) ha
        rw [cel_ints hly (Or.inl rfl)] at hw1'
        simp only [List.map_cons]
        rw [cv_ref (Nat.lt_of_lt_of_le ha0 hmx), cv_ref (Nat.lt_of_lt_of_le ha hmx)]
        have t1 : sp.toNatClampNeg = sp.toInt.toNat := rfl
        have t2 : dp.toNatClampNeg = dp.toInt.toNat := rfl
        have t3 : n.toNatClampNeg = n.toInt.toNat := rfl
        have hcat := room8 (X := X) hr4
        refine va_copyi hx hb (by rw [hml]; exact hl.2.1.symm) hown (hts _ hlw) (hts _ cpy_in.1) (hts _ cpy_in.2.1) (hts _ cpy_in.2.2) hK hP wl_D hS a0 a 0 0 hw0' hw1' rfl rfl rfl (i32_nn g1) (i32_nn g2) (i32_nn g3) (by omega) (by omega) (fun _ _ => rfl) (by omega) ?_ hg (fun H1 locs1 hP1 _ hS1 => ?_)
        · have : nativeFrameWords "java/lang/System" "arraycopy" 5 + 11 = 18 := by decide
          omega
        · rw [wl_set (h' := sA h a (va_cpy (hI h a0) (hI h a) sp.toNatClampNeg dp.toNatClampNeg n.toNatClampNeg)) ha rfl ?_ (fun b hb => sA_ne hb)] at hP1
          · exact k H1 locs1 lsS hP1 hS1 hl
          · rw [cel_ints hly (Or.inl rfl)]
            have e : hI (sA h a (va_cpy (hI h a0) (hI h a) sp.toNatClampNeg dp.toNatClampNeg n.toNatClampNeg)) a = va_cpy (hI h a0) (hI h a) sp.toNatClampNeg dp.toNatClampNeg n.toNatClampNeg := by
              funext j
              simp [hI, sA]
            rw [e]
            rfl
      · cases hs
  · have hg := dec_n hi (n := 2) rfl
    change invI mi idx pc ls st h = _ at hs
    unfold invI at hs
    cases hf : mthT (oiOf mi) idx with
    | none => rw [hf] at hs; cases hs
    | some q =>
      obtain ⟨kd, m2, pl⟩ := q
      rw [hf] at hs
      dsimp only at hs
      have hlk := lk_f ho hf
      split at hs
      · obtain ⟨as2, r2, -, -, hs1⟩ := pA_inv hs
        obtain ⟨a, r3, -, hs2⟩ := pR_inv hs1
        exact absurd (ck_inv hs2).2 (fun z => hno z)
      · obtain ⟨as2, r2, -, -, hs1⟩ := pA_inv hs
        obtain ⟨a, r3, -, hs2⟩ := pR_inv hs1
        exact absurd (ck_inv hs2).2 (fun z => hno z)
      · obtain ⟨a, r, rfl, hs1⟩ := pR_inv hs
        obtain ⟨hr4, hs2⟩ := ck_inv hs1
        obtain ⟨rfl, rfl, rfl, rfl⟩ := nx_inv hs2
        have hlw := hasW_mem hlk
        have hcat := room8 (X := X) hr4
        refine ⟨?_, rfl, rfl, rfl⟩
        intro H locs lsS hP hS hl
        refine W.objInit hx hb hown (hts _ hlw) (hts _ obj_in.1) (hts _ obj_in.2) (g := F0 m pc lsS ((Value.ref a :: r).map (cv X))) rfl (by rw [hml]; exact hl.2.1) (a := adr X a) (rest := r.map (cv X)) rfl hg (by omega) ?_ (k H locs lsS hP hS hl)
        show 2 * 0 + _ + 12 ≤ _
        omega
      · cases hs
end ST
