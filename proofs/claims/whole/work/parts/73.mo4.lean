/-! the reference: what a rule gives, and all that follows -/
theorem and_one {x : Int32} : x &&& nI 1 = nI 1 ↔ x.toBitVec.getLsbD 0 = true := by
  constructor
  · intro e
    have e2 := congrArg (fun z : Int32 => z.toBitVec.getLsbD 0) e
    have e3 : (x.toBitVec &&& 1#32).getLsbD 0 = (1#32).getLsbD 0 := e2
    rw [BitVec.getLsbD_and] at e3
    simpa using e3
  · intro e
    apply Int32.toBitVec_inj.mp
    show x.toBitVec &&& 1#32 = 1#32
    apply BitVec.eq_of_getLsbD_eq
    intro j hj
    rw [BitVec.getLsbD_and]
    by_cases c : j = 0
    · subst c
      rw [e]
      rfl
    · have : (1#32).getLsbD j = false := by
        rw [BitVec.getLsbD_one]
        simp [c]
      rw [this, Bool.and_false]
theorem and_zero {x : Int32} : x &&& nI 1 = 0 ↔ ¬ x &&& nI 1 = nI 1 := by
  rw [and_one]
  constructor
  · intro e z
    have e2 := congrArg (fun z : Int32 => z.toBitVec.getLsbD 0) e
    have e3 : (x.toBitVec &&& 1#32).getLsbD 0 = (0#32).getLsbD 0 := e2
    rw [BitVec.getLsbD_and, z] at e3
    exact absurd e3 (by decide)
  · intro e
    apply Int32.toBitVec_inj.mp
    show x.toBitVec &&& 1#32 = 0#32
    apply BitVec.eq_of_getLsbD_eq
    intro j hj
    rw [BitVec.getLsbD_and]
    by_cases c : j = 0
    · subst c
      rw [Bool.eq_false_iff.mpr e]
      rfl
    · have : (1#32).getLsbD j = false := by
        rw [BitVec.getLsbD_one]
        simp [c]
      rw [this, Bool.and_false]
      simp
theorem hasB_bit {x : Int32} {f : Nat} (hf : f < 32) : hasB x (nI f) ↔ x.toBitVec.getLsbD f = true := by
  unfold hasB
  rw [and_one]
  have e1 : ((nI f &&& 31).toBitVec.smod 32).toNat = f := (by decide +kernel : ∀ k : Fin 32, ((nI k.val &&& 31).toBitVec.smod 32).toNat = k.val) ⟨f, hf⟩
  show (x.toBitVec.sshiftRight' ((nI f &&& 31).toBitVec.smod 32)).getLsbD 0 = true ↔ _
  rw [BitVec.sshiftRight', e1, BitVec.getLsbD_sshiftRight]
  simp [hf]
theorem bt_bit {f g : Nat} (hf : f < 12) (hg : g < 12) : (bt (nI g)).toBitVec.getLsbD f = decide (f = g) :=
  (by decide +kernel : ∀ f g : Fin 12, (bt (nI g.val)).toBitVec.getLsbD f.val = decide (f.val = g.val)) ⟨f, hf⟩ ⟨g, hg⟩
theorem hasB_or {x : Int32} {f g : Nat} (hf : f < 12) (hg : g < 12) : hasB (x ||| bt (nI g)) (nI f) ↔ hasB x (nI f) ∨ f = g := by
  rw [hasB_bit (by omega), hasB_bit (by omega)]
  show (x.toBitVec ||| (bt (nI g)).toBitVec).getLsbD f = true ↔ _
  rw [BitVec.getLsbD_or, bt_bit hf hg]
  simp
theorem and_not0 {k x : Int32} : x &&& (k ^^^ (-1)) = 0 ↔ k &&& x = x := by
  have en : (-1 : Int32).toBitVec = BitVec.allOnes 32 := by decide
  constructor
  · intro e
    apply Int32.toBitVec_inj.mp
    show k.toBitVec &&& x.toBitVec = x.toBitVec
    apply BitVec.eq_of_getLsbD_eq
    intro j hj
    have e2 := congrArg (fun z : Int32 => z.toBitVec.getLsbD j) e
    have e3 : (x.toBitVec &&& (k.toBitVec ^^^ (-1 : Int32).toBitVec)).getLsbD j = (0#32).getLsbD j := e2
    rw [en, BitVec.getLsbD_and, BitVec.getLsbD_xor, BitVec.getLsbD_allOnes] at e3
    rw [BitVec.getLsbD_and]
    cases hx : x.toBitVec.getLsbD j <;> cases hk : k.toBitVec.getLsbD j <;> simp_all
  · intro e
    apply Int32.toBitVec_inj.mp
    show x.toBitVec &&& (k.toBitVec ^^^ (-1 : Int32).toBitVec) = 0#32
    apply BitVec.eq_of_getLsbD_eq
    intro j hj
    have e2 := congrArg (fun z : Int32 => z.toBitVec.getLsbD j) e
    have e3 : (k.toBitVec &&& x.toBitVec).getLsbD j = x.toBitVec.getLsbD j := e2
    rw [BitVec.getLsbD_and] at e3
    rw [en, BitVec.getLsbD_and, BitVec.getLsbD_xor, BitVec.getLsbD_allOnes]
    cases hx : x.toBitVec.getLsbD j <;> cases hk : k.toBitVec.getLsbD j <;> simp_all
theorem Mo_wrL {h : AH} {v : Nat} {s : PS} (hM : MoAt h) : MoAt (wrL h v s) := hM
theorem Mc_wrL {h : AH} {v bk : Nat} {s : PS} {C : PC} (hC : McAt h bk C) : McAt (wrL h v s) bk C := by
  unfold McAt at hC ⊢
  rw [wL_174 (by omega), wL_ne (b := 176) (by omega) (by omega), wL_ne (b := 179) (by omega) (by omega), wL_ne (b := 182) (by omega) (by omega), wL_ne (b := 185) (by omega) (by omega), wL_ne (b := 191) (by omega) (by omega), wL_ne (b := 177) (by omega) (by omega), wL_ne (b := 178) (by omega) (by omega), wL_ne (b := 180) (by omega) (by omega), wL_ne (b := 181) (by omega) (by omega), wL_ne (b := 183) (by omega) (by omega), wL_ne (b := 184) (by omega) (by omega), wL_ne (b := 186) (by omega) (by omega), wL_ne (b := 187) (by omega) (by omega), wL_ne (b := 188) (by omega) (by omega)]
  exact hC
/-- how many of the first n are not held -/
def missN : Nat → Int32 → Nat
  | 0, _ => 0
  | n + 1, k => (if hasB k (nI n) then 0 else 1) + missN n k
theorem miss_le {k : Int32} : ∀ n, missN n k ≤ n
  | 0 => Nat.le_refl _
  | n + 1 => by
    have := miss_le (k := k) n
    unfold missN
    split <;> omega
theorem miss_mono {k k' : Int32} : ∀ n, (∀ f, f < n → hasB k (nI f) → hasB k' (nI f)) → missN n k' ≤ missN n k
  | 0, _ => Nat.le_refl _
  | n + 1, hm => by
    have := miss_mono (k := k) (k' := k') n (fun f hf => hm f (by omega))
    have h1 := hm n (by omega)
    unfold missN
    split <;> split <;> first | omega | skip
    rename_i z1 z2
    exact absurd (h1 z2) z1
theorem miss_lt {k k' : Int32} {g : Nat} : ∀ n, (∀ f, f < n → hasB k (nI f) → hasB k' (nI f)) → g < n → hasB k' (nI g) → ¬ hasB k (nI g) → missN n k' < missN n k
  | 0, _, hg, _, _ => absurd hg (by omega)
  | n + 1, hm, hg, h1, h2 => by
    by_cases c : g = n
    · subst c
      have := miss_mono (k := k) (k' := k') g (fun f hf => hm f (by omega))
      unfold missN
      rw [if_pos h1, if_neg h2]
      omega
    · have := miss_lt (k := k) (k' := k') (g := g) n (fun f hf => hm f (by omega)) (by omega) h1 h2
      have h3 := hm n (by omega)
      unfold missN
      split <;> split <;> first | omega | skip
      rename_i z1 z2
      exact absurd (h3 z2) z1
section MO4
variable {d v bk : Nat} {C : PC} {h : AH} {Q : Option Value → AH → Prop} {s : PS}
theorem Mo_gives {r : Nat} {k : Int32} (hd : 2 ≤ d) (hM : MoAt h) (hC : McAt h bk C) (hr : r < C.nr) (hQ : Q (some (.int (b2i (gvN C.g C.fr r k)))) h) : CL d 226 [.ref 174, .int (nI r), .int k] h Q := by
  obtain ⟨xN, ⟨ra0, ra1, ra2, ra3, ra4, ra5, ra6, ra7, ra8, ra9, ra10, ra11, ra12, ra13, ra14, ra15, ra16, ra17, ra18, ra19, ra20, ra21, ra22, ra23, ra24, ra25, ra26, ra27, ra28, ra29, ra30, ra31, ra32, ra33, ra34, ra35, ra36, ra37, ra38, ra39, ra40, ra41, ra42, ra43, ra44⟩, ⟨la0, la1, la2, la3, la4, la5, la6, la7, la8, la9, la10, la11, la12, la13, la14, la15, la16, la17, la18, la19, la20, la21, la22, la23, la24, la25, la26, la27, la28, la29, la30, la31, la32, la33, la34, la35, la36, la37, la38, la39, la40, la41, la42, la43, la44⟩⟩ := hM
  obtain ⟨mb, mb1, ⟨mf, mf12⟩, ⟨mr, mr16⟩, ⟨mp, mp8⟩, ⟨mm, mm16⟩, ms, mfd, mw, mg, mfr, mgs, mstr, mpur, mm1, mm2, mmd, mm1s, mm2s⟩ := hC
  have e1 := mg r hr
  have e2 := mfr r hr
  refine en226 (by omega) ?_
  simp (disch := omega) only [g226_0, g226_1, g226_2, g226_5, g226_7, g226_8, g226_11, g226_12, g226_13, g226_14, g226_15, GN_nx, GN_rtn, GN_ck, GN_br, GN_cll, ldI_0, ldJ_0, ldR_0, ldI_s, ldJ_s, ldR_s, pI_c, pII_c, pJ_c, pJJ_c, pJI_c, pR_c, pRI_c, pRJ_c, pRR_c, pRII_c, pRIJ_c, pRIR_c, pCopy_c, pIe_c, pJe_c, pRe_c, pE_c, p1_i, p1_r, p11_ir, pA_0, pA_1, pA_2, pA_3, pA_4, pA_5, st1_0, st1_i, st1_r, st1_n, st1_u, st1_j, st1_s, st2_0, st2_i, st2_r, st2_n, st2_u, st2_j, st2_s, List.length_cons, List.length_nil, Nat.reduceAdd, Nat.reduceLT, Nat.reduceLeDiff, Nat.reduceEqDiff, Nat.zero_add, true_and, and_true, true_implies, not_true_eq_false, not_false_eq_true, false_implies, Option.toList_some, Option.toList_none, arr, inb, List.cons_append, List.nil_append, rv_some, rv_none, nlt_t, nlt_f, nle_t, nle_f, neq_f, ix_cl, ix_nn, ix_lt, cmp_le, cmp_lt, cmp_eq, cmp_lt0, cmp_ge0, cmp_eq0, cmp_gt0, cmp_le0, nI_mul, nI_add, nm1_ne, nm1_ne', one01, zero01, b2i_0, b2i_1, b2i_01, cmp_eq1, true_or, or_true, false_or, or_false, neq_t, hN_sI, hLn_sI, hR_sI, hL_sI, hI_sI, hN_sA, hLn_sA, hR_sA, hL_sA, hI_sA, hN_wI, hLn_wI, hR_wI, hL_wI, hI_wI, false_and, and_false, if_true, if_false, hN_fA, hLn_fA, hR_fA, hN_wrS, hLn_wrS, hR_wrS, hL_wrS, wS_day, wS_keeps, wS_brs, wS_first, wS_knows, wS_purse, wS_till, wS_valid, wS_kept, sS_day, sS_keeps, sS_brs, sS_first, sS_knows, sS_purse, sS_till, sS_valid, sS_kept, wrS_wrS, day_mk, knows_mk, purse_mk, till_mk, valid_mk, kept_mk, keeps_mk, brs_mk, first_mk, hN_wrU, hLn_wrU, hR_wrU, hL_wrU, wU_19, wU_20, sU_19, sU_20, upd_same, upd_upd, hN_wrR, hLn_wrR, hR_wrR, hL_wrR, bI_0, bI_01', bI_t1, eq_self, Bool.true_eq_false, Bool.false_eq_true, hN_wrC, hLn_wrC, hR_wrC, hL_wrC, lay_174, lay_175, lay_176, lay_177, lay_178, lay_179, lay_180, lay_181, lay_182, lay_183, lay_184, lay_185, lay_186, lay_187, lay_188, lay_189, lay_190, lay_191, lay_192, lay_193, lay_194, lay_195, lay_196, lay_197, lay_198, lay_199, lay_200, lay_201, lay_202, lay_203, lay_204, lay_205, lay_206, lay_207, lay_208, lay_209, lay_210, lay_211, lay_212, lay_213, lay_214, lay_215, lay_216, lay_217, lay_218, lay_219,  ra0, ra1, ra2, ra3, ra4, ra5, ra6, ra7, ra8, ra9, ra10, ra11, ra12, ra13, ra14, ra15, ra16, ra17, ra18, ra19, ra20, ra21, ra22, ra23, ra24, ra25, ra26, ra27, ra28, ra29, ra30, ra31, ra32, ra33, ra34, ra35, ra36, ra37, ra38, ra39, ra40, ra41, ra42, ra43, ra44, la0, la1, la2, la3, la4, la5, la6, la7, la8, la9, la10, la11, la12, la13, la14, la15, la16, la17, la18, la19, la20, la21, la22, la23, la24, la25, la26, la27, la28, la29, la30, la31, la32, la33, la34, la35, la36, la37, la38, la39, la40, la41, la42, la43, la44, mb, mf, mr, mp, mm, ms, e1]
  refine Mo_holds (by omega) ?_
  simp (disch := omega) only [g226_18, GN_nx, GN_rtn, GN_ck, GN_br, GN_cll, ldI_0, ldJ_0, ldR_0, ldI_s, ldJ_s, ldR_s, pI_c, pII_c, pJ_c, pJJ_c, pJI_c, pR_c, pRI_c, pRJ_c, pRR_c, pRII_c, pRIJ_c, pRIR_c, pCopy_c, pIe_c, pJe_c, pRe_c, pE_c, p1_i, p1_r, p11_ir, pA_0, pA_1, pA_2, pA_3, pA_4, pA_5, st1_0, st1_i, st1_r, st1_n, st1_u, st1_j, st1_s, st2_0, st2_i, st2_r, st2_n, st2_u, st2_j, st2_s, List.length_cons, List.length_nil, Nat.reduceAdd, Nat.reduceLT, Nat.reduceLeDiff, Nat.reduceEqDiff, Nat.zero_add, true_and, and_true, true_implies, not_true_eq_false, not_false_eq_true, false_implies, Option.toList_some, Option.toList_none, arr, inb, List.cons_append, List.nil_append, rv_some, rv_none, nlt_t, nlt_f, nle_t, nle_f, neq_f, ix_cl, ix_nn, ix_lt, cmp_le, cmp_lt, cmp_eq, cmp_lt0, cmp_ge0, cmp_eq0, cmp_gt0, cmp_le0, nI_mul, nI_add, nm1_ne, nm1_ne', one01, zero01, b2i_0, b2i_1, b2i_01, cmp_eq1, true_or, or_true, false_or, or_false, neq_t, hN_sI, hLn_sI, hR_sI, hL_sI, hI_sI, hN_sA, hLn_sA, hR_sA, hL_sA, hI_sA, hN_wI, hLn_wI, hR_wI, hL_wI, hI_wI, false_and, and_false, if_true, if_false, hN_fA, hLn_fA, hR_fA, hN_wrS, hLn_wrS, hR_wrS, hL_wrS, wS_day, wS_keeps, wS_brs, wS_first, wS_knows, wS_purse, wS_till, wS_valid, wS_kept, sS_day, sS_keeps, sS_brs, sS_first, sS_knows, sS_purse, sS_till, sS_valid, sS_kept, wrS_wrS, day_mk, knows_mk, purse_mk, till_mk, valid_mk, kept_mk, keeps_mk, brs_mk, first_mk, hN_wrU, hLn_wrU, hR_wrU, hL_wrU, wU_19, wU_20, sU_19, sU_20, upd_same, upd_upd, hN_wrR, hLn_wrR, hR_wrR, hL_wrR, bI_0, bI_01', bI_t1, eq_self, Bool.true_eq_false, Bool.false_eq_true, hN_wrC, hLn_wrC, hR_wrC, hL_wrC, lay_174, lay_175, lay_176, lay_177, lay_178, lay_179, lay_180, lay_181, lay_182, lay_183, lay_184, lay_185, lay_186, lay_187, lay_188, lay_189, lay_190, lay_191, lay_192, lay_193, lay_194, lay_195, lay_196, lay_197, lay_198, lay_199, lay_200, lay_201, lay_202, lay_203, lay_204, lay_205, lay_206, lay_207, lay_208, lay_209, lay_210, lay_211, lay_212, lay_213, lay_214, lay_215, lay_216, lay_217, lay_218, lay_219]
  refine And.intro (fun h1 => ?_) (fun h1 => ?_)
  · rw [b2i_f (fun z => and_zero.mp z.2 (Classical.not_not.mp h1))] at hQ
    simp (disch := omega) only [g226_46, g226_47, GN_nx, GN_rtn, GN_ck, GN_br, GN_cll, ldI_0, ldJ_0, ldR_0, ldI_s, ldJ_s, ldR_s, pI_c, pII_c, pJ_c, pJJ_c, pJI_c, pR_c, pRI_c, pRJ_c, pRR_c, pRII_c, pRIJ_c, pRIR_c, pCopy_c, pIe_c, pJe_c, pRe_c, pE_c, p1_i, p1_r, p11_ir, pA_0, pA_1, pA_2, pA_3, pA_4, pA_5, st1_0, st1_i, st1_r, st1_n, st1_u, st1_j, st1_s, st2_0, st2_i, st2_r, st2_n, st2_u, st2_j, st2_s, List.length_cons, List.length_nil, Nat.reduceAdd, Nat.reduceLT, Nat.reduceLeDiff, Nat.reduceEqDiff, Nat.zero_add, true_and, and_true, true_implies, not_true_eq_false, not_false_eq_true, false_implies, Option.toList_some, Option.toList_none, arr, inb, List.cons_append, List.nil_append, rv_some, rv_none, nlt_t, nlt_f, nle_t, nle_f, neq_f, ix_cl, ix_nn, ix_lt, cmp_le, cmp_lt, cmp_eq, cmp_lt0, cmp_ge0, cmp_eq0, cmp_gt0, cmp_le0, nI_mul, nI_add, nm1_ne, nm1_ne', one01, zero01, b2i_0, b2i_1, b2i_01, cmp_eq1, true_or, or_true, false_or, or_false, neq_t, hN_sI, hLn_sI, hR_sI, hL_sI, hI_sI, hN_sA, hLn_sA, hR_sA, hL_sA, hI_sA, hN_wI, hLn_wI, hR_wI, hL_wI, hI_wI, false_and, and_false, if_true, if_false, hN_fA, hLn_fA, hR_fA, hN_wrS, hLn_wrS, hR_wrS, hL_wrS, wS_day, wS_keeps, wS_brs, wS_first, wS_knows, wS_purse, wS_till, wS_valid, wS_kept, sS_day, sS_keeps, sS_brs, sS_first, sS_knows, sS_purse, sS_till, sS_valid, sS_kept, wrS_wrS, day_mk, knows_mk, purse_mk, till_mk, valid_mk, kept_mk, keeps_mk, brs_mk, first_mk, hN_wrU, hLn_wrU, hR_wrU, hL_wrU, wU_19, wU_20, sU_19, sU_20, upd_same, upd_upd, hN_wrR, hLn_wrR, hR_wrR, hL_wrR, bI_0, bI_01', bI_t1, eq_self, Bool.true_eq_false, Bool.false_eq_true, hN_wrC, hLn_wrC, hR_wrC, hL_wrC, lay_174, lay_175, lay_176, lay_177, lay_178, lay_179, lay_180, lay_181, lay_182, lay_183, lay_184, lay_185, lay_186, lay_187, lay_188, lay_189, lay_190, lay_191, lay_192, lay_193, lay_194, lay_195, lay_196, lay_197, lay_198, lay_199, lay_200, lay_201, lay_202, lay_203, lay_204, lay_205, lay_206, lay_207, lay_208, lay_209, lay_210, lay_211, lay_212, lay_213, lay_214, lay_215, lay_216, lay_217, lay_218, lay_219]
    exact hQ
  · have h1 := Classical.not_not.mp h1
    simp (disch := omega) only [g226_21, g226_22, g226_25, g226_27, g226_28, g226_31, g226_32, g226_33, g226_34, g226_35, g226_36, g226_37, g226_38, g226_39, GN_nx, GN_rtn, GN_ck, GN_br, GN_cll, ldI_0, ldJ_0, ldR_0, ldI_s, ldJ_s, ldR_s, pI_c, pII_c, pJ_c, pJJ_c, pJI_c, pR_c, pRI_c, pRJ_c, pRR_c, pRII_c, pRIJ_c, pRIR_c, pCopy_c, pIe_c, pJe_c, pRe_c, pE_c, p1_i, p1_r, p11_ir, pA_0, pA_1, pA_2, pA_3, pA_4, pA_5, st1_0, st1_i, st1_r, st1_n, st1_u, st1_j, st1_s, st2_0, st2_i, st2_r, st2_n, st2_u, st2_j, st2_s, List.length_cons, List.length_nil, Nat.reduceAdd, Nat.reduceLT, Nat.reduceLeDiff, Nat.reduceEqDiff, Nat.zero_add, true_and, and_true, true_implies, not_true_eq_false, not_false_eq_true, false_implies, Option.toList_some, Option.toList_none, arr, inb, List.cons_append, List.nil_append, rv_some, rv_none, nlt_t, nlt_f, nle_t, nle_f, neq_f, ix_cl, ix_nn, ix_lt, cmp_le, cmp_lt, cmp_eq, cmp_lt0, cmp_ge0, cmp_eq0, cmp_gt0, cmp_le0, nI_mul, nI_add, nm1_ne, nm1_ne', one01, zero01, b2i_0, b2i_1, b2i_01, cmp_eq1, true_or, or_true, false_or, or_false, neq_t, hN_sI, hLn_sI, hR_sI, hL_sI, hI_sI, hN_sA, hLn_sA, hR_sA, hL_sA, hI_sA, hN_wI, hLn_wI, hR_wI, hL_wI, hI_wI, false_and, and_false, if_true, if_false, hN_fA, hLn_fA, hR_fA, hN_wrS, hLn_wrS, hR_wrS, hL_wrS, wS_day, wS_keeps, wS_brs, wS_first, wS_knows, wS_purse, wS_till, wS_valid, wS_kept, sS_day, sS_keeps, sS_brs, sS_first, sS_knows, sS_purse, sS_till, sS_valid, sS_kept, wrS_wrS, day_mk, knows_mk, purse_mk, till_mk, valid_mk, kept_mk, keeps_mk, brs_mk, first_mk, hN_wrU, hLn_wrU, hR_wrU, hL_wrU, wU_19, wU_20, sU_19, sU_20, upd_same, upd_upd, hN_wrR, hLn_wrR, hR_wrR, hL_wrR, bI_0, bI_01', bI_t1, eq_self, Bool.true_eq_false, Bool.false_eq_true, hN_wrC, hLn_wrC, hR_wrC, hL_wrC, lay_174, lay_175, lay_176, lay_177, lay_178, lay_179, lay_180, lay_181, lay_182, lay_183, lay_184, lay_185, lay_186, lay_187, lay_188, lay_189, lay_190, lay_191, lay_192, lay_193, lay_194, lay_195, lay_196, lay_197, lay_198, lay_199, lay_200, lay_201, lay_202, lay_203, lay_204, lay_205, lay_206, lay_207, lay_208, lay_209, lay_210, lay_211, lay_212, lay_213, lay_214, lay_215, lay_216, lay_217, lay_218, lay_219,  ra0, ra1, ra2, ra3, ra4, ra5, ra6, ra7, ra8, ra9, ra10, ra11, ra12, ra13, ra14, ra15, ra16, ra17, ra18, ra19, ra20, ra21, ra22, ra23, ra24, ra25, ra26, ra27, ra28, ra29, ra30, ra31, ra32, ra33, ra34, ra35, ra36, ra37, ra38, ra39, ra40, ra41, ra42, ra43, ra44, la0, la1, la2, la3, la4, la5, la6, la7, la8, la9, la10, la11, la12, la13, la14, la15, la16, la17, la18, la19, la20, la21, la22, la23, la24, la25, la26, la27, la28, la29, la30, la31, la32, la33, la34, la35, la36, la37, la38, la39, la40, la41, la42, la43, la44, mb, mf, mr, mp, mm, ms, e2]
    refine And.intro (fun h2 => ?_) (fun h2 => ?_)
    · trace_state
      rw [b2i_f (fun z => h2 (and_not0.mpr z.1))] at hQ
      simp (disch := omega) only [g226_46, g226_47, GN_nx, GN_rtn, GN_ck, GN_br, GN_cll, ldI_0, ldJ_0, ldR_0, ldI_s, ldJ_s, ldR_s, pI_c, pII_c, pJ_c, pJJ_c, pJI_c, pR_c, pRI_c, pRJ_c, pRR_c, pRII_c, pRIJ_c, pRIR_c, pCopy_c, pIe_c, pJe_c, pRe_c, pE_c, p1_i, p1_r, p11_ir, pA_0, pA_1, pA_2, pA_3, pA_4, pA_5, st1_0, st1_i, st1_r, st1_n, st1_u, st1_j, st1_s, st2_0, st2_i, st2_r, st2_n, st2_u, st2_j, st2_s, List.length_cons, List.length_nil, Nat.reduceAdd, Nat.reduceLT, Nat.reduceLeDiff, Nat.reduceEqDiff, Nat.zero_add, true_and, and_true, true_implies, not_true_eq_false, not_false_eq_true, false_implies, Option.toList_some, Option.toList_none, arr, inb, List.cons_append, List.nil_append, rv_some, rv_none, nlt_t, nlt_f, nle_t, nle_f, neq_f, ix_cl, ix_nn, ix_lt, cmp_le, cmp_lt, cmp_eq, cmp_lt0, cmp_ge0, cmp_eq0, cmp_gt0, cmp_le0, nI_mul, nI_add, nm1_ne, nm1_ne', one01, zero01, b2i_0, b2i_1, b2i_01, cmp_eq1, true_or, or_true, false_or, or_false, neq_t, hN_sI, hLn_sI, hR_sI, hL_sI, hI_sI, hN_sA, hLn_sA, hR_sA, hL_sA, hI_sA, hN_wI, hLn_wI, hR_wI, hL_wI, hI_wI, false_and, and_false, if_true, if_false, hN_fA, hLn_fA, hR_fA, hN_wrS, hLn_wrS, hR_wrS, hL_wrS, wS_day, wS_keeps, wS_brs, wS_first, wS_knows, wS_purse, wS_till, wS_valid, wS_kept, sS_day, sS_keeps, sS_brs, sS_first, sS_knows, sS_purse, sS_till, sS_valid, sS_kept, wrS_wrS, day_mk, knows_mk, purse_mk, till_mk, valid_mk, kept_mk, keeps_mk, brs_mk, first_mk, hN_wrU, hLn_wrU, hR_wrU, hL_wrU, wU_19, wU_20, sU_19, sU_20, upd_same, upd_upd, hN_wrR, hLn_wrR, hR_wrR, hL_wrR, bI_0, bI_01', bI_t1, eq_self, Bool.true_eq_false, Bool.false_eq_true, hN_wrC, hLn_wrC, hR_wrC, hL_wrC, lay_174, lay_175, lay_176, lay_177, lay_178, lay_179, lay_180, lay_181, lay_182, lay_183, lay_184, lay_185, lay_186, lay_187, lay_188, lay_189, lay_190, lay_191, lay_192, lay_193, lay_194, lay_195, lay_196, lay_197, lay_198, lay_199, lay_200, lay_201, lay_202, lay_203, lay_204, lay_205, lay_206, lay_207, lay_208, lay_209, lay_210, lay_211, lay_212, lay_213, lay_214, lay_215, lay_216, lay_217, lay_218, lay_219]
      exact hQ
    · rw [b2i_t ⟨and_not0.mp (Classical.not_not.mp h2), and_zero.mpr h1⟩] at hQ
      simp (disch := omega) only [g226_42, g226_43, g226_47, GN_nx, GN_rtn, GN_ck, GN_br, GN_cll, ldI_0, ldJ_0, ldR_0, ldI_s, ldJ_s, ldR_s, pI_c, pII_c, pJ_c, pJJ_c, pJI_c, pR_c, pRI_c, pRJ_c, pRR_c, pRII_c, pRIJ_c, pRIR_c, pCopy_c, pIe_c, pJe_c, pRe_c, pE_c, p1_i, p1_r, p11_ir, pA_0, pA_1, pA_2, pA_3, pA_4, pA_5, st1_0, st1_i, st1_r, st1_n, st1_u, st1_j, st1_s, st2_0, st2_i, st2_r, st2_n, st2_u, st2_j, st2_s, List.length_cons, List.length_nil, Nat.reduceAdd, Nat.reduceLT, Nat.reduceLeDiff, Nat.reduceEqDiff, Nat.zero_add, true_and, and_true, true_implies, not_true_eq_false, not_false_eq_true, false_implies, Option.toList_some, Option.toList_none, arr, inb, List.cons_append, List.nil_append, rv_some, rv_none, nlt_t, nlt_f, nle_t, nle_f, neq_f, ix_cl, ix_nn, ix_lt, cmp_le, cmp_lt, cmp_eq, cmp_lt0, cmp_ge0, cmp_eq0, cmp_gt0, cmp_le0, nI_mul, nI_add, nm1_ne, nm1_ne', one01, zero01, b2i_0, b2i_1, b2i_01, cmp_eq1, true_or, or_true, false_or, or_false, neq_t, hN_sI, hLn_sI, hR_sI, hL_sI, hI_sI, hN_sA, hLn_sA, hR_sA, hL_sA, hI_sA, hN_wI, hLn_wI, hR_wI, hL_wI, hI_wI, false_and, and_false, if_true, if_false, hN_fA, hLn_fA, hR_fA, hN_wrS, hLn_wrS, hR_wrS, hL_wrS, wS_day, wS_keeps, wS_brs, wS_first, wS_knows, wS_purse, wS_till, wS_valid, wS_kept, sS_day, sS_keeps, sS_brs, sS_first, sS_knows, sS_purse, sS_till, sS_valid, sS_kept, wrS_wrS, day_mk, knows_mk, purse_mk, till_mk, valid_mk, kept_mk, keeps_mk, brs_mk, first_mk, hN_wrU, hLn_wrU, hR_wrU, hL_wrU, wU_19, wU_20, sU_19, sU_20, upd_same, upd_upd, hN_wrR, hLn_wrR, hR_wrR, hL_wrR, bI_0, bI_01', bI_t1, eq_self, Bool.true_eq_false, Bool.false_eq_true, hN_wrC, hLn_wrC, hR_wrC, hL_wrC, lay_174, lay_175, lay_176, lay_177, lay_178, lay_179, lay_180, lay_181, lay_182, lay_183, lay_184, lay_185, lay_186, lay_187, lay_188, lay_189, lay_190, lay_191, lay_192, lay_193, lay_194, lay_195, lay_196, lay_197, lay_198, lay_199, lay_200, lay_201, lay_202, lay_203, lay_204, lay_205, lay_206, lay_207, lay_208, lay_209, lay_210, lay_211, lay_212, lay_213, lay_214, lay_215, lay_216, lay_217, lay_218, lay_219]
      exact hQ
/-- what the rounds keep -/
def VLa (s : PS) (i : Nat) : Prop := ∀ f, f < 12 → (hasB (s.valid i) (nI f) ↔ ¬ s.till (i * 12 + f) < s.day)
theorem keep1_knows {s : PS} {K : Nat → Int32} {b : Int32} : keep1 (mkS s.day (K) s.purse s.till s.valid s.kept s.keeps s.brs s.first) b = (mkS (keep1 s b).day (K) (keep1 s b).purse (keep1 s b).till (keep1 s b).valid (keep1 s b).kept (keep1 s b).keeps (keep1 s b).brs (keep1 s b).first) := by
  by_cases c : s.brs = 0
  · rw [show keep1 s b = _ from if_pos c, show keep1 (mkS s.day (K) s.purse s.till s.valid s.kept s.keeps s.brs s.first) b = _ from if_pos c]
    rfl
  · rw [show keep1 s b = _ from if_neg c, show keep1 (mkS s.day (K) s.purse s.till s.valid s.kept s.keeps s.brs s.first) b = _ from if_neg c]
theorem keep2_knows {s : PS} {K : Nat → Int32} {b : Int32} : keep2 (mkS s.day (K) s.purse s.till s.valid s.kept s.keeps s.brs s.first) b = (mkS (keep2 s b).day (K) (keep2 s b).purse (keep2 s b).till (keep2 s b).valid (keep2 s b).kept (keep2 s b).keeps (keep2 s b).brs (keep2 s b).first) := by
  by_cases c : s.keeps = nI 40
  · rw [show keep2 s b = _ from if_pos c, show keep2 (mkS s.day (K) s.purse s.till s.valid s.kept s.keeps s.brs s.first) b = _ from if_pos c]
    rfl
  · rw [show keep2 s b = _ from if_neg c, show keep2 (mkS s.day (K) s.purse s.till s.valid s.kept s.keeps s.brs s.first) b = _ from if_neg c]
    rfl
theorem keep_knows {s : PS} {K : Nat → Int32} {b : Int32} : keepP (mkS s.day (K) s.purse s.till s.valid s.kept s.keeps s.brs s.first) b = (mkS (keepP s b).day (K) (keepP s b).purse (keepP s b).till (keepP s b).valid (keepP s b).kept (keepP s b).keeps (keepP s b).brs (keepP s b).first) := by
  unfold keepP
  rw [keep1_knows, keep2_knows]
theorem keep_same {s : PS} {b : Int32} : (keepP s b).day = s.day ∧ (keepP s b).knows = s.knows ∧ (keepP s b).till = s.till ∧ (keepP s b).valid = s.valid ∧ (keepP s b).purse = s.purse ∧ (keepP s b).brs = s.brs + nI 1 := by
  unfold keepP keep2 keep1
  repeat' split
  all_goals exact ⟨rfl, rfl, rfl, rfl, rfl, rfl⟩
theorem infer_alt {s : PS} {i g r : Nat} : inferP s i g r = if hasB (s.valid i) (nI g) then keepP (mkS s.day (upd s.knows i (s.knows i ||| bt (nI g))) s.purse s.till s.valid s.kept s.keeps s.brs s.first) (packM s.day (nI i) (nI g) (nI r)) else (mkS s.day (upd s.knows i (s.knows i ||| bt (nI g))) s.purse s.till s.valid s.kept s.keeps s.brs s.first) := by
  unfold inferP inf1
  split
  · rw [keep_knows, keep_same.2.1]
  · rfl
theorem infer_same {s : PS} {i g r : Nat} : (inferP s i g r).day = s.day ∧ (inferP s i g r).knows = upd s.knows i (s.knows i ||| bt (nI g)) ∧ (inferP s i g r).till = s.till ∧ (inferP s i g r).valid = s.valid ∧ (inferP s i g r).purse = s.purse ∧ ((inferP s i g r).brs = s.brs ∨ (inferP s i g r).brs = s.brs + nI 1) := by
  rw [infer_alt]
  split
  · obtain ⟨a, b, c, d, e, f⟩ := keep_same (s := (mkS s.day (upd s.knows i (s.knows i ||| bt (nI g))) s.purse s.till s.valid s.kept s.keeps s.brs s.first)) (b := packM s.day (nI i) (nI g) (nI r))
    exact ⟨a, b, c, d, e, Or.inr f⟩
  · exact ⟨rfl, rfl, rfl, rfl, rfl, Or.inl rfl⟩
def IV (D i m : Nat) (s : PS) : Prop := s.day = nI D ∧ D < 4096 ∧ KB s ∧ VLa s i ∧ ∃ b, b ≤ m ∧ s.brs = nI b
theorem IV_infer {D i m g r : Nat} (h : IV D i m s) : IV D i (m + 1) (inferP s i g r) := by
  obtain ⟨h0, h1, h2, h3, b, h4, h5⟩ := h
  obtain ⟨i0, i1, i2, i3, i4, i5⟩ := infer_same (s := s) (i := i) (g := g) (r := r)
  refine ⟨i0.trans h0, h1, KB_infer h2, ?_, ?_⟩
  · unfold VLa
    rw [i0, i2, i3]
    exact h3
  · rcases i5 with z | z
    · exact ⟨b, by omega, z.trans h5⟩
    · exact ⟨b + 1, by omega, by rw [z, h5, nI_add]⟩
theorem IV_up {D i m m' : Nat} (h : IV D i m s) (hm : m ≤ m') : IV D i m' s := by
  obtain ⟨h0, h1, h2, h3, b, h4, h5⟩ := h
  exact ⟨h0, h1, h2, h3, b, by omega, h5⟩
/-- one rule of a round, with the mark that something came -/
def irF (C : PC) (i r : Nat) (a : PS × Nat) : PS × Nat := if gvN C.g C.fr r (a.1.knows i) then (inferP a.1 i (C.g r).toNatClampNeg r, 1) else a
theorem ir_fst {i : Nat} : ∀ (k r : Nat) (a : PS × Nat), (foN (irF C i) r k a).1 = foN (inrF C i) r k a.1
  | 0, _, _ => rfl
  | k + 1, r, a => by
    show (foN (irF C i) (r + 1) k (irF C i r a)).1 = foN (inrF C i) (r + 1) k (inrF C i r a.1)
    rw [ir_fst k]
    congr 1
    unfold irF inrF
    split <;> rfl
/-- what a round does to what he knows -/
def RD (i : Nat) (s : PS) (a : PS × Nat) : Prop := (∀ f, f < 12 → hasB (s.knows i) (nI f) → hasB (a.1.knows i) (nI f)) ∧ ((a.2 = 0 ∧ a.1 = s) ∨ (a.2 = 1 ∧ ∃ g, g < 12 ∧ hasB (a.1.knows i) (nI g) ∧ ¬ hasB (s.knows i) (nI g)))
theorem RD_step {i r : Nat} {a : PS × Nat} (hg : sml (C.g r) 12) (h : RD i s a) : RD i s (irF C i r a) := by
  unfold irF
  split
  · rename_i hv
    obtain ⟨h1, h2⟩ := h
    obtain ⟨g1, g2⟩ := hg
    obtain ⟨i0, i1, i2, i3, i4, i5⟩ := infer_same (s := a.1) (i := i) (g := (C.g r).toNatClampNeg) (r := r)
    have hn : ¬ hasB (a.1.knows i) (nI (C.g r).toNatClampNeg) := by
      rw [← g2]
      exact and_zero.mp hv.2
    have ek : (inferP a.1 i (C.g r).toNatClampNeg r).knows i = a.1.knows i ||| bt (nI (C.g r).toNatClampNeg) := by
      rw [i1, upd_a, if_pos rfl]
    refine ⟨fun f hf z => ?_, Or.inr ⟨rfl, (C.g r).toNatClampNeg, g1, ?_, fun z => hn (h1 _ g1 z)⟩⟩
    · show hasB ((inferP a.1 i (C.g r).toNatClampNeg r).knows i) (nI f)
      rw [ek]
      exact (hasB_or hf g1).mpr (Or.inl (h1 f hf z))
    · show hasB ((inferP a.1 i (C.g r).toNatClampNeg r).knows i) _
      rw [ek]
      exact (hasB_or g1 g1).mpr (Or.inr rfl)
  · exact h
theorem Mo_round {i D m : Nat} {y : Value} (hd : 3 ≤ d) (hM : MoAt h) (hC : McAt h bk C) (hv : v < 22) (hi : i < 8) (hI0 : IV D i m s) (hm : m + 16 < 2000000000) (hy : y = uu ∨ ∃ z, y = .int z) (hf : ∀ (a : PS × Nat) (y' : Value), a.1 = inrM C i s → IV D i (m + 16) a.1 → RD i s a → (y' = uu ∨ ∃ z, y' = .int z) → G d 227 10 [.ref 174, .int (nI v), .int (nI i), .int (nI (8 * v + i)), .int (nI a.2), .int (nI C.nr), y'] [] (wrL h v a.1) Q) : G d 227 21 [.ref 174, .int (nI v), .int (nI i), .int (nI (8 * v + i)), .int (nI 0), .int (nI 0), y] [] (wrL h v s) Q := by
  have hM' := hM
  have hC' := hC
  obtain ⟨xN, ⟨ra0, ra1, ra2, ra3, ra4, ra5, ra6, ra7, ra8, ra9, ra10, ra11, ra12, ra13, ra14, ra15, ra16, ra17, ra18, ra19, ra20, ra21, ra22, ra23, ra24, ra25, ra26, ra27, ra28, ra29, ra30, ra31, ra32, ra33, ra34, ra35, ra36, ra37, ra38, ra39, ra40, ra41, ra42, ra43, ra44⟩, ⟨la0, la1, la2, la3, la4, la5, la6, la7, la8, la9, la10, la11, la12, la13, la14, la15, la16, la17, la18, la19, la20, la21, la22, la23, la24, la25, la26, la27, la28, la29, la30, la31, la32, la33, la34, la35, la36, la37, la38, la39, la40, la41, la42, la43, la44⟩⟩ := hM
  obtain ⟨mb, mb1, ⟨mf, mf12⟩, ⟨mr, mr16⟩, ⟨mp, mp8⟩, ⟨mm, mm16⟩, ms, mfd, mw, mg, mfr, mgs, mstr, mpur, mm1, mm2, mmd, mm1s, mm2s⟩ := hC
  refine loopN (n := C.nr) (Pr := fun r (a : PS × Nat) => IV D i (m + r) a.1 → RD i s a → ∀ y : Value, (y = uu ∨ ∃ z, y = .int z) → G d 227 21 [.ref 174, .int (nI v), .int (nI i), .int (nI (8 * v + i)), .int (nI a.2), .int (nI r), y] [] (wrL h v a.1) Q) (Fin := fun a => IV D i (m + C.nr) a.1 → RD i s a → ∀ y : Value, (y = uu ∨ ∃ z, y = .int z) → G d 227 10 [.ref 174, .int (nI v), .int (nI i), .int (nI (8 * v + i)), .int (nI a.2), .int (nI C.nr), y] [] (wrL h v a.1) Q) (irF C i) (fun a hq z1 z2 y hy => ?_) (fun r a hr ih z1 z2 y hy => ?_) C.nr 0 (s, 0) (by omega) ?_ hI0 ⟨fun _ _ z => z, Or.inl ⟨rfl, rfl⟩⟩ y hy
  · have hmc := Mc_wrL (v := v) (s := a.1) hC'
    obtain ⟨mb, mb1, ⟨mf, mf12⟩, ⟨mr, mr16⟩, ⟨mp, mp8⟩, ⟨mm, mm16⟩, ms, mfd, mw, mg, mfr, mgs, mstr, mpur, mm1, mm2, mmd, mm1s, mm2s⟩ := hmc
    simp (disch := omega) only [g227_21, g227_23, g227_24, g227_27, g227_28, g227_31, g227_32, g227_113, GN_nx, GN_rtn, GN_ck, GN_br, GN_cll, ldI_0, ldJ_0, ldR_0, ldI_s, ldJ_s, ldR_s, pI_c, pII_c, pJ_c, pJJ_c, pJI_c, pR_c, pRI_c, pRJ_c, pRR_c, pRII_c, pRIJ_c, pRIR_c, pCopy_c, pIe_c, pJe_c, pRe_c, pE_c, p1_i, p1_r, p11_ir, pA_0, pA_1, pA_2, pA_3, pA_4, pA_5, st1_0, st1_i, st1_r, st1_n, st1_u, st1_j, st1_s, st2_0, st2_i, st2_r, st2_n, st2_u, st2_j, st2_s, List.length_cons, List.length_nil, Nat.reduceAdd, Nat.reduceLT, Nat.reduceLeDiff, Nat.reduceEqDiff, Nat.zero_add, true_and, and_true, true_implies, not_true_eq_false, not_false_eq_true, false_implies, Option.toList_some, Option.toList_none, arr, inb, List.cons_append, List.nil_append, rv_some, rv_none, nlt_t, nlt_f, nle_t, nle_f, neq_f, ix_cl, ix_nn, ix_lt, cmp_le, cmp_lt, cmp_eq, cmp_lt0, cmp_ge0, cmp_eq0, cmp_gt0, cmp_le0, nI_mul, nI_add, nm1_ne, nm1_ne', one01, zero01, b2i_0, b2i_1, b2i_01, cmp_eq1, true_or, or_true, false_or, or_false, neq_t, hN_sI, hLn_sI, hR_sI, hL_sI, hI_sI, hN_sA, hLn_sA, hR_sA, hL_sA, hI_sA, hN_wI, hLn_wI, hR_wI, hL_wI, hI_wI, false_and, and_false, if_true, if_false, hN_fA, hLn_fA, hR_fA, hN_wrS, hLn_wrS, hR_wrS, hL_wrS, wS_day, wS_keeps, wS_brs, wS_first, wS_knows, wS_purse, wS_till, wS_valid, wS_kept, sS_day, sS_keeps, sS_brs, sS_first, sS_knows, sS_purse, sS_till, sS_valid, sS_kept, wrS_wrS, day_mk, knows_mk, purse_mk, till_mk, valid_mk, kept_mk, keeps_mk, brs_mk, first_mk, hN_wrU, hLn_wrU, hR_wrU, hL_wrU, wU_19, wU_20, sU_19, sU_20, upd_same, upd_upd, hN_wrR, hLn_wrR, hR_wrR, hL_wrR, bI_0, bI_01', bI_t1, eq_self, Bool.true_eq_false, Bool.false_eq_true, hN_wrC, hLn_wrC, hR_wrC, hL_wrC, lay_174, lay_175, lay_176, lay_177, lay_178, lay_179, lay_180, lay_181, lay_182, lay_183, lay_184, lay_185, lay_186, lay_187, lay_188, lay_189, lay_190, lay_191, lay_192, lay_193, lay_194, lay_195, lay_196, lay_197, lay_198, lay_199, lay_200, lay_201, lay_202, lay_203, lay_204, lay_205, lay_206, lay_207, lay_208, lay_209, lay_210, lay_211, lay_212, lay_213, lay_214, lay_215, lay_216, lay_217, lay_218, lay_219,  ra0, ra1, ra2, ra3, ra4, ra5, ra6, ra7, ra8, ra9, ra10, ra11, ra12, ra13, ra14, ra15, ra16, ra17, ra18, ra19, ra20, ra21, ra22, ra23, ra24, ra25, ra26, ra27, ra28, ra29, ra30, ra31, ra32, ra33, ra34, ra35, ra36, ra37, ra38, ra39, ra40, ra41, ra42, ra43, ra44, la0, la1, la2, la3, la4, la5, la6, la7, la8, la9, la10, la11, la12, la13, la14, la15, la16, la17, la18, la19, la20, la21, la22, la23, la24, la25, la26, la27, la28, la29, la30, la31, la32, la33, la34, la35, la36, la37, la38, la39, la40, la41, la42, la43, la44, hN_wrL, hR_wrL, hLn_wrL, mb, mf, mr, mp, mm, ms]
    exact hq z1 z2 y hy
  · have hmc := Mc_wrL (v := v) (s := a.1) hC'
    have hmc' := hmc
    obtain ⟨mb, mb1, ⟨mf, mf12⟩, ⟨mr, mr16⟩, ⟨mp, mp8⟩, ⟨mm, mm16⟩, ms, mfd, mw, mg, mfr, mgs, mstr, mpur, mm1, mm2, mmd, mm1s, mm2s⟩ := hmc
    have ek := ly_knows (Lay_wrL (h := h) (v := v) (s := a.1)) hi
    have st := RD_step (C := C) (mgs r hr) z2
    obtain ⟨g1, g2⟩ := mgs r hr
    have e1 := mg r hr
    simp (disch := omega) only [g227_21, g227_23, g227_24, g227_27, g227_28, g227_31, g227_32, GN_nx, GN_rtn, GN_ck, GN_br, GN_cll, ldI_0, ldJ_0, ldR_0, ldI_s, ldJ_s, ldR_s, pI_c, pII_c, pJ_c, pJJ_c, pJI_c, pR_c, pRI_c, pRJ_c, pRR_c, pRII_c, pRIJ_c, pRIR_c, pCopy_c, pIe_c, pJe_c, pRe_c, pE_c, p1_i, p1_r, p11_ir, pA_0, pA_1, pA_2, pA_3, pA_4, pA_5, st1_0, st1_i, st1_r, st1_n, st1_u, st1_j, st1_s, st2_0, st2_i, st2_r, st2_n, st2_u, st2_j, st2_s, List.length_cons, List.length_nil, Nat.reduceAdd, Nat.reduceLT, Nat.reduceLeDiff, Nat.reduceEqDiff, Nat.zero_add, true_and, and_true, true_implies, not_true_eq_false, not_false_eq_true, false_implies, Option.toList_some, Option.toList_none, arr, inb, List.cons_append, List.nil_append, rv_some, rv_none, nlt_t, nlt_f, nle_t, nle_f, neq_f, ix_cl, ix_nn, ix_lt, cmp_le, cmp_lt, cmp_eq, cmp_lt0, cmp_ge0, cmp_eq0, cmp_gt0, cmp_le0, nI_mul, nI_add, nm1_ne, nm1_ne', one01, zero01, b2i_0, b2i_1, b2i_01, cmp_eq1, true_or, or_true, false_or, or_false, neq_t, hN_sI, hLn_sI, hR_sI, hL_sI, hI_sI, hN_sA, hLn_sA, hR_sA, hL_sA, hI_sA, hN_wI, hLn_wI, hR_wI, hL_wI, hI_wI, false_and, and_false, if_true, if_false, hN_fA, hLn_fA, hR_fA, hN_wrS, hLn_wrS, hR_wrS, hL_wrS, wS_day, wS_keeps, wS_brs, wS_first, wS_knows, wS_purse, wS_till, wS_valid, wS_kept, sS_day, sS_keeps, sS_brs, sS_first, sS_knows, sS_purse, sS_till, sS_valid, sS_kept, wrS_wrS, day_mk, knows_mk, purse_mk, till_mk, valid_mk, kept_mk, keeps_mk, brs_mk, first_mk, hN_wrU, hLn_wrU, hR_wrU, hL_wrU, wU_19, wU_20, sU_19, sU_20, upd_same, upd_upd, hN_wrR, hLn_wrR, hR_wrR, hL_wrR, bI_0, bI_01', bI_t1, eq_self, Bool.true_eq_false, Bool.false_eq_true, hN_wrC, hLn_wrC, hR_wrC, hL_wrC, lay_174, lay_175, lay_176, lay_177, lay_178, lay_179, lay_180, lay_181, lay_182, lay_183, lay_184, lay_185, lay_186, lay_187, lay_188, lay_189, lay_190, lay_191, lay_192, lay_193, lay_194, lay_195, lay_196, lay_197, lay_198, lay_199, lay_200, lay_201, lay_202, lay_203, lay_204, lay_205, lay_206, lay_207, lay_208, lay_209, lay_210, lay_211, lay_212, lay_213, lay_214, lay_215, lay_216, lay_217, lay_218, lay_219,  ra0, ra1, ra2, ra3, ra4, ra5, ra6, ra7, ra8, ra9, ra10, ra11, ra12, ra13, ra14, ra15, ra16, ra17, ra18, ra19, ra20, ra21, ra22, ra23, ra24, ra25, ra26, ra27, ra28, ra29, ra30, ra31, ra32, ra33, ra34, ra35, ra36, ra37, ra38, ra39, ra40, ra41, ra42, ra43, ra44, la0, la1, la2, la3, la4, la5, la6, la7, la8, la9, la10, la11, la12, la13, la14, la15, la16, la17, la18, la19, la20, la21, la22, la23, la24, la25, la26, la27, la28, la29, la30, la31, la32, la33, la34, la35, la36, la37, la38, la39, la40, la41, la42, la43, la44, hN_wrL, hR_wrL, hLn_wrL, mb, mf, mr, mp, mm, ms]
    simp (disch := omega) only [g227_35, g227_36, g227_38, g227_39, g227_42, g227_43, g227_44, GN_nx, GN_rtn, GN_ck, GN_br, GN_cll, ldI_0, ldJ_0, ldR_0, ldI_s, ldJ_s, ldR_s, pI_c, pII_c, pJ_c, pJJ_c, pJI_c, pR_c, pRI_c, pRJ_c, pRR_c, pRII_c, pRIJ_c, pRIR_c, pCopy_c, pIe_c, pJe_c, pRe_c, pE_c, p1_i, p1_r, p11_ir, pA_0, pA_1, pA_2, pA_3, pA_4, pA_5, st1_0, st1_i, st1_r, st1_n, st1_u, st1_j, st1_s, st2_0, st2_i, st2_r, st2_n, st2_u, st2_j, st2_s, List.length_cons, List.length_nil, Nat.reduceAdd, Nat.reduceLT, Nat.reduceLeDiff, Nat.reduceEqDiff, Nat.zero_add, true_and, and_true, true_implies, not_true_eq_false, not_false_eq_true, false_implies, Option.toList_some, Option.toList_none, arr, inb, List.cons_append, List.nil_append, rv_some, rv_none, nlt_t, nlt_f, nle_t, nle_f, neq_f, ix_cl, ix_nn, ix_lt, cmp_le, cmp_lt, cmp_eq, cmp_lt0, cmp_ge0, cmp_eq0, cmp_gt0, cmp_le0, nI_mul, nI_add, nm1_ne, nm1_ne', one01, zero01, b2i_0, b2i_1, b2i_01, cmp_eq1, true_or, or_true, false_or, or_false, neq_t, hN_sI, hLn_sI, hR_sI, hL_sI, hI_sI, hN_sA, hLn_sA, hR_sA, hL_sA, hI_sA, hN_wI, hLn_wI, hR_wI, hL_wI, hI_wI, false_and, and_false, if_true, if_false, hN_fA, hLn_fA, hR_fA, hN_wrS, hLn_wrS, hR_wrS, hL_wrS, wS_day, wS_keeps, wS_brs, wS_first, wS_knows, wS_purse, wS_till, wS_valid, wS_kept, sS_day, sS_keeps, sS_brs, sS_first, sS_knows, sS_purse, sS_till, sS_valid, sS_kept, wrS_wrS, day_mk, knows_mk, purse_mk, till_mk, valid_mk, kept_mk, keeps_mk, brs_mk, first_mk, hN_wrU, hLn_wrU, hR_wrU, hL_wrU, wU_19, wU_20, sU_19, sU_20, upd_same, upd_upd, hN_wrR, hLn_wrR, hR_wrR, hL_wrR, bI_0, bI_01', bI_t1, eq_self, Bool.true_eq_false, Bool.false_eq_true, hN_wrC, hLn_wrC, hR_wrC, hL_wrC, lay_174, lay_175, lay_176, lay_177, lay_178, lay_179, lay_180, lay_181, lay_182, lay_183, lay_184, lay_185, lay_186, lay_187, lay_188, lay_189, lay_190, lay_191, lay_192, lay_193, lay_194, lay_195, lay_196, lay_197, lay_198, lay_199, lay_200, lay_201, lay_202, lay_203, lay_204, lay_205, lay_206, lay_207, lay_208, lay_209, lay_210, lay_211, lay_212, lay_213, lay_214, lay_215, lay_216, lay_217, lay_218, lay_219,  ra0, ra1, ra2, ra3, ra4, ra5, ra6, ra7, ra8, ra9, ra10, ra11, ra12, ra13, ra14, ra15, ra16, ra17, ra18, ra19, ra20, ra21, ra22, ra23, ra24, ra25, ra26, ra27, ra28, ra29, ra30, ra31, ra32, ra33, ra34, ra35, ra36, ra37, ra38, ra39, ra40, ra41, ra42, ra43, ra44, la0, la1, la2, la3, la4, la5, la6, la7, la8, la9, la10, la11, la12, la13, la14, la15, la16, la17, la18, la19, la20, la21, la22, la23, la24, la25, la26, la27, la28, la29, la30, la31, la32, la33, la34, la35, la36, la37, la38, la39, la40, la41, la42, la43, la44, hN_wrL, hR_wrL, hLn_wrL, mb, mf, mr, mp, mm, ms, ek]
    refine Mo_gives (by omega) (Mo_wrL hM') hmc' hr ?_
    simp (disch := omega) only [g227_47, GN_nx, GN_rtn, GN_ck, GN_br, GN_cll, ldI_0, ldJ_0, ldR_0, ldI_s, ldJ_s, ldR_s, pI_c, pII_c, pJ_c, pJJ_c, pJI_c, pR_c, pRI_c, pRJ_c, pRR_c, pRII_c, pRIJ_c, pRIR_c, pCopy_c, pIe_c, pJe_c, pRe_c, pE_c, p1_i, p1_r, p11_ir, pA_0, pA_1, pA_2, pA_3, pA_4, pA_5, st1_0, st1_i, st1_r, st1_n, st1_u, st1_j, st1_s, st2_0, st2_i, st2_r, st2_n, st2_u, st2_j, st2_s, List.length_cons, List.length_nil, Nat.reduceAdd, Nat.reduceLT, Nat.reduceLeDiff, Nat.reduceEqDiff, Nat.zero_add, true_and, and_true, true_implies, not_true_eq_false, not_false_eq_true, false_implies, Option.toList_some, Option.toList_none, arr, inb, List.cons_append, List.nil_append, rv_some, rv_none, nlt_t, nlt_f, nle_t, nle_f, neq_f, ix_cl, ix_nn, ix_lt, cmp_le, cmp_lt, cmp_eq, cmp_lt0, cmp_ge0, cmp_eq0, cmp_gt0, cmp_le0, nI_mul, nI_add, nm1_ne, nm1_ne', one01, zero01, b2i_0, b2i_1, b2i_01, cmp_eq1, true_or, or_true, false_or, or_false, neq_t, hN_sI, hLn_sI, hR_sI, hL_sI, hI_sI, hN_sA, hLn_sA, hR_sA, hL_sA, hI_sA, hN_wI, hLn_wI, hR_wI, hL_wI, hI_wI, false_and, and_false, if_true, if_false, hN_fA, hLn_fA, hR_fA, hN_wrS, hLn_wrS, hR_wrS, hL_wrS, wS_day, wS_keeps, wS_brs, wS_first, wS_knows, wS_purse, wS_till, wS_valid, wS_kept, sS_day, sS_keeps, sS_brs, sS_first, sS_knows, sS_purse, sS_till, sS_valid, sS_kept, wrS_wrS, day_mk, knows_mk, purse_mk, till_mk, valid_mk, kept_mk, keeps_mk, brs_mk, first_mk, hN_wrU, hLn_wrU, hR_wrU, hL_wrU, wU_19, wU_20, sU_19, sU_20, upd_same, upd_upd, hN_wrR, hLn_wrR, hR_wrR, hL_wrR, bI_0, bI_01', bI_t1, eq_self, Bool.true_eq_false, Bool.false_eq_true, hN_wrC, hLn_wrC, hR_wrC, hL_wrC, lay_174, lay_175, lay_176, lay_177, lay_178, lay_179, lay_180, lay_181, lay_182, lay_183, lay_184, lay_185, lay_186, lay_187, lay_188, lay_189, lay_190, lay_191, lay_192, lay_193, lay_194, lay_195, lay_196, lay_197, lay_198, lay_199, lay_200, lay_201, lay_202, lay_203, lay_204, lay_205, lay_206, lay_207, lay_208, lay_209, lay_210, lay_211, lay_212, lay_213, lay_214, lay_215, lay_216, lay_217, lay_218, lay_219]
    refine And.intro (fun h1 => ?_) (fun h1 => ?_)
    · have h1 := Classical.not_not.mp h1
      rw [show irF C i r a = (inferP a.1 i (C.g r).toNatClampNeg r, 1) from if_pos h1] at ih st
      have z1' := IV_infer (g := (C.g r).toNatClampNeg) (r := r) z1
      have ih' := ih z1' st (.int (C.g r)) (Or.inr ⟨_, rfl⟩)
      obtain ⟨h0, hD, ⟨kn, kn1, kn2⟩, h3, b, h4, h5⟩ := z1
      have hv3 := h3 _ g1
      rw [infer_alt] at ih'
      have ew := sL_knows (h := h) (v := v) (s := a.1) (i := i) (x := a.1.knows i ||| bt (C.g r)) hi
      rw [← g2] at ih' hv3
      have hl := Lay_wrL (h := h) (v := v) (s := (mkS (a.1).day (upd a.1.knows i (a.1.knows i ||| bt (C.g r))) (a.1).purse (a.1).till (a.1).valid (a.1).kept (a.1).keeps (a.1).brs (a.1).first))
      generalize ht : ((mkS (a.1).day (upd a.1.knows i (a.1.knows i ||| bt (C.g r))) (a.1).purse (a.1).till (a.1).valid (a.1).kept (a.1).keeps (a.1).brs (a.1).first) : PS) = t at *
      have td : t.day = a.1.day := by rw [← ht]; rfl
      have tt : t.till = a.1.till := by rw [← ht]; rfl
      have tk : t.keeps = a.1.keeps := by rw [← ht]; rfl
      have tb : t.brs = a.1.brs := by rw [← ht]; rfl
      simp (disch := omega) only [g227_53, g227_54, g227_57, g227_59, g227_60, g227_63, g227_64, g227_66, g227_67, g227_68, g227_70, g227_71, g227_74, g227_75, g227_76, g227_77, g227_78, g227_80, g227_81, g227_82, g227_83, g227_84, g227_86, g227_87, g227_88, g227_89, g227_91, GN_nx, GN_rtn, GN_ck, GN_br, GN_cll, ldI_0, ldJ_0, ldR_0, ldI_s, ldJ_s, ldR_s, pI_c, pII_c, pJ_c, pJJ_c, pJI_c, pR_c, pRI_c, pRJ_c, pRR_c, pRII_c, pRIJ_c, pRIR_c, pCopy_c, pIe_c, pJe_c, pRe_c, pE_c, p1_i, p1_r, p11_ir, pA_0, pA_1, pA_2, pA_3, pA_4, pA_5, st1_0, st1_i, st1_r, st1_n, st1_u, st1_j, st1_s, st2_0, st2_i, st2_r, st2_n, st2_u, st2_j, st2_s, List.length_cons, List.length_nil, Nat.reduceAdd, Nat.reduceLT, Nat.reduceLeDiff, Nat.reduceEqDiff, Nat.zero_add, true_and, and_true, true_implies, not_true_eq_false, not_false_eq_true, false_implies, Option.toList_some, Option.toList_none, arr, inb, List.cons_append, List.nil_append, rv_some, rv_none, nlt_t, nlt_f, nle_t, nle_f, neq_f, ix_cl, ix_nn, ix_lt, cmp_le, cmp_lt, cmp_eq, cmp_lt0, cmp_ge0, cmp_eq0, cmp_gt0, cmp_le0, nI_mul, nI_add, nm1_ne, nm1_ne', one01, zero01, b2i_0, b2i_1, b2i_01, cmp_eq1, true_or, or_true, false_or, or_false, neq_t, hN_sI, hLn_sI, hR_sI, hL_sI, hI_sI, hN_sA, hLn_sA, hR_sA, hL_sA, hI_sA, hN_wI, hLn_wI, hR_wI, hL_wI, hI_wI, false_and, and_false, if_true, if_false, hN_fA, hLn_fA, hR_fA, hN_wrS, hLn_wrS, hR_wrS, hL_wrS, wS_day, wS_keeps, wS_brs, wS_first, wS_knows, wS_purse, wS_till, wS_valid, wS_kept, sS_day, sS_keeps, sS_brs, sS_first, sS_knows, sS_purse, sS_till, sS_valid, sS_kept, wrS_wrS, day_mk, knows_mk, purse_mk, till_mk, valid_mk, kept_mk, keeps_mk, brs_mk, first_mk, hN_wrU, hLn_wrU, hR_wrU, hL_wrU, wU_19, wU_20, sU_19, sU_20, upd_same, upd_upd, hN_wrR, hLn_wrR, hR_wrR, hL_wrR, bI_0, bI_01', bI_t1, eq_self, Bool.true_eq_false, Bool.false_eq_true, hN_wrC, hLn_wrC, hR_wrC, hL_wrC, lay_174, lay_175, lay_176, lay_177, lay_178, lay_179, lay_180, lay_181, lay_182, lay_183, lay_184, lay_185, lay_186, lay_187, lay_188, lay_189, lay_190, lay_191, lay_192, lay_193, lay_194, lay_195, lay_196, lay_197, lay_198, lay_199, lay_200, lay_201, lay_202, lay_203, lay_204, lay_205, lay_206, lay_207, lay_208, lay_209, lay_210, lay_211, lay_212, lay_213, lay_214, lay_215, lay_216, lay_217, lay_218, lay_219,  ra0, ra1, ra2, ra3, ra4, ra5, ra6, ra7, ra8, ra9, ra10, ra11, ra12, ra13, ra14, ra15, ra16, ra17, ra18, ra19, ra20, ra21, ra22, ra23, ra24, ra25, ra26, ra27, ra28, ra29, ra30, ra31, ra32, ra33, ra34, ra35, ra36, ra37, ra38, ra39, ra40, ra41, ra42, ra43, ra44, la0, la1, la2, la3, la4, la5, la6, la7, la8, la9, la10, la11, la12, la13, la14, la15, la16, la17, la18, la19, la20, la21, la22, la23, la24, la25, la26, la27, la28, la29, la30, la31, la32, la33, la34, la35, la36, la37, la38, la39, la40, la41, la42, la43, la44, hN_wrL, hR_wrL, hLn_wrL, mb, mf, mr, mp, mm, ms, ek, e1, ew]
      have isv : ∀ Q' : Option Value → AH → Prop, Q' (some (.int (b2i (¬ t.till (i * 12 + (C.g r).toNatClampNeg) < t.day)))) (wrL h v t) → CL d 212 [.ref 174, .int (nI v), .int (nI i), .int (C.g r)] (wrL h v t) Q' := fun Q' hq => by
        have := Mo_isValid (d := d) (Q := Q') (f := (C.g r).toNatClampNeg) (by omega) (Mo_wrL hM') hl hv hi g1 hq
        rw [← g2] at this
        exact this
      have ibr : ∀ Q' : Option Value → AH → Prop, Q' none (wrL h v (keepP t (packM a.1.day (nI i) (C.g r) (nI r)))) → CL d 225 [.ref 174, .int (nI v), .int (nI i), .int (C.g r), .int (nI r)] (wrL h v t) Q' := fun Q' hq => by
        rw [← td] at hq
        rw [g2] at hq
        have := Mo_breaches (d := d) (Q := Q') (s := t) (f := (C.g r).toNatClampNeg) (D := D) (n := kn) (m := b) (by omega) hM' hv hi g1 (by omega) (td.trans h0) hD (tk.trans kn2) kn1 (tb.trans h5) (by omega) hq
        rw [← g2] at this
        exact this
      refine isv _ ?_
      rw [td, tt]
      simp (disch := omega) only [g227_94, GN_nx, GN_rtn, GN_ck, GN_br, GN_cll, ldI_0, ldJ_0, ldR_0, ldI_s, ldJ_s, ldR_s, pI_c, pII_c, pJ_c, pJJ_c, pJI_c, pR_c, pRI_c, pRJ_c, pRR_c, pRII_c, pRIJ_c, pRIR_c, pCopy_c, pIe_c, pJe_c, pRe_c, pE_c, p1_i, p1_r, p11_ir, pA_0, pA_1, pA_2, pA_3, pA_4, pA_5, st1_0, st1_i, st1_r, st1_n, st1_u, st1_j, st1_s, st2_0, st2_i, st2_r, st2_n, st2_u, st2_j, st2_s, List.length_cons, List.length_nil, Nat.reduceAdd, Nat.reduceLT, Nat.reduceLeDiff, Nat.reduceEqDiff, Nat.zero_add, true_and, and_true, true_implies, not_true_eq_false, not_false_eq_true, false_implies, Option.toList_some, Option.toList_none, arr, inb, List.cons_append, List.nil_append, rv_some, rv_none, nlt_t, nlt_f, nle_t, nle_f, neq_f, ix_cl, ix_nn, ix_lt, cmp_le, cmp_lt, cmp_eq, cmp_lt0, cmp_ge0, cmp_eq0, cmp_gt0, cmp_le0, nI_mul, nI_add, nm1_ne, nm1_ne', one01, zero01, b2i_0, b2i_1, b2i_01, cmp_eq1, true_or, or_true, false_or, or_false, neq_t, hN_sI, hLn_sI, hR_sI, hL_sI, hI_sI, hN_sA, hLn_sA, hR_sA, hL_sA, hI_sA, hN_wI, hLn_wI, hR_wI, hL_wI, hI_wI, false_and, and_false, if_true, if_false, hN_fA, hLn_fA, hR_fA, hN_wrS, hLn_wrS, hR_wrS, hL_wrS, wS_day, wS_keeps, wS_brs, wS_first, wS_knows, wS_purse, wS_till, wS_valid, wS_kept, sS_day, sS_keeps, sS_brs, sS_first, sS_knows, sS_purse, sS_till, sS_valid, sS_kept, wrS_wrS, day_mk, knows_mk, purse_mk, till_mk, valid_mk, kept_mk, keeps_mk, brs_mk, first_mk, hN_wrU, hLn_wrU, hR_wrU, hL_wrU, wU_19, wU_20, sU_19, sU_20, upd_same, upd_upd, hN_wrR, hLn_wrR, hR_wrR, hL_wrR, bI_0, bI_01', bI_t1, eq_self, Bool.true_eq_false, Bool.false_eq_true, hN_wrC, hLn_wrC, hR_wrC, hL_wrC, lay_174, lay_175, lay_176, lay_177, lay_178, lay_179, lay_180, lay_181, lay_182, lay_183, lay_184, lay_185, lay_186, lay_187, lay_188, lay_189, lay_190, lay_191, lay_192, lay_193, lay_194, lay_195, lay_196, lay_197, lay_198, lay_199, lay_200, lay_201, lay_202, lay_203, lay_204, lay_205, lay_206, lay_207, lay_208, lay_209, lay_210, lay_211, lay_212, lay_213, lay_214, lay_215, lay_216, lay_217, lay_218, lay_219]
      refine And.intro (fun h2 => ?_) (fun h2 => ?_)
      · rw [if_neg (fun z => h2 (hv3.mp z))] at ih'
        simp (disch := omega) only [g227_107, g227_110, GN_nx, GN_rtn, GN_ck, GN_br, GN_cll, ldI_0, ldJ_0, ldR_0, ldI_s, ldJ_s, ldR_s, pI_c, pII_c, pJ_c, pJJ_c, pJI_c, pR_c, pRI_c, pRJ_c, pRR_c, pRII_c, pRIJ_c, pRIR_c, pCopy_c, pIe_c, pJe_c, pRe_c, pE_c, p1_i, p1_r, p11_ir, pA_0, pA_1, pA_2, pA_3, pA_4, pA_5, st1_0, st1_i, st1_r, st1_n, st1_u, st1_j, st1_s, st2_0, st2_i, st2_r, st2_n, st2_u, st2_j, st2_s, List.length_cons, List.length_nil, Nat.reduceAdd, Nat.reduceLT, Nat.reduceLeDiff, Nat.reduceEqDiff, Nat.zero_add, true_and, and_true, true_implies, not_true_eq_false, not_false_eq_true, false_implies, Option.toList_some, Option.toList_none, arr, inb, List.cons_append, List.nil_append, rv_some, rv_none, nlt_t, nlt_f, nle_t, nle_f, neq_f, ix_cl, ix_nn, ix_lt, cmp_le, cmp_lt, cmp_eq, cmp_lt0, cmp_ge0, cmp_eq0, cmp_gt0, cmp_le0, nI_mul, nI_add, nm1_ne, nm1_ne', one01, zero01, b2i_0, b2i_1, b2i_01, cmp_eq1, true_or, or_true, false_or, or_false, neq_t, hN_sI, hLn_sI, hR_sI, hL_sI, hI_sI, hN_sA, hLn_sA, hR_sA, hL_sA, hI_sA, hN_wI, hLn_wI, hR_wI, hL_wI, hI_wI, false_and, and_false, if_true, if_false, hN_fA, hLn_fA, hR_fA, hN_wrS, hLn_wrS, hR_wrS, hL_wrS, wS_day, wS_keeps, wS_brs, wS_first, wS_knows, wS_purse, wS_till, wS_valid, wS_kept, sS_day, sS_keeps, sS_brs, sS_first, sS_knows, sS_purse, sS_till, sS_valid, sS_kept, wrS_wrS, day_mk, knows_mk, purse_mk, till_mk, valid_mk, kept_mk, keeps_mk, brs_mk, first_mk, hN_wrU, hLn_wrU, hR_wrU, hL_wrU, wU_19, wU_20, sU_19, sU_20, upd_same, upd_upd, hN_wrR, hLn_wrR, hR_wrR, hL_wrR, bI_0, bI_01', bI_t1, eq_self, Bool.true_eq_false, Bool.false_eq_true, hN_wrC, hLn_wrC, hR_wrC, hL_wrC, lay_174, lay_175, lay_176, lay_177, lay_178, lay_179, lay_180, lay_181, lay_182, lay_183, lay_184, lay_185, lay_186, lay_187, lay_188, lay_189, lay_190, lay_191, lay_192, lay_193, lay_194, lay_195, lay_196, lay_197, lay_198, lay_199, lay_200, lay_201, lay_202, lay_203, lay_204, lay_205, lay_206, lay_207, lay_208, lay_209, lay_210, lay_211, lay_212, lay_213, lay_214, lay_215, lay_216, lay_217, lay_218, lay_219]
        exact ih'
      · rw [if_pos (hv3.mpr (Classical.not_not.mp h2))] at ih'
        simp (disch := omega) only [g227_97, g227_98, g227_99, g227_100, g227_102, g227_104, GN_nx, GN_rtn, GN_ck, GN_br, GN_cll, ldI_0, ldJ_0, ldR_0, ldI_s, ldJ_s, ldR_s, pI_c, pII_c, pJ_c, pJJ_c, pJI_c, pR_c, pRI_c, pRJ_c, pRR_c, pRII_c, pRIJ_c, pRIR_c, pCopy_c, pIe_c, pJe_c, pRe_c, pE_c, p1_i, p1_r, p11_ir, pA_0, pA_1, pA_2, pA_3, pA_4, pA_5, st1_0, st1_i, st1_r, st1_n, st1_u, st1_j, st1_s, st2_0, st2_i, st2_r, st2_n, st2_u, st2_j, st2_s, List.length_cons, List.length_nil, Nat.reduceAdd, Nat.reduceLT, Nat.reduceLeDiff, Nat.reduceEqDiff, Nat.zero_add, true_and, and_true, true_implies, not_true_eq_false, not_false_eq_true, false_implies, Option.toList_some, Option.toList_none, arr, inb, List.cons_append, List.nil_append, rv_some, rv_none, nlt_t, nlt_f, nle_t, nle_f, neq_f, ix_cl, ix_nn, ix_lt, cmp_le, cmp_lt, cmp_eq, cmp_lt0, cmp_ge0, cmp_eq0, cmp_gt0, cmp_le0, nI_mul, nI_add, nm1_ne, nm1_ne', one01, zero01, b2i_0, b2i_1, b2i_01, cmp_eq1, true_or, or_true, false_or, or_false, neq_t, hN_sI, hLn_sI, hR_sI, hL_sI, hI_sI, hN_sA, hLn_sA, hR_sA, hL_sA, hI_sA, hN_wI, hLn_wI, hR_wI, hL_wI, hI_wI, false_and, and_false, if_true, if_false, hN_fA, hLn_fA, hR_fA, hN_wrS, hLn_wrS, hR_wrS, hL_wrS, wS_day, wS_keeps, wS_brs, wS_first, wS_knows, wS_purse, wS_till, wS_valid, wS_kept, sS_day, sS_keeps, sS_brs, sS_first, sS_knows, sS_purse, sS_till, sS_valid, sS_kept, wrS_wrS, day_mk, knows_mk, purse_mk, till_mk, valid_mk, kept_mk, keeps_mk, brs_mk, first_mk, hN_wrU, hLn_wrU, hR_wrU, hL_wrU, wU_19, wU_20, sU_19, sU_20, upd_same, upd_upd, hN_wrR, hLn_wrR, hR_wrR, hL_wrR, bI_0, bI_01', bI_t1, eq_self, Bool.true_eq_false, Bool.false_eq_true, hN_wrC, hLn_wrC, hR_wrC, hL_wrC, lay_174, lay_175, lay_176, lay_177, lay_178, lay_179, lay_180, lay_181, lay_182, lay_183, lay_184, lay_185, lay_186, lay_187, lay_188, lay_189, lay_190, lay_191, lay_192, lay_193, lay_194, lay_195, lay_196, lay_197, lay_198, lay_199, lay_200, lay_201, lay_202, lay_203, lay_204, lay_205, lay_206, lay_207, lay_208, lay_209, lay_210, lay_211, lay_212, lay_213, lay_214, lay_215, lay_216, lay_217, lay_218, lay_219]
        refine ⟨by rw [hN_wrL]; omega, ibr _ ?_⟩
        simp (disch := omega) only [g227_107, g227_110, GN_nx, GN_rtn, GN_ck, GN_br, GN_cll, ldI_0, ldJ_0, ldR_0, ldI_s, ldJ_s, ldR_s, pI_c, pII_c, pJ_c, pJJ_c, pJI_c, pR_c, pRI_c, pRJ_c, pRR_c, pRII_c, pRIJ_c, pRIR_c, pCopy_c, pIe_c, pJe_c, pRe_c, pE_c, p1_i, p1_r, p11_ir, pA_0, pA_1, pA_2, pA_3, pA_4, pA_5, st1_0, st1_i, st1_r, st1_n, st1_u, st1_j, st1_s, st2_0, st2_i, st2_r, st2_n, st2_u, st2_j, st2_s, List.length_cons, List.length_nil, Nat.reduceAdd, Nat.reduceLT, Nat.reduceLeDiff, Nat.reduceEqDiff, Nat.zero_add, true_and, and_true, true_implies, not_true_eq_false, not_false_eq_true, false_implies, Option.toList_some, Option.toList_none, arr, inb, List.cons_append, List.nil_append, rv_some, rv_none, nlt_t, nlt_f, nle_t, nle_f, neq_f, ix_cl, ix_nn, ix_lt, cmp_le, cmp_lt, cmp_eq, cmp_lt0, cmp_ge0, cmp_eq0, cmp_gt0, cmp_le0, nI_mul, nI_add, nm1_ne, nm1_ne', one01, zero01, b2i_0, b2i_1, b2i_01, cmp_eq1, true_or, or_true, false_or, or_false, neq_t, hN_sI, hLn_sI, hR_sI, hL_sI, hI_sI, hN_sA, hLn_sA, hR_sA, hL_sA, hI_sA, hN_wI, hLn_wI, hR_wI, hL_wI, hI_wI, false_and, and_false, if_true, if_false, hN_fA, hLn_fA, hR_fA, hN_wrS, hLn_wrS, hR_wrS, hL_wrS, wS_day, wS_keeps, wS_brs, wS_first, wS_knows, wS_purse, wS_till, wS_valid, wS_kept, sS_day, sS_keeps, sS_brs, sS_first, sS_knows, sS_purse, sS_till, sS_valid, sS_kept, wrS_wrS, day_mk, knows_mk, purse_mk, till_mk, valid_mk, kept_mk, keeps_mk, brs_mk, first_mk, hN_wrU, hLn_wrU, hR_wrU, hL_wrU, wU_19, wU_20, sU_19, sU_20, upd_same, upd_upd, hN_wrR, hLn_wrR, hR_wrR, hL_wrR, bI_0, bI_01', bI_t1, eq_self, Bool.true_eq_false, Bool.false_eq_true, hN_wrC, hLn_wrC, hR_wrC, hL_wrC, lay_174, lay_175, lay_176, lay_177, lay_178, lay_179, lay_180, lay_181, lay_182, lay_183, lay_184, lay_185, lay_186, lay_187, lay_188, lay_189, lay_190, lay_191, lay_192, lay_193, lay_194, lay_195, lay_196, lay_197, lay_198, lay_199, lay_200, lay_201, lay_202, lay_203, lay_204, lay_205, lay_206, lay_207, lay_208, lay_209, lay_210, lay_211, lay_212, lay_213, lay_214, lay_215, lay_216, lay_217, lay_218, lay_219]
        exact ih'
    · simp (disch := omega) only [g227_50, g227_107, g227_110, GN_nx, GN_rtn, GN_ck, GN_br, GN_cll, ldI_0, ldJ_0, ldR_0, ldI_s, ldJ_s, ldR_s, pI_c, pII_c, pJ_c, pJJ_c, pJI_c, pR_c, pRI_c, pRJ_c, pRR_c, pRII_c, pRIJ_c, pRIR_c, pCopy_c, pIe_c, pJe_c, pRe_c, pE_c, p1_i, p1_r, p11_ir, pA_0, pA_1, pA_2, pA_3, pA_4, pA_5, st1_0, st1_i, st1_r, st1_n, st1_u, st1_j, st1_s, st2_0, st2_i, st2_r, st2_n, st2_u, st2_j, st2_s, List.length_cons, List.length_nil, Nat.reduceAdd, Nat.reduceLT, Nat.reduceLeDiff, Nat.reduceEqDiff, Nat.zero_add, true_and, and_true, true_implies, not_true_eq_false, not_false_eq_true, false_implies, Option.toList_some, Option.toList_none, arr, inb, List.cons_append, List.nil_append, rv_some, rv_none, nlt_t, nlt_f, nle_t, nle_f, neq_f, ix_cl, ix_nn, ix_lt, cmp_le, cmp_lt, cmp_eq, cmp_lt0, cmp_ge0, cmp_eq0, cmp_gt0, cmp_le0, nI_mul, nI_add, nm1_ne, nm1_ne', one01, zero01, b2i_0, b2i_1, b2i_01, cmp_eq1, true_or, or_true, false_or, or_false, neq_t, hN_sI, hLn_sI, hR_sI, hL_sI, hI_sI, hN_sA, hLn_sA, hR_sA, hL_sA, hI_sA, hN_wI, hLn_wI, hR_wI, hL_wI, hI_wI, false_and, and_false, if_true, if_false, hN_fA, hLn_fA, hR_fA, hN_wrS, hLn_wrS, hR_wrS, hL_wrS, wS_day, wS_keeps, wS_brs, wS_first, wS_knows, wS_purse, wS_till, wS_valid, wS_kept, sS_day, sS_keeps, sS_brs, sS_first, sS_knows, sS_purse, sS_till, sS_valid, sS_kept, wrS_wrS, day_mk, knows_mk, purse_mk, till_mk, valid_mk, kept_mk, keeps_mk, brs_mk, first_mk, hN_wrU, hLn_wrU, hR_wrU, hL_wrU, wU_19, wU_20, sU_19, sU_20, upd_same, upd_upd, hN_wrR, hLn_wrR, hR_wrR, hL_wrR, bI_0, bI_01', bI_t1, eq_self, Bool.true_eq_false, Bool.false_eq_true, hN_wrC, hLn_wrC, hR_wrC, hL_wrC, lay_174, lay_175, lay_176, lay_177, lay_178, lay_179, lay_180, lay_181, lay_182, lay_183, lay_184, lay_185, lay_186, lay_187, lay_188, lay_189, lay_190, lay_191, lay_192, lay_193, lay_194, lay_195, lay_196, lay_197, lay_198, lay_199, lay_200, lay_201, lay_202, lay_203, lay_204, lay_205, lay_206, lay_207, lay_208, lay_209, lay_210, lay_211, lay_212, lay_213, lay_214, lay_215, lay_216, lay_217, lay_218, lay_219]
      rw [show irF C i r a = a from if_neg (Classical.not_not.mp h1)] at ih st
      exact ih (IV_up z1 (by omega)) st y hy
  · exact fun z1 z2 y hy => hf _ y (ir_fst C.nr 0 (s, 0)) (IV_up z1 (by omega)) z2 hy
theorem IV_inrF {D i m r : Nat} (h : IV D i m s) : IV D i (m + 1) (inrF C i r s) := by
  unfold inrF
  split
  · exact IV_infer h
  · exact IV_up h (by omega)
theorem IV_foN {D i : Nat} : ∀ (k r m : Nat) (s : PS), IV D i m s → IV D i (m + k) (foN (inrF C i) r k s)
  | 0, _, _, _, h => h
  | k + 1, r, m, s, h => by
    have := IV_foN k (r + 1) (m + 1) _ (IV_inrF (C := C) (r := r) h)
    rw [show m + (k + 1) = m + 1 + k by omega]
    exact this
theorem IV_inf {D i : Nat} (hr : C.nr ≤ 16) : ∀ (q m : Nat) (s : PS), IV D i m s → IV D i (m + 16 * q) (infM C i q s)
  | 0, _, _, h => h
  | q + 1, m, s, h => by
    have h1 : IV D i (m + 16) (inrM C i s) := IV_up (IV_foN C.nr 0 m s h) (by omega)
    unfold infM
    split
    · exact IV_up h1 (by omega)
    · exact IV_up (IV_inf hr q _ _ h1) (by omega)
theorem Mo_infers {i D m : Nat} (hd : 4 ≤ d) (hM : MoAt h) (hC : McAt h bk C) (hv : v < 22) (hi : i < 8) (hI0 : IV D i m s) (hm : m + 300 < 2000000000) (hQ : Q none (wrL h v (infM C i 12 s))) : CL d 227 [.ref 174, .int (nI v), .int (nI i)] (wrL h v s) Q := by
  refine en227 (by omega) ?_
  simp (disch := omega) only [g227_0, g227_2, g227_3, g227_4, g227_5, g227_6, g227_7, g227_8, GN_nx, GN_rtn, GN_ck, GN_br, GN_cll, ldI_0, ldJ_0, ldR_0, ldI_s, ldJ_s, ldR_s, pI_c, pII_c, pJ_c, pJJ_c, pJI_c, pR_c, pRI_c, pRJ_c, pRR_c, pRII_c, pRIJ_c, pRIR_c, pCopy_c, pIe_c, pJe_c, pRe_c, pE_c, p1_i, p1_r, p11_ir, pA_0, pA_1, pA_2, pA_3, pA_4, pA_5, st1_0, st1_i, st1_r, st1_n, st1_u, st1_j, st1_s, st2_0, st2_i, st2_r, st2_n, st2_u, st2_j, st2_s, List.length_cons, List.length_nil, Nat.reduceAdd, Nat.reduceLT, Nat.reduceLeDiff, Nat.reduceEqDiff, Nat.zero_add, true_and, and_true, true_implies, not_true_eq_false, not_false_eq_true, false_implies, Option.toList_some, Option.toList_none, arr, inb, List.cons_append, List.nil_append, rv_some, rv_none, nlt_t, nlt_f, nle_t, nle_f, neq_f, ix_cl, ix_nn, ix_lt, cmp_le, cmp_lt, cmp_eq, cmp_lt0, cmp_ge0, cmp_eq0, cmp_gt0, cmp_le0, nI_mul, nI_add, nm1_ne, nm1_ne', one01, zero01, b2i_0, b2i_1, b2i_01, cmp_eq1, true_or, or_true, false_or, or_false, neq_t, hN_sI, hLn_sI, hR_sI, hL_sI, hI_sI, hN_sA, hLn_sA, hR_sA, hL_sA, hI_sA, hN_wI, hLn_wI, hR_wI, hL_wI, hI_wI, false_and, and_false, if_true, if_false, hN_fA, hLn_fA, hR_fA, hN_wrS, hLn_wrS, hR_wrS, hL_wrS, wS_day, wS_keeps, wS_brs, wS_first, wS_knows, wS_purse, wS_till, wS_valid, wS_kept, sS_day, sS_keeps, sS_brs, sS_first, sS_knows, sS_purse, sS_till, sS_valid, sS_kept, wrS_wrS, day_mk, knows_mk, purse_mk, till_mk, valid_mk, kept_mk, keeps_mk, brs_mk, first_mk, hN_wrU, hLn_wrU, hR_wrU, hL_wrU, wU_19, wU_20, sU_19, sU_20, upd_same, upd_upd, hN_wrR, hLn_wrR, hR_wrR, hL_wrR, bI_0, bI_01', bI_t1, eq_self, Bool.true_eq_false, Bool.false_eq_true, hN_wrC, hLn_wrC, hR_wrC, hL_wrC, lay_174, lay_175, lay_176, lay_177, lay_178, lay_179, lay_180, lay_181, lay_182, lay_183, lay_184, lay_185, lay_186, lay_187, lay_188, lay_189, lay_190, lay_191, lay_192, lay_193, lay_194, lay_195, lay_196, lay_197, lay_198, lay_199, lay_200, lay_201, lay_202, lay_203, lay_204, lay_205, lay_206, lay_207, lay_208, lay_209, lay_210, lay_211, lay_212, lay_213, lay_214, lay_215, lay_216, lay_217, lay_218, lay_219]
  have key : ∀ (q m : Nat) (s : PS) (x y : Value), missN 12 (s.knows i) ≤ q → IV D i m s → m + 16 * q + 32 < 2000000000 → Q none (wrL h v (infM C i q s)) → (x = uu ∨ ∃ z, x = .int z) → (y = uu ∨ ∃ z, y = .int z) → G (d - 1) 227 10 [.ref 174, .int (nI v), .int (nI i), .int (nI (8 * v + i)), .int (nI 1), x, y] [] (wrL h v s) Q := by
    intro q
    induction q with
    | zero =>
      intro m s x y hq hI hm hQ hx hy
      have inner : G (d - 1) 227 21 [.ref 174, .int (nI v), .int (nI i), .int (nI (8 * v + i)), .int (nI 0), .int (nI 0), y] [] (wrL h v s) Q := by
        refine Mo_round (by omega) hM hC hv hi hI (by omega) hy (fun a y' e1 e2 e3 hy' => ?_)
        obtain ⟨a, n⟩ := a
        obtain ⟨e4, ⟨rfl, rfl⟩ | ⟨_, g, g1, g2, g3⟩⟩ := e3
        · rcases hy' with rfl | ⟨y', rfl⟩ <;>
          · simp (disch := omega) only [g227_10, g227_12, g227_116, GN_nx, GN_rtn, GN_ck, GN_br, GN_cll, ldI_0, ldJ_0, ldR_0, ldI_s, ldJ_s, ldR_s, pI_c, pII_c, pJ_c, pJJ_c, pJI_c, pR_c, pRI_c, pRJ_c, pRR_c, pRII_c, pRIJ_c, pRIR_c, pCopy_c, pIe_c, pJe_c, pRe_c, pE_c, p1_i, p1_r, p11_ir, pA_0, pA_1, pA_2, pA_3, pA_4, pA_5, st1_0, st1_i, st1_r, st1_n, st1_u, st1_j, st1_s, st2_0, st2_i, st2_r, st2_n, st2_u, st2_j, st2_s, List.length_cons, List.length_nil, Nat.reduceAdd, Nat.reduceLT, Nat.reduceLeDiff, Nat.reduceEqDiff, Nat.zero_add, true_and, and_true, true_implies, not_true_eq_false, not_false_eq_true, false_implies, Option.toList_some, Option.toList_none, arr, inb, List.cons_append, List.nil_append, rv_some, rv_none, nlt_t, nlt_f, nle_t, nle_f, neq_f, ix_cl, ix_nn, ix_lt, cmp_le, cmp_lt, cmp_eq, cmp_lt0, cmp_ge0, cmp_eq0, cmp_gt0, cmp_le0, nI_mul, nI_add, nm1_ne, nm1_ne', one01, zero01, b2i_0, b2i_1, b2i_01, cmp_eq1, true_or, or_true, false_or, or_false, neq_t, hN_sI, hLn_sI, hR_sI, hL_sI, hI_sI, hN_sA, hLn_sA, hR_sA, hL_sA, hI_sA, hN_wI, hLn_wI, hR_wI, hL_wI, hI_wI, false_and, and_false, if_true, if_false, hN_fA, hLn_fA, hR_fA, hN_wrS, hLn_wrS, hR_wrS, hL_wrS, wS_day, wS_keeps, wS_brs, wS_first, wS_knows, wS_purse, wS_till, wS_valid, wS_kept, sS_day, sS_keeps, sS_brs, sS_first, sS_knows, sS_purse, sS_till, sS_valid, sS_kept, wrS_wrS, day_mk, knows_mk, purse_mk, till_mk, valid_mk, kept_mk, keeps_mk, brs_mk, first_mk, hN_wrU, hLn_wrU, hR_wrU, hL_wrU, wU_19, wU_20, sU_19, sU_20, upd_same, upd_upd, hN_wrR, hLn_wrR, hR_wrR, hL_wrR, bI_0, bI_01', bI_t1, eq_self, Bool.true_eq_false, Bool.false_eq_true, hN_wrC, hLn_wrC, hR_wrC, hL_wrC, lay_174, lay_175, lay_176, lay_177, lay_178, lay_179, lay_180, lay_181, lay_182, lay_183, lay_184, lay_185, lay_186, lay_187, lay_188, lay_189, lay_190, lay_191, lay_192, lay_193, lay_194, lay_195, lay_196, lay_197, lay_198, lay_199, lay_200, lay_201, lay_202, lay_203, lay_204, lay_205, lay_206, lay_207, lay_208, lay_209, lay_210, lay_211, lay_212, lay_213, lay_214, lay_215, lay_216, lay_217, lay_218, lay_219]
            exact hQ
        · have := miss_lt (g := g) 12 e4 g1 g2 g3
          omega
      rcases hx with rfl | ⟨x, rfl⟩ <;> rcases hy with rfl | ⟨y, rfl⟩ <;>
      · simp (disch := omega) only [g227_10, g227_12, g227_15, g227_16, g227_18, g227_19, GN_nx, GN_rtn, GN_ck, GN_br, GN_cll, ldI_0, ldJ_0, ldR_0, ldI_s, ldJ_s, ldR_s, pI_c, pII_c, pJ_c, pJJ_c, pJI_c, pR_c, pRI_c, pRJ_c, pRR_c, pRII_c, pRIJ_c, pRIR_c, pCopy_c, pIe_c, pJe_c, pRe_c, pE_c, p1_i, p1_r, p11_ir, pA_0, pA_1, pA_2, pA_3, pA_4, pA_5, st1_0, st1_i, st1_r, st1_n, st1_u, st1_j, st1_s, st2_0, st2_i, st2_r, st2_n, st2_u, st2_j, st2_s, List.length_cons, List.length_nil, Nat.reduceAdd, Nat.reduceLT, Nat.reduceLeDiff, Nat.reduceEqDiff, Nat.zero_add, true_and, and_true, true_implies, not_true_eq_false, not_false_eq_true, false_implies, Option.toList_some, Option.toList_none, arr, inb, List.cons_append, List.nil_append, rv_some, rv_none, nlt_t, nlt_f, nle_t, nle_f, neq_f, ix_cl, ix_nn, ix_lt, cmp_le, cmp_lt, cmp_eq, cmp_lt0, cmp_ge0, cmp_eq0, cmp_gt0, cmp_le0, nI_mul, nI_add, nm1_ne, nm1_ne', one01, zero01, b2i_0, b2i_1, b2i_01, cmp_eq1, true_or, or_true, false_or, or_false, neq_t, hN_sI, hLn_sI, hR_sI, hL_sI, hI_sI, hN_sA, hLn_sA, hR_sA, hL_sA, hI_sA, hN_wI, hLn_wI, hR_wI, hL_wI, hI_wI, false_and, and_false, if_true, if_false, hN_fA, hLn_fA, hR_fA, hN_wrS, hLn_wrS, hR_wrS, hL_wrS, wS_day, wS_keeps, wS_brs, wS_first, wS_knows, wS_purse, wS_till, wS_valid, wS_kept, sS_day, sS_keeps, sS_brs, sS_first, sS_knows, sS_purse, sS_till, sS_valid, sS_kept, wrS_wrS, day_mk, knows_mk, purse_mk, till_mk, valid_mk, kept_mk, keeps_mk, brs_mk, first_mk, hN_wrU, hLn_wrU, hR_wrU, hL_wrU, wU_19, wU_20, sU_19, sU_20, upd_same, upd_upd, hN_wrR, hLn_wrR, hR_wrR, hL_wrR, bI_0, bI_01', bI_t1, eq_self, Bool.true_eq_false, Bool.false_eq_true, hN_wrC, hLn_wrC, hR_wrC, hL_wrC, lay_174, lay_175, lay_176, lay_177, lay_178, lay_179, lay_180, lay_181, lay_182, lay_183, lay_184, lay_185, lay_186, lay_187, lay_188, lay_189, lay_190, lay_191, lay_192, lay_193, lay_194, lay_195, lay_196, lay_197, lay_198, lay_199, lay_200, lay_201, lay_202, lay_203, lay_204, lay_205, lay_206, lay_207, lay_208, lay_209, lay_210, lay_211, lay_212, lay_213, lay_214, lay_215, lay_216, lay_217, lay_218, lay_219]
        exact inner
    | succ q ih =>
      intro m s x y hq hI hm hQ hx hy
      have inner : G (d - 1) 227 21 [.ref 174, .int (nI v), .int (nI i), .int (nI (8 * v + i)), .int (nI 0), .int (nI 0), y] [] (wrL h v s) Q := by
        refine Mo_round (by omega) hM hC hv hi hI (by omega) hy (fun a y' e1 e2 e3 hy' => ?_)
        obtain ⟨a, n⟩ := a
        rw [infM, ← (show a = inrM C i s from e1)] at hQ
        obtain ⟨e4, ⟨rfl, rfl⟩ | ⟨rfl, g, g1, g2, g3⟩⟩ := e3
        · rw [if_pos rfl] at hQ
          rcases hy' with rfl | ⟨y', rfl⟩ <;>
          · simp (disch := omega) only [g227_10, g227_12, g227_116, GN_nx, GN_rtn, GN_ck, GN_br, GN_cll, ldI_0, ldJ_0, ldR_0, ldI_s, ldJ_s, ldR_s, pI_c, pII_c, pJ_c, pJJ_c, pJI_c, pR_c, pRI_c, pRJ_c, pRR_c, pRII_c, pRIJ_c, pRIR_c, pCopy_c, pIe_c, pJe_c, pRe_c, pE_c, p1_i, p1_r, p11_ir, pA_0, pA_1, pA_2, pA_3, pA_4, pA_5, st1_0, st1_i, st1_r, st1_n, st1_u, st1_j, st1_s, st2_0, st2_i, st2_r, st2_n, st2_u, st2_j, st2_s, List.length_cons, List.length_nil, Nat.reduceAdd, Nat.reduceLT, Nat.reduceLeDiff, Nat.reduceEqDiff, Nat.zero_add, true_and, and_true, true_implies, not_true_eq_false, not_false_eq_true, false_implies, Option.toList_some, Option.toList_none, arr, inb, List.cons_append, List.nil_append, rv_some, rv_none, nlt_t, nlt_f, nle_t, nle_f, neq_f, ix_cl, ix_nn, ix_lt, cmp_le, cmp_lt, cmp_eq, cmp_lt0, cmp_ge0, cmp_eq0, cmp_gt0, cmp_le0, nI_mul, nI_add, nm1_ne, nm1_ne', one01, zero01, b2i_0, b2i_1, b2i_01, cmp_eq1, true_or, or_true, false_or, or_false, neq_t, hN_sI, hLn_sI, hR_sI, hL_sI, hI_sI, hN_sA, hLn_sA, hR_sA, hL_sA, hI_sA, hN_wI, hLn_wI, hR_wI, hL_wI, hI_wI, false_and, and_false, if_true, if_false, hN_fA, hLn_fA, hR_fA, hN_wrS, hLn_wrS, hR_wrS, hL_wrS, wS_day, wS_keeps, wS_brs, wS_first, wS_knows, wS_purse, wS_till, wS_valid, wS_kept, sS_day, sS_keeps, sS_brs, sS_first, sS_knows, sS_purse, sS_till, sS_valid, sS_kept, wrS_wrS, day_mk, knows_mk, purse_mk, till_mk, valid_mk, kept_mk, keeps_mk, brs_mk, first_mk, hN_wrU, hLn_wrU, hR_wrU, hL_wrU, wU_19, wU_20, sU_19, sU_20, upd_same, upd_upd, hN_wrR, hLn_wrR, hR_wrR, hL_wrR, bI_0, bI_01', bI_t1, eq_self, Bool.true_eq_false, Bool.false_eq_true, hN_wrC, hLn_wrC, hR_wrC, hL_wrC, lay_174, lay_175, lay_176, lay_177, lay_178, lay_179, lay_180, lay_181, lay_182, lay_183, lay_184, lay_185, lay_186, lay_187, lay_188, lay_189, lay_190, lay_191, lay_192, lay_193, lay_194, lay_195, lay_196, lay_197, lay_198, lay_199, lay_200, lay_201, lay_202, lay_203, lay_204, lay_205, lay_206, lay_207, lay_208, lay_209, lay_210, lay_211, lay_212, lay_213, lay_214, lay_215, lay_216, lay_217, lay_218, lay_219]
            exact hQ
        · have : missN 12 (a.knows i) < missN 12 (s.knows i) := miss_lt (g := g) 12 e4 g1 g2 g3
          rw [if_neg (fun z => g3 (by rw [← z]; exact g2))] at hQ
          exact ih (m + 16) a _ y' (by omega) e2 (by omega) hQ (Or.inr ⟨_, rfl⟩) hy'
      rcases hx with rfl | ⟨x, rfl⟩ <;> rcases hy with rfl | ⟨y, rfl⟩ <;>
      · simp (disch := omega) only [g227_10, g227_12, g227_15, g227_16, g227_18, g227_19, GN_nx, GN_rtn, GN_ck, GN_br, GN_cll, ldI_0, ldJ_0, ldR_0, ldI_s, ldJ_s, ldR_s, pI_c, pII_c, pJ_c, pJJ_c, pJI_c, pR_c, pRI_c, pRJ_c, pRR_c, pRII_c, pRIJ_c, pRIR_c, pCopy_c, pIe_c, pJe_c, pRe_c, pE_c, p1_i, p1_r, p11_ir, pA_0, pA_1, pA_2, pA_3, pA_4, pA_5, st1_0, st1_i, st1_r, st1_n, st1_u, st1_j, st1_s, st2_0, st2_i, st2_r, st2_n, st2_u, st2_j, st2_s, List.length_cons, List.length_nil, Nat.reduceAdd, Nat.reduceLT, Nat.reduceLeDiff, Nat.reduceEqDiff, Nat.zero_add, true_and, and_true, true_implies, not_true_eq_false, not_false_eq_true, false_implies, Option.toList_some, Option.toList_none, arr, inb, List.cons_append, List.nil_append, rv_some, rv_none, nlt_t, nlt_f, nle_t, nle_f, neq_f, ix_cl, ix_nn, ix_lt, cmp_le, cmp_lt, cmp_eq, cmp_lt0, cmp_ge0, cmp_eq0, cmp_gt0, cmp_le0, nI_mul, nI_add, nm1_ne, nm1_ne', one01, zero01, b2i_0, b2i_1, b2i_01, cmp_eq1, true_or, or_true, false_or, or_false, neq_t, hN_sI, hLn_sI, hR_sI, hL_sI, hI_sI, hN_sA, hLn_sA, hR_sA, hL_sA, hI_sA, hN_wI, hLn_wI, hR_wI, hL_wI, hI_wI, false_and, and_false, if_true, if_false, hN_fA, hLn_fA, hR_fA, hN_wrS, hLn_wrS, hR_wrS, hL_wrS, wS_day, wS_keeps, wS_brs, wS_first, wS_knows, wS_purse, wS_till, wS_valid, wS_kept, sS_day, sS_keeps, sS_brs, sS_first, sS_knows, sS_purse, sS_till, sS_valid, sS_kept, wrS_wrS, day_mk, knows_mk, purse_mk, till_mk, valid_mk, kept_mk, keeps_mk, brs_mk, first_mk, hN_wrU, hLn_wrU, hR_wrU, hL_wrU, wU_19, wU_20, sU_19, sU_20, upd_same, upd_upd, hN_wrR, hLn_wrR, hR_wrR, hL_wrR, bI_0, bI_01', bI_t1, eq_self, Bool.true_eq_false, Bool.false_eq_true, hN_wrC, hLn_wrC, hR_wrC, hL_wrC, lay_174, lay_175, lay_176, lay_177, lay_178, lay_179, lay_180, lay_181, lay_182, lay_183, lay_184, lay_185, lay_186, lay_187, lay_188, lay_189, lay_190, lay_191, lay_192, lay_193, lay_194, lay_195, lay_196, lay_197, lay_198, lay_199, lay_200, lay_201, lay_202, lay_203, lay_204, lay_205, lay_206, lay_207, lay_208, lay_209, lay_210, lay_211, lay_212, lay_213, lay_214, lay_215, lay_216, lay_217, lay_218, lay_219]
        exact inner
  exact key 12 m s uu uu (miss_le 12) hI0 (by omega) hQ (Or.inl rfl) (Or.inl rfl)
end MO4
