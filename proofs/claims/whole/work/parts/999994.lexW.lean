/-! the reference: the text -/
section WPR
variable {d L ik c n : Nat} {h h0 : AH} {b : Nat → Int32} {s : RS} {Q : Option Value → AH → Prop} {x : XK}
theorem Tok_end {st : Nat} (h1 : TokAt h s st) : hI h 174 3 = nI 0 ↔ s.1 6 = nI 28 := by
  rcases h1 with ⟨e6, e3, _, _⟩ | ⟨e6, e3, _⟩ | ⟨l, hl, _, h7, e3, _, _, e6, _, _, _⟩ | ⟨v, _, e3, _, _, e6, _, _⟩ | ⟨k, hk, _, e3, _, e, e6, _⟩
  · rw [e3, e6]
    exact ⟨fun _ => rfl, fun _ => rfl⟩
  · rw [e6]
    rcases e3 with e3 | e3
    all_goals
      rw [e3, nI_eq (by omega) (by omega), nI_eq (by omega) (by omega)]
      omega
  · obtain ⟨k, hk, ek⟩ := kd_le hl (by omega)
    rw [e3, e6, ek, nI_eq (by omega) (by omega), nI_eq (by omega) (by omega)]
    omega
  · rw [e3, e6, nI_eq (by omega) (by omega), nI_eq (by omega) (by omega)]
    omega
  · rw [e3, e6, nI_eq (by omega) (by omega), nI_eq (by omega) (by omega)]
    omega
theorem Px_9 (H : Px h b L (true, s)) : hI h 174 9 = -1 := by
  rcases H with ⟨-, -, -, e9⟩ | ⟨z, -⟩
  · exact e9
  · cases z
theorem Tx_px {h' : AH} {s' : RS} (hX : TxH h ik L s x c) (a : Agm pxX h h') (hF : Fw L c s') : TxH h' ik L s' x c := by
  obtain ⟨x1, x2, x3, x4, x5, x6⟩ := hX
  exact ⟨Kx_px a x1, x2, Cq_agm (fun b j z => by unfold pxX at z; omega) (Nat.le_refl _) a x3, Cq_agm (fun b j z => by unfold pxX at z; omega) (Nat.le_refl _) a x4, (Agm_I a (by unfold pxX; omega)).trans x5, hF⟩
theorem lexP_t {r rr : Bool × RS} (hr : rr = r ∨ rr = lexP r) (h1 : r.1 = true) (h2 : ¬ r.2.1 6 = nI 29) : rr = r := by
  rcases hr with z | z
  · exact z
  · rw [z]
    unfold lexP lexF
    rw [if_pos h1, if_neg h2]
    exact Prod.ext h1.symm rfl
theorem fin_f {r : Bool × RS} (h : r.1 = false) : finR b L n r = r := if_neg (by rw [h]; decide)
theorem fin_t {r : Bool × RS} (h : r.1 = true) : finR b L n r = if (psS b L (nI 159) r.2).1 = true ∧ n = 80 ∧ ¬ (psS b L (nI 159) r.2).2.1 6 = nI 28 then flS (psS b L (nI 159) r.2).2 (nI 6) ((psS b L (nI 159) r.2).2.1 8) else psS b L (nI 159) r.2 := if_pos h
theorem Mo_text (hd : 15 ≤ d) : ∀ (q n : Nat) (h : AH) (s : RS) (x : XK) (c : Nat), q + n = 81 → n ≤ 80 → (n = 80 → s.1 6 = nI 28) → CT h b L ik → Px h b L (true, s) → TxH h ik L s x c → Agm (tyX ik) h0 h → ((txL b L q n s x).1 = -1 → ∀ h' m, m ≤ 80 → Agm (tyX ik) h0 h' → Px h' b L (false, (txL b L q n s x).2.1) → G (d - 1) 198 188 [.ref 174, .int (nI m)] [] h' Q) → (∀ m, m ≤ 80 → (txL b L q n s x).1 = nI m → ∀ h' c', Agm (tyX ik) h0 h' → Px h' b L (true, (txL b L q n s x).2.1) → TxH h' ik L (txL b L q n s x).2.1 (txL b L q n s x).2.2 c' → G (d - 1) 198 188 [.ref 174, .int (nI m)] [] h' Q) → G (d - 1) 198 159 [.ref 174, .int (nI n)] [] h Q := by
  intro q
  induction q with
  | zero =>
    intro n h s x c hqn hn
    omega
  | succ q ih =>
    intro n h s x c hqn hn h80 hC hP hX ag hF hT
    have hM := hC.1
    have hM' := hM
    have e8 := Px_t hP
    obtain ⟨st, tk, g4, g8⟩ := Px_tok hP
    have te := Tok_end tk
    rw [txL] at hF hT
    by_cases c28 : s.1 6 = nI 28
    · rw [if_pos c28] at hT
      have e3 := te.mpr c28
      have fin := hT n hn rfl h c ag hP hX
      obtain ⟨xN, ⟨ra0, ra1, ra2, ra3, ra4, ra5, ra6, ra7, ra8, ra9, ra10, ra11, ra12, ra13, ra14, ra15, ra16, ra17, ra18, ra19, ra20, ra21, ra22, ra23, ra24, ra25, ra26, ra27, ra28, ra29, ra30, ra31, ra32, ra33, ra34, ra35, ra36, ra37, ra38, ra39, ra40, ra41, ra42, ra43, ra44⟩, ⟨la0, la1, la2, la3, la4, la5, la6, la7, la8, la9, la10, la11, la12, la13, la14, la15, la16, la17, la18, la19, la20, la21, la22, la23, la24, la25, la26, la27, la28, la29, la30, la31, la32, la33, la34, la35, la36, la37, la38, la39, la40, la41, la42, la43, la44⟩⟩ := hM
      simp (disch := omega) only [g198_159, g198_160, g198_163, g198_166, g198_167, g198_170, GN_nx, GN_rtn, GN_ck, GN_br, GN_cll, ldI_0, ldJ_0, ldR_0, ldI_s, ldJ_s, ldR_s, pI_c, pII_c, pJ_c, pJJ_c, pJI_c, pR_c, pRI_c, pRJ_c, pRR_c, pRII_c, pRIJ_c, pRIR_c, pCopy_c, pIe_c, pJe_c, pRe_c, pE_c, p1_i, p1_r, p11_ir, pA_0, pA_1, pA_2, pA_3, pA_4, pA_5, st1_0, st1_i, st1_r, st1_n, st1_u, st1_j, st1_s, st2_0, st2_i, st2_r, st2_n, st2_u, st2_j, st2_s, List.length_cons, List.length_nil, Nat.reduceAdd, Nat.reduceLT, Nat.reduceLeDiff, Nat.reduceEqDiff, Nat.zero_add, true_and, and_true, true_implies, not_true_eq_false, not_false_eq_true, false_implies, Option.toList_some, Option.toList_none, arr, inb, List.cons_append, List.nil_append, rv_some, rv_none, nlt_t, nlt_f, nle_t, nle_f, neq_f, ix_cl, ix_nn, ix_lt, cmp_le, cmp_lt, cmp_eq, cmp_lt0, cmp_ge0, cmp_eq0, cmp_gt0, cmp_le0, nI_mul, nI_add, nm1_ne, nm1_ne', one01, zero01, b2i_0, b2i_1, b2i_01, cmp_eq1, true_or, or_true, false_or, or_false, neq_t, hN_sI, hLn_sI, hR_sI, hL_sI, hI_sI, hN_sA, hLn_sA, hR_sA, hL_sA, hI_sA, hN_wI, hLn_wI, hR_wI, hL_wI, hI_wI, false_and, and_false, if_true, if_false, hN_fA, hLn_fA, hR_fA, hN_wrS, hLn_wrS, hR_wrS, hL_wrS, wS_day, wS_keeps, wS_brs, wS_first, wS_knows, wS_purse, wS_till, wS_valid, wS_kept, sS_day, sS_keeps, sS_brs, sS_first, sS_knows, sS_purse, sS_till, sS_valid, sS_kept, wrS_wrS, day_mk, knows_mk, purse_mk, till_mk, valid_mk, kept_mk, keeps_mk, brs_mk, first_mk, hN_wrU, hLn_wrU, hR_wrU, hL_wrU, wU_19, wU_20, sU_19, sU_20, upd_same, upd_upd, hN_wrR, hLn_wrR, hR_wrR, hL_wrR, bI_0, bI_01', bI_t1, eq_self, Bool.true_eq_false, Bool.false_eq_true, hN_wrC, hLn_wrC, hR_wrC, hL_wrC, lay_174, lay_175, lay_176, lay_177, lay_178, lay_179, lay_180, lay_181, lay_182, lay_183, lay_184, lay_185, lay_186, lay_187, lay_188, lay_189, lay_190, lay_191, lay_192, lay_193, lay_194, lay_195, lay_196, lay_197, lay_198, lay_199, lay_200, lay_201, lay_202, lay_203, lay_204, lay_205, lay_206, lay_207, lay_208, lay_209, lay_210, lay_211, lay_212, lay_213, lay_214, lay_215, lay_216, lay_217, lay_218, lay_219, hN_wrO, hLn_wrO, hR_wrO, hN_wrL, hLn_wrL, hR_wrL, hN_sL', hI_sL', hR_sL', hLn_sL', hN_wrF, hLn_wrF, hR_wrF,  ra0, ra1, ra2, ra3, ra4, ra5, ra6, ra7, ra8, ra9, ra10, ra11, ra12, ra13, ra14, ra15, ra16, ra17, ra18, ra19, ra20, ra21, ra22, ra23, ra24, ra25, ra26, ra27, ra28, ra29, ra30, ra31, ra32, ra33, ra34, ra35, ra36, ra37, ra38, ra39, ra40, ra41, ra42, ra43, ra44, la0, la1, la2, la3, la4, la5, la6, la7, la8, la9, la10, la11, la12, la13, la14, la15, la16, la17, la18, la19, la20, la21, la22, la23, la24, la25, la26, la27, la28, la29, la30, la31, la32, la33, la34, la35, la36, la37, la38, la39, la40, la41, la42, la43, la44, e8, e3]
      exact fin
    have n80 : ¬ n = 80 := fun z => c28 (h80 z)
    rw [if_neg c28, if_neg (by omega)] at hF hT
    have e3 : (hI h 174 3 = 0) = False := eq_false (fun z => c28 (te.mp z))
    obtain ⟨xN, ⟨ra0, ra1, ra2, ra3, ra4, ra5, ra6, ra7, ra8, ra9, ra10, ra11, ra12, ra13, ra14, ra15, ra16, ra17, ra18, ra19, ra20, ra21, ra22, ra23, ra24, ra25, ra26, ra27, ra28, ra29, ra30, ra31, ra32, ra33, ra34, ra35, ra36, ra37, ra38, ra39, ra40, ra41, ra42, ra43, ra44⟩, ⟨la0, la1, la2, la3, la4, la5, la6, la7, la8, la9, la10, la11, la12, la13, la14, la15, la16, la17, la18, la19, la20, la21, la22, la23, la24, la25, la26, la27, la28, la29, la30, la31, la32, la33, la34, la35, la36, la37, la38, la39, la40, la41, la42, la43, la44⟩⟩ := hM
    simp (disch := omega) only [g198_159, g198_160, g198_163, g198_166, g198_167, g198_170, g198_173, g198_174, GN_nx, GN_rtn, GN_ck, GN_br, GN_cll, ldI_0, ldJ_0, ldR_0, ldI_s, ldJ_s, ldR_s, pI_c, pII_c, pJ_c, pJJ_c, pJI_c, pR_c, pRI_c, pRJ_c, pRR_c, pRII_c, pRIJ_c, pRIR_c, pCopy_c, pIe_c, pJe_c, pRe_c, pE_c, p1_i, p1_r, p11_ir, pA_0, pA_1, pA_2, pA_3, pA_4, pA_5, st1_0, st1_i, st1_r, st1_n, st1_u, st1_j, st1_s, st2_0, st2_i, st2_r, st2_n, st2_u, st2_j, st2_s, List.length_cons, List.length_nil, Nat.reduceAdd, Nat.reduceLT, Nat.reduceLeDiff, Nat.reduceEqDiff, Nat.zero_add, true_and, and_true, true_implies, not_true_eq_false, not_false_eq_true, false_implies, Option.toList_some, Option.toList_none, arr, inb, List.cons_append, List.nil_append, rv_some, rv_none, nlt_t, nlt_f, nle_t, nle_f, neq_f, ix_cl, ix_nn, ix_lt, cmp_le, cmp_lt, cmp_eq, cmp_lt0, cmp_ge0, cmp_eq0, cmp_gt0, cmp_le0, nI_mul, nI_add, nm1_ne, nm1_ne', one01, zero01, b2i_0, b2i_1, b2i_01, cmp_eq1, true_or, or_true, false_or, or_false, neq_t, hN_sI, hLn_sI, hR_sI, hL_sI, hI_sI, hN_sA, hLn_sA, hR_sA, hL_sA, hI_sA, hN_wI, hLn_wI, hR_wI, hL_wI, hI_wI, false_and, and_false, if_true, if_false, hN_fA, hLn_fA, hR_fA, hN_wrS, hLn_wrS, hR_wrS, hL_wrS, wS_day, wS_keeps, wS_brs, wS_first, wS_knows, wS_purse, wS_till, wS_valid, wS_kept, sS_day, sS_keeps, sS_brs, sS_first, sS_knows, sS_purse, sS_till, sS_valid, sS_kept, wrS_wrS, day_mk, knows_mk, purse_mk, till_mk, valid_mk, kept_mk, keeps_mk, brs_mk, first_mk, hN_wrU, hLn_wrU, hR_wrU, hL_wrU, wU_19, wU_20, sU_19, sU_20, upd_same, upd_upd, hN_wrR, hLn_wrR, hR_wrR, hL_wrR, bI_0, bI_01', bI_t1, eq_self, Bool.true_eq_false, Bool.false_eq_true, hN_wrC, hLn_wrC, hR_wrC, hL_wrC, lay_174, lay_175, lay_176, lay_177, lay_178, lay_179, lay_180, lay_181, lay_182, lay_183, lay_184, lay_185, lay_186, lay_187, lay_188, lay_189, lay_190, lay_191, lay_192, lay_193, lay_194, lay_195, lay_196, lay_197, lay_198, lay_199, lay_200, lay_201, lay_202, lay_203, lay_204, lay_205, lay_206, lay_207, lay_208, lay_209, lay_210, lay_211, lay_212, lay_213, lay_214, lay_215, lay_216, lay_217, lay_218, lay_219, hN_wrO, hLn_wrO, hR_wrO, hN_wrL, hLn_wrL, hR_wrL, hN_sL', hI_sL', hR_sL', hLn_sL', hN_wrF, hLn_wrF, hR_wrF,  ra0, ra1, ra2, ra3, ra4, ra5, ra6, ra7, ra8, ra9, ra10, ra11, ra12, ra13, ra14, ra15, ra16, ra17, ra18, ra19, ra20, ra21, ra22, ra23, ra24, ra25, ra26, ra27, ra28, ra29, ra30, ra31, ra32, ra33, ra34, ra35, ra36, ra37, ra38, ra39, ra40, ra41, ra42, ra43, ra44, la0, la1, la2, la3, la4, la5, la6, la7, la8, la9, la10, la11, la12, la13, la14, la15, la16, la17, la18, la19, la20, la21, la22, la23, la24, la25, la26, la27, la28, la29, la30, la31, la32, la33, la34, la35, la36, la37, la38, la39, la40, la41, la42, la43, la44, e8, e3]
    refine Mo_statement (by omega) hC hP c28 hX (fun h1 rr a1 p1 hr q1 => ?_)
    have hC1 : CT h1 b L ik := CT_agm (fun b j z => by unfold tyX pxX at z; omega) a1 hC
    have hN1 := hC1.1.1
    simp (disch := omega) only [g198_177, g198_180, g198_181, g198_182, GN_nx, GN_rtn, GN_ck, GN_br, GN_cll, ldI_0, ldJ_0, ldR_0, ldI_s, ldJ_s, ldR_s, pI_c, pII_c, pJ_c, pJJ_c, pJI_c, pR_c, pRI_c, pRJ_c, pRR_c, pRII_c, pRIJ_c, pRIR_c, pCopy_c, pIe_c, pJe_c, pRe_c, pE_c, p1_i, p1_r, p11_ir, pA_0, pA_1, pA_2, pA_3, pA_4, pA_5, st1_0, st1_i, st1_r, st1_n, st1_u, st1_j, st1_s, st2_0, st2_i, st2_r, st2_n, st2_u, st2_j, st2_s, List.length_cons, List.length_nil, Nat.reduceAdd, Nat.reduceLT, Nat.reduceLeDiff, Nat.reduceEqDiff, Nat.zero_add, true_and, and_true, true_implies, not_true_eq_false, not_false_eq_true, false_implies, Option.toList_some, Option.toList_none, arr, inb, List.cons_append, List.nil_append, rv_some, rv_none, nlt_t, nlt_f, nle_t, nle_f, neq_f, ix_cl, ix_nn, ix_lt, cmp_le, cmp_lt, cmp_eq, cmp_lt0, cmp_ge0, cmp_eq0, cmp_gt0, cmp_le0, nI_mul, nI_add, nm1_ne, nm1_ne', one01, zero01, b2i_0, b2i_1, b2i_01, cmp_eq1, true_or, or_true, false_or, or_false, neq_t, hN_sI, hLn_sI, hR_sI, hL_sI, hI_sI, hN_sA, hLn_sA, hR_sA, hL_sA, hI_sA, hN_wI, hLn_wI, hR_wI, hL_wI, hI_wI, false_and, and_false, if_true, if_false, hN_fA, hLn_fA, hR_fA, hN_wrS, hLn_wrS, hR_wrS, hL_wrS, wS_day, wS_keeps, wS_brs, wS_first, wS_knows, wS_purse, wS_till, wS_valid, wS_kept, sS_day, sS_keeps, sS_brs, sS_first, sS_knows, sS_purse, sS_till, sS_valid, sS_kept, wrS_wrS, day_mk, knows_mk, purse_mk, till_mk, valid_mk, kept_mk, keeps_mk, brs_mk, first_mk, hN_wrU, hLn_wrU, hR_wrU, hL_wrU, wU_19, wU_20, sU_19, sU_20, upd_same, upd_upd, hN_wrR, hLn_wrR, hR_wrR, hL_wrR, bI_0, bI_01', bI_t1, eq_self, Bool.true_eq_false, Bool.false_eq_true, hN_wrC, hLn_wrC, hR_wrC, hL_wrC, lay_174, lay_175, lay_176, lay_177, lay_178, lay_179, lay_180, lay_181, lay_182, lay_183, lay_184, lay_185, lay_186, lay_187, lay_188, lay_189, lay_190, lay_191, lay_192, lay_193, lay_194, lay_195, lay_196, lay_197, lay_198, lay_199, lay_200, lay_201, lay_202, lay_203, lay_204, lay_205, lay_206, lay_207, lay_208, lay_209, lay_210, lay_211, lay_212, lay_213, lay_214, lay_215, lay_216, lay_217, lay_218, lay_219, hN_wrO, hLn_wrO, hR_wrO, hN_wrL, hLn_wrL, hR_wrL, hN_sL', hI_sL', hR_sL', hLn_sL', hN_wrF, hLn_wrF, hR_wrF]
    refine Mo_finishes (r := stB b L s x) (n := n + 1) (by omega) hC1 (by omega) p1 hr (fun h2 a2 p2 => ?_)
    have hC2 : CT h2 b L ik := CT_agm (fun b j z => by unfold pxX at z; omega) a2 hC1
    have ag2 : Agm (tyX ik) h0 h2 := Agm_trans ag (Agm_trans a1 (Agm_sub (fun b j z => px_ty z) a2))
    have hM2 := hC2.1
    have hN2 := hM2.1
    have stop : ∀ t : RS, Px h2 b L (false, t) → G (d - 1) 198 188 [.ref 174, .int (nI (n + 1))] [] h2 Q → G (d - 1) 198 159 [.ref 174, .int (nI (n + 1))] [] h2 Q := fun t pf go => by
      obtain ⟨j, hj, hj7, e8'⟩ := Px_f pf
      obtain ⟨xN, ⟨ra0, ra1, ra2, ra3, ra4, ra5, ra6, ra7, ra8, ra9, ra10, ra11, ra12, ra13, ra14, ra15, ra16, ra17, ra18, ra19, ra20, ra21, ra22, ra23, ra24, ra25, ra26, ra27, ra28, ra29, ra30, ra31, ra32, ra33, ra34, ra35, ra36, ra37, ra38, ra39, ra40, ra41, ra42, ra43, ra44⟩, ⟨la0, la1, la2, la3, la4, la5, la6, la7, la8, la9, la10, la11, la12, la13, la14, la15, la16, la17, la18, la19, la20, la21, la22, la23, la24, la25, la26, la27, la28, la29, la30, la31, la32, la33, la34, la35, la36, la37, la38, la39, la40, la41, la42, la43, la44⟩⟩ := hM2
      simp (disch := omega) only [g198_159, g198_160, g198_163, GN_nx, GN_rtn, GN_ck, GN_br, GN_cll, ldI_0, ldJ_0, ldR_0, ldI_s, ldJ_s, ldR_s, pI_c, pII_c, pJ_c, pJJ_c, pJI_c, pR_c, pRI_c, pRJ_c, pRR_c, pRII_c, pRIJ_c, pRIR_c, pCopy_c, pIe_c, pJe_c, pRe_c, pE_c, p1_i, p1_r, p11_ir, pA_0, pA_1, pA_2, pA_3, pA_4, pA_5, st1_0, st1_i, st1_r, st1_n, st1_u, st1_j, st1_s, st2_0, st2_i, st2_r, st2_n, st2_u, st2_j, st2_s, List.length_cons, List.length_nil, Nat.reduceAdd, Nat.reduceLT, Nat.reduceLeDiff, Nat.reduceEqDiff, Nat.zero_add, true_and, and_true, true_implies, not_true_eq_false, not_false_eq_true, false_implies, Option.toList_some, Option.toList_none, arr, inb, List.cons_append, List.nil_append, rv_some, rv_none, nlt_t, nlt_f, nle_t, nle_f, neq_f, ix_cl, ix_nn, ix_lt, cmp_le, cmp_lt, cmp_eq, cmp_lt0, cmp_ge0, cmp_eq0, cmp_gt0, cmp_le0, nI_mul, nI_add, nm1_ne, nm1_ne', one01, zero01, b2i_0, b2i_1, b2i_01, cmp_eq1, true_or, or_true, false_or, or_false, neq_t, hN_sI, hLn_sI, hR_sI, hL_sI, hI_sI, hN_sA, hLn_sA, hR_sA, hL_sA, hI_sA, hN_wI, hLn_wI, hR_wI, hL_wI, hI_wI, false_and, and_false, if_true, if_false, hN_fA, hLn_fA, hR_fA, hN_wrS, hLn_wrS, hR_wrS, hL_wrS, wS_day, wS_keeps, wS_brs, wS_first, wS_knows, wS_purse, wS_till, wS_valid, wS_kept, sS_day, sS_keeps, sS_brs, sS_first, sS_knows, sS_purse, sS_till, sS_valid, sS_kept, wrS_wrS, day_mk, knows_mk, purse_mk, till_mk, valid_mk, kept_mk, keeps_mk, brs_mk, first_mk, hN_wrU, hLn_wrU, hR_wrU, hL_wrU, wU_19, wU_20, sU_19, sU_20, upd_same, upd_upd, hN_wrR, hLn_wrR, hR_wrR, hL_wrR, bI_0, bI_01', bI_t1, eq_self, Bool.true_eq_false, Bool.false_eq_true, hN_wrC, hLn_wrC, hR_wrC, hL_wrC, lay_174, lay_175, lay_176, lay_177, lay_178, lay_179, lay_180, lay_181, lay_182, lay_183, lay_184, lay_185, lay_186, lay_187, lay_188, lay_189, lay_190, lay_191, lay_192, lay_193, lay_194, lay_195, lay_196, lay_197, lay_198, lay_199, lay_200, lay_201, lay_202, lay_203, lay_204, lay_205, lay_206, lay_207, lay_208, lay_209, lay_210, lay_211, lay_212, lay_213, lay_214, lay_215, lay_216, lay_217, lay_218, lay_219, hN_wrO, hLn_wrO, hR_wrO, hN_wrL, hLn_wrL, hR_wrL, hN_sL', hI_sL', hR_sL', hLn_sL', hN_wrF, hLn_wrF, hR_wrF,  ra0, ra1, ra2, ra3, ra4, ra5, ra6, ra7, ra8, ra9, ra10, ra11, ra12, ra13, ra14, ra15, ra16, ra17, ra18, ra19, ra20, ra21, ra22, ra23, ra24, ra25, ra26, ra27, ra28, ra29, ra30, ra31, ra32, ra33, ra34, ra35, ra36, ra37, ra38, ra39, ra40, ra41, ra42, ra43, ra44, la0, la1, la2, la3, la4, la5, la6, la7, la8, la9, la10, la11, la12, la13, la14, la15, la16, la17, la18, la19, la20, la21, la22, la23, la24, la25, la26, la27, la28, la29, la30, la31, la32, la33, la34, la35, la36, la37, la38, la39, la40, la41, la42, la43, la44, e8']
      exact go
    simp (disch := omega) only [g198_185, GN_nx, GN_rtn, GN_ck, GN_br, GN_cll, ldI_0, ldJ_0, ldR_0, ldI_s, ldJ_s, ldR_s, pI_c, pII_c, pJ_c, pJJ_c, pJI_c, pR_c, pRI_c, pRJ_c, pRR_c, pRII_c, pRIJ_c, pRIR_c, pCopy_c, pIe_c, pJe_c, pRe_c, pE_c, p1_i, p1_r, p11_ir, pA_0, pA_1, pA_2, pA_3, pA_4, pA_5, st1_0, st1_i, st1_r, st1_n, st1_u, st1_j, st1_s, st2_0, st2_i, st2_r, st2_n, st2_u, st2_j, st2_s, List.length_cons, List.length_nil, Nat.reduceAdd, Nat.reduceLT, Nat.reduceLeDiff, Nat.reduceEqDiff, Nat.zero_add, true_and, and_true, true_implies, not_true_eq_false, not_false_eq_true, false_implies, Option.toList_some, Option.toList_none, arr, inb, List.cons_append, List.nil_append, rv_some, rv_none, nlt_t, nlt_f, nle_t, nle_f, neq_f, ix_cl, ix_nn, ix_lt, cmp_le, cmp_lt, cmp_eq, cmp_lt0, cmp_ge0, cmp_eq0, cmp_gt0, cmp_le0, nI_mul, nI_add, nm1_ne, nm1_ne', one01, zero01, b2i_0, b2i_1, b2i_01, cmp_eq1, true_or, or_true, false_or, or_false, neq_t, hN_sI, hLn_sI, hR_sI, hL_sI, hI_sI, hN_sA, hLn_sA, hR_sA, hL_sA, hI_sA, hN_wI, hLn_wI, hR_wI, hL_wI, hI_wI, false_and, and_false, if_true, if_false, hN_fA, hLn_fA, hR_fA, hN_wrS, hLn_wrS, hR_wrS, hL_wrS, wS_day, wS_keeps, wS_brs, wS_first, wS_knows, wS_purse, wS_till, wS_valid, wS_kept, sS_day, sS_keeps, sS_brs, sS_first, sS_knows, sS_purse, sS_till, sS_valid, sS_kept, wrS_wrS, day_mk, knows_mk, purse_mk, till_mk, valid_mk, kept_mk, keeps_mk, brs_mk, first_mk, hN_wrU, hLn_wrU, hR_wrU, hL_wrU, wU_19, wU_20, sU_19, sU_20, upd_same, upd_upd, hN_wrR, hLn_wrR, hR_wrR, hL_wrR, bI_0, bI_01', bI_t1, eq_self, Bool.true_eq_false, Bool.false_eq_true, hN_wrC, hLn_wrC, hR_wrC, hL_wrC, lay_174, lay_175, lay_176, lay_177, lay_178, lay_179, lay_180, lay_181, lay_182, lay_183, lay_184, lay_185, lay_186, lay_187, lay_188, lay_189, lay_190, lay_191, lay_192, lay_193, lay_194, lay_195, lay_196, lay_197, lay_198, lay_199, lay_200, lay_201, lay_202, lay_203, lay_204, lay_205, lay_206, lay_207, lay_208, lay_209, lay_210, lay_211, lay_212, lay_213, lay_214, lay_215, lay_216, lay_217, lay_218, lay_219, hN_wrO, hLn_wrO, hR_wrO, hN_wrL, hLn_wrL, hR_wrL, hN_sL', hI_sL', hR_sL', hLn_sL', hN_wrF, hLn_wrF, hR_wrF]
    cases hs : (stS b L s x).1 with
    | false =>
      have e : finR b L (n + 1) (stB b L s x) = (false, (stS b L s x).2.1) := (fin_f hs).trans (Prod.ext hs rfl)
      rw [e] at p2
      rw [if_neg (by rw [hs]; decide)] at hF
      exact stop _ p2 (hF rfl h2 (n + 1) (by omega) ag2 p2)
    | true =>
      rw [if_pos hs] at hF hT
      have e := fin_t (b := b) (L := L) (n := n + 1) (r := stB b L s x) hs
      have e0 : (stB b L s x).2 = (stS b L s x).2.1 := rfl
      rw [e0] at e
      rw [e] at p2
      cases hp : (psS b L (nI 159) (stS b L s x).2.1).1 with
      | false =>
        rw [if_neg (fun z => by rw [hp] at z; cases z.1)] at p2
        rw [if_neg (by rw [hp]; decide)] at hF
        have p2 : Px h2 b L (false, (psS b L (nI 159) (stS b L s x).2.1).2) := by
          rw [← hp]
          exact p2
        exact stop _ p2 (hF rfl h2 (n + 1) (by omega) ag2 p2)
      | true =>
        rw [if_pos hp] at hF hT
        have k159 : (stS b L s x).2.1.1 6 = nI 159 := by
          unfold psS passR at hp
          by_cases z : (stS b L s x).2.1.1 6 = nI 159
          · exact z
          · rw [if_neg z] at hp
            cases hp
        have err := lexP_t hr hs (by
          show ¬ (stS b L s x).2.1.1 6 = nI 29
          rw [k159]
          decide)
        obtain ⟨c', hX1⟩ := q1 (by rw [err]; exact hs)
        generalize (stS b L s x).2.2 = x' at *
        by_cases cb : n + 1 = 80 ∧ ¬ (psS b L (nI 159) (stS b L s x).2.1).2.1 6 = nI 28
        · rw [if_pos ⟨hp, cb⟩] at p2
          obtain ⟨q', rfl⟩ : ∃ q', q = q' + 1 := ⟨q - 1, by omega⟩
          rw [txL, if_neg cb.2, if_pos (by omega)] at hF
          exact stop _ p2 (hF rfl h2 (n + 1) (by omega) ag2 p2)
        · rw [if_neg (fun z => cb z.2)] at p2
          have p2 : Px h2 b L (true, (psS b L (nI 159) (stS b L s x).2.1).2) := by
            rw [← hp]
            exact p2
          have hX2 := Tx_px hX1 a2 (fw_ps (b := b) (w := nI 159) hC.2.2.1 hX1.2.2.2.2.2)
          exact ih (n + 1) h2 _ x' c' (by omega) (by omega) (fun z => Classical.byContradiction (fun y => cb ⟨z, y⟩)) hC2 p2 hX2 ag2 hF hT
end WPR
