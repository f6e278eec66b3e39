/-! the maker of BlissMarket -/
def C0 (t : Nat → Int32) : PC := (0, 0, 0, 0, nI 20, fun _ => 0, fun _ => 0, fun _ => 0, fun _ => 0, fun _ => 0, fun _ => 0, fun _ => 0, fun _ => 0, fun _ => 0, t, 0, fun _ => 0, 0, fun _ => 0)
def A0 (t : Nat → Int32) : AS := mkA (C0 t) (fun _ => 0) (fun _ => 0) zeroS [] 1 (fun _ => 0) 0 (fun _ => 0) 0 (-1) 0 (fun _ => 0)
theorem nxt {a b : AH} {q i n : Nat} {v : Option Nat} (g : Gr q (alc (sR a 0 i v) 0 n) b) (hq : q ≤ hN a) : ∀ x, x < q → ¬ x = 0 → Same a b x := fun x w1 w2 => Same_trans (Same_sR w2) (Same_trans (Same_alc (by rw [hN_sR]; omega)) (g x w1))
theorem ref_step {a b : AH} {q i n : Nat} {v : Option Nat} (g : Gr q (alc (sR a 0 i v) 0 n) b) (hq : 0 < q) (hN0 : 0 < hN a) : (∀ j, hR b 0 j = if j = i then v else hR a 0 j) ∧ hI b 0 = hI a 0 := by
  have g0 := g 0 hq
  refine ⟨fun j => ?_, ?_⟩
  · rw [g0.2.2.1, hR_alc, if_neg (by rw [hN_sR]; omega), hR_sR]
    by_cases hj : j = i
    · rw [if_pos ⟨rfl, hj⟩, if_pos hj]
    · rw [if_neg (fun z => hj z.2), if_neg hj]
  · rw [g0.1]
    funext j
    rw [hI_alc, if_neg (by rw [hN_sR]; omega)]
    rfl
section MAKE4
variable {d : Nat} {h : AH} {Q : Option Value → AH → Prop}
theorem C_init (hd : 12 ≤ d) (hp : hN h = 1) (hz : hI h 0 = fun _ => 0) (hQ : ∀ h' t, hN h' = 174 → hW h' ≤ hW h + 10000 → hS h' = hS h → (∀ h'', 219 < hN h'' → (∀ a, a < 174 → Same h' h'' a) → ClsAt h'' 6 161 148 154 (A0 t)) → Q none h') : CL d 104 [.ref 0] h Q := by
  refine en104 (by omega) ?_
  have y0 : lay 0 = 8 := rfl
  have y1 : lay 1 = 11 := rfl
  have y2 : lay 2 = 5 := rfl
  have y5 : lay 5 = 1 := rfl
  have y21 : lay 21 = 4 := rfl
  have y24 : lay 24 = 3 := rfl
  have y26 : lay 26 = 2 := rfl
  have y148 : lay 148 = 6 := rfl
  have y154 : lay 154 = 6 := rfl
  have y160 : lay 160 = 10 := rfl
  have y161 : lay 161 = 0 := rfl
  simp (disch := omega) only [g104_0, g104_1, g104_4, g104_5, g104_8, g104_10, g104_13, g104_14, g104_17, g104_18, GN_nx, GN_rtn, GN_ck, GN_br, GN_cll, ldI_0, ldJ_0, ldR_0, ldI_s, ldJ_s, ldR_s, pI_c, pII_c, pJ_c, pJJ_c, pJI_c, pR_c, pRI_c, pRJ_c, pRR_c, pRII_c, pRIJ_c, pRIR_c, pCopy_c, pIe_c, pJe_c, pRe_c, pE_c, p1_i, p1_r, p11_ir, pA_0, pA_1, pA_2, pA_3, pA_4, pA_5, st1_0, st1_i, st1_r, st1_n, st1_u, st1_j, st1_s, st2_0, st2_i, st2_r, st2_n, st2_u, st2_j, st2_s, List.length_cons, List.length_nil, Nat.reduceAdd, Nat.reduceLT, Nat.reduceLeDiff, Nat.reduceEqDiff, Nat.zero_add, true_and, and_true, true_implies, not_true_eq_false, not_false_eq_true, false_implies, Option.toList_some, Option.toList_none, arr, inb, List.cons_append, List.nil_append, rv_some, rv_none, nlt_t, nlt_f, nle_t, nle_f, neq_f, ix_cl, ix_nn, ix_lt, cmp_le, cmp_lt, cmp_eq, cmp_lt0, cmp_ge0, cmp_eq0, cmp_gt0, cmp_le0, nI_mul, nI_add, nm1_ne, nm1_ne', one01, zero01, b2i_0, b2i_1, b2i_01, cmp_eq1, true_or, or_true, false_or, or_false, neq_t, hN_sI, hLn_sI, hR_sI, hL_sI, hI_sI, hN_sA, hLn_sA, hR_sA, hL_sA, hI_sA, hN_wI, hLn_wI, hR_wI, hL_wI, hI_wI, false_and, and_false, if_true, if_false, hN_fA, hLn_fA, hR_fA, hN_wrS, hLn_wrS, hR_wrS, hL_wrS, wS_day, wS_keeps, wS_brs, wS_first, wS_knows, wS_purse, wS_till, wS_valid, wS_kept, sS_day, sS_keeps, sS_brs, sS_first, sS_knows, sS_purse, sS_till, sS_valid, sS_kept, wrS_wrS, day_mk, knows_mk, purse_mk, till_mk, valid_mk, kept_mk, keeps_mk, brs_mk, first_mk, hN_wrU, hLn_wrU, hR_wrU, hL_wrU, wU_19, wU_20, sU_19, sU_20, upd_same, upd_upd, hN_wrR, hLn_wrR, hR_wrR, hL_wrR, bI_0, bI_01', bI_t1, eq_self, Bool.true_eq_false, Bool.false_eq_true, hN_wrC, hLn_wrC, hR_wrC, hL_wrC,  y0, y1, y2, na_def, hN_na, hN_alc, hp, ix_mil]
  refine Rd_init (by omega) (by rw [hN_alc, hN_na, hp]) (by funext j; rw [hI_alc, if_pos (by rw [hN_na, hp])]) (fun h1 n1 w1 s1 g1 ra rb rc rd re rf => ?_)
  have q1 : ∀ j, hR h1 0 j = if j = 0 then some 1 else if False then none else hR h 0 j := fun j => by
    rw [(g1 0 (by omega)).2.2.1, hR_alc, if_neg (by rw [hN_na, hp]; omega), hR_na, if_neg (show ¬ 0 = hN h by omega), if_neg (show ¬ False from id)]
    by_cases hj : j = 0
    · rw [if_pos ⟨rfl, hj⟩, if_pos hj]
    · rw [if_neg (fun z => hj z.2), if_neg hj]
  have v1 : hI h1 0 = fun _ => 0 := by
    rw [(g1 0 (by omega)).1]
    funext j
    rw [hI_alc, if_neg (by rw [hN_na, hp]; omega), hI_na, if_neg (by omega), hz]
  have t1 : hI h1 1 = (fun _ => 0) ∧ hLn h1 1 = 1600 := by
    refine ⟨?_, ?_⟩
    · rw [(g1 1 (by omega)).1]
      funext j
      rw [hI_alc, if_neg (by rw [hN_na, hp]; omega), hI_na, if_pos (by omega)]
    · rw [(g1 1 (by omega)).2.2.2, hLn_alc, if_neg (by rw [hN_na, hp]; omega), hLn_na, if_pos (by omega)]
  have w1 : hW h1 = hW h + 1600 + 16 + 1626 := w1
  have s1 : hS h1 = hS h := s1
  simp (disch := omega) only [g104_21, g104_24, g104_25, g104_28, g104_29, GN_nx, GN_rtn, GN_ck, GN_br, GN_cll, ldI_0, ldJ_0, ldR_0, ldI_s, ldJ_s, ldR_s, pI_c, pII_c, pJ_c, pJJ_c, pJI_c, pR_c, pRI_c, pRJ_c, pRR_c, pRII_c, pRIJ_c, pRIR_c, pCopy_c, pIe_c, pJe_c, pRe_c, pE_c, p1_i, p1_r, p11_ir, pA_0, pA_1, pA_2, pA_3, pA_4, pA_5, st1_0, st1_i, st1_r, st1_n, st1_u, st1_j, st1_s, st2_0, st2_i, st2_r, st2_n, st2_u, st2_j, st2_s, List.length_cons, List.length_nil, Nat.reduceAdd, Nat.reduceLT, Nat.reduceLeDiff, Nat.reduceEqDiff, Nat.zero_add, true_and, and_true, true_implies, not_true_eq_false, not_false_eq_true, false_implies, Option.toList_some, Option.toList_none, arr, inb, List.cons_append, List.nil_append, rv_some, rv_none, nlt_t, nlt_f, nle_t, nle_f, neq_f, ix_cl, ix_nn, ix_lt, cmp_le, cmp_lt, cmp_eq, cmp_lt0, cmp_ge0, cmp_eq0, cmp_gt0, cmp_le0, nI_mul, nI_add, nm1_ne, nm1_ne', one01, zero01, b2i_0, b2i_1, b2i_01, cmp_eq1, true_or, or_true, false_or, or_false, neq_t, hN_sI, hLn_sI, hR_sI, hL_sI, hI_sI, hN_sA, hLn_sA, hR_sA, hL_sA, hI_sA, hN_wI, hLn_wI, hR_wI, hL_wI, hI_wI, false_and, and_false, if_true, if_false, hN_fA, hLn_fA, hR_fA, hN_wrS, hLn_wrS, hR_wrS, hL_wrS, wS_day, wS_keeps, wS_brs, wS_first, wS_knows, wS_purse, wS_till, wS_valid, wS_kept, sS_day, sS_keeps, sS_brs, sS_first, sS_knows, sS_purse, sS_till, sS_valid, sS_kept, wrS_wrS, day_mk, knows_mk, purse_mk, till_mk, valid_mk, kept_mk, keeps_mk, brs_mk, first_mk, hN_wrU, hLn_wrU, hR_wrU, hL_wrU, wU_19, wU_20, sU_19, sU_20, upd_same, upd_upd, hN_wrR, hLn_wrR, hR_wrR, hL_wrR, bI_0, bI_01', bI_t1, eq_self, Bool.true_eq_false, Bool.false_eq_true, hN_wrC, hLn_wrC, hR_wrC, hL_wrC,  y0, y5, hN_sR, hN_alc, n1, ix_mil]
  refine Mk_init (by omega) (by rw [hN_alc, hN_sR, n1]) (fun h2 n2 w2 s2 g2 ma mb mc md me => ?_)
  obtain ⟨q2, v2⟩ := ref_step g2 (by omega) (by omega)
  have x2 := nxt g2 (by omega)
  have w2 : hW h2 = hW h1 + 2 + 330 := w2
  have s2 : hS h2 = hS h1 := s2
  simp (disch := omega) only [g104_32, g104_35, g104_36, g104_39, g104_40, GN_nx, GN_rtn, GN_ck, GN_br, GN_cll, ldI_0, ldJ_0, ldR_0, ldI_s, ldJ_s, ldR_s, pI_c, pII_c, pJ_c, pJJ_c, pJI_c, pR_c, pRI_c, pRJ_c, pRR_c, pRII_c, pRIJ_c, pRIR_c, pCopy_c, pIe_c, pJe_c, pRe_c, pE_c, p1_i, p1_r, p11_ir, pA_0, pA_1, pA_2, pA_3, pA_4, pA_5, st1_0, st1_i, st1_r, st1_n, st1_u, st1_j, st1_s, st2_0, st2_i, st2_r, st2_n, st2_u, st2_j, st2_s, List.length_cons, List.length_nil, Nat.reduceAdd, Nat.reduceLT, Nat.reduceLeDiff, Nat.reduceEqDiff, Nat.zero_add, true_and, and_true, true_implies, not_true_eq_false, not_false_eq_true, false_implies, Option.toList_some, Option.toList_none, arr, inb, List.cons_append, List.nil_append, rv_some, rv_none, nlt_t, nlt_f, nle_t, nle_f, neq_f, ix_cl, ix_nn, ix_lt, cmp_le, cmp_lt, cmp_eq, cmp_lt0, cmp_ge0, cmp_eq0, cmp_gt0, cmp_le0, nI_mul, nI_add, nm1_ne, nm1_ne', one01, zero01, b2i_0, b2i_1, b2i_01, cmp_eq1, true_or, or_true, false_or, or_false, neq_t, hN_sI, hLn_sI, hR_sI, hL_sI, hI_sI, hN_sA, hLn_sA, hR_sA, hL_sA, hI_sA, hN_wI, hLn_wI, hR_wI, hL_wI, hI_wI, false_and, and_false, if_true, if_false, hN_fA, hLn_fA, hR_fA, hN_wrS, hLn_wrS, hR_wrS, hL_wrS, wS_day, wS_keeps, wS_brs, wS_first, wS_knows, wS_purse, wS_till, wS_valid, wS_kept, sS_day, sS_keeps, sS_brs, sS_first, sS_knows, sS_purse, sS_till, sS_valid, sS_kept, wrS_wrS, day_mk, knows_mk, purse_mk, till_mk, valid_mk, kept_mk, keeps_mk, brs_mk, first_mk, hN_wrU, hLn_wrU, hR_wrU, hL_wrU, wU_19, wU_20, sU_19, sU_20, upd_same, upd_upd, hN_wrR, hLn_wrR, hR_wrR, hL_wrR, bI_0, bI_01', bI_t1, eq_self, Bool.true_eq_false, Bool.false_eq_true, hN_wrC, hLn_wrC, hR_wrC, hL_wrC,  y0, y21, hN_sR, hN_alc, n2, ix_mil]
  refine Qu_init (by omega) (by rw [hN_alc, hN_sR, n2]) (fun h3 n3 w3 s3 g3 qa qb qc qd qe => ?_)
  obtain ⟨q3, v3⟩ := ref_step g3 (by omega) (by omega)
  have x3 := nxt g3 (by omega)
  have w3 : hW h3 = hW h2 + 8 + 24 := w3
  have s3 : hS h3 = hS h2 := s3
  simp (disch := omega) only [g104_43, g104_46, g104_47, g104_50, g104_51, GN_nx, GN_rtn, GN_ck, GN_br, GN_cll, ldI_0, ldJ_0, ldR_0, ldI_s, ldJ_s, ldR_s, pI_c, pII_c, pJ_c, pJJ_c, pJI_c, pR_c, pRI_c, pRJ_c, pRR_c, pRII_c, pRIJ_c, pRIR_c, pCopy_c, pIe_c, pJe_c, pRe_c, pE_c, p1_i, p1_r, p11_ir, pA_0, pA_1, pA_2, pA_3, pA_4, pA_5, st1_0, st1_i, st1_r, st1_n, st1_u, st1_j, st1_s, st2_0, st2_i, st2_r, st2_n, st2_u, st2_j, st2_s, List.length_cons, List.length_nil, Nat.reduceAdd, Nat.reduceLT, Nat.reduceLeDiff, Nat.reduceEqDiff, Nat.zero_add, true_and, and_true, true_implies, not_true_eq_false, not_false_eq_true, false_implies, Option.toList_some, Option.toList_none, arr, inb, List.cons_append, List.nil_append, rv_some, rv_none, nlt_t, nlt_f, nle_t, nle_f, neq_f, ix_cl, ix_nn, ix_lt, cmp_le, cmp_lt, cmp_eq, cmp_lt0, cmp_ge0, cmp_eq0, cmp_gt0, cmp_le0, nI_mul, nI_add, nm1_ne, nm1_ne', one01, zero01, b2i_0, b2i_1, b2i_01, cmp_eq1, true_or, or_true, false_or, or_false, neq_t, hN_sI, hLn_sI, hR_sI, hL_sI, hI_sI, hN_sA, hLn_sA, hR_sA, hL_sA, hI_sA, hN_wI, hLn_wI, hR_wI, hL_wI, hI_wI, false_and, and_false, if_true, if_false, hN_fA, hLn_fA, hR_fA, hN_wrS, hLn_wrS, hR_wrS, hL_wrS, wS_day, wS_keeps, wS_brs, wS_first, wS_knows, wS_purse, wS_till, wS_valid, wS_kept, sS_day, sS_keeps, sS_brs, sS_first, sS_knows, sS_purse, sS_till, sS_valid, sS_kept, wrS_wrS, day_mk, knows_mk, purse_mk, till_mk, valid_mk, kept_mk, keeps_mk, brs_mk, first_mk, hN_wrU, hLn_wrU, hR_wrU, hL_wrU, wU_19, wU_20, sU_19, sU_20, upd_same, upd_upd, hN_wrR, hLn_wrR, hR_wrR, hL_wrR, bI_0, bI_01', bI_t1, eq_self, Bool.true_eq_false, Bool.false_eq_true, hN_wrC, hLn_wrC, hR_wrC, hL_wrC,  y0, y24, hN_sR, hN_alc, n3, ix_mil]
  refine Pi_init (by omega) (by rw [hN_alc, hN_sR, n3]) (fun h4 n4 w4 s4 g4 pa pb pc pd => ?_)
  obtain ⟨q4, v4⟩ := ref_step g4 (by omega) (by omega)
  have x4 := nxt g4 (by omega)
  have w4 : hW h4 = hW h3 + 2 + 227 := w4
  have s4 : hS h4 = hS h3 := s4
  have pc : ∀ j, hI h4 24 j = 0 := fun j => by rw [pc, hI_alc, if_pos (by rw [hN_sR, n3])]
  simp (disch := omega) only [g104_54, g104_57, g104_58, g104_61, g104_62, GN_nx, GN_rtn, GN_ck, GN_br, GN_cll, ldI_0, ldJ_0, ldR_0, ldI_s, ldJ_s, ldR_s, pI_c, pII_c, pJ_c, pJJ_c, pJI_c, pR_c, pRI_c, pRJ_c, pRR_c, pRII_c, pRIJ_c, pRIR_c, pCopy_c, pIe_c, pJe_c, pRe_c, pE_c, p1_i, p1_r, p11_ir, pA_0, pA_1, pA_2, pA_3, pA_4, pA_5, st1_0, st1_i, st1_r, st1_n, st1_u, st1_j, st1_s, st2_0, st2_i, st2_r, st2_n, st2_u, st2_j, st2_s, List.length_cons, List.length_nil, Nat.reduceAdd, Nat.reduceLT, Nat.reduceLeDiff, Nat.reduceEqDiff, Nat.zero_add, true_and, and_true, true_implies, not_true_eq_false, not_false_eq_true, false_implies, Option.toList_some, Option.toList_none, arr, inb, List.cons_append, List.nil_append, rv_some, rv_none, nlt_t, nlt_f, nle_t, nle_f, neq_f, ix_cl, ix_nn, ix_lt, cmp_le, cmp_lt, cmp_eq, cmp_lt0, cmp_ge0, cmp_eq0, cmp_gt0, cmp_le0, nI_mul, nI_add, nm1_ne, nm1_ne', one01, zero01, b2i_0, b2i_1, b2i_01, cmp_eq1, true_or, or_true, false_or, or_false, neq_t, hN_sI, hLn_sI, hR_sI, hL_sI, hI_sI, hN_sA, hLn_sA, hR_sA, hL_sA, hI_sA, hN_wI, hLn_wI, hR_wI, hL_wI, hI_wI, false_and, and_false, if_true, if_false, hN_fA, hLn_fA, hR_fA, hN_wrS, hLn_wrS, hR_wrS, hL_wrS, wS_day, wS_keeps, wS_brs, wS_first, wS_knows, wS_purse, wS_till, wS_valid, wS_kept, sS_day, sS_keeps, sS_brs, sS_first, sS_knows, sS_purse, sS_till, sS_valid, sS_kept, wrS_wrS, day_mk, knows_mk, purse_mk, till_mk, valid_mk, kept_mk, keeps_mk, brs_mk, first_mk, hN_wrU, hLn_wrU, hR_wrU, hL_wrU, wU_19, wU_20, sU_19, sU_20, upd_same, upd_upd, hN_wrR, hLn_wrR, hR_wrR, hL_wrR, bI_0, bI_01', bI_t1, eq_self, Bool.true_eq_false, Bool.false_eq_true, hN_wrC, hLn_wrC, hR_wrC, hL_wrC,  y0, y26, hN_sR, hN_alc, n4, ix_mil]
  refine Pa_init (by omega) (by rw [hN_alc, hN_sR, n4]) (fun h5 i5 => ?_)
  obtain ⟨n5, w5, s5, g5, z5, u5, l5, k5⟩ := i5
  obtain ⟨q5, v5⟩ := ref_step g5 (by omega) (by omega)
  have x5 := nxt g5 (by omega)
  have n5 : hN h5 = 148 := n5
  have w5 : hW h5 = hW h4 + 3 + 20 + 20 * 169 := w5
  have s5 : hS h5 = hS h4 := s5
  have z5 : ∀ j, hI h5 26 j = 0 := fun j => by rw [z5, hI_alc, if_pos (by rw [hN_sR, n4])]
  simp (disch := omega) only [g104_65, g104_68, g104_69, g104_72, g104_73, GN_nx, GN_rtn, GN_ck, GN_br, GN_cll, ldI_0, ldJ_0, ldR_0, ldI_s, ldJ_s, ldR_s, pI_c, pII_c, pJ_c, pJJ_c, pJI_c, pR_c, pRI_c, pRJ_c, pRR_c, pRII_c, pRIJ_c, pRIR_c, pCopy_c, pIe_c, pJe_c, pRe_c, pE_c, p1_i, p1_r, p11_ir, pA_0, pA_1, pA_2, pA_3, pA_4, pA_5, st1_0, st1_i, st1_r, st1_n, st1_u, st1_j, st1_s, st2_0, st2_i, st2_r, st2_n, st2_u, st2_j, st2_s, List.length_cons, List.length_nil, Nat.reduceAdd, Nat.reduceLT, Nat.reduceLeDiff, Nat.reduceEqDiff, Nat.zero_add, true_and, and_true, true_implies, not_true_eq_false, not_false_eq_true, false_implies, Option.toList_some, Option.toList_none, arr, inb, List.cons_append, List.nil_append, rv_some, rv_none, nlt_t, nlt_f, nle_t, nle_f, neq_f, ix_cl, ix_nn, ix_lt, cmp_le, cmp_lt, cmp_eq, cmp_lt0, cmp_ge0, cmp_eq0, cmp_gt0, cmp_le0, nI_mul, nI_add, nm1_ne, nm1_ne', one01, zero01, b2i_0, b2i_1, b2i_01, cmp_eq1, true_or, or_true, false_or, or_false, neq_t, hN_sI, hLn_sI, hR_sI, hL_sI, hI_sI, hN_sA, hLn_sA, hR_sA, hL_sA, hI_sA, hN_wI, hLn_wI, hR_wI, hL_wI, hI_wI, false_and, and_false, if_true, if_false, hN_fA, hLn_fA, hR_fA, hN_wrS, hLn_wrS, hR_wrS, hL_wrS, wS_day, wS_keeps, wS_brs, wS_first, wS_knows, wS_purse, wS_till, wS_valid, wS_kept, sS_day, sS_keeps, sS_brs, sS_first, sS_knows, sS_purse, sS_till, sS_valid, sS_kept, wrS_wrS, day_mk, knows_mk, purse_mk, till_mk, valid_mk, kept_mk, keeps_mk, brs_mk, first_mk, hN_wrU, hLn_wrU, hR_wrU, hL_wrU, wU_19, wU_20, sU_19, sU_20, upd_same, upd_upd, hN_wrR, hLn_wrR, hR_wrR, hL_wrR, bI_0, bI_01', bI_t1, eq_self, Bool.true_eq_false, Bool.false_eq_true, hN_wrC, hLn_wrC, hR_wrC, hL_wrC,  y0, y148, hN_sR, hN_alc, n5, ix_mil]
  refine St_init (p := 148) (by omega) (by rw [hN_alc, hN_sR, n5]) rfl rfl rfl rfl rfl rfl (by omega) (by funext j; rw [hI_alc, if_pos (by rw [hN_sR, n5])]) (fun h6 n6 w6 s6 g6 ka kb => ?_)
  obtain ⟨q6, v6⟩ := ref_step g6 (by omega) (by omega)
  have x6 := nxt g6 (by omega)
  have n6 : hN h6 = 154 := n6
  have w6 : hW h6 = hW h5 + 9 + 160 := w6
  have s6 : hS h6 = hS h5 := s6
  simp (disch := omega) only [g104_76, g104_79, g104_80, g104_83, g104_84, GN_nx, GN_rtn, GN_ck, GN_br, GN_cll, ldI_0, ldJ_0, ldR_0, ldI_s, ldJ_s, ldR_s, pI_c, pII_c, pJ_c, pJJ_c, pJI_c, pR_c, pRI_c, pRJ_c, pRR_c, pRII_c, pRIJ_c, pRIR_c, pCopy_c, pIe_c, pJe_c, pRe_c, pE_c, p1_i, p1_r, p11_ir, pA_0, pA_1, pA_2, pA_3, pA_4, pA_5, st1_0, st1_i, st1_r, st1_n, st1_u, st1_j, st1_s, st2_0, st2_i, st2_r, st2_n, st2_u, st2_j, st2_s, List.length_cons, List.length_nil, Nat.reduceAdd, Nat.reduceLT, Nat.reduceLeDiff, Nat.reduceEqDiff, Nat.zero_add, true_and, and_true, true_implies, not_true_eq_false, not_false_eq_true, false_implies, Option.toList_some, Option.toList_none, arr, inb, List.cons_append, List.nil_append, rv_some, rv_none, nlt_t, nlt_f, nle_t, nle_f, neq_f, ix_cl, ix_nn, ix_lt, cmp_le, cmp_lt, cmp_eq, cmp_lt0, cmp_ge0, cmp_eq0, cmp_gt0, cmp_le0, nI_mul, nI_add, nm1_ne, nm1_ne', one01, zero01, b2i_0, b2i_1, b2i_01, cmp_eq1, true_or, or_true, false_or, or_false, neq_t, hN_sI, hLn_sI, hR_sI, hL_sI, hI_sI, hN_sA, hLn_sA, hR_sA, hL_sA, hI_sA, hN_wI, hLn_wI, hR_wI, hL_wI, hI_wI, false_and, and_false, if_true, if_false, hN_fA, hLn_fA, hR_fA, hN_wrS, hLn_wrS, hR_wrS, hL_wrS, wS_day, wS_keeps, wS_brs, wS_first, wS_knows, wS_purse, wS_till, wS_valid, wS_kept, sS_day, sS_keeps, sS_brs, sS_first, sS_knows, sS_purse, sS_till, sS_valid, sS_kept, wrS_wrS, day_mk, knows_mk, purse_mk, till_mk, valid_mk, kept_mk, keeps_mk, brs_mk, first_mk, hN_wrU, hLn_wrU, hR_wrU, hL_wrU, wU_19, wU_20, sU_19, sU_20, upd_same, upd_upd, hN_wrR, hLn_wrR, hR_wrR, hL_wrR, bI_0, bI_01', bI_t1, eq_self, Bool.true_eq_false, Bool.false_eq_true, hN_wrC, hLn_wrC, hR_wrC, hL_wrC,  y0, y154, hN_sR, hN_alc, n6, ix_mil]
  refine St_init (p := 154) (by omega) (by rw [hN_alc, hN_sR, n6]) rfl rfl rfl rfl rfl rfl (by omega) (by funext j; rw [hI_alc, if_pos (by rw [hN_sR, n6])]) (fun h7 n7 w7 s7 g7 ja jb => ?_)
  obtain ⟨q7, v7⟩ := ref_step g7 (by omega) (by omega)
  have x7 := nxt g7 (by omega)
  have n7 : hN h7 = 160 := n7
  have w7 : hW h7 = hW h6 + 9 + 160 := w7
  have s7 : hS h7 = hS h6 := s7
  simp (disch := omega) only [g104_87, g104_90, g104_91, g104_93, g104_95, g104_98, g104_99, g104_102, g104_103, GN_nx, GN_rtn, GN_ck, GN_br, GN_cll, ldI_0, ldJ_0, ldR_0, ldI_s, ldJ_s, ldR_s, pI_c, pII_c, pJ_c, pJJ_c, pJI_c, pR_c, pRI_c, pRJ_c, pRR_c, pRII_c, pRIJ_c, pRIR_c, pCopy_c, pIe_c, pJe_c, pRe_c, pE_c, p1_i, p1_r, p11_ir, pA_0, pA_1, pA_2, pA_3, pA_4, pA_5, st1_0, st1_i, st1_r, st1_n, st1_u, st1_j, st1_s, st2_0, st2_i, st2_r, st2_n, st2_u, st2_j, st2_s, List.length_cons, List.length_nil, Nat.reduceAdd, Nat.reduceLT, Nat.reduceLeDiff, Nat.reduceEqDiff, Nat.zero_add, true_and, and_true, true_implies, not_true_eq_false, not_false_eq_true, false_implies, Option.toList_some, Option.toList_none, arr, inb, List.cons_append, List.nil_append, rv_some, rv_none, nlt_t, nlt_f, nle_t, nle_f, neq_f, ix_cl, ix_nn, ix_lt, cmp_le, cmp_lt, cmp_eq, cmp_lt0, cmp_ge0, cmp_eq0, cmp_gt0, cmp_le0, nI_mul, nI_add, nm1_ne, nm1_ne', one01, zero01, b2i_0, b2i_1, b2i_01, cmp_eq1, true_or, or_true, false_or, or_false, neq_t, hN_sI, hLn_sI, hR_sI, hL_sI, hI_sI, hN_sA, hLn_sA, hR_sA, hL_sA, hI_sA, hN_wI, hLn_wI, hR_wI, hL_wI, hI_wI, false_and, and_false, if_true, if_false, hN_fA, hLn_fA, hR_fA, hN_wrS, hLn_wrS, hR_wrS, hL_wrS, wS_day, wS_keeps, wS_brs, wS_first, wS_knows, wS_purse, wS_till, wS_valid, wS_kept, sS_day, sS_keeps, sS_brs, sS_first, sS_knows, sS_purse, sS_till, sS_valid, sS_kept, wrS_wrS, day_mk, knows_mk, purse_mk, till_mk, valid_mk, kept_mk, keeps_mk, brs_mk, first_mk, hN_wrU, hLn_wrU, hR_wrU, hL_wrU, wU_19, wU_20, sU_19, sU_20, upd_same, upd_upd, hN_wrR, hLn_wrR, hR_wrR, hL_wrR, bI_0, bI_01', bI_t1, eq_self, Bool.true_eq_false, Bool.false_eq_true, hN_wrC, hLn_wrC, hR_wrC, hL_wrC,  y0, y160, y161, na_def, hN_na, hN_sR, hN_alc, n7, ix_mil]
  refine Cap_init (p := 161) (by omega) (by rw [hN_alc, hN_na, hN_sR, n7]) rfl (fun k k1 k2 => (by decide +kernel : ∀ k : Fin 13, 1 ≤ k.val → lay (161 + k.val) = 10) ⟨k, by omega⟩ k1) (by omega) (by funext j; rw [hI_alc, if_pos (by rw [hN_na, hN_sR, n7])]) (fun h8 n8 w8 s8 g8 ca => ?_)
  have n8 : hN h8 = 174 := n8
  have w8 : hW h8 = hW h7 + 6 + 20 + 236 := w8
  have s8 : hS h8 = hS h7 := s8
  have x8 : ∀ x, x < 160 → ¬ x = 0 → Same h7 h8 x := fun x z1 z2 => Same_trans (Same_sR z2) (Same_trans (Same_trans (Same_alc (by rw [hN_sR, n7]; omega)) (Same_sR z2)) (Same_trans (Same_alc (by rw [hN_sR, hN_alc, hN_sR, n7]; omega)) (g8 x (by omega))))
  have q8 : ∀ j, hR h8 0 j = if j = 8 then some 160 else if j = 7 then some 154 else hR h7 0 j := fun j => by
    rw [(g8 0 (by omega)).2.2.1, hR_alc, if_neg (by rw [hN_na, hN_sR, n7]; omega), hR_na]
    by_cases h8' : j = 8
    · rw [if_pos ⟨rfl, h8'⟩, if_pos h8']
    · rw [if_neg (fun z => h8' z.2), if_neg (by rw [hN_sR, n7]; omega), hR_sR, if_neg h8']
      by_cases h7' : j = 7
      · rw [if_pos ⟨rfl, h7'⟩, if_pos h7']
      · rw [if_neg (fun z => h7' z.2), if_neg h7']
  have v8 : hI h8 0 = hI h7 0 := by
    rw [(g8 0 (by omega)).1]
    funext j
    rw [hI_alc, if_neg (by rw [hN_na, hN_sR, n7]; omega), hI_na, if_neg (by rw [hN_sR, n7]; omega), hI_sR]
  have t8 : hI h8 160 = (fun _ => 0) ∧ hLn h8 160 = 6 := by
    refine ⟨?_, ?_⟩
    · rw [(g8 160 (by omega)).1]
      funext j
      rw [hI_alc, if_neg (by rw [hN_na, hN_sR, n7]; omega), hI_na, if_pos (by rw [hN_sR, n7])]
    · rw [(g8 160 (by omega)).2.2.2, hLn_alc, if_neg (by rw [hN_na, hN_sR, n7]; omega), hLn_na, if_pos (by rw [hN_sR, n7])]
  simp (disch := omega) only [g104_106, g104_109, g104_110, g104_111, g104_114, g104_115, g104_116, g104_119, GN_nx, GN_rtn, GN_ck, GN_br, GN_cll, ldI_0, ldJ_0, ldR_0, ldI_s, ldJ_s, ldR_s, pI_c, pII_c, pJ_c, pJJ_c, pJI_c, pR_c, pRI_c, pRJ_c, pRR_c, pRII_c, pRIJ_c, pRIR_c, pCopy_c, pIe_c, pJe_c, pRe_c, pE_c, p1_i, p1_r, p11_ir, pA_0, pA_1, pA_2, pA_3, pA_4, pA_5, st1_0, st1_i, st1_r, st1_n, st1_u, st1_j, st1_s, st2_0, st2_i, st2_r, st2_n, st2_u, st2_j, st2_s, List.length_cons, List.length_nil, Nat.reduceAdd, Nat.reduceLT, Nat.reduceLeDiff, Nat.reduceEqDiff, Nat.zero_add, true_and, and_true, true_implies, not_true_eq_false, not_false_eq_true, false_implies, Option.toList_some, Option.toList_none, arr, inb, List.cons_append, List.nil_append, rv_some, rv_none, nlt_t, nlt_f, nle_t, nle_f, neq_f, ix_cl, ix_nn, ix_lt, cmp_le, cmp_lt, cmp_eq, cmp_lt0, cmp_ge0, cmp_eq0, cmp_gt0, cmp_le0, nI_mul, nI_add, nm1_ne, nm1_ne', one01, zero01, b2i_0, b2i_1, b2i_01, cmp_eq1, true_or, or_true, false_or, or_false, neq_t, hN_sI, hLn_sI, hR_sI, hL_sI, hI_sI, hN_sA, hLn_sA, hR_sA, hL_sA, hI_sA, hN_wI, hLn_wI, hR_wI, hL_wI, hI_wI, false_and, and_false, if_true, if_false, hN_fA, hLn_fA, hR_fA, hN_wrS, hLn_wrS, hR_wrS, hL_wrS, wS_day, wS_keeps, wS_brs, wS_first, wS_knows, wS_purse, wS_till, wS_valid, wS_kept, sS_day, sS_keeps, sS_brs, sS_first, sS_knows, sS_purse, sS_till, sS_valid, sS_kept, wrS_wrS, day_mk, knows_mk, purse_mk, till_mk, valid_mk, kept_mk, keeps_mk, brs_mk, first_mk, hN_wrU, hLn_wrU, hR_wrU, hL_wrU, wU_19, wU_20, sU_19, sU_20, upd_same, upd_upd, hN_wrR, hLn_wrR, hR_wrR, hL_wrR, bI_0, bI_01', bI_t1, eq_self, Bool.true_eq_false, Bool.false_eq_true, hN_wrC, hLn_wrC, hR_wrC, hL_wrC,  y0, hN_sR, n8]
  refine hQ _ (hI h8 18) n8 ?_ ?_ (fun F nF sF => ?_)
  · show hW h8 ≤ _
    omega
  · show hS h8 = _
    rw [s8, s7, s6, s5, s4, s3, s2, s1]
  have f8 : ∀ x, x < 174 → ¬ x = 0 → Same h8 F x := fun x z1 z2 => Same_trans (Same_trans (Same_sR z2) (Same_trans (Same_sI z2) (Same_sI z2))) (sF x z1)
  have f7 : ∀ x, x < 160 → ¬ x = 0 → Same h7 F x := fun x z1 z2 => Same_trans (x8 x z1 z2) (f8 x (by omega) z2)
  have f6 : ∀ x, x < 154 → ¬ x = 0 → Same h6 F x := fun x z1 z2 => Same_trans (x7 x z1 z2) (f7 x (by omega) z2)
  have f5 : ∀ x, x < 148 → ¬ x = 0 → Same h5 F x := fun x z1 z2 => Same_trans (x6 x z1 z2) (f6 x (by omega) z2)
  have f4 : ∀ x, x < 26 → ¬ x = 0 → Same h4 F x := fun x z1 z2 => Same_trans (x5 x z1 z2) (f5 x (by omega) z2)
  have f3 : ∀ x, x < 24 → ¬ x = 0 → Same h3 F x := fun x z1 z2 => Same_trans (x4 x z1 z2) (f4 x (by omega) z2)
  have f2 : ∀ x, x < 21 → ¬ x = 0 → Same h2 F x := fun x z1 z2 => Same_trans (x3 x z1 z2) (f3 x (by omega) z2)
  have f1 : ∀ x, x < 5 → ¬ x = 0 → Same h1 F x := fun x z1 z2 => Same_trans (x2 x z1 z2) (f2 x (by omega) z2)
  have s0 := sF 0 (by omega)
  have rF : ∀ j, hR F 0 j = if j = 9 then some 161 else hR h8 0 j := fun j => by
    rw [s0.2.2.1]
    show hR (sR h8 0 9 (some 161)) 0 j = _
    rw [hR_sR]
    by_cases hj : j = 9
    · rw [if_pos ⟨rfl, hj⟩, if_pos hj]
    · rw [if_neg (fun z => hj z.2), if_neg hj]
  have iF : ∀ j, hI F 0 j = if j = 11 then nI 1 else 0 := fun j => by
    rw [s0.1, hI_sI, hI_sI, hI_sR, v8, v7, v6, v5, v4, v3, v2, v1]
    by_cases hj : j = 11
    · rw [if_pos ⟨rfl, hj⟩, if_pos hj]
    · rw [if_neg (fun z => hj z.2), if_neg hj]
      by_cases hj2 : j = 10
      · rw [if_pos ⟨rfl, hj2⟩]
        exact nI_0
      · rw [if_neg (fun z => hj2 z.2)]
  have capF : CapNew F 6 := CapNew_same (by omega) (fun a z1 z2 => f2 a (by omega) (by omega)) mc
  have capG : CapNew F 161 := CapNew_same (by omega) (fun a z1 z2 => f8 a (by omega) (by omega)) ca
  have slots : ∀ k, k < 20 → StAt F (28 + 6 * k) ∧ NowAt F (28 + 6 * k) zeroS := fun k hk => ⟨St_same (by omega) (fun a z1 z2 => f5 a (by omega) (by omega)) (k5 k hk).2.1, Now_same (fun a z1 z2 => f5 a (by omega) (by omega)) (k5 k hk).2.2⟩
  have i3 := (f1 3 (by omega) (by omega)).2.2.2
  have i20 := (f2 20 (by omega) (by omega)).2.2.2
  refine ⟨⟨y0, nF, ?_, ?_, ?_, ?_, ?_, ?_, ?_, ?_, ?_, ?_, ⟨y1, (f1 1 (by omega) (by omega)).2.2.2.trans t1.2, by omega⟩, ⟨y160, (f8 160 (by omega) (by omega)).2.2.2.trans t8.2⟩, St_same (by omega) (fun a z1 z2 => f6 a (by omega) (by omega)) ka, St_same (by omega) (fun a z1 z2 => f7 a (by omega) (by omega)) ja, ⟨y26, nF, ?_, rfl, (f5 27 (by omega) (by omega)).2.2.2.trans l5, fun k hk => ?_, fun k hk => (slots k hk).1⟩, ⟨y21, nF, ?_, ?_, ⟨rfl, (f3 22 (by omega) (by omega)).2.2.2.trans qc.2⟩, ⟨rfl, (f3 23 (by omega) (by omega)).2.2.2.trans qd.2⟩⟩, ⟨y24, nF, ?_, rfl, (f4 25 (by omega) (by omega)).2.2.2.trans pb⟩, capG.1, Or.inl ⟨rfl, rfl⟩, ⟨rfl, rfl⟩, ⟨y2, ?_, ⟨rfl, i3.trans rc.2⟩⟩, ⟨?_, rfl, (f1 4 (by omega) (by omega)).2.2.2.trans rd, fun k hk => by rw [(f1 4 (by omega) (by omega)).2.1]; exact re k hk⟩⟩, ⟨⟨y5, by omega, ?_, ?_, capF.1, rfl, ?_, ⟨rfl, i20.trans me.2⟩⟩, ⟨⟨?_, Nat.zero_le _⟩, ⟨?_, Nat.zero_le _⟩, ⟨?_, Nat.zero_le _⟩, ⟨?_, Nat.zero_le _⟩, ?_⟩, fun i hi => absurd hi (Nat.not_lt_zero i), fun i hi => absurd hi (Nat.not_lt_zero i), fun i hi => absurd hi (Nat.not_lt_zero i), fun i hi => absurd hi (Nat.not_lt_zero i), fun i hi => absurd hi (Nat.not_lt_zero i), fun i hi => absurd hi (Nat.not_lt_zero i), fun i hi => absurd hi (Nat.not_lt_zero i), fun i hi => absurd hi (Nat.not_lt_zero i), fun i hi => absurd hi (Nat.not_lt_zero i), fun i hi => absurd hi (Nat.not_lt_zero i), fun i hi => absurd hi (Nat.not_lt_zero i), fun i hi => absurd hi (Nat.not_lt_zero i), fun i hi => by rw [show (6 : Nat) + 12 = 18 from rfl, (f8 18 (by omega) (by omega)).1]; rfl, Or.inl ⟨rfl, capF.2.2.1⟩, Or.inl ⟨rfl, capF.2.2.2⟩⟩, fun i hi => absurd hi (Nat.not_lt_zero i), fun i hi => absurd hi (Nat.not_lt_zero i), Now_same (fun a z1 z2 => f6 a (by omega) (by omega)) kb, ⟨⟨0, Nat.zero_le _, nI_0.symm⟩, 0, Nat.zero_le _, nI_0.symm⟩, ⟨0, ?_, by omega, ?_, Nat.zero_le _, fun k s hk => by cases hk⟩, ?_, fun k hk => ?_, ⟨?_, Nat.zero_le _⟩, fun k hk => ?_, ?_, ?_, ⟨?_, Nat.zero_le _⟩, fun k hk => ?_, ⟨0, ?_, Nat.zero_le _⟩⟩
  all_goals
    first
      | (rw [rF, q8, q7, q6, q5, q4, q3, q2, q1]; rfl)
      | skip
  · rw [(f5 26 (by omega) (by omega)).2.2.1]
    exact u5
  · rw [(f5 27 (by omega) (by omega)).2.2.1]
    exact (k5 k hk).1
  · rw [(f3 21 (by omega) (by omega)).2.2.1]
    exact qa
  · rw [(f3 21 (by omega) (by omega)).2.2.1]
    exact qb
  · rw [(f4 24 (by omega) (by omega)).2.2.1]
    exact pa
  · rw [(f1 2 (by omega) (by omega)).2.2.1]
    exact ra
  · rw [(f1 2 (by omega) (by omega)).2.2.1]
    exact rb
  · rw [(f2 5 (by omega) (by omega)).2.2.1]
    exact ma
  · rw [(f2 5 (by omega) (by omega)).2.2.1]
    exact mb
  · rw [(f2 19 (by omega) (by omega)).2.2.1]
    exact md
  · exact (capF.2.1 3).trans nI_0.symm
  · exact (capF.2.1 6).trans nI_0.symm
  · exact (capF.2.1 10).trans nI_0.symm
  · exact (capF.2.1 14).trans nI_0.symm
  · exact capF.2.1 17
  · rw [(f5 26 (by omega) (by omega)).1, z5]
    exact nI_0.symm
  · rw [(f5 26 (by omega) (by omega)).1, z5]
    exact nI_0.symm
  · rw [iF, if_pos rfl]
    show nI 1 = (1 : Int32)
    decide
  · rw [(f8 160 (by omega) (by omega)).1, t8.1]
    rfl
  · rw [iF]
    exact nI_0.symm
  · rw [(f1 1 (by omega) (by omega)).1, t1.1]
    rfl
  · rw [(f1 2 (by omega) (by omega)).1, rf]
    rfl
  · rw [(f1 2 (by omega) (by omega)).1, rf]
    rfl
  · rw [(f4 24 (by omega) (by omega)).1, pc]
    exact nI_0.symm
  · rw [(f4 25 (by omega) (by omega)).1, pd]
    rfl
  · rw [(f1 2 (by omega) (by omega)).1, rf]
    exact nI_0.symm
end MAKE4
