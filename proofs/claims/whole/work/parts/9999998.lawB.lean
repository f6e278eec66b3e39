/-! the law's loop -/
def h00 (L : Nat) (xs : Nat → Int32) : AH := (0, 0, fun _ => 0, fun _ _ => 0, fun _ _ => 0, fun _ _ => none, (L, xs))
def endQ (r : Option Value) (h' : AH) : Prop := r = some (.int 1) ∧ hN h' ≤ 600000 ∧ hW h' ≤ 7302250
theorem and63 (x : Int32) : ∃ k, k < 64 ∧ x &&& nI 63 = nI k := by
  refine ⟨x.toBitVec.toNat % 64, Nat.mod_lt _ (by omega), ?_⟩
  apply Int32.toBitVec_inj.mp
  apply BitVec.eq_of_toNat_eq
  show (x.toBitVec &&& BitVec.ofNat 32 63).toNat = (BitVec.ofNat 32 (x.toBitVec.toNat % 64)).toNat
  rw [BitVec.toNat_and, BitVec.toNat_ofNat, BitVec.toNat_ofNat]
  have e := Nat.and_two_pow_sub_one_eq_mod x.toBitVec.toNat 6
  rw [show (63 : Nat) % 2 ^ 32 = 2 ^ 6 - 1 from rfl, e]
  have : x.toBitVec.toNat % 2 ^ 6 < 2 ^ 6 := Nat.mod_lt _ (by omega)
  rw [show (2 : Nat) ^ 6 = 64 from rfl] at this ⊢
  rw [Nat.mod_eq_of_lt (b := 2 ^ 32) (by omega)]
section LAWB
variable {d k j L : Nat} {xs : Nat → Int32} {h : AH} {Q : Option Value → AH → Prop}
theorem LW_up (hw : LW L xs k h) : LW L xs (k + 1) h := by
  obtain ⟨hs, hn, hww, A, c, e, bk, m, hm, r⟩ := hw
  exact ⟨hs, by omega, by omega, A, c, e, bk, m, by omega, r⟩
theorem law_skip (z : G d 291 18 [.ref 1000003, .ref 0, .ref 174, .int (nI (j + 6))] [] h Q) : G d 291 1226 [.ref 1000003, .ref 0, .ref 174, .int (nI j)] [] h Q := by
  simp (disch := omega) only [g291_1226, g291_1229, GN_nx, GN_rtn, GN_ck, GN_br, GN_cll, ldI_0, ldJ_0, ldR_0, ldI_s, ldJ_s, ldR_s, pI_c, pII_c, pJ_c, pJJ_c, pJI_c, pR_c, pRI_c, pRJ_c, pRR_c, pRII_c, pRIJ_c, pRIR_c, pCopy_c, pIe_c, pJe_c, pRe_c, pE_c, p1_i, p1_r, p11_ir, pA_0, pA_1, pA_2, pA_3, pA_4, pA_5, st1_0, st1_i, st1_r, st1_n, st1_u, st1_j, st1_s, st2_0, st2_i, st2_r, st2_n, st2_u, st2_j, st2_s, List.length_cons, List.length_nil, Nat.reduceAdd, Nat.reduceLT, Nat.reduceLeDiff, Nat.reduceEqDiff, Nat.zero_add, true_and, and_true, true_implies, not_true_eq_false, not_false_eq_true, false_implies, Option.toList_some, Option.toList_none, arr, inb, List.cons_append, List.nil_append, rv_some, rv_none, nlt_t, nlt_f, nle_t, nle_f, neq_f, ix_cl, ix_nn, ix_lt, cmp_le, cmp_lt, cmp_eq, cmp_lt0, cmp_ge0, cmp_eq0, cmp_gt0, cmp_le0, nI_mul, nI_add, nm1_ne, nm1_ne', one01, zero01, b2i_0, b2i_1, b2i_01, cmp_eq1, true_or, or_true, false_or, or_false, neq_t, hN_sI, hLn_sI, hR_sI, hL_sI, hI_sI, hN_sA, hLn_sA, hR_sA, hL_sA, hI_sA, hN_wI, hLn_wI, hR_wI, hL_wI, hI_wI, false_and, and_false, if_true, if_false, hN_fA, hLn_fA, hR_fA, hN_wrS, hLn_wrS, hR_wrS, hL_wrS, wS_day, wS_keeps, wS_brs, wS_first, wS_knows, wS_purse, wS_till, wS_valid, wS_kept, sS_day, sS_keeps, sS_brs, sS_first, sS_knows, sS_purse, sS_till, sS_valid, sS_kept, wrS_wrS, day_mk, knows_mk, purse_mk, till_mk, valid_mk, kept_mk, keeps_mk, brs_mk, first_mk, hN_wrU, hLn_wrU, hR_wrU, hL_wrU, wU_19, wU_20, sU_19, sU_20, upd_same, upd_upd, hN_wrR, hLn_wrR, hR_wrR, hL_wrR, bI_0, bI_01', bI_t1, eq_self, Bool.true_eq_false, Bool.false_eq_true, hN_wrC, hLn_wrC, hR_wrC, hL_wrC, lay_174, lay_175, lay_176, lay_177, lay_178, lay_179, lay_180, lay_181, lay_182, lay_183, lay_184, lay_185, lay_186, lay_187, lay_188, lay_189, lay_190, lay_191, lay_192, lay_193, lay_194, lay_195, lay_196, lay_197, lay_198, lay_199, lay_200, lay_201, lay_202, lay_203, lay_204, lay_205, lay_206, lay_207, lay_208, lay_209, lay_210, lay_211, lay_212, lay_213, lay_214, lay_215, lay_216, lay_217, lay_218, lay_219, hN_wrO, hLn_wrO, hR_wrO, hN_wrL, hLn_wrL, hR_wrL, hN_sL', hI_sL', hR_sL', hLn_sL', hN_wrF, hLn_wrF, hR_wrF,  nI_add]
  exact z
theorem law_call (hd : 131 ≤ d) (hj : j + 6 ≤ L) (hL : L ≤ 3072) (hk : k ≤ 600) (hw : LW L xs k h) (hQ : ∀ h', LW L xs (k + 1) h' → G d 291 18 [.ref 1000003, .ref 0, .ref 174, .int (nI (j + 6))] [] h' Q) (n : Nat) (hn : n < 64) : G d 291 33 [.ref 1000003, .ref 0, .ref 174, .int (nI j)] [.int (nI n)] h Q := by
  have hc : n = 0 ∨ n = 1 ∨ n = 2 ∨ n = 3 ∨ n = 4 ∨ n = 5 ∨ n = 6 ∨ n = 7 ∨ n = 8 ∨ n = 9 ∨ n = 10 ∨ n = 11 ∨ n = 12 ∨ n = 13 ∨ n = 14 ∨ n = 15 ∨ n = 16 ∨ n = 17 ∨ n = 18 ∨ n = 19 ∨ n = 20 ∨ n = 21 ∨ n = 22 ∨ n = 23 ∨ n = 24 ∨ n = 25 ∨ n = 26 ∨ n = 27 ∨ n = 28 ∨ n = 29 ∨ n = 30 ∨ n = 31 ∨ n = 32 ∨ n = 33 ∨ 34 ≤ n := by omega
  rcases hc with rfl | rfl | rfl | rfl | rfl | rfl | rfl | rfl | rfl | rfl | rfl | rfl | rfl | rfl | rfl | rfl | rfl | rfl | rfl | rfl | rfl | rfl | rfl | rfl | rfl | rfl | rfl | rfl | rfl | rfl | rfl | rfl | rfl | rfl | hc
  · exact sw_0 (law_a0 hd pr_0 hj hL hk hw hQ)
  · exact sw_1 (law_a1 hd pr_1 hj hL hk hw hQ)
  · exact sw_2 (law_a2 hd pr_2 hj hL hk hw hQ)
  · exact sw_3 (law_a3 hd pr_3 hj hL hk hw hQ)
  · exact sw_4 (law_a4 hd pr_4 hj hL hk hw hQ)
  · exact sw_5 (law_a5 hd pr_5 hj hL hk hw hQ)
  · exact sw_6 (law_a6 hd pr_6 hj hL hk hw hQ)
  · exact sw_7 (law_a7 hd pr_7 hj hL hk hw hQ)
  · exact sw_8 (law_a8 hd pr_8 hj hL hk hw hQ)
  · exact sw_9 (law_a9 hd pr_9 hj hL hk hw hQ)
  · exact sw_10 (law_a10 hd pr_10 hj hL hk hw hQ)
  · exact sw_11 (law_a11 hd pr_11 hj hL hk hw hQ)
  · exact sw_12 (law_a12 hd pr_12 hj hL hk hw hQ)
  · exact sw_13 (law_a13 hd pr_13 hj hL hk hw hQ)
  · exact sw_14 (law_a14 hd pr_14 hj hL hk hw hQ)
  · exact sw_15 (law_a15 hd pr_15 hj hL hk hw hQ)
  · exact sw_16 (law_a16 hd pr_16 hj hL hk hw hQ)
  · exact sw_17 (law_a17 hd pr_17 hj hL hk hw hQ)
  · exact sw_18 (law_a18 hd pr_18 hj hL hk hw hQ)
  · exact sw_19 (law_a19 hd pr_19 hj hL hk hw hQ)
  · exact sw_20 (law_a20 hd pr_20 hj hL hk hw hQ)
  · exact sw_21 (law_a21 hd pr_21 hj hL hk hw hQ)
  · exact sw_22 (law_a22 hd pr_22 hj hL hk hw hQ)
  · exact sw_23 (law_a23 hd pr_23 hj hL hk hw hQ)
  · exact sw_24 (law_a24 hd pr_24 hj hL hk hw hQ)
  · exact sw_25 (law_a25 hd pr_25 hj hL hk hw hQ)
  · exact sw_26 (law_a26 hd pr_26 hj hL hk hw hQ)
  · exact sw_27 (law_a27 hd pr_27 hj hL hk hw hQ)
  · exact sw_28 (law_a28 hd pr_28 hj hL hk hw hQ)
  · exact sw_29 (law_a29 hd pr_29 hj hL hk hw hQ)
  · exact sw_30 (law_a30 hd pr_30 hj hL hk hw hQ)
  · exact sw_31 (law_a31 hd pr_31 hj hL hk hw hQ)
  · exact sw_32 (law_a32 hd pr_32 hj hL hk hw hQ)
  · exact sw_33 (law_a33 hd pr_33 hj hL hk hw hQ)
  · exact sw_no hc (by omega) (law_skip (hQ h (LW_up hw)))
theorem law_loop (hL : L ≤ 3072) : ∀ (n k : Nat) (h : AH), L ≤ 6 * k + 6 * n → k ≤ 512 → LW L xs k h → G 1000 291 18 [.ref 1000003, .ref 0, .ref 174, .int (nI (6 * k))] [] h endQ := by
  intro n
  induction n with
  | zero =>
    intro k h hn hk hw
    have e1 : (hS h).1 = L := by rw [hw.1]
    have c : (nI L - nI 6 < nI (6 * k)) = True := eq_true (by
      rw [Int32.lt_iff_toInt_lt, sub_int (by omega) (by omega), nI_toInt (by omega)]
      omega)
    have f : endQ (some (.int 1)) h := ⟨rfl, by have := hw.2.1; omega, by have := hw.2.2.1; omega⟩
    rw [g291_18]
    simp (disch := omega) only [g291_19, g291_20, g291_21, g291_23, g291_24, g291_1232, g291_1233, GN_nx, GN_rtn, GN_ck, GN_br, GN_cll, ldI_0, ldJ_0, ldR_0, ldI_s, ldJ_s, ldR_s, pI_c, pII_c, pJ_c, pJJ_c, pJI_c, pR_c, pRI_c, pRJ_c, pRR_c, pRII_c, pRIJ_c, pRIR_c, pCopy_c, pIe_c, pJe_c, pRe_c, pE_c, p1_i, p1_r, p11_ir, pA_0, pA_1, pA_2, pA_3, pA_4, pA_5, st1_0, st1_i, st1_r, st1_n, st1_u, st1_j, st1_s, st2_0, st2_i, st2_r, st2_n, st2_u, st2_j, st2_s, List.length_cons, List.length_nil, Nat.reduceAdd, Nat.reduceLT, Nat.reduceLeDiff, Nat.reduceEqDiff, Nat.zero_add, true_and, and_true, true_implies, not_true_eq_false, not_false_eq_true, false_implies, Option.toList_some, Option.toList_none, arr, inb, List.cons_append, List.nil_append, rv_some, rv_none, nlt_t, nlt_f, nle_t, nle_f, neq_f, ix_cl, ix_nn, ix_lt, cmp_le, cmp_lt, cmp_eq, cmp_lt0, cmp_ge0, cmp_eq0, cmp_gt0, cmp_le0, nI_mul, nI_add, nm1_ne, nm1_ne', one01, zero01, b2i_0, b2i_1, b2i_01, cmp_eq1, true_or, or_true, false_or, or_false, neq_t, hN_sI, hLn_sI, hR_sI, hL_sI, hI_sI, hN_sA, hLn_sA, hR_sA, hL_sA, hI_sA, hN_wI, hLn_wI, hR_wI, hL_wI, hI_wI, false_and, and_false, if_true, if_false, hN_fA, hLn_fA, hR_fA, hN_wrS, hLn_wrS, hR_wrS, hL_wrS, wS_day, wS_keeps, wS_brs, wS_first, wS_knows, wS_purse, wS_till, wS_valid, wS_kept, sS_day, sS_keeps, sS_brs, sS_first, sS_knows, sS_purse, sS_till, sS_valid, sS_kept, wrS_wrS, day_mk, knows_mk, purse_mk, till_mk, valid_mk, kept_mk, keeps_mk, brs_mk, first_mk, hN_wrU, hLn_wrU, hR_wrU, hL_wrU, wU_19, wU_20, sU_19, sU_20, upd_same, upd_upd, hN_wrR, hLn_wrR, hR_wrR, hL_wrR, bI_0, bI_01', bI_t1, eq_self, Bool.true_eq_false, Bool.false_eq_true, hN_wrC, hLn_wrC, hR_wrC, hL_wrC, lay_174, lay_175, lay_176, lay_177, lay_178, lay_179, lay_180, lay_181, lay_182, lay_183, lay_184, lay_185, lay_186, lay_187, lay_188, lay_189, lay_190, lay_191, lay_192, lay_193, lay_194, lay_195, lay_196, lay_197, lay_198, lay_199, lay_200, lay_201, lay_202, lay_203, lay_204, lay_205, lay_206, lay_207, lay_208, lay_209, lay_210, lay_211, lay_212, lay_213, lay_214, lay_215, lay_216, lay_217, lay_218, lay_219, hN_wrO, hLn_wrO, hR_wrO, hN_wrL, hLn_wrL, hR_wrL, hN_sL', hI_sL', hR_sL', hLn_sL', hN_wrF, hLn_wrF, hR_wrF,  e1, c]
    exact f
  | succ n ih =>
    intro k h hn hk hw
    have e1 : (hS h).1 = L := by rw [hw.1]
    have e2 : (hS h).2 = xs := by rw [hw.1]
    by_cases hj : 6 * k + 6 ≤ L
    · have c : (nI L - nI 6 < nI (6 * k)) = False := eq_false (by
        rw [Int32.lt_iff_toInt_lt, sub_int (by omega) (by omega), nI_toInt (by omega)]
        omega)
      obtain ⟨o, ho, eo⟩ := and63 (xs (6 * k))
      have go := law_call (d := 1000) (Q := endQ) (by omega) hj hL (by omega) hw (fun h' w' => by
        have := ih (k + 1) h' (by omega) (by omega) w'
        rw [show 6 * (k + 1) = 6 * k + 6 by omega] at this
        exact this) o ho
      rw [g291_18]
      simp (disch := omega) only [g291_19, g291_20, g291_21, g291_23, g291_24, g291_27, g291_28, g291_29, g291_30, g291_32, GN_nx, GN_rtn, GN_ck, GN_br, GN_cll, ldI_0, ldJ_0, ldR_0, ldI_s, ldJ_s, ldR_s, pI_c, pII_c, pJ_c, pJJ_c, pJI_c, pR_c, pRI_c, pRJ_c, pRR_c, pRII_c, pRIJ_c, pRIR_c, pCopy_c, pIe_c, pJe_c, pRe_c, pE_c, p1_i, p1_r, p11_ir, pA_0, pA_1, pA_2, pA_3, pA_4, pA_5, st1_0, st1_i, st1_r, st1_n, st1_u, st1_j, st1_s, st2_0, st2_i, st2_r, st2_n, st2_u, st2_j, st2_s, List.length_cons, List.length_nil, Nat.reduceAdd, Nat.reduceLT, Nat.reduceLeDiff, Nat.reduceEqDiff, Nat.zero_add, true_and, and_true, true_implies, not_true_eq_false, not_false_eq_true, false_implies, Option.toList_some, Option.toList_none, arr, inb, List.cons_append, List.nil_append, rv_some, rv_none, nlt_t, nlt_f, nle_t, nle_f, neq_f, ix_cl, ix_nn, ix_lt, cmp_le, cmp_lt, cmp_eq, cmp_lt0, cmp_ge0, cmp_eq0, cmp_gt0, cmp_le0, nI_mul, nI_add, nm1_ne, nm1_ne', one01, zero01, b2i_0, b2i_1, b2i_01, cmp_eq1, true_or, or_true, false_or, or_false, neq_t, hN_sI, hLn_sI, hR_sI, hL_sI, hI_sI, hN_sA, hLn_sA, hR_sA, hL_sA, hI_sA, hN_wI, hLn_wI, hR_wI, hL_wI, hI_wI, false_and, and_false, if_true, if_false, hN_fA, hLn_fA, hR_fA, hN_wrS, hLn_wrS, hR_wrS, hL_wrS, wS_day, wS_keeps, wS_brs, wS_first, wS_knows, wS_purse, wS_till, wS_valid, wS_kept, sS_day, sS_keeps, sS_brs, sS_first, sS_knows, sS_purse, sS_till, sS_valid, sS_kept, wrS_wrS, day_mk, knows_mk, purse_mk, till_mk, valid_mk, kept_mk, keeps_mk, brs_mk, first_mk, hN_wrU, hLn_wrU, hR_wrU, hL_wrU, wU_19, wU_20, sU_19, sU_20, upd_same, upd_upd, hN_wrR, hLn_wrR, hR_wrR, hL_wrR, bI_0, bI_01', bI_t1, eq_self, Bool.true_eq_false, Bool.false_eq_true, hN_wrC, hLn_wrC, hR_wrC, hL_wrC, lay_174, lay_175, lay_176, lay_177, lay_178, lay_179, lay_180, lay_181, lay_182, lay_183, lay_184, lay_185, lay_186, lay_187, lay_188, lay_189, lay_190, lay_191, lay_192, lay_193, lay_194, lay_195, lay_196, lay_197, lay_198, lay_199, lay_200, lay_201, lay_202, lay_203, lay_204, lay_205, lay_206, lay_207, lay_208, lay_209, lay_210, lay_211, lay_212, lay_213, lay_214, lay_215, lay_216, lay_217, lay_218, lay_219, hN_wrO, hLn_wrO, hR_wrO, hN_wrL, hLn_wrL, hR_wrL, hN_sL', hI_sL', hR_sL', hLn_sL', hN_wrF, hLn_wrF, hR_wrF,  e1, e2, c, eo]
      exact go
    · have c : (nI L - nI 6 < nI (6 * k)) = True := eq_true (by
        rw [Int32.lt_iff_toInt_lt, sub_int (by omega) (by omega), nI_toInt (by omega)]
        omega)
      have f : endQ (some (.int 1)) h := ⟨rfl, by have := hw.2.1; omega, by have := hw.2.2.1; omega⟩
      rw [g291_18]
      simp (disch := omega) only [g291_19, g291_20, g291_21, g291_23, g291_24, g291_1232, g291_1233, GN_nx, GN_rtn, GN_ck, GN_br, GN_cll, ldI_0, ldJ_0, ldR_0, ldI_s, ldJ_s, ldR_s, pI_c, pII_c, pJ_c, pJJ_c, pJI_c, pR_c, pRI_c, pRJ_c, pRR_c, pRII_c, pRIJ_c, pRIR_c, pCopy_c, pIe_c, pJe_c, pRe_c, pE_c, p1_i, p1_r, p11_ir, pA_0, pA_1, pA_2, pA_3, pA_4, pA_5, st1_0, st1_i, st1_r, st1_n, st1_u, st1_j, st1_s, st2_0, st2_i, st2_r, st2_n, st2_u, st2_j, st2_s, List.length_cons, List.length_nil, Nat.reduceAdd, Nat.reduceLT, Nat.reduceLeDiff, Nat.reduceEqDiff, Nat.zero_add, true_and, and_true, true_implies, not_true_eq_false, not_false_eq_true, false_implies, Option.toList_some, Option.toList_none, arr, inb, List.cons_append, List.nil_append, rv_some, rv_none, nlt_t, nlt_f, nle_t, nle_f, neq_f, ix_cl, ix_nn, ix_lt, cmp_le, cmp_lt, cmp_eq, cmp_lt0, cmp_ge0, cmp_eq0, cmp_gt0, cmp_le0, nI_mul, nI_add, nm1_ne, nm1_ne', one01, zero01, b2i_0, b2i_1, b2i_01, cmp_eq1, true_or, or_true, false_or, or_false, neq_t, hN_sI, hLn_sI, hR_sI, hL_sI, hI_sI, hN_sA, hLn_sA, hR_sA, hL_sA, hI_sA, hN_wI, hLn_wI, hR_wI, hL_wI, hI_wI, false_and, and_false, if_true, if_false, hN_fA, hLn_fA, hR_fA, hN_wrS, hLn_wrS, hR_wrS, hL_wrS, wS_day, wS_keeps, wS_brs, wS_first, wS_knows, wS_purse, wS_till, wS_valid, wS_kept, sS_day, sS_keeps, sS_brs, sS_first, sS_knows, sS_purse, sS_till, sS_valid, sS_kept, wrS_wrS, day_mk, knows_mk, purse_mk, till_mk, valid_mk, kept_mk, keeps_mk, brs_mk, first_mk, hN_wrU, hLn_wrU, hR_wrU, hL_wrU, wU_19, wU_20, sU_19, sU_20, upd_same, upd_upd, hN_wrR, hLn_wrR, hR_wrR, hL_wrR, bI_0, bI_01', bI_t1, eq_self, Bool.true_eq_false, Bool.false_eq_true, hN_wrC, hLn_wrC, hR_wrC, hL_wrC, lay_174, lay_175, lay_176, lay_177, lay_178, lay_179, lay_180, lay_181, lay_182, lay_183, lay_184, lay_185, lay_186, lay_187, lay_188, lay_189, lay_190, lay_191, lay_192, lay_193, lay_194, lay_195, lay_196, lay_197, lay_198, lay_199, lay_200, lay_201, lay_202, lay_203, lay_204, lay_205, lay_206, lay_207, lay_208, lay_209, lay_210, lay_211, lay_212, lay_213, lay_214, lay_215, lay_216, lay_217, lay_218, lay_219, hN_wrO, hLn_wrO, hR_wrO, hN_wrL, hLn_wrL, hR_wrL, hN_sL', hI_sL', hR_sL', hLn_sL', hN_wrF, hLn_wrF, hR_wrF,  e1, c]
      exact f
theorem l174' : lay 174 = 9 := rfl
theorem lawG (L : Nat) (xs : Nat → Int32) (hL : L ≤ 3072) : G 1000 291 0 [.ref 1000003, uu, uu, uu] [] (h00 L xs) (fun r h' => r = some (.int 1) ∧ hN h' ≤ 600000 ∧ hW h' ≤ 7302250) := by
  have n0 : hN (h00 L xs) = 0 := rfl
  have n1 : hN (alc (h00 L xs) 0 12) = 1 := rfl
  have go := C_init (d := 1000) (Q := fun v h1 => G 1000 291 7 [.ref 1000003, uu, uu, uu] (v.toList ++ [.ref 0]) h1 endQ) (h := alc (h00 L xs) 0 12) (by omega) rfl (by funext j; rw [hI_alc, if_pos (show 0 = hN (h00 L xs) from rfl)]) (fun h1 t q1 q2 q3 q4 => ?_)
  · show G 1000 291 0 [.ref 1000003, uu, uu, uu] [] (h00 L xs) endQ
    simp (disch := omega) only [g291_0, g291_3, g291_4, GN_nx, GN_rtn, GN_ck, GN_br, GN_cll, ldI_0, ldJ_0, ldR_0, ldI_s, ldJ_s, ldR_s, pI_c, pII_c, pJ_c, pJJ_c, pJI_c, pR_c, pRI_c, pRJ_c, pRR_c, pRII_c, pRIJ_c, pRIR_c, pCopy_c, pIe_c, pJe_c, pRe_c, pE_c, p1_i, p1_r, p11_ir, pA_0, pA_1, pA_2, pA_3, pA_4, pA_5, st1_0, st1_i, st1_r, st1_n, st1_u, st1_j, st1_s, st2_0, st2_i, st2_r, st2_n, st2_u, st2_j, st2_s, List.length_cons, List.length_nil, Nat.reduceAdd, Nat.reduceLT, Nat.reduceLeDiff, Nat.reduceEqDiff, Nat.zero_add, true_and, and_true, true_implies, not_true_eq_false, not_false_eq_true, false_implies, Option.toList_some, Option.toList_none, arr, inb, List.cons_append, List.nil_append, rv_some, rv_none, nlt_t, nlt_f, nle_t, nle_f, neq_f, ix_cl, ix_nn, ix_lt, cmp_le, cmp_lt, cmp_eq, cmp_lt0, cmp_ge0, cmp_eq0, cmp_gt0, cmp_le0, nI_mul, nI_add, nm1_ne, nm1_ne', one01, zero01, b2i_0, b2i_1, b2i_01, cmp_eq1, true_or, or_true, false_or, or_false, neq_t, hN_sI, hLn_sI, hR_sI, hL_sI, hI_sI, hN_sA, hLn_sA, hR_sA, hL_sA, hI_sA, hN_wI, hLn_wI, hR_wI, hL_wI, hI_wI, false_and, and_false, if_true, if_false, hN_fA, hLn_fA, hR_fA, hN_wrS, hLn_wrS, hR_wrS, hL_wrS, wS_day, wS_keeps, wS_brs, wS_first, wS_knows, wS_purse, wS_till, wS_valid, wS_kept, sS_day, sS_keeps, sS_brs, sS_first, sS_knows, sS_purse, sS_till, sS_valid, sS_kept, wrS_wrS, day_mk, knows_mk, purse_mk, till_mk, valid_mk, kept_mk, keeps_mk, brs_mk, first_mk, hN_wrU, hLn_wrU, hR_wrU, hL_wrU, wU_19, wU_20, sU_19, sU_20, upd_same, upd_upd, hN_wrR, hLn_wrR, hR_wrR, hL_wrR, bI_0, bI_01', bI_t1, eq_self, Bool.true_eq_false, Bool.false_eq_true, hN_wrC, hLn_wrC, hR_wrC, hL_wrC, lay_174, lay_175, lay_176, lay_177, lay_178, lay_179, lay_180, lay_181, lay_182, lay_183, lay_184, lay_185, lay_186, lay_187, lay_188, lay_189, lay_190, lay_191, lay_192, lay_193, lay_194, lay_195, lay_196, lay_197, lay_198, lay_199, lay_200, lay_201, lay_202, lay_203, lay_204, lay_205, lay_206, lay_207, lay_208, lay_209, lay_210, lay_211, lay_212, lay_213, lay_214, lay_215, lay_216, lay_217, lay_218, lay_219, hN_wrO, hLn_wrO, hR_wrO, hN_wrL, hLn_wrL, hR_wrL, hN_sL', hI_sL', hR_sL', hLn_sL', hN_wrF, hLn_wrF, hR_wrF,  l0_8, n0, n1]
    exact go
  · have w0 : hW (alc (h00 L xs) 0 12) = 12 := rfl
    have s0 : hS (alc (h00 L xs) 0 12) = (L, xs) := rfl
    have n2 : hN (alc h1 0 79) = 175 := by show hN h1 + 1 = 175; omega
    have w2 : hW (alc h1 0 79) = hW h1 + 79 := rfl
    have s2 : hS (alc h1 0 79) = hS h1 := rfl
    have go2 := Mo_init (d := 1000) (Q := fun v h2 => G 1000 291 15 [.ref 1000003, .ref 0, uu, uu] (v.toList ++ [.ref 174]) h2 endQ) (h0 := alc h1 0 79) (by omega) n2 (by funext j; rw [hI_alc, if_pos q1.symm]) (by funext j; rw [hL_alc, if_pos q1.symm]) (by funext j; rw [hR_alc, if_pos q1.symm]) (fun h2 p1 p2 p3 p4 p5 => ?_)
    · simp (disch := omega) only [g291_7, g291_8, g291_11, g291_12, GN_nx, GN_rtn, GN_ck, GN_br, GN_cll, ldI_0, ldJ_0, ldR_0, ldI_s, ldJ_s, ldR_s, pI_c, pII_c, pJ_c, pJJ_c, pJI_c, pR_c, pRI_c, pRJ_c, pRR_c, pRII_c, pRIJ_c, pRIR_c, pCopy_c, pIe_c, pJe_c, pRe_c, pE_c, p1_i, p1_r, p11_ir, pA_0, pA_1, pA_2, pA_3, pA_4, pA_5, st1_0, st1_i, st1_r, st1_n, st1_u, st1_j, st1_s, st2_0, st2_i, st2_r, st2_n, st2_u, st2_j, st2_s, List.length_cons, List.length_nil, Nat.reduceAdd, Nat.reduceLT, Nat.reduceLeDiff, Nat.reduceEqDiff, Nat.zero_add, true_and, and_true, true_implies, not_true_eq_false, not_false_eq_true, false_implies, Option.toList_some, Option.toList_none, arr, inb, List.cons_append, List.nil_append, rv_some, rv_none, nlt_t, nlt_f, nle_t, nle_f, neq_f, ix_cl, ix_nn, ix_lt, cmp_le, cmp_lt, cmp_eq, cmp_lt0, cmp_ge0, cmp_eq0, cmp_gt0, cmp_le0, nI_mul, nI_add, nm1_ne, nm1_ne', one01, zero01, b2i_0, b2i_1, b2i_01, cmp_eq1, true_or, or_true, false_or, or_false, neq_t, hN_sI, hLn_sI, hR_sI, hL_sI, hI_sI, hN_sA, hLn_sA, hR_sA, hL_sA, hI_sA, hN_wI, hLn_wI, hR_wI, hL_wI, hI_wI, false_and, and_false, if_true, if_false, hN_fA, hLn_fA, hR_fA, hN_wrS, hLn_wrS, hR_wrS, hL_wrS, wS_day, wS_keeps, wS_brs, wS_first, wS_knows, wS_purse, wS_till, wS_valid, wS_kept, sS_day, sS_keeps, sS_brs, sS_first, sS_knows, sS_purse, sS_till, sS_valid, sS_kept, wrS_wrS, day_mk, knows_mk, purse_mk, till_mk, valid_mk, kept_mk, keeps_mk, brs_mk, first_mk, hN_wrU, hLn_wrU, hR_wrU, hL_wrU, wU_19, wU_20, sU_19, sU_20, upd_same, upd_upd, hN_wrR, hLn_wrR, hR_wrR, hL_wrR, bI_0, bI_01', bI_t1, eq_self, Bool.true_eq_false, Bool.false_eq_true, hN_wrC, hLn_wrC, hR_wrC, hL_wrC, lay_174, lay_175, lay_176, lay_177, lay_178, lay_179, lay_180, lay_181, lay_182, lay_183, lay_184, lay_185, lay_186, lay_187, lay_188, lay_189, lay_190, lay_191, lay_192, lay_193, lay_194, lay_195, lay_196, lay_197, lay_198, lay_199, lay_200, lay_201, lay_202, lay_203, lay_204, lay_205, lay_206, lay_207, lay_208, lay_209, lay_210, lay_211, lay_212, lay_213, lay_214, lay_215, lay_216, lay_217, lay_218, lay_219, hN_wrO, hLn_wrO, hR_wrO, hN_wrL, hLn_wrL, hR_wrL, hN_sL', hI_sL', hR_sL', hLn_sL', hN_wrF, hLn_wrF, hR_wrF,  l174', q1, n2]
      exact go2
    · have hA := q4 h2 (by omega) (fun a ha => Same_trans (Same_alc (by omega)) (p5 a ha))
      have hw : LW L xs 0 h2 := ⟨p4.trans (s2.trans (q3.trans s0)), by omega, by omega, A0 t, 6, 161, 0, 0, Nat.le_refl _, hA, p1 t, INV_init, TyI_init⟩
      have z := law_loop hL 512 0 h2 (by omega) (by omega) hw
      simp (disch := omega) only [g291_15, g291_16, g291_17, GN_nx, GN_rtn, GN_ck, GN_br, GN_cll, ldI_0, ldJ_0, ldR_0, ldI_s, ldJ_s, ldR_s, pI_c, pII_c, pJ_c, pJJ_c, pJI_c, pR_c, pRI_c, pRJ_c, pRR_c, pRII_c, pRIJ_c, pRIR_c, pCopy_c, pIe_c, pJe_c, pRe_c, pE_c, p1_i, p1_r, p11_ir, pA_0, pA_1, pA_2, pA_3, pA_4, pA_5, st1_0, st1_i, st1_r, st1_n, st1_u, st1_j, st1_s, st2_0, st2_i, st2_r, st2_n, st2_u, st2_j, st2_s, List.length_cons, List.length_nil, Nat.reduceAdd, Nat.reduceLT, Nat.reduceLeDiff, Nat.reduceEqDiff, Nat.zero_add, true_and, and_true, true_implies, not_true_eq_false, not_false_eq_true, false_implies, Option.toList_some, Option.toList_none, arr, inb, List.cons_append, List.nil_append, rv_some, rv_none, nlt_t, nlt_f, nle_t, nle_f, neq_f, ix_cl, ix_nn, ix_lt, cmp_le, cmp_lt, cmp_eq, cmp_lt0, cmp_ge0, cmp_eq0, cmp_gt0, cmp_le0, nI_mul, nI_add, nm1_ne, nm1_ne', one01, zero01, b2i_0, b2i_1, b2i_01, cmp_eq1, true_or, or_true, false_or, or_false, neq_t, hN_sI, hLn_sI, hR_sI, hL_sI, hI_sI, hN_sA, hLn_sA, hR_sA, hL_sA, hI_sA, hN_wI, hLn_wI, hR_wI, hL_wI, hI_wI, false_and, and_false, if_true, if_false, hN_fA, hLn_fA, hR_fA, hN_wrS, hLn_wrS, hR_wrS, hL_wrS, wS_day, wS_keeps, wS_brs, wS_first, wS_knows, wS_purse, wS_till, wS_valid, wS_kept, sS_day, sS_keeps, sS_brs, sS_first, sS_knows, sS_purse, sS_till, sS_valid, sS_kept, wrS_wrS, day_mk, knows_mk, purse_mk, till_mk, valid_mk, kept_mk, keeps_mk, brs_mk, first_mk, hN_wrU, hLn_wrU, hR_wrU, hL_wrU, wU_19, wU_20, sU_19, sU_20, upd_same, upd_upd, hN_wrR, hLn_wrR, hR_wrR, hL_wrR, bI_0, bI_01', bI_t1, eq_self, Bool.true_eq_false, Bool.false_eq_true, hN_wrC, hLn_wrC, hR_wrC, hL_wrC, lay_174, lay_175, lay_176, lay_177, lay_178, lay_179, lay_180, lay_181, lay_182, lay_183, lay_184, lay_185, lay_186, lay_187, lay_188, lay_189, lay_190, lay_191, lay_192, lay_193, lay_194, lay_195, lay_196, lay_197, lay_198, lay_199, lay_200, lay_201, lay_202, lay_203, lay_204, lay_205, lay_206, lay_207, lay_208, lay_209, lay_210, lay_211, lay_212, lay_213, lay_214, lay_215, lay_216, lay_217, lay_218, lay_219, hN_wrO, hLn_wrO, hR_wrO, hN_wrL, hLn_wrL, hR_wrL, hN_sL', hI_sL', hR_sL', hLn_sL', hN_wrF, hLn_wrF, hR_wrF]
      exact z
end LAWB
