/-! the reference: PRICE and TELLS, a STATEMENT, what ends it -/
def prX (ik c0 a b j : Nat) : Prop := rdX ik c0 b j ∨ ((b = a ∨ b = a + 1) ∧ j = ik)
def bwM (b : Nat) : Nat := if 192 ≤ b ∧ b ≤ 195 then 1 else if 196 ≤ b ∧ b ≤ 197 then 1600 else bwN b
def tyX (ik b j : Nat) : Prop := pxX b j ∨ (b = 174 ∧ 38 ≤ j ∧ j ≤ 49 ∧ ¬ j = 39) ∨ (200 ≤ b ∧ b ≤ 205) ∨ (176 ≤ b ∧ b ≤ 199 ∧ bwM b * ik ≤ j ∧ j < bwM b * ik + bwM b)
section UPR
variable {d L ik c0 c : Nat} {h : AH} {b : Nat → Int32} {s s1 : RS} {Q : Option Value → AH → Prop} {x : XK}
theorem px_ty {b j : Nat} (z : pxX b j) : tyX ik b j := Or.inl z
theorem st_cq {b j : Nat} (z : stX ik b j) : ¬ (192 ≤ b ∧ b ≤ 197) ∧ ¬ (b = 174 ∧ 13 ≤ j) := by
  rcases z with z | z | z | ⟨h1, h2, h3, h4⟩
  · unfold pxX at z
    omega
  · omega
  · omega
  · refine ⟨fun y => ?_, by omega⟩
    have : bwN b = 0 := if_pos y
    rw [this] at h4
    omega
theorem st_ty {b j : Nat} (z : stX ik b j) : tyX ik b j := by
  have zz := st_cq z
  rcases z with z | z | z | ⟨h1, h2, h3, h4⟩
  · exact Or.inl z
  · omega
  · omega
  · refine Or.inr (Or.inr (Or.inr ⟨h1, h2, ?_, ?_⟩))
    · unfold bwM
      rw [if_neg (by omega), if_neg (by omega)]
      exact h3
    · unfold bwM
      rw [if_neg (by omega), if_neg (by omega)]
      exact h4
theorem pr_ty {a : Nat} (ha : a = 192 ∨ a = 194) {b j : Nat} (z : prX ik c0 a b j) : tyX ik b j := by
  rcases z with (z | z | z | ⟨z1, z2, z3⟩) | ⟨z1, z2⟩
  · exact Or.inl z
  · exact Or.inr (Or.inl (by omega))
  · exact Or.inr (Or.inr (Or.inl z))
  · refine Or.inr (Or.inr (Or.inr ⟨by omega, by omega, ?_, ?_⟩))
    · have : bwM b = 1600 := by
        unfold bwM
        rw [if_neg (by omega), if_pos (by omega)]
      rw [this]
      omega
    · have : bwM b = 1600 := by
        unfold bwM
        rw [if_neg (by omega), if_pos (by omega)]
      rw [this]
      omega
  · have : bwM b = 1 := by
      unfold bwM
      rw [if_pos (by omega)]
    refine Or.inr (Or.inr (Or.inr ⟨by omega, by omega, ?_, ?_⟩))
    · rw [this]
      omega
    · rw [this]
      omega
theorem RuS_lex (r : SR) : RuS r = lexP (r.1, r.2.1) := by
  obtain ⟨ok, t, K⟩ := r
  cases ok <;> rfl
theorem Kx_pr {h' : AH} {a : Nat} {K : KK} (ha : a = 192 ∨ a = 194) (ag : Agm (prX ik c0 a) h h') (H : KxAt h ik K) : KxAt h' ik K := by
  refine ⟨?_, Ka_agm (fun b j z => by unfold prX rdX pxX at z; omega) ag H.2⟩
  obtain ⟨n1, n2, ⟨n3, n4⟩, ⟨n5, n6⟩, n7, n8⟩ := H.1
  exact ⟨(Agm_I ag (fun y => by unfold prX rdX pxX at y; omega)).trans n1, n2, ⟨(Agm_I ag (fun y => by unfold prX rdX pxX at y; omega)).trans n3, n4⟩, ⟨(Agm_I ag (fun y => by unfold prX rdX pxX at y; omega)).trans n5, n6⟩, fun j hj => by
    rw [Agm_L ag (fun y => by unfold prX rdX pxX at y; omega)]
    exact n7 j hj, fun j hj => by
    rw [Agm_L ag (fun y => by unfold prX rdX pxX at y; omega)]
    exact n8 j hj⟩
theorem CT_agm {X : Nat → Nat → Prop} {h' : AH} (hX : ∀ b j, X b j → ¬ b = 175 ∧ ¬ (b = 174 ∧ j = 39)) (a : Agm X h h') (hC : CT h b L ik) : CT h' b L ik := by
  obtain ⟨h1, h2, h3, h4, h5⟩ := hC
  exact ⟨Mo_agm a h1, T_agm (fun b j z => (hX b j z).1) a h2, h3, (Agm_I a (fun z => (hX _ _ z).2 ⟨rfl, rfl⟩)).trans h4, h5⟩
theorem Mo_pricing (hd : 11 ≤ d) (hC : CT h b L ik) (hP : Px h b L (true, s)) (h28 : ¬ s.1 6 = nI 28) (e38 : hI h 174 38 = nI c0) (hfw : Fw L c0 s) {full : Bool} (hfu : (full = true → ∃ fr, fr < 100000 ∧ hI h 192 ik = nI fr) ∧ (full = false → hI h 192 ik = -1)) (hs1 : ∀ h', Px h' b L (true, nxS b L s) → Px h' b L (true, s1)) (e18 : s1.1 8 = (nxS b L s).1 8) (hcd : Cd L 1 s1 []) (h12 : s1.1 12 = nI 0) (hQ1 : full = true → ∀ h', Agm pxX h h' → Px h' b L (flS s (nI 6) (s.1 8)) → Q none h') (hQ2 : full = false → ∀ h', Agm (prX ik c0 192) h h' → Px h' b L (lexP (smN b L 8 s1)) → ((lexP (smN b L 8 s1)).1 = true → (smN b L 8 s1).1 = true ∧ ∃ lc lr, Cd L 1 (smN b L 8 s1).2 lc ∧ SmV false lc lr 48 ∧ cdsAt h' ik c0 lr ∧ hI h' 174 38 = nI (c0 + lr.length) ∧ (∃ st, (smN b L 8 s1).2.1 8 = nI st ∧ st ≤ L ∧ c0 + lr.length ≤ st) ∧ hI h' 192 ik = nI c0 ∧ hI h' 193 ik = nI (c0 + lr.length)) → Q none h') : CL d 193 [.ref 174] h Q := by
  have hM := hC.1
  have hM' := hM
  have hT := hC.2.1
  have hLe := hC.2.2.1
  have k39 := hC.2.2.2.1
  have kik := hC.2.2.2.2
  obtain ⟨xN, ⟨ra0, ra1, ra2, ra3, ra4, ra5, ra6, ra7, ra8, ra9, ra10, ra11, ra12, ra13, ra14, ra15, ra16, ra17, ra18, ra19, ra20, ra21, ra22, ra23, ra24, ra25, ra26, ra27, ra28, ra29, ra30, ra31, ra32, ra33, ra34, ra35, ra36, ra37, ra38, ra39, ra40, ra41, ra42, ra43, ra44⟩, ⟨la0, la1, la2, la3, la4, la5, la6, la7, la8, la9, la10, la11, la12, la13, la14, la15, la16, la17, la18, la19, la20, la21, la22, la23, la24, la25, la26, la27, la28, la29, la30, la31, la32, la33, la34, la35, la36, la37, la38, la39, la40, la41, la42, la43, la44⟩⟩ := hM
  refine en193 (by omega) ?_
  cases full with
  | true =>
    obtain ⟨fr, hfr, e192⟩ := hfu.1 rfl
    have cn : (nI fr = -1) = False := nm1_ne (by omega)
    simp (disch := omega) only [g193_0, g193_1, g193_2, g193_5, g193_6, g193_9, g193_10, g193_11, g193_14, g193_15, g193_18, g193_19, GN_nx, GN_rtn, GN_ck, GN_br, GN_cll, ldI_0, ldJ_0, ldR_0, ldI_s, ldJ_s, ldR_s, pI_c, pII_c, pJ_c, pJJ_c, pJI_c, pR_c, pRI_c, pRJ_c, pRR_c, pRII_c, pRIJ_c, pRIR_c, pCopy_c, pIe_c, pJe_c, pRe_c, pE_c, p1_i, p1_r, p11_ir, pA_0, pA_1, pA_2, pA_3, pA_4, pA_5, st1_0, st1_i, st1_r, st1_n, st1_u, st1_j, st1_s, st2_0, st2_i, st2_r, st2_n, st2_u, st2_j, st2_s, List.length_cons, List.length_nil, Nat.reduceAdd, Nat.reduceLT, Nat.reduceLeDiff, Nat.reduceEqDiff, Nat.zero_add, true_and, and_true, true_implies, not_true_eq_false, not_false_eq_true, false_implies, Option.toList_some, Option.toList_none, arr, inb, List.cons_append, List.nil_append, rv_some, rv_none, nlt_t, nlt_f, nle_t, nle_f, neq_f, ix_cl, ix_nn, ix_lt, cmp_le, cmp_lt, cmp_eq, cmp_lt0, cmp_ge0, cmp_eq0, cmp_gt0, cmp_le0, nI_mul, nI_add, nm1_ne, nm1_ne', one01, zero01, b2i_0, b2i_1, b2i_01, cmp_eq1, true_or, or_true, false_or, or_false, neq_t, hN_sI, hLn_sI, hR_sI, hL_sI, hI_sI, hN_sA, hLn_sA, hR_sA, hL_sA, hI_sA, hN_wI, hLn_wI, hR_wI, hL_wI, hI_wI, false_and, and_false, if_true, if_false, hN_fA, hLn_fA, hR_fA, hN_wrS, hLn_wrS, hR_wrS, hL_wrS, wS_day, wS_keeps, wS_brs, wS_first, wS_knows, wS_purse, wS_till, wS_valid, wS_kept, sS_day, sS_keeps, sS_brs, sS_first, sS_knows, sS_purse, sS_till, sS_valid, sS_kept, wrS_wrS, day_mk, knows_mk, purse_mk, till_mk, valid_mk, kept_mk, keeps_mk, brs_mk, first_mk, hN_wrU, hLn_wrU, hR_wrU, hL_wrU, wU_19, wU_20, sU_19, sU_20, upd_same, upd_upd, hN_wrR, hLn_wrR, hR_wrR, hL_wrR, bI_0, bI_01', bI_t1, eq_self, Bool.true_eq_false, Bool.false_eq_true, hN_wrC, hLn_wrC, hR_wrC, hL_wrC, lay_174, lay_175, lay_176, lay_177, lay_178, lay_179, lay_180, lay_181, lay_182, lay_183, lay_184, lay_185, lay_186, lay_187, lay_188, lay_189, lay_190, lay_191, lay_192, lay_193, lay_194, lay_195, lay_196, lay_197, lay_198, lay_199, lay_200, lay_201, lay_202, lay_203, lay_204, lay_205, lay_206, lay_207, lay_208, lay_209, lay_210, lay_211, lay_212, lay_213, lay_214, lay_215, lay_216, lay_217, lay_218, lay_219, hN_wrO, hLn_wrO, hR_wrO, hN_wrL, hLn_wrL, hR_wrL, hN_sL', hI_sL', hR_sL', hLn_sL', hN_wrF, hLn_wrF, hR_wrF,  ra0, ra1, ra2, ra3, ra4, ra5, ra6, ra7, ra8, ra9, ra10, ra11, ra12, ra13, ra14, ra15, ra16, ra17, ra18, ra19, ra20, ra21, ra22, ra23, ra24, ra25, ra26, ra27, ra28, ra29, ra30, ra31, ra32, ra33, ra34, ra35, ra36, ra37, ra38, ra39, ra40, ra41, ra42, ra43, ra44, la0, la1, la2, la3, la4, la5, la6, la7, la8, la9, la10, la11, la12, la13, la14, la15, la16, la17, la18, la19, la20, la21, la22, la23, la24, la25, la26, la27, la28, la29, la30, la31, la32, la33, la34, la35, la36, la37, la38, la39, la40, la41, la42, la43, la44, k39, e192, cn]
    refine Mo_counts (full := true) (by omega) hM' hT hLe hP h28 (fun h1 a1 p1 => ?_)
    have hN1 := (Mo_agm a1 hM').1
    have fin := hQ1 rfl h1 a1 p1
    simp (disch := omega) only [g193_22, g193_25, GN_nx, GN_rtn, GN_ck, GN_br, GN_cll, ldI_0, ldJ_0, ldR_0, ldI_s, ldJ_s, ldR_s, pI_c, pII_c, pJ_c, pJJ_c, pJI_c, pR_c, pRI_c, pRJ_c, pRR_c, pRII_c, pRIJ_c, pRIR_c, pCopy_c, pIe_c, pJe_c, pRe_c, pE_c, p1_i, p1_r, p11_ir, pA_0, pA_1, pA_2, pA_3, pA_4, pA_5, st1_0, st1_i, st1_r, st1_n, st1_u, st1_j, st1_s, st2_0, st2_i, st2_r, st2_n, st2_u, st2_j, st2_s, List.length_cons, List.length_nil, Nat.reduceAdd, Nat.reduceLT, Nat.reduceLeDiff, Nat.reduceEqDiff, Nat.zero_add, true_and, and_true, true_implies, not_true_eq_false, not_false_eq_true, false_implies, Option.toList_some, Option.toList_none, arr, inb, List.cons_append, List.nil_append, rv_some, rv_none, nlt_t, nlt_f, nle_t, nle_f, neq_f, ix_cl, ix_nn, ix_lt, cmp_le, cmp_lt, cmp_eq, cmp_lt0, cmp_ge0, cmp_eq0, cmp_gt0, cmp_le0, nI_mul, nI_add, nm1_ne, nm1_ne', one01, zero01, b2i_0, b2i_1, b2i_01, cmp_eq1, true_or, or_true, false_or, or_false, neq_t, hN_sI, hLn_sI, hR_sI, hL_sI, hI_sI, hN_sA, hLn_sA, hR_sA, hL_sA, hI_sA, hN_wI, hLn_wI, hR_wI, hL_wI, hI_wI, false_and, and_false, if_true, if_false, hN_fA, hLn_fA, hR_fA, hN_wrS, hLn_wrS, hR_wrS, hL_wrS, wS_day, wS_keeps, wS_brs, wS_first, wS_knows, wS_purse, wS_till, wS_valid, wS_kept, sS_day, sS_keeps, sS_brs, sS_first, sS_knows, sS_purse, sS_till, sS_valid, sS_kept, wrS_wrS, day_mk, knows_mk, purse_mk, till_mk, valid_mk, kept_mk, keeps_mk, brs_mk, first_mk, hN_wrU, hLn_wrU, hR_wrU, hL_wrU, wU_19, wU_20, sU_19, sU_20, upd_same, upd_upd, hN_wrR, hLn_wrR, hR_wrR, hL_wrR, bI_0, bI_01', bI_t1, eq_self, Bool.true_eq_false, Bool.false_eq_true, hN_wrC, hLn_wrC, hR_wrC, hL_wrC, lay_174, lay_175, lay_176, lay_177, lay_178, lay_179, lay_180, lay_181, lay_182, lay_183, lay_184, lay_185, lay_186, lay_187, lay_188, lay_189, lay_190, lay_191, lay_192, lay_193, lay_194, lay_195, lay_196, lay_197, lay_198, lay_199, lay_200, lay_201, lay_202, lay_203, lay_204, lay_205, lay_206, lay_207, lay_208, lay_209, lay_210, lay_211, lay_212, lay_213, lay_214, lay_215, lay_216, lay_217, lay_218, lay_219, hN_wrO, hLn_wrO, hR_wrO, hN_wrL, hLn_wrL, hR_wrL, hN_sL', hI_sL', hR_sL', hLn_sL', hN_wrF, hLn_wrF, hR_wrF,  show bI (!true) = nI 0 from rfl]
    exact fin
  | false =>
    have e192 := hfu.2 rfl
    have hfw2 := fw_nx (b := b) hLe hfw
    simp (disch := omega) only [g193_0, g193_1, g193_2, g193_5, g193_6, g193_9, g193_10, g193_11, g193_14, g193_15, g193_18, g193_19, GN_nx, GN_rtn, GN_ck, GN_br, GN_cll, ldI_0, ldJ_0, ldR_0, ldI_s, ldJ_s, ldR_s, pI_c, pII_c, pJ_c, pJJ_c, pJI_c, pR_c, pRI_c, pRJ_c, pRR_c, pRII_c, pRIJ_c, pRIR_c, pCopy_c, pIe_c, pJe_c, pRe_c, pE_c, p1_i, p1_r, p11_ir, pA_0, pA_1, pA_2, pA_3, pA_4, pA_5, st1_0, st1_i, st1_r, st1_n, st1_u, st1_j, st1_s, st2_0, st2_i, st2_r, st2_n, st2_u, st2_j, st2_s, List.length_cons, List.length_nil, Nat.reduceAdd, Nat.reduceLT, Nat.reduceLeDiff, Nat.reduceEqDiff, Nat.zero_add, true_and, and_true, true_implies, not_true_eq_false, not_false_eq_true, false_implies, Option.toList_some, Option.toList_none, arr, inb, List.cons_append, List.nil_append, rv_some, rv_none, nlt_t, nlt_f, nle_t, nle_f, neq_f, ix_cl, ix_nn, ix_lt, cmp_le, cmp_lt, cmp_eq, cmp_lt0, cmp_ge0, cmp_eq0, cmp_gt0, cmp_le0, nI_mul, nI_add, nm1_ne, nm1_ne', one01, zero01, b2i_0, b2i_1, b2i_01, cmp_eq1, true_or, or_true, false_or, or_false, neq_t, hN_sI, hLn_sI, hR_sI, hL_sI, hI_sI, hN_sA, hLn_sA, hR_sA, hL_sA, hI_sA, hN_wI, hLn_wI, hR_wI, hL_wI, hI_wI, false_and, and_false, if_true, if_false, hN_fA, hLn_fA, hR_fA, hN_wrS, hLn_wrS, hR_wrS, hL_wrS, wS_day, wS_keeps, wS_brs, wS_first, wS_knows, wS_purse, wS_till, wS_valid, wS_kept, sS_day, sS_keeps, sS_brs, sS_first, sS_knows, sS_purse, sS_till, sS_valid, sS_kept, wrS_wrS, day_mk, knows_mk, purse_mk, till_mk, valid_mk, kept_mk, keeps_mk, brs_mk, first_mk, hN_wrU, hLn_wrU, hR_wrU, hL_wrU, wU_19, wU_20, sU_19, sU_20, upd_same, upd_upd, hN_wrR, hLn_wrR, hR_wrR, hL_wrR, bI_0, bI_01', bI_t1, eq_self, Bool.true_eq_false, Bool.false_eq_true, hN_wrC, hLn_wrC, hR_wrC, hL_wrC, lay_174, lay_175, lay_176, lay_177, lay_178, lay_179, lay_180, lay_181, lay_182, lay_183, lay_184, lay_185, lay_186, lay_187, lay_188, lay_189, lay_190, lay_191, lay_192, lay_193, lay_194, lay_195, lay_196, lay_197, lay_198, lay_199, lay_200, lay_201, lay_202, lay_203, lay_204, lay_205, lay_206, lay_207, lay_208, lay_209, lay_210, lay_211, lay_212, lay_213, lay_214, lay_215, lay_216, lay_217, lay_218, lay_219, hN_wrO, hLn_wrO, hR_wrO, hN_wrL, hLn_wrL, hR_wrL, hN_sL', hI_sL', hR_sL', hLn_sL', hN_wrF, hLn_wrF, hR_wrF,  ra0, ra1, ra2, ra3, ra4, ra5, ra6, ra7, ra8, ra9, ra10, ra11, ra12, ra13, ra14, ra15, ra16, ra17, ra18, ra19, ra20, ra21, ra22, ra23, ra24, ra25, ra26, ra27, ra28, ra29, ra30, ra31, ra32, ra33, ra34, ra35, ra36, ra37, ra38, ra39, ra40, ra41, ra42, ra43, ra44, la0, la1, la2, la3, la4, la5, la6, la7, la8, la9, la10, la11, la12, la13, la14, la15, la16, la17, la18, la19, la20, la21, la22, la23, la24, la25, la26, la27, la28, la29, la30, la31, la32, la33, la34, la35, la36, la37, la38, la39, la40, la41, la42, la43, la44, k39, e192]
    refine Mo_counts (full := false) (by omega) hM' hT hLe hP h28 (fun h1 a1 p1 => ?_)
    have p1 := hs1 h1 p1
    have hC1 : CT h1 b L ik := CT_agm (fun b j z => by unfold pxX at z; omega) a1 hC
    have k39 := hC1.2.2.2.1
    have e38 : hI h1 174 38 = nI c0 := (Agm_I a1 (by unfold pxX; omega)).trans e38
    have a2 : Agm (fun b j => b = 192 ∧ j = ik) h1 (sI h1 192 ik (nI c0)) := Agm_sI ⟨rfl, rfl⟩
    have hC2 : CT (sI h1 192 ik (nI c0)) b L ik := CT_agm (fun b j z => by omega) a2 hC1
    have p2 : Px (sI h1 192 ik (nI c0)) b L (true, s1) := Px_agm (fun b j z => by omega) a2 p1
    have g8 : ∃ st, s1.1 8 = nI st ∧ st ≤ L ∧ c0 ≤ st := by
      obtain ⟨st, a, -, g8, -, q1, q2, q3⟩ := hfw2
      exact ⟨st, e18.trans g8, by omega, q1⟩
    have hM1 := hC1.1
    obtain ⟨xN, ⟨ra0, ra1, ra2, ra3, ra4, ra5, ra6, ra7, ra8, ra9, ra10, ra11, ra12, ra13, ra14, ra15, ra16, ra17, ra18, ra19, ra20, ra21, ra22, ra23, ra24, ra25, ra26, ra27, ra28, ra29, ra30, ra31, ra32, ra33, ra34, ra35, ra36, ra37, ra38, ra39, ra40, ra41, ra42, ra43, ra44⟩, ⟨la0, la1, la2, la3, la4, la5, la6, la7, la8, la9, la10, la11, la12, la13, la14, la15, la16, la17, la18, la19, la20, la21, la22, la23, la24, la25, la26, la27, la28, la29, la30, la31, la32, la33, la34, la35, la36, la37, la38, la39, la40, la41, la42, la43, la44⟩⟩ := hM1
    simp (disch := omega) only [g193_22, g193_26, g193_27, g193_30, g193_31, g193_34, g193_35, g193_38, g193_39, g193_40, g193_41, GN_nx, GN_rtn, GN_ck, GN_br, GN_cll, ldI_0, ldJ_0, ldR_0, ldI_s, ldJ_s, ldR_s, pI_c, pII_c, pJ_c, pJJ_c, pJI_c, pR_c, pRI_c, pRJ_c, pRR_c, pRII_c, pRIJ_c, pRIR_c, pCopy_c, pIe_c, pJe_c, pRe_c, pE_c, p1_i, p1_r, p11_ir, pA_0, pA_1, pA_2, pA_3, pA_4, pA_5, st1_0, st1_i, st1_r, st1_n, st1_u, st1_j, st1_s, st2_0, st2_i, st2_r, st2_n, st2_u, st2_j, st2_s, List.length_cons, List.length_nil, Nat.reduceAdd, Nat.reduceLT, Nat.reduceLeDiff, Nat.reduceEqDiff, Nat.zero_add, true_and, and_true, true_implies, not_true_eq_false, not_false_eq_true, false_implies, Option.toList_some, Option.toList_none, arr, inb, List.cons_append, List.nil_append, rv_some, rv_none, nlt_t, nlt_f, nle_t, nle_f, neq_f, ix_cl, ix_nn, ix_lt, cmp_le, cmp_lt, cmp_eq, cmp_lt0, cmp_ge0, cmp_eq0, cmp_gt0, cmp_le0, nI_mul, nI_add, nm1_ne, nm1_ne', one01, zero01, b2i_0, b2i_1, b2i_01, cmp_eq1, true_or, or_true, false_or, or_false, neq_t, hN_sI, hLn_sI, hR_sI, hL_sI, hI_sI, hN_sA, hLn_sA, hR_sA, hL_sA, hI_sA, hN_wI, hLn_wI, hR_wI, hL_wI, hI_wI, false_and, and_false, if_true, if_false, hN_fA, hLn_fA, hR_fA, hN_wrS, hLn_wrS, hR_wrS, hL_wrS, wS_day, wS_keeps, wS_brs, wS_first, wS_knows, wS_purse, wS_till, wS_valid, wS_kept, sS_day, sS_keeps, sS_brs, sS_first, sS_knows, sS_purse, sS_till, sS_valid, sS_kept, wrS_wrS, day_mk, knows_mk, purse_mk, till_mk, valid_mk, kept_mk, keeps_mk, brs_mk, first_mk, hN_wrU, hLn_wrU, hR_wrU, hL_wrU, wU_19, wU_20, sU_19, sU_20, upd_same, upd_upd, hN_wrR, hLn_wrR, hR_wrR, hL_wrR, bI_0, bI_01', bI_t1, eq_self, Bool.true_eq_false, Bool.false_eq_true, hN_wrC, hLn_wrC, hR_wrC, hL_wrC, lay_174, lay_175, lay_176, lay_177, lay_178, lay_179, lay_180, lay_181, lay_182, lay_183, lay_184, lay_185, lay_186, lay_187, lay_188, lay_189, lay_190, lay_191, lay_192, lay_193, lay_194, lay_195, lay_196, lay_197, lay_198, lay_199, lay_200, lay_201, lay_202, lay_203, lay_204, lay_205, lay_206, lay_207, lay_208, lay_209, lay_210, lay_211, lay_212, lay_213, lay_214, lay_215, lay_216, lay_217, lay_218, lay_219, hN_wrO, hLn_wrO, hR_wrO, hN_wrL, hLn_wrL, hR_wrL, hN_sL', hI_sL', hR_sL', hLn_sL', hN_wrF, hLn_wrF, hR_wrF,  ra0, ra1, ra2, ra3, ra4, ra5, ra6, ra7, ra8, ra9, ra10, ra11, ra12, ra13, ra14, ra15, ra16, ra17, ra18, ra19, ra20, ra21, ra22, ra23, ra24, ra25, ra26, ra27, ra28, ra29, ra30, ra31, ra32, ra33, ra34, ra35, ra36, ra37, ra38, ra39, ra40, ra41, ra42, ra43, ra44, la0, la1, la2, la3, la4, la5, la6, la7, la8, la9, la10, la11, la12, la13, la14, la15, la16, la17, la18, la19, la20, la21, la22, la23, la24, la25, la26, la27, la28, la29, la30, la31, la32, la33, la34, la35, la36, la37, la38, la39, la40, la41, la42, la43, la44, k39, e38, show bI (!false) = nI 1 from rfl]
    refine Mo_reads (tb := false) (p0 := 1) (c0 := c0) (by omega) hC2 p2 e38 g8 (by omega) hcd h12 (fun h3 a3 p3 q3 => ?_)
    have hM3 := Mo_agm a3 hC2.1
    have k39 : hI h3 174 39 = nI ik := (Agm_I a3 (by unfold rdX pxX; omega)).trans hC2.2.2.2.1
    have e1 : hI h3 192 ik = nI c0 := (Agm_I a3 (by unfold rdX pxX; omega)).trans (by rw [hI_sI, if_pos ⟨rfl, rfl⟩])
    have ag : Agm (prX ik c0 192) h (sI h3 193 ik (hI h3 174 38)) := Agm_trans (Agm_trans (Agm_trans (Agm_sub (fun b j z => Or.inl (Or.inl z)) a1) (Agm_sub (fun b j z => Or.inr ⟨Or.inl z.1, z.2⟩) a2)) (Agm_sub (fun b j z => Or.inl z) a3)) (Agm_sI (Or.inr ⟨Or.inr rfl, rfl⟩))
    have a4 : Agm (fun b j => b = 193 ∧ j = ik) h3 (sI h3 193 ik (hI h3 174 38)) := Agm_sI ⟨rfl, rfl⟩
    have fin := hQ2 rfl _ ag (Px_agm (fun b j z => by omega) a4 p3) (fun z => by
      obtain ⟨r1, lc, lr, r2, r3, r4, r5, r6⟩ := q3 z
      refine ⟨r1, lc, lr, r2, r3, cds_agm (fun b j z y => by omega) a4 r4, r5, r6, e1, ?_⟩
      rw [hI_sI, if_pos ⟨rfl, rfl⟩]
      exact r5)
    obtain ⟨xN, ⟨ra0, ra1, ra2, ra3, ra4, ra5, ra6, ra7, ra8, ra9, ra10, ra11, ra12, ra13, ra14, ra15, ra16, ra17, ra18, ra19, ra20, ra21, ra22, ra23, ra24, ra25, ra26, ra27, ra28, ra29, ra30, ra31, ra32, ra33, ra34, ra35, ra36, ra37, ra38, ra39, ra40, ra41, ra42, ra43, ra44⟩, ⟨la0, la1, la2, la3, la4, la5, la6, la7, la8, la9, la10, la11, la12, la13, la14, la15, la16, la17, la18, la19, la20, la21, la22, la23, la24, la25, la26, la27, la28, la29, la30, la31, la32, la33, la34, la35, la36, la37, la38, la39, la40, la41, la42, la43, la44⟩⟩ := hM3
    simp (disch := omega) only [g193_44, g193_45, g193_48, g193_49, g193_52, g193_53, g193_56, g193_57, GN_nx, GN_rtn, GN_ck, GN_br, GN_cll, ldI_0, ldJ_0, ldR_0, ldI_s, ldJ_s, ldR_s, pI_c, pII_c, pJ_c, pJJ_c, pJI_c, pR_c, pRI_c, pRJ_c, pRR_c, pRII_c, pRIJ_c, pRIR_c, pCopy_c, pIe_c, pJe_c, pRe_c, pE_c, p1_i, p1_r, p11_ir, pA_0, pA_1, pA_2, pA_3, pA_4, pA_5, st1_0, st1_i, st1_r, st1_n, st1_u, st1_j, st1_s, st2_0, st2_i, st2_r, st2_n, st2_u, st2_j, st2_s, List.length_cons, List.length_nil, Nat.reduceAdd, Nat.reduceLT, Nat.reduceLeDiff, Nat.reduceEqDiff, Nat.zero_add, true_and, and_true, true_implies, not_true_eq_false, not_false_eq_true, false_implies, Option.toList_some, Option.toList_none, arr, inb, List.cons_append, List.nil_append, rv_some, rv_none, nlt_t, nlt_f, nle_t, nle_f, neq_f, ix_cl, ix_nn, ix_lt, cmp_le, cmp_lt, cmp_eq, cmp_lt0, cmp_ge0, cmp_eq0, cmp_gt0, cmp_le0, nI_mul, nI_add, nm1_ne, nm1_ne', one01, zero01, b2i_0, b2i_1, b2i_01, cmp_eq1, true_or, or_true, false_or, or_false, neq_t, hN_sI, hLn_sI, hR_sI, hL_sI, hI_sI, hN_sA, hLn_sA, hR_sA, hL_sA, hI_sA, hN_wI, hLn_wI, hR_wI, hL_wI, hI_wI, false_and, and_false, if_true, if_false, hN_fA, hLn_fA, hR_fA, hN_wrS, hLn_wrS, hR_wrS, hL_wrS, wS_day, wS_keeps, wS_brs, wS_first, wS_knows, wS_purse, wS_till, wS_valid, wS_kept, sS_day, sS_keeps, sS_brs, sS_first, sS_knows, sS_purse, sS_till, sS_valid, sS_kept, wrS_wrS, day_mk, knows_mk, purse_mk, till_mk, valid_mk, kept_mk, keeps_mk, brs_mk, first_mk, hN_wrU, hLn_wrU, hR_wrU, hL_wrU, wU_19, wU_20, sU_19, sU_20, upd_same, upd_upd, hN_wrR, hLn_wrR, hR_wrR, hL_wrR, bI_0, bI_01', bI_t1, eq_self, Bool.true_eq_false, Bool.false_eq_true, hN_wrC, hLn_wrC, hR_wrC, hL_wrC, lay_174, lay_175, lay_176, lay_177, lay_178, lay_179, lay_180, lay_181, lay_182, lay_183, lay_184, lay_185, lay_186, lay_187, lay_188, lay_189, lay_190, lay_191, lay_192, lay_193, lay_194, lay_195, lay_196, lay_197, lay_198, lay_199, lay_200, lay_201, lay_202, lay_203, lay_204, lay_205, lay_206, lay_207, lay_208, lay_209, lay_210, lay_211, lay_212, lay_213, lay_214, lay_215, lay_216, lay_217, lay_218, lay_219, hN_wrO, hLn_wrO, hR_wrO, hN_wrL, hLn_wrL, hR_wrL, hN_sL', hI_sL', hR_sL', hLn_sL', hN_wrF, hLn_wrF, hR_wrF,  ra0, ra1, ra2, ra3, ra4, ra5, ra6, ra7, ra8, ra9, ra10, ra11, ra12, ra13, ra14, ra15, ra16, ra17, ra18, ra19, ra20, ra21, ra22, ra23, ra24, ra25, ra26, ra27, ra28, ra29, ra30, ra31, ra32, ra33, ra34, ra35, ra36, ra37, ra38, ra39, ra40, ra41, ra42, ra43, ra44, la0, la1, la2, la3, la4, la5, la6, la7, la8, la9, la10, la11, la12, la13, la14, la15, la16, la17, la18, la19, la20, la21, la22, la23, la24, la25, la26, la27, la28, la29, la30, la31, la32, la33, la34, la35, la36, la37, la38, la39, la40, la41, la42, la43, la44, k39]
    exact fin
theorem Mo_telling (hd : 11 ≤ d) (hC : CT h b L ik) (hP : Px h b L (true, s)) (h28 : ¬ s.1 6 = nI 28) (e38 : hI h 174 38 = nI c0) (hfw : Fw L c0 s) {full : Bool} (hfu : (full = true → ∃ fr, fr < 100000 ∧ hI h 194 ik = nI fr) ∧ (full = false → hI h 194 ik = -1)) (hs1 : ∀ h', Px h' b L (true, nxS b L s) → Px h' b L (true, s1)) (e18 : s1.1 8 = (nxS b L s).1 8) (hcd : Cd L 1 s1 []) (h12 : s1.1 12 = nI 0) (hQ1 : full = true → ∀ h', Agm pxX h h' → Px h' b L (flS s (nI 6) (s.1 8)) → Q none h') (hQ2 : full = false → ∀ h', Agm (prX ik c0 194) h h' → Px h' b L (lexP (tsN b L 8 s1)) → ((lexP (tsN b L 8 s1)).1 = true → (tsN b L 8 s1).1 = true ∧ ∃ lc lr, Cd L 1 (tsN b L 8 s1).2 lc ∧ SmV true lc lr 48 ∧ cdsAt h' ik c0 lr ∧ hI h' 174 38 = nI (c0 + lr.length) ∧ (∃ st, (tsN b L 8 s1).2.1 8 = nI st ∧ st ≤ L ∧ c0 + lr.length ≤ st) ∧ hI h' 194 ik = nI c0 ∧ hI h' 195 ik = nI (c0 + lr.length)) → Q none h') : CL d 194 [.ref 174] h Q := by
  have hM := hC.1
  have hM' := hM
  have hT := hC.2.1
  have hLe := hC.2.2.1
  have k39 := hC.2.2.2.1
  have kik := hC.2.2.2.2
  obtain ⟨xN, ⟨ra0, ra1, ra2, ra3, ra4, ra5, ra6, ra7, ra8, ra9, ra10, ra11, ra12, ra13, ra14, ra15, ra16, ra17, ra18, ra19, ra20, ra21, ra22, ra23, ra24, ra25, ra26, ra27, ra28, ra29, ra30, ra31, ra32, ra33, ra34, ra35, ra36, ra37, ra38, ra39, ra40, ra41, ra42, ra43, ra44⟩, ⟨la0, la1, la2, la3, la4, la5, la6, la7, la8, la9, la10, la11, la12, la13, la14, la15, la16, la17, la18, la19, la20, la21, la22, la23, la24, la25, la26, la27, la28, la29, la30, la31, la32, la33, la34, la35, la36, la37, la38, la39, la40, la41, la42, la43, la44⟩⟩ := hM
  refine en194 (by omega) ?_
  cases full with
  | true =>
    obtain ⟨fr, hfr, e192⟩ := hfu.1 rfl
    have cn : (nI fr = -1) = False := nm1_ne (by omega)
    simp (disch := omega) only [g194_0, g194_1, g194_2, g194_5, g194_6, g194_9, g194_10, g194_11, g194_14, g194_15, g194_18, g194_19, GN_nx, GN_rtn, GN_ck, GN_br, GN_cll, ldI_0, ldJ_0, ldR_0, ldI_s, ldJ_s, ldR_s, pI_c, pII_c, pJ_c, pJJ_c, pJI_c, pR_c, pRI_c, pRJ_c, pRR_c, pRII_c, pRIJ_c, pRIR_c, pCopy_c, pIe_c, pJe_c, pRe_c, pE_c, p1_i, p1_r, p11_ir, pA_0, pA_1, pA_2, pA_3, pA_4, pA_5, st1_0, st1_i, st1_r, st1_n, st1_u, st1_j, st1_s, st2_0, st2_i, st2_r, st2_n, st2_u, st2_j, st2_s, List.length_cons, List.length_nil, Nat.reduceAdd, Nat.reduceLT, Nat.reduceLeDiff, Nat.reduceEqDiff, Nat.zero_add, true_and, and_true, true_implies, not_true_eq_false, not_false_eq_true, false_implies, Option.toList_some, Option.toList_none, arr, inb, List.cons_append, List.nil_append, rv_some, rv_none, nlt_t, nlt_f, nle_t, nle_f, neq_f, ix_cl, ix_nn, ix_lt, cmp_le, cmp_lt, cmp_eq, cmp_lt0, cmp_ge0, cmp_eq0, cmp_gt0, cmp_le0, nI_mul, nI_add, nm1_ne, nm1_ne', one01, zero01, b2i_0, b2i_1, b2i_01, cmp_eq1, true_or, or_true, false_or, or_false, neq_t, hN_sI, hLn_sI, hR_sI, hL_sI, hI_sI, hN_sA, hLn_sA, hR_sA, hL_sA, hI_sA, hN_wI, hLn_wI, hR_wI, hL_wI, hI_wI, false_and, and_false, if_true, if_false, hN_fA, hLn_fA, hR_fA, hN_wrS, hLn_wrS, hR_wrS, hL_wrS, wS_day, wS_keeps, wS_brs, wS_first, wS_knows, wS_purse, wS_till, wS_valid, wS_kept, sS_day, sS_keeps, sS_brs, sS_first, sS_knows, sS_purse, sS_till, sS_valid, sS_kept, wrS_wrS, day_mk, knows_mk, purse_mk, till_mk, valid_mk, kept_mk, keeps_mk, brs_mk, first_mk, hN_wrU, hLn_wrU, hR_wrU, hL_wrU, wU_19, wU_20, sU_19, sU_20, upd_same, upd_upd, hN_wrR, hLn_wrR, hR_wrR, hL_wrR, bI_0, bI_01', bI_t1, eq_self, Bool.true_eq_false, Bool.false_eq_true, hN_wrC, hLn_wrC, hR_wrC, hL_wrC, lay_174, lay_175, lay_176, lay_177, lay_178, lay_179, lay_180, lay_181, lay_182, lay_183, lay_184, lay_185, lay_186, lay_187, lay_188, lay_189, lay_190, lay_191, lay_192, lay_193, lay_194, lay_195, lay_196, lay_197, lay_198, lay_199, lay_200, lay_201, lay_202, lay_203, lay_204, lay_205, lay_206, lay_207, lay_208, lay_209, lay_210, lay_211, lay_212, lay_213, lay_214, lay_215, lay_216, lay_217, lay_218, lay_219, hN_wrO, hLn_wrO, hR_wrO, hN_wrL, hLn_wrL, hR_wrL, hN_sL', hI_sL', hR_sL', hLn_sL', hN_wrF, hLn_wrF, hR_wrF,  ra0, ra1, ra2, ra3, ra4, ra5, ra6, ra7, ra8, ra9, ra10, ra11, ra12, ra13, ra14, ra15, ra16, ra17, ra18, ra19, ra20, ra21, ra22, ra23, ra24, ra25, ra26, ra27, ra28, ra29, ra30, ra31, ra32, ra33, ra34, ra35, ra36, ra37, ra38, ra39, ra40, ra41, ra42, ra43, ra44, la0, la1, la2, la3, la4, la5, la6, la7, la8, la9, la10, la11, la12, la13, la14, la15, la16, la17, la18, la19, la20, la21, la22, la23, la24, la25, la26, la27, la28, la29, la30, la31, la32, la33, la34, la35, la36, la37, la38, la39, la40, la41, la42, la43, la44, k39, e192, cn]
    refine Mo_counts (full := true) (by omega) hM' hT hLe hP h28 (fun h1 a1 p1 => ?_)
    have hN1 := (Mo_agm a1 hM').1
    have fin := hQ1 rfl h1 a1 p1
    simp (disch := omega) only [g194_22, g194_25, GN_nx, GN_rtn, GN_ck, GN_br, GN_cll, ldI_0, ldJ_0, ldR_0, ldI_s, ldJ_s, ldR_s, pI_c, pII_c, pJ_c, pJJ_c, pJI_c, pR_c, pRI_c, pRJ_c, pRR_c, pRII_c, pRIJ_c, pRIR_c, pCopy_c, pIe_c, pJe_c, pRe_c, pE_c, p1_i, p1_r, p11_ir, pA_0, pA_1, pA_2, pA_3, pA_4, pA_5, st1_0, st1_i, st1_r, st1_n, st1_u, st1_j, st1_s, st2_0, st2_i, st2_r, st2_n, st2_u, st2_j, st2_s, List.length_cons, List.length_nil, Nat.reduceAdd, Nat.reduceLT, Nat.reduceLeDiff, Nat.reduceEqDiff, Nat.zero_add, true_and, and_true, true_implies, not_true_eq_false, not_false_eq_true, false_implies, Option.toList_some, Option.toList_none, arr, inb, List.cons_append, List.nil_append, rv_some, rv_none, nlt_t, nlt_f, nle_t, nle_f, neq_f, ix_cl, ix_nn, ix_lt, cmp_le, cmp_lt, cmp_eq, cmp_lt0, cmp_ge0, cmp_eq0, cmp_gt0, cmp_le0, nI_mul, nI_add, nm1_ne, nm1_ne', one01, zero01, b2i_0, b2i_1, b2i_01, cmp_eq1, true_or, or_true, false_or, or_false, neq_t, hN_sI, hLn_sI, hR_sI, hL_sI, hI_sI, hN_sA, hLn_sA, hR_sA, hL_sA, hI_sA, hN_wI, hLn_wI, hR_wI, hL_wI, hI_wI, false_and, and_false, if_true, if_false, hN_fA, hLn_fA, hR_fA, hN_wrS, hLn_wrS, hR_wrS, hL_wrS, wS_day, wS_keeps, wS_brs, wS_first, wS_knows, wS_purse, wS_till, wS_valid, wS_kept, sS_day, sS_keeps, sS_brs, sS_first, sS_knows, sS_purse, sS_till, sS_valid, sS_kept, wrS_wrS, day_mk, knows_mk, purse_mk, till_mk, valid_mk, kept_mk, keeps_mk, brs_mk, first_mk, hN_wrU, hLn_wrU, hR_wrU, hL_wrU, wU_19, wU_20, sU_19, sU_20, upd_same, upd_upd, hN_wrR, hLn_wrR, hR_wrR, hL_wrR, bI_0, bI_01', bI_t1, eq_self, Bool.true_eq_false, Bool.false_eq_true, hN_wrC, hLn_wrC, hR_wrC, hL_wrC, lay_174, lay_175, lay_176, lay_177, lay_178, lay_179, lay_180, lay_181, lay_182, lay_183, lay_184, lay_185, lay_186, lay_187, lay_188, lay_189, lay_190, lay_191, lay_192, lay_193, lay_194, lay_195, lay_196, lay_197, lay_198, lay_199, lay_200, lay_201, lay_202, lay_203, lay_204, lay_205, lay_206, lay_207, lay_208, lay_209, lay_210, lay_211, lay_212, lay_213, lay_214, lay_215, lay_216, lay_217, lay_218, lay_219, hN_wrO, hLn_wrO, hR_wrO, hN_wrL, hLn_wrL, hR_wrL, hN_sL', hI_sL', hR_sL', hLn_sL', hN_wrF, hLn_wrF, hR_wrF,  show bI (!true) = nI 0 from rfl]
    exact fin
  | false =>
    have e192 := hfu.2 rfl
    have hfw2 := fw_nx (b := b) hLe hfw
    simp (disch := omega) only [g194_0, g194_1, g194_2, g194_5, g194_6, g194_9, g194_10, g194_11, g194_14, g194_15, g194_18, g194_19, GN_nx, GN_rtn, GN_ck, GN_br, GN_cll, ldI_0, ldJ_0, ldR_0, ldI_s, ldJ_s, ldR_s, pI_c, pII_c, pJ_c, pJJ_c, pJI_c, pR_c, pRI_c, pRJ_c, pRR_c, pRII_c, pRIJ_c, pRIR_c, pCopy_c, pIe_c, pJe_c, pRe_c, pE_c, p1_i, p1_r, p11_ir, pA_0, pA_1, pA_2, pA_3, pA_4, pA_5, st1_0, st1_i, st1_r, st1_n, st1_u, st1_j, st1_s, st2_0, st2_i, st2_r, st2_n, st2_u, st2_j, st2_s, List.length_cons, List.length_nil, Nat.reduceAdd, Nat.reduceLT, Nat.reduceLeDiff, Nat.reduceEqDiff, Nat.zero_add, true_and, and_true, true_implies, not_true_eq_false, not_false_eq_true, false_implies, Option.toList_some, Option.toList_none, arr, inb, List.cons_append, List.nil_append, rv_some, rv_none, nlt_t, nlt_f, nle_t, nle_f, neq_f, ix_cl, ix_nn, ix_lt, cmp_le, cmp_lt, cmp_eq, cmp_lt0, cmp_ge0, cmp_eq0, cmp_gt0, cmp_le0, nI_mul, nI_add, nm1_ne, nm1_ne', one01, zero01, b2i_0, b2i_1, b2i_01, cmp_eq1, true_or, or_true, false_or, or_false, neq_t, hN_sI, hLn_sI, hR_sI, hL_sI, hI_sI, hN_sA, hLn_sA, hR_sA, hL_sA, hI_sA, hN_wI, hLn_wI, hR_wI, hL_wI, hI_wI, false_and, and_false, if_true, if_false, hN_fA, hLn_fA, hR_fA, hN_wrS, hLn_wrS, hR_wrS, hL_wrS, wS_day, wS_keeps, wS_brs, wS_first, wS_knows, wS_purse, wS_till, wS_valid, wS_kept, sS_day, sS_keeps, sS_brs, sS_first, sS_knows, sS_purse, sS_till, sS_valid, sS_kept, wrS_wrS, day_mk, knows_mk, purse_mk, till_mk, valid_mk, kept_mk, keeps_mk, brs_mk, first_mk, hN_wrU, hLn_wrU, hR_wrU, hL_wrU, wU_19, wU_20, sU_19, sU_20, upd_same, upd_upd, hN_wrR, hLn_wrR, hR_wrR, hL_wrR, bI_0, bI_01', bI_t1, eq_self, Bool.true_eq_false, Bool.false_eq_true, hN_wrC, hLn_wrC, hR_wrC, hL_wrC, lay_174, lay_175, lay_176, lay_177, lay_178, lay_179, lay_180, lay_181, lay_182, lay_183, lay_184, lay_185, lay_186, lay_187, lay_188, lay_189, lay_190, lay_191, lay_192, lay_193, lay_194, lay_195, lay_196, lay_197, lay_198, lay_199, lay_200, lay_201, lay_202, lay_203, lay_204, lay_205, lay_206, lay_207, lay_208, lay_209, lay_210, lay_211, lay_212, lay_213, lay_214, lay_215, lay_216, lay_217, lay_218, lay_219, hN_wrO, hLn_wrO, hR_wrO, hN_wrL, hLn_wrL, hR_wrL, hN_sL', hI_sL', hR_sL', hLn_sL', hN_wrF, hLn_wrF, hR_wrF,  ra0, ra1, ra2, ra3, ra4, ra5, ra6, ra7, ra8, ra9, ra10, ra11, ra12, ra13, ra14, ra15, ra16, ra17, ra18, ra19, ra20, ra21, ra22, ra23, ra24, ra25, ra26, ra27, ra28, ra29, ra30, ra31, ra32, ra33, ra34, ra35, ra36, ra37, ra38, ra39, ra40, ra41, ra42, ra43, ra44, la0, la1, la2, la3, la4, la5, la6, la7, la8, la9, la10, la11, la12, la13, la14, la15, la16, la17, la18, la19, la20, la21, la22, la23, la24, la25, la26, la27, la28, la29, la30, la31, la32, la33, la34, la35, la36, la37, la38, la39, la40, la41, la42, la43, la44, k39, e192]
    refine Mo_counts (full := false) (by omega) hM' hT hLe hP h28 (fun h1 a1 p1 => ?_)
    have p1 := hs1 h1 p1
    have hC1 : CT h1 b L ik := CT_agm (fun b j z => by unfold pxX at z; omega) a1 hC
    have k39 := hC1.2.2.2.1
    have e38 : hI h1 174 38 = nI c0 := (Agm_I a1 (by unfold pxX; omega)).trans e38
    have a2 : Agm (fun b j => b = 194 ∧ j = ik) h1 (sI h1 194 ik (nI c0)) := Agm_sI ⟨rfl, rfl⟩
    have hC2 : CT (sI h1 194 ik (nI c0)) b L ik := CT_agm (fun b j z => by omega) a2 hC1
    have p2 : Px (sI h1 194 ik (nI c0)) b L (true, s1) := Px_agm (fun b j z => by omega) a2 p1
    have g8 : ∃ st, s1.1 8 = nI st ∧ st ≤ L ∧ c0 ≤ st := by
      obtain ⟨st, a, -, g8, -, q1, q2, q3⟩ := hfw2
      exact ⟨st, e18.trans g8, by omega, q1⟩
    have hM1 := hC1.1
    obtain ⟨xN, ⟨ra0, ra1, ra2, ra3, ra4, ra5, ra6, ra7, ra8, ra9, ra10, ra11, ra12, ra13, ra14, ra15, ra16, ra17, ra18, ra19, ra20, ra21, ra22, ra23, ra24, ra25, ra26, ra27, ra28, ra29, ra30, ra31, ra32, ra33, ra34, ra35, ra36, ra37, ra38, ra39, ra40, ra41, ra42, ra43, ra44⟩, ⟨la0, la1, la2, la3, la4, la5, la6, la7, la8, la9, la10, la11, la12, la13, la14, la15, la16, la17, la18, la19, la20, la21, la22, la23, la24, la25, la26, la27, la28, la29, la30, la31, la32, la33, la34, la35, la36, la37, la38, la39, la40, la41, la42, la43, la44⟩⟩ := hM1
    simp (disch := omega) only [g194_22, g194_26, g194_27, g194_30, g194_31, g194_34, g194_35, g194_38, g194_39, g194_40, g194_41, GN_nx, GN_rtn, GN_ck, GN_br, GN_cll, ldI_0, ldJ_0, ldR_0, ldI_s, ldJ_s, ldR_s, pI_c, pII_c, pJ_c, pJJ_c, pJI_c, pR_c, pRI_c, pRJ_c, pRR_c, pRII_c, pRIJ_c, pRIR_c, pCopy_c, pIe_c, pJe_c, pRe_c, pE_c, p1_i, p1_r, p11_ir, pA_0, pA_1, pA_2, pA_3, pA_4, pA_5, st1_0, st1_i, st1_r, st1_n, st1_u, st1_j, st1_s, st2_0, st2_i, st2_r, st2_n, st2_u, st2_j, st2_s, List.length_cons, List.length_nil, Nat.reduceAdd, Nat.reduceLT, Nat.reduceLeDiff, Nat.reduceEqDiff, Nat.zero_add, true_and, and_true, true_implies, not_true_eq_false, not_false_eq_true, false_implies, Option.toList_some, Option.toList_none, arr, inb, List.cons_append, List.nil_append, rv_some, rv_none, nlt_t, nlt_f, nle_t, nle_f, neq_f, ix_cl, ix_nn, ix_lt, cmp_le, cmp_lt, cmp_eq, cmp_lt0, cmp_ge0, cmp_eq0, cmp_gt0, cmp_le0, nI_mul, nI_add, nm1_ne, nm1_ne', one01, zero01, b2i_0, b2i_1, b2i_01, cmp_eq1, true_or, or_true, false_or, or_false, neq_t, hN_sI, hLn_sI, hR_sI, hL_sI, hI_sI, hN_sA, hLn_sA, hR_sA, hL_sA, hI_sA, hN_wI, hLn_wI, hR_wI, hL_wI, hI_wI, false_and, and_false, if_true, if_false, hN_fA, hLn_fA, hR_fA, hN_wrS, hLn_wrS, hR_wrS, hL_wrS, wS_day, wS_keeps, wS_brs, wS_first, wS_knows, wS_purse, wS_till, wS_valid, wS_kept, sS_day, sS_keeps, sS_brs, sS_first, sS_knows, sS_purse, sS_till, sS_valid, sS_kept, wrS_wrS, day_mk, knows_mk, purse_mk, till_mk, valid_mk, kept_mk, keeps_mk, brs_mk, first_mk, hN_wrU, hLn_wrU, hR_wrU, hL_wrU, wU_19, wU_20, sU_19, sU_20, upd_same, upd_upd, hN_wrR, hLn_wrR, hR_wrR, hL_wrR, bI_0, bI_01', bI_t1, eq_self, Bool.true_eq_false, Bool.false_eq_true, hN_wrC, hLn_wrC, hR_wrC, hL_wrC, lay_174, lay_175, lay_176, lay_177, lay_178, lay_179, lay_180, lay_181, lay_182, lay_183, lay_184, lay_185, lay_186, lay_187, lay_188, lay_189, lay_190, lay_191, lay_192, lay_193, lay_194, lay_195, lay_196, lay_197, lay_198, lay_199, lay_200, lay_201, lay_202, lay_203, lay_204, lay_205, lay_206, lay_207, lay_208, lay_209, lay_210, lay_211, lay_212, lay_213, lay_214, lay_215, lay_216, lay_217, lay_218, lay_219, hN_wrO, hLn_wrO, hR_wrO, hN_wrL, hLn_wrL, hR_wrL, hN_sL', hI_sL', hR_sL', hLn_sL', hN_wrF, hLn_wrF, hR_wrF,  ra0, ra1, ra2, ra3, ra4, ra5, ra6, ra7, ra8, ra9, ra10, ra11, ra12, ra13, ra14, ra15, ra16, ra17, ra18, ra19, ra20, ra21, ra22, ra23, ra24, ra25, ra26, ra27, ra28, ra29, ra30, ra31, ra32, ra33, ra34, ra35, ra36, ra37, ra38, ra39, ra40, ra41, ra42, ra43, ra44, la0, la1, la2, la3, la4, la5, la6, la7, la8, la9, la10, la11, la12, la13, la14, la15, la16, la17, la18, la19, la20, la21, la22, la23, la24, la25, la26, la27, la28, la29, la30, la31, la32, la33, la34, la35, la36, la37, la38, la39, la40, la41, la42, la43, la44, k39, e38, show bI (!false) = nI 1 from rfl]
    refine Mo_reads (tb := true) (p0 := 1) (c0 := c0) (by omega) hC2 p2 e38 g8 (by omega) hcd h12 (fun h3 a3 p3 q3 => ?_)
    have hM3 := Mo_agm a3 hC2.1
    have k39 : hI h3 174 39 = nI ik := (Agm_I a3 (by unfold rdX pxX; omega)).trans hC2.2.2.2.1
    have e1 : hI h3 194 ik = nI c0 := (Agm_I a3 (by unfold rdX pxX; omega)).trans (by rw [hI_sI, if_pos ⟨rfl, rfl⟩])
    have ag : Agm (prX ik c0 194) h (sI h3 195 ik (hI h3 174 38)) := Agm_trans (Agm_trans (Agm_trans (Agm_sub (fun b j z => Or.inl (Or.inl z)) a1) (Agm_sub (fun b j z => Or.inr ⟨Or.inl z.1, z.2⟩) a2)) (Agm_sub (fun b j z => Or.inl z) a3)) (Agm_sI (Or.inr ⟨Or.inr rfl, rfl⟩))
    have a4 : Agm (fun b j => b = 195 ∧ j = ik) h3 (sI h3 195 ik (hI h3 174 38)) := Agm_sI ⟨rfl, rfl⟩
    have fin := hQ2 rfl _ ag (Px_agm (fun b j z => by omega) a4 p3) (fun z => by
      obtain ⟨r1, lc, lr, r2, r3, r4, r5, r6⟩ := q3 z
      refine ⟨r1, lc, lr, r2, r3, cds_agm (fun b j z y => by omega) a4 r4, r5, r6, e1, ?_⟩
      rw [hI_sI, if_pos ⟨rfl, rfl⟩]
      exact r5)
    obtain ⟨xN, ⟨ra0, ra1, ra2, ra3, ra4, ra5, ra6, ra7, ra8, ra9, ra10, ra11, ra12, ra13, ra14, ra15, ra16, ra17, ra18, ra19, ra20, ra21, ra22, ra23, ra24, ra25, ra26, ra27, ra28, ra29, ra30, ra31, ra32, ra33, ra34, ra35, ra36, ra37, ra38, ra39, ra40, ra41, ra42, ra43, ra44⟩, ⟨la0, la1, la2, la3, la4, la5, la6, la7, la8, la9, la10, la11, la12, la13, la14, la15, la16, la17, la18, la19, la20, la21, la22, la23, la24, la25, la26, la27, la28, la29, la30, la31, la32, la33, la34, la35, la36, la37, la38, la39, la40, la41, la42, la43, la44⟩⟩ := hM3
    simp (disch := omega) only [g194_44, g194_45, g194_48, g194_49, g194_52, g194_53, g194_56, g194_57, GN_nx, GN_rtn, GN_ck, GN_br, GN_cll, ldI_0, ldJ_0, ldR_0, ldI_s, ldJ_s, ldR_s, pI_c, pII_c, pJ_c, pJJ_c, pJI_c, pR_c, pRI_c, pRJ_c, pRR_c, pRII_c, pRIJ_c, pRIR_c, pCopy_c, pIe_c, pJe_c, pRe_c, pE_c, p1_i, p1_r, p11_ir, pA_0, pA_1, pA_2, pA_3, pA_4, pA_5, st1_0, st1_i, st1_r, st1_n, st1_u, st1_j, st1_s, st2_0, st2_i, st2_r, st2_n, st2_u, st2_j, st2_s, List.length_cons, List.length_nil, Nat.reduceAdd, Nat.reduceLT, Nat.reduceLeDiff, Nat.reduceEqDiff, Nat.zero_add, true_and, and_true, true_implies, not_true_eq_false, not_false_eq_true, false_implies, Option.toList_some, Option.toList_none, arr, inb, List.cons_append, List.nil_append, rv_some, rv_none, nlt_t, nlt_f, nle_t, nle_f, neq_f, ix_cl, ix_nn, ix_lt, cmp_le, cmp_lt, cmp_eq, cmp_lt0, cmp_ge0, cmp_eq0, cmp_gt0, cmp_le0, nI_mul, nI_add, nm1_ne, nm1_ne', one01, zero01, b2i_0, b2i_1, b2i_01, cmp_eq1, true_or, or_true, false_or, or_false, neq_t, hN_sI, hLn_sI, hR_sI, hL_sI, hI_sI, hN_sA, hLn_sA, hR_sA, hL_sA, hI_sA, hN_wI, hLn_wI, hR_wI, hL_wI, hI_wI, false_and, and_false, if_true, if_false, hN_fA, hLn_fA, hR_fA, hN_wrS, hLn_wrS, hR_wrS, hL_wrS, wS_day, wS_keeps, wS_brs, wS_first, wS_knows, wS_purse, wS_till, wS_valid, wS_kept, sS_day, sS_keeps, sS_brs, sS_first, sS_knows, sS_purse, sS_till, sS_valid, sS_kept, wrS_wrS, day_mk, knows_mk, purse_mk, till_mk, valid_mk, kept_mk, keeps_mk, brs_mk, first_mk, hN_wrU, hLn_wrU, hR_wrU, hL_wrU, wU_19, wU_20, sU_19, sU_20, upd_same, upd_upd, hN_wrR, hLn_wrR, hR_wrR, hL_wrR, bI_0, bI_01', bI_t1, eq_self, Bool.true_eq_false, Bool.false_eq_true, hN_wrC, hLn_wrC, hR_wrC, hL_wrC, lay_174, lay_175, lay_176, lay_177, lay_178, lay_179, lay_180, lay_181, lay_182, lay_183, lay_184, lay_185, lay_186, lay_187, lay_188, lay_189, lay_190, lay_191, lay_192, lay_193, lay_194, lay_195, lay_196, lay_197, lay_198, lay_199, lay_200, lay_201, lay_202, lay_203, lay_204, lay_205, lay_206, lay_207, lay_208, lay_209, lay_210, lay_211, lay_212, lay_213, lay_214, lay_215, lay_216, lay_217, lay_218, lay_219, hN_wrO, hLn_wrO, hR_wrO, hN_wrL, hLn_wrL, hR_wrL, hN_sL', hI_sL', hR_sL', hLn_sL', hN_wrF, hLn_wrF, hR_wrF,  ra0, ra1, ra2, ra3, ra4, ra5, ra6, ra7, ra8, ra9, ra10, ra11, ra12, ra13, ra14, ra15, ra16, ra17, ra18, ra19, ra20, ra21, ra22, ra23, ra24, ra25, ra26, ra27, ra28, ra29, ra30, ra31, ra32, ra33, ra34, ra35, ra36, ra37, ra38, ra39, ra40, ra41, ra42, ra43, ra44, la0, la1, la2, la3, la4, la5, la6, la7, la8, la9, la10, la11, la12, la13, la14, la15, la16, la17, la18, la19, la20, la21, la22, la23, la24, la25, la26, la27, la28, la29, la30, la31, la32, la33, la34, la35, la36, la37, la38, la39, la40, la41, la42, la43, la44, k39]
    exact fin
def TxH (h : AH) (ik L : Nat) (s : RS) (x : XK) (c : Nat) : Prop := KxAt h ik x.1 ∧ KBd x.1 ∧ CqAt h ik 192 x.2.1.1 (fun F => valM F x.2.1.2 x.2.1.1) false c ∧ CqAt h ik 194 x.2.2.1 (fun F => valM F x.2.2.2 x.2.2.1) true c ∧ hI h 174 38 = nI c ∧ Fw L c s
def stB (b : Nat → Int32) (L : Nat) (s : RS) (x : XK) : Bool × RS := ((stS b L s x).1, (stS b L s x).2.1)
def ss1 (b : Nat → Int32) (L : Nat) (s : RS) : RS := zerS (nxS b L (frtS s))
theorem ss1_j : Eq10 (ss1 b L s).1 (nxS b L s).1 := fun j hj => by
  show upd (upd (nxS b L (frtS s)).1 14 (nI 0)) 12 (nI 0) j = _
  rw [upd_ne (by omega), upd_ne (by omega)]
  exact e10_nx (fun j hj => upd_ne (by omega)) j hj
theorem ss1_P {h' : AH} (H : Px h' b L (true, nxS b L s)) : Px h' b L (true, ss1 b L s) := Px_c (fun j hj => ss1_j j hj) H
theorem ss1_11 : (ss1 b L s).1 11 = s.1 8 := by
  show upd (upd (nxS b L (frtS s)).1 14 (nI 0)) 12 (nI 0) 11 = _
  rw [upd_ne (by omega), upd_ne (by omega)]
  show nextR b L (frtS s).1 11 = _
  rw [nextR_ne (by omega) (by omega)]
  show upd s.1 11 (s.1 8) 11 = _
  rw [upd_same]
theorem ss1_fw (hLe : L ≤ 1600) (h : Fw L c s) : Fw L c (ss1 b L s) := fw_j (fun j h1 _ => ss1_j j h1) (fw_nx (b := b) hLe h)
theorem ss1_cd (hLe : L ≤ 1600) (hP : Px h b L (true, s)) (h28 : ¬ s.1 6 = nI 28) : Cd L 1 (ss1 b L s) [] := by
  refine ⟨?_, fun i x hx => by cases hx⟩
  rcases hP with ⟨-, ⟨st, a, e3, e8, e4, h1, h2, -, -, -, -, ht⟩, -⟩ | ⟨z, -⟩
  · obtain ⟨st', a', q1, q2, q3, q4, q5, q6⟩ := nextR_st (b := b) e4 h2 hLe
    have hlt := (ht h28).1
    refine ⟨?_, (ss1_j 3 (by omega)).trans ((nextR_ne (by omega) (by omega)).trans e3), st', a', (ss1_j 8 (by omega)).trans q1, (ss1_j 4 (by omega)).trans q2, by show 0 + 1 ≤ st'; omega, q4, q5, fun z => q6 (fun y => z ((ss1_j 6 (by omega)).trans y))⟩
    show upd (upd (nxS b L (frtS s)).1 14 (nI 0)) 12 (nI 0) 14 = nI 0
    rw [upd_ne (by omega), upd_same]
  · cases z
theorem stS_too (h : tooB x.1 x.2.1.1 x.2.2.1 (s.1 6) = true) : stB b L s x = flS (frtS s) (nI 6) (s.1 8) ∧ (stS b L s x).2.2 = x := by
  unfold stB stS
  rw [if_pos h]
  exact ⟨rfl, rfl⟩
theorem fl_frt {k p : Int32} {h' : AH} (H : Px h' b L (flS s k p)) : Px h' b L (flS (frtS s) k p) := by
  rcases H with ⟨z, -⟩ | ⟨-, e8, e9, j, h1, h2, h3⟩
  · cases z
  · exact Or.inr ⟨rfl, e8.trans (fl_0.1.trans fl_0.1.symm), e9.trans (fl_0.2.trans fl_0.2.symm), j, h1, h2, fl_0.1.trans (fl_0.1.symm.trans h3)⟩
theorem too_0 (h6 : s.1 6 = nI 0) : tooB x.1 x.2.1.1 x.2.2.1 (s.1 6) = decide (12 ≤ cF x.1) := by
  rw [h6]
  unfold tooB
  rw [if_pos (by decide)]
theorem stS_0 (h6 : s.1 6 = nI 0) (hf : tooB x.1 x.2.1.1 x.2.2.1 (s.1 6) = false) : stS b L s x = setK x (factS b L x.1 (ss1 b L s)) := by
  unfold stS
  rw [if_neg (by rw [hf]; decide), h6, if_pos (by decide)]
  unfold stmR
  rw [if_pos (by decide)]
  rfl
theorem too_3 (h6 : s.1 6 = nI 3) : tooB x.1 x.2.1.1 x.2.2.1 (s.1 6) = decide (16 ≤ cU x.1) := by
  rw [h6]
  unfold tooB
  rw [if_neg (by decide), if_pos (by decide)]
theorem stS_3 (h6 : s.1 6 = nI 3) (hf : tooB x.1 x.2.1.1 x.2.2.1 (s.1 6) = false) : stS b L s x = setK x (ruleS b L x.1 (ss1 b L s)) := by
  unfold stS
  rw [if_neg (by rw [hf]; decide), h6, if_pos (by decide)]
  unfold stmR
  rw [if_neg (by decide), if_pos (by decide)]
  rfl
theorem too_5 (h6 : s.1 6 = nI 5) : tooB x.1 x.2.1.1 x.2.2.1 (s.1 6) = decide (8 ≤ cP x.1) := by
  rw [h6]
  unfold tooB
  rw [if_neg (by decide), if_neg (by decide), if_pos (by decide)]
theorem stS_5 (h6 : s.1 6 = nI 5) (hf : tooB x.1 x.2.1.1 x.2.2.1 (s.1 6) = false) : stS b L s x = setK x (persS b L x.1 (ss1 b L s)) := by
  unfold stS
  rw [if_neg (by rw [hf]; decide), h6, if_pos (by decide)]
  unfold stmR
  rw [if_neg (by decide), if_neg (by decide), if_pos (by decide)]
  rfl
theorem too_8 (h6 : s.1 6 = nI 8) : tooB x.1 x.2.1.1 x.2.2.1 (s.1 6) = decide (16 ≤ cM x.1) := by
  rw [h6]
  unfold tooB
  rw [if_neg (by decide), if_neg (by decide), if_neg (by decide), if_pos (by decide)]
theorem stS_8 (h6 : s.1 6 = nI 8) (hf : tooB x.1 x.2.1.1 x.2.2.1 (s.1 6) = false) : stS b L s x = setK x (meetS b L x.1 (ss1 b L s)) := by
  unfold stS
  rw [if_neg (by rw [hf]; decide), h6, if_pos (by decide)]
  unfold stmR
  rw [if_neg (by decide), if_neg (by decide), if_neg (by decide), if_pos (by decide)]
  rfl
theorem too_10 (h6 : s.1 6 = nI 10) : tooB x.1 x.2.1.1 x.2.2.1 (s.1 6) = false := by
  rw [h6]
  unfold tooB
  rw [if_neg (by decide), if_neg (by decide), if_neg (by decide), if_neg (by decide), if_neg (by decide), if_neg (by decide), if_neg (by decide)]
theorem stS_10 (h6 : s.1 6 = nI 10) (hf : tooB x.1 x.2.1.1 x.2.2.1 (s.1 6) = false) : stS b L s x = setK x (licS b L x.1 (ss1 b L s)) := by
  unfold stS
  rw [if_neg (by rw [hf]; decide), h6, if_pos (by decide)]
  unfold stmR
  rw [if_neg (by decide), if_neg (by decide), if_neg (by decide), if_neg (by decide), if_pos (by decide)]
  rfl
theorem too_14 (h6 : s.1 6 = nI 14) : tooB x.1 x.2.1.1 x.2.2.1 (s.1 6) = decide (0 < x.1 0 16) := by
  rw [h6]
  unfold tooB
  rw [if_neg (by decide), if_neg (by decide), if_neg (by decide), if_neg (by decide), if_neg (by decide), if_neg (by decide), if_pos (by decide)]
theorem stS_14 (h6 : s.1 6 = nI 14) (hf : tooB x.1 x.2.1.1 x.2.2.1 (s.1 6) = false) : stS b L s x = setK x (stoS b L x.1 (ss1 b L s)) := by
  unfold stS
  rw [if_neg (by rw [hf]; decide), h6, if_pos (by decide)]
  unfold stmR
  rw [if_neg (by decide), if_neg (by decide), if_neg (by decide), if_neg (by decide), if_neg (by decide), if_neg (by decide), if_neg (by decide), if_pos (by decide)]
  rfl
theorem too_12 (h6 : s.1 6 = nI 12) : tooB x.1 x.2.1.1 x.2.2.1 (s.1 6) = decide (0 < x.2.1.1) := by
  rw [h6]
  unfold tooB
  rw [if_neg (by decide), if_neg (by decide), if_neg (by decide), if_neg (by decide), if_pos (by decide)]
theorem stS_12 (h6 : s.1 6 = nI 12) (hf : tooB x.1 x.2.1.1 x.2.2.1 (s.1 6) = false) : stS b L s x = prcS b L (ss1 b L s) x := by
  unfold stS
  rw [if_neg (by rw [hf]; decide), h6, if_pos (by decide)]
  unfold stmR
  rw [if_neg (by decide), if_neg (by decide), if_neg (by decide), if_neg (by decide), if_neg (by decide), if_pos (by decide)]
  rfl
theorem too_13 (h6 : s.1 6 = nI 13) : tooB x.1 x.2.1.1 x.2.2.1 (s.1 6) = decide (0 < x.2.2.1) := by
  rw [h6]
  unfold tooB
  rw [if_neg (by decide), if_neg (by decide), if_neg (by decide), if_neg (by decide), if_neg (by decide), if_pos (by decide)]
theorem stS_13 (h6 : s.1 6 = nI 13) (hf : tooB x.1 x.2.1.1 x.2.2.1 (s.1 6) = false) : stS b L s x = telS b L (ss1 b L s) x := by
  unfold stS
  rw [if_neg (by rw [hf]; decide), h6, if_pos (by decide)]
  unfold stmR
  rw [if_neg (by decide), if_neg (by decide), if_neg (by decide), if_neg (by decide), if_neg (by decide), if_neg (by decide), if_pos (by decide)]
  rfl
theorem stS_no (h : ¬ s.1 6 = nI 0 ∧ ¬ s.1 6 = nI 3 ∧ ¬ s.1 6 = nI 5 ∧ ¬ s.1 6 = nI 8 ∧ ¬ s.1 6 = nI 10 ∧ ¬ s.1 6 = nI 12 ∧ ¬ s.1 6 = nI 13 ∧ ¬ s.1 6 = nI 14) : ∃ t : RS, (stS b L s x).1 = false ∧ (stS b L s x).2.1 = (flS t (nI 1) (s.1 9)).2 := by
  obtain ⟨h0, h3, h5, h8, h10, h12, h13, h14⟩ := h
  have ne : ∀ (n : Nat) (m : Int), (n : Int) = m → n < 1000 → ¬ s.1 6 = nI n → ¬ (s.1 6).toInt = m := fun n m e hn z y => z (I_nat hn (y.trans e.symm))
  have n0 := ne 0 0 rfl (by omega) h0
  have n3 := ne 3 3 rfl (by omega) h3
  have n5 := ne 5 5 rfl (by omega) h5
  have n8 := ne 8 8 rfl (by omega) h8
  have n10 := ne 10 10 rfl (by omega) h10
  have n12 := ne 12 12 rfl (by omega) h12
  have n13 := ne 13 13 rfl (by omega) h13
  have n14 := ne 14 14 rfl (by omega) h14
  have hf : ¬ tooB x.1 x.2.1.1 x.2.2.1 (s.1 6) = true := by
    unfold tooB
    rw [if_neg n0, if_neg n3, if_neg n5, if_neg n8, if_neg n12, if_neg n13, if_neg n14]
    decide
  unfold stS
  rw [if_neg hf]
  unfold stmR
  rw [if_neg n0, if_neg n3, if_neg n5, if_neg n8, if_neg n10, if_neg n12, if_neg n13, if_neg n14]
  exact ⟨_, rfl, rfl⟩
theorem Tx_st {h' : AH} {K' : KK} {s' : RS} (hX : TxH h ik L s x c) (a : Agm (stX ik) h h') (hK : KxAt h' ik K') (hB : KBd K') (hF : Fw L c s') : TxH h' ik L s' (K', x.2) c := by
  obtain ⟨x1, x2, x3, x4, x5, x6⟩ := hX
  exact ⟨hK, hB, Cq_agm (fun b j z => by have := st_cq z; omega) (Nat.le_refl _) a x3, Cq_agm (fun b j z => by have := st_cq z; omega) (Nat.le_refl _) a x4, (Agm_I a (fun z => by have := st_cq z; omega)).trans x5, hF⟩
/-- a number that is read is below 10000 -/
theorem num_val {v : Int32} (e7 : (ss1 b L s).1 7 = v) (e6 : (ss1 b L s).1 6 = nI 27) : ∃ k, k < 10000 ∧ v = nI k := by
  rw [ss1_j 7 (by omega)] at e7
  rw [ss1_j 6 (by omega)] at e6
  obtain ⟨k, hk, e⟩ := num_nx e6
  exact ⟨k, hk, e7.symm.trans e⟩
theorem Mo_st_0 (hd : 9 ≤ d) (hC : CT h b L ik) (hP : Px h b L (true, s)) (h28 : ¬ s.1 6 = nI 28) (h6 : s.1 6 = nI 0) (hX : TxH h ik L s x c) (hQ : ∀ h' rr, Agm (tyX ik) h h' → Px h' b L rr → (rr = stB b L s x ∨ rr = lexP (stB b L s x)) → (rr.1 = true → ∃ c', TxH h' ik L (stS b L s x).2.1 (stS b L s x).2.2 c') → Q none h') : CL d 188 [.ref 174] h Q := by
  have hLe := hC.2.2.1
  have hfw := ss1_fw (b := b) hLe hX.2.2.2.2.2
  have ht := too_0 (x := x) h6
  by_cases cf : 12 ≤ cF x.1
  · have ht := ht.trans (decide_eq_true cf)
    have e := stS_too (b := b) (L := L) ht
    refine Mo_facting (K := x.1) (ik := ik) (s := s) (s1 := ss1 b L s) (by omega) hC.1 hC.2.1 hLe hX.1 hP h28 (fun h' => ss1_P) (fun _ h' a p => ?_) (fun y => absurd cf y)
    exact hQ h' _ (Agm_sub (fun b j z => st_ty z) a) (by rw [e.1]; exact fl_frt p) (Or.inl rfl) (fun z => by rw [e.1] at z; cases z)
  have ht := ht.trans (decide_eq_false cf)
  have e := stS_0 (b := b) (L := L) h6 ht
  have eB : stB b L s x = ((factS b L x.1 (ss1 b L s)).1, (factS b L x.1 (ss1 b L s)).2.1) := by
    unfold stB
    rw [e]
    rfl
  rw [eB, e] at hQ
  refine Mo_facting (K := x.1) (ik := ik) (s := s) (s1 := ss1 b L s) (by omega) hC.1 hC.2.1 hLe hX.1 hP h28 (fun h' => ss1_P) (fun y => absurd y cf) (fun _ h' a p q => ?_)
  exact hQ h' _ (Agm_sub (fun b j z => st_ty z) a) p (Or.inl rfl) (fun z => ⟨c, Tx_st hX a (q z) (kb_fact hX.2.1) (fw_fact hLe hfw)⟩)
theorem Mo_st_3 (hd : 9 ≤ d) (hC : CT h b L ik) (hP : Px h b L (true, s)) (h28 : ¬ s.1 6 = nI 28) (h6 : s.1 6 = nI 3) (hX : TxH h ik L s x c) (hQ : ∀ h' rr, Agm (tyX ik) h h' → Px h' b L rr → (rr = stB b L s x ∨ rr = lexP (stB b L s x)) → (rr.1 = true → ∃ c', TxH h' ik L (stS b L s x).2.1 (stS b L s x).2.2 c') → Q none h') : CL d 189 [.ref 174] h Q := by
  have hLe := hC.2.2.1
  have hfw := ss1_fw (b := b) hLe hX.2.2.2.2.2
  have ht := too_3 (x := x) h6
  by_cases cf : 16 ≤ cU x.1
  · have ht := ht.trans (decide_eq_true cf)
    have e := stS_too (b := b) (L := L) ht
    refine Mo_ruling (K := x.1) (ik := ik) (s := s) (s1 := ss1 b L s) (by omega) hC.1 hC.2.1 hLe hX.1 hP h28 (fun h' => ss1_P) (fun _ h' a p => ?_) (fun y => absurd cf y)
    exact hQ h' _ (Agm_sub (fun b j z => st_ty z) a) (by rw [e.1]; exact fl_frt p) (Or.inl rfl) (fun z => by rw [e.1] at z; cases z)
  have ht := ht.trans (decide_eq_false cf)
  have e := stS_3 (b := b) (L := L) h6 ht
  have eB : stB b L s x = ((ruleS b L x.1 (ss1 b L s)).1, (ruleS b L x.1 (ss1 b L s)).2.1) := by
    unfold stB
    rw [e]
    rfl
  rw [eB, e] at hQ
  refine Mo_ruling (K := x.1) (ik := ik) (s := s) (s1 := ss1 b L s) (by omega) hC.1 hC.2.1 hLe hX.1 hP h28 (fun h' => ss1_P) (fun y => absurd y cf) (fun _ h' a p q => ?_)
  refine hQ h' _ (Agm_sub (fun b j z => st_ty z) a) p (Or.inr ?_) (fun z => ⟨c, Tx_st hX a (q z) (kb_rule hX.2.1) (fw_rule hLe hfw)⟩)
  exact RuS_lex _
theorem Mo_st_5 (hd : 9 ≤ d) (hC : CT h b L ik) (hP : Px h b L (true, s)) (h28 : ¬ s.1 6 = nI 28) (h6 : s.1 6 = nI 5) (hX : TxH h ik L s x c) (hQ : ∀ h' rr, Agm (tyX ik) h h' → Px h' b L rr → (rr = stB b L s x ∨ rr = lexP (stB b L s x)) → (rr.1 = true → ∃ c', TxH h' ik L (stS b L s x).2.1 (stS b L s x).2.2 c') → Q none h') : CL d 190 [.ref 174] h Q := by
  have hLe := hC.2.2.1
  have hfw := ss1_fw (b := b) hLe hX.2.2.2.2.2
  have ht := too_5 (x := x) h6
  by_cases cf : 8 ≤ cP x.1
  · have ht := ht.trans (decide_eq_true cf)
    have e := stS_too (b := b) (L := L) ht
    refine Mo_personing (K := x.1) (ik := ik) (s := s) (s1 := ss1 b L s) (by omega) hC.1 hC.2.1 hLe hX.1 hP h28 (fun h' => ss1_P) (fun _ h' a p => ?_) (fun y => absurd cf y)
    exact hQ h' _ (Agm_sub (fun b j z => st_ty z) a) (by rw [e.1]; exact fl_frt p) (Or.inl rfl) (fun z => by rw [e.1] at z; cases z)
  have ht := ht.trans (decide_eq_false cf)
  have e := stS_5 (b := b) (L := L) h6 ht
  have eB : stB b L s x = ((persS b L x.1 (ss1 b L s)).1, (persS b L x.1 (ss1 b L s)).2.1) := by
    unfold stB
    rw [e]
    rfl
  rw [eB, e] at hQ
  refine Mo_personing (K := x.1) (ik := ik) (s := s) (s1 := ss1 b L s) (by omega) hC.1 hC.2.1 hLe hX.1 hP h28 (fun h' => ss1_P) (fun y => absurd y cf) (fun _ h' a p q => ?_)
  exact hQ h' _ (Agm_sub (fun b j z => st_ty z) a) p (Or.inl rfl) (fun z => ⟨c, Tx_st hX a (q z) (kb_pers hX.2.1) (fw_pers hLe hfw)⟩)
theorem Mo_st_8 (hd : 9 ≤ d) (hC : CT h b L ik) (hP : Px h b L (true, s)) (h28 : ¬ s.1 6 = nI 28) (h6 : s.1 6 = nI 8) (hX : TxH h ik L s x c) (hQ : ∀ h' rr, Agm (tyX ik) h h' → Px h' b L rr → (rr = stB b L s x ∨ rr = lexP (stB b L s x)) → (rr.1 = true → ∃ c', TxH h' ik L (stS b L s x).2.1 (stS b L s x).2.2 c') → Q none h') : CL d 191 [.ref 174] h Q := by
  have hLe := hC.2.2.1
  have hfw := ss1_fw (b := b) hLe hX.2.2.2.2.2
  have ht := too_8 (x := x) h6
  by_cases cf : 16 ≤ cM x.1
  · have ht := ht.trans (decide_eq_true cf)
    have e := stS_too (b := b) (L := L) ht
    refine Mo_meeting (K := x.1) (ik := ik) (s := s) (s1 := ss1 b L s) (by omega) hC.1 hC.2.1 hLe hX.1 hP h28 (fun h' => ss1_P) (fun _ h' a p => ?_) (fun y => absurd cf y)
    exact hQ h' _ (Agm_sub (fun b j z => st_ty z) a) (by rw [e.1]; exact fl_frt p) (Or.inl rfl) (fun z => by rw [e.1] at z; cases z)
  have ht := ht.trans (decide_eq_false cf)
  have e := stS_8 (b := b) (L := L) h6 ht
  have eB : stB b L s x = ((meetS b L x.1 (ss1 b L s)).1, (meetS b L x.1 (ss1 b L s)).2.1) := by
    unfold stB
    rw [e]
    rfl
  rw [eB, e] at hQ
  refine Mo_meeting (K := x.1) (ik := ik) (s := s) (s1 := ss1 b L s) (by omega) hC.1 hC.2.1 hLe hX.1 hP h28 (fun h' => ss1_P) (fun y => absurd y cf) (fun _ h' a p q => ?_)
  exact hQ h' _ (Agm_sub (fun b j z => st_ty z) a) p (Or.inl rfl) (fun z => ⟨c, Tx_st hX a (q z) (kb_meet hX.2.1) (fw_meet hLe hfw)⟩)
theorem Mo_st_10 (hd : 9 ≤ d) (hC : CT h b L ik) (hP : Px h b L (true, s)) (h28 : ¬ s.1 6 = nI 28) (h6 : s.1 6 = nI 10) (hX : TxH h ik L s x c) (hQ : ∀ h' rr, Agm (tyX ik) h h' → Px h' b L rr → (rr = stB b L s x ∨ rr = lexP (stB b L s x)) → (rr.1 = true → ∃ c', TxH h' ik L (stS b L s x).2.1 (stS b L s x).2.2 c') → Q none h') : CL d 192 [.ref 174] h Q := by
  have hLe := hC.2.2.1
  have hfw := ss1_fw (b := b) hLe hX.2.2.2.2.2
  have ht := too_10 (x := x) h6
  have e := stS_10 (b := b) (L := L) h6 ht
  have eB : stB b L s x = ((licS b L x.1 (ss1 b L s)).1, (licS b L x.1 (ss1 b L s)).2.1) := by
    unfold stB
    rw [e]
    rfl
  rw [eB, e] at hQ
  refine Mo_licensing (K := x.1) (ik := ik) (s := s) (s1 := ss1 b L s) (by omega) hC.1 hC.2.1 hLe hX.1 hP h28 (fun h' => ss1_P) ss1_11 (fun h' a p q => ?_)
  exact hQ h' _ (Agm_sub (fun b j z => st_ty z) a) p (Or.inl rfl) (fun z => ⟨c, Tx_st hX a (q z) (kb_lic hX.2.1) (fw_lic hLe hfw)⟩)
theorem Mo_st_14 (hd : 9 ≤ d) (hC : CT h b L ik) (hP : Px h b L (true, s)) (h28 : ¬ s.1 6 = nI 28) (h6 : s.1 6 = nI 14) (hX : TxH h ik L s x c) (hQ : ∀ h' rr, Agm (tyX ik) h h' → Px h' b L rr → (rr = stB b L s x ∨ rr = lexP (stB b L s x)) → (rr.1 = true → ∃ c', TxH h' ik L (stS b L s x).2.1 (stS b L s x).2.2 c') → Q none h') : CL d 195 [.ref 174] h Q := by
  have hLe := hC.2.2.1
  have hnum : ∀ v, (ss1 b L s).1 7 = v → (ss1 b L s).1 6 = nI 27 → ∃ k, k < 10000 ∧ v = nI k := fun v e7 e6 => num_val e7 e6
  have hfw := ss1_fw (b := b) hLe hX.2.2.2.2.2
  have ht := too_14 (x := x) h6
  by_cases cf : 0 < x.1 0 16
  · have ht := ht.trans (decide_eq_true cf)
    have e := stS_too (b := b) (L := L) ht
    refine Mo_stocking (K := x.1) (ik := ik) (s := s) (s1 := ss1 b L s) (by omega) hC.1 hC.2.1 hLe hX.1 hX.2.1 hP h28 (fun h' => ss1_P) (fun _ h' a p => ?_) (fun y => absurd cf y)
    exact hQ h' _ (Agm_sub (fun b j z => st_ty z) a) (by rw [e.1]; exact fl_frt p) (Or.inl rfl) (fun z => by rw [e.1] at z; cases z)
  have ht := ht.trans (decide_eq_false cf)
  have e := stS_14 (b := b) (L := L) h6 ht
  have eB : stB b L s x = ((stoS b L x.1 (ss1 b L s)).1, (stoS b L x.1 (ss1 b L s)).2.1) := by
    unfold stB
    rw [e]
    rfl
  rw [eB, e] at hQ
  refine Mo_stocking (K := x.1) (ik := ik) (s := s) (s1 := ss1 b L s) (by omega) hC.1 hC.2.1 hLe hX.1 hX.2.1 hP h28 (fun h' => ss1_P) (fun y => absurd y cf) (fun _ h' a p q => ?_)
  refine hQ h' _ (Agm_sub (fun b j z => st_ty z) a) p (Or.inl rfl) (fun z => ⟨c, Tx_st hX a (q z) (kb_sto hX.2.1 cf hnum) (fw_sto hLe hfw)⟩)
theorem Mo_st_12 (hd : 12 ≤ d) (hC : CT h b L ik) (hP : Px h b L (true, s)) (h28 : ¬ s.1 6 = nI 28) (h6 : s.1 6 = nI 12) (hX : TxH h ik L s x c) (hQ : ∀ h' rr, Agm (tyX ik) h h' → Px h' b L rr → (rr = stB b L s x ∨ rr = lexP (stB b L s x)) → (rr.1 = true → ∃ c', TxH h' ik L (stS b L s x).2.1 (stS b L s x).2.2 c') → Q none h') : CL d 193 [.ref 174] h Q := by
  have hLe := hC.2.2.1
  have ht := too_12 (x := x) h6
  have c16 : c ≤ 1600 := by
    obtain ⟨st, a, -, -, -, q1, q2, q3⟩ := hX.2.2.2.2.2
    omega
  have cd := ss1_cd (b := b) hLe hP h28
  refine Mo_pricing (full := decide (0 < x.2.1.1)) (s1 := ss1 b L s) (c0 := c) (by omega) hC hP h28 hX.2.2.2.2.1 hX.2.2.2.2.2 ⟨fun y => ?_, fun y => ?_⟩ (fun h' => ss1_P) (ss1_j 8 (by omega)) cd zer_12 (fun y h' a p => ?_) (fun y h' a p q => ?_)
  · have y := of_decide_eq_true y
    rcases hX.2.2.1 with ⟨z, -⟩ | ⟨-, fr, lr, z1, -, z3, -⟩
    · omega
    · exact ⟨fr, by omega, z1⟩
  · have y := of_decide_eq_false y
    rcases hX.2.2.1 with ⟨-, z⟩ | ⟨z, -⟩
    · exact z
    · exact absurd z y
  · have e := stS_too (b := b) (L := L) (ht.trans y)
    exact hQ h' _ (Agm_sub (fun b j z => px_ty z) a) (by rw [e.1]; exact fl_frt p) (Or.inl rfl) (fun z => by rw [e.1] at z; cases z)
  · have e := stS_12 (b := b) (L := L) h6 (ht.trans y)
    have eB : stB b L s x = smN b L 8 (ss1 b L s) := by
      unfold stB
      rw [e]
      rfl
    rw [eB, e] at hQ
    refine hQ h' _ (Agm_sub (fun b j z => pr_ty (by omega) z) a) p (Or.inr rfl) (fun z => ?_)
    obtain ⟨r1, lc, lr, r2, r3, r4, r5, ⟨st, r6, r7, r8⟩, r9, r10⟩ := q z
    obtain ⟨x1, x2, x3, x4, x5, x6⟩ := hX
    have ri := cd_ri hLe r2
    have fw : Fw L (c + lr.length) (smN b L 8 (ss1 b L s)).2 := by
      obtain ⟨-, st', a', g8, g4, q1, q2, q3, -⟩ := r2.1.2
      have : st = st' := (nI_eq (by omega) (by omega)).mp (r6.symm.trans g8)
      exact ⟨st', a', r2.1.2.1, g8, g4, by omega, q2, q3⟩
    have nw := Cq_new (a := 192) r2 hLe (by omega) r3 (by omega) r9 r10 r4
    have ex : (prcS b L (ss1 b L s) x).2.2 = (x.1, (((smN b L 8 (ss1 b L s)).2.1 14).toNatClampNeg, (smN b L 8 (ss1 b L s)).2.2), x.2.2) := by
      unfold prcS
      dsimp only
      rw [if_pos r1]
    refine ⟨c + lr.length, ?_⟩
    show TxH h' ik L (smN b L 8 (ss1 b L s)).2 (prcS b L (ss1 b L s) x).2.2 (c + lr.length)
    rw [ex]
    exact ⟨Kx_pr (by omega) a x1, x2, nw, Cq_agm (fun b j z => by unfold prX rdX pxX at z; omega) (by omega) a x4, r5, fw⟩
theorem Mo_st_13 (hd : 12 ≤ d) (hC : CT h b L ik) (hP : Px h b L (true, s)) (h28 : ¬ s.1 6 = nI 28) (h6 : s.1 6 = nI 13) (hX : TxH h ik L s x c) (hQ : ∀ h' rr, Agm (tyX ik) h h' → Px h' b L rr → (rr = stB b L s x ∨ rr = lexP (stB b L s x)) → (rr.1 = true → ∃ c', TxH h' ik L (stS b L s x).2.1 (stS b L s x).2.2 c') → Q none h') : CL d 194 [.ref 174] h Q := by
  have hLe := hC.2.2.1
  have ht := too_13 (x := x) h6
  have c16 : c ≤ 1600 := by
    obtain ⟨st, a, -, -, -, q1, q2, q3⟩ := hX.2.2.2.2.2
    omega
  have cd := ss1_cd (b := b) hLe hP h28
  refine Mo_telling (full := decide (0 < x.2.2.1)) (s1 := ss1 b L s) (c0 := c) (by omega) hC hP h28 hX.2.2.2.2.1 hX.2.2.2.2.2 ⟨fun y => ?_, fun y => ?_⟩ (fun h' => ss1_P) (ss1_j 8 (by omega)) cd zer_12 (fun y h' a p => ?_) (fun y h' a p q => ?_)
  · have y := of_decide_eq_true y
    rcases hX.2.2.2.1 with ⟨z, -⟩ | ⟨-, fr, lr, z1, -, z3, -⟩
    · omega
    · exact ⟨fr, by omega, z1⟩
  · have y := of_decide_eq_false y
    rcases hX.2.2.2.1 with ⟨-, z⟩ | ⟨z, -⟩
    · exact z
    · exact absurd z y
  · have e := stS_too (b := b) (L := L) (ht.trans y)
    exact hQ h' _ (Agm_sub (fun b j z => px_ty z) a) (by rw [e.1]; exact fl_frt p) (Or.inl rfl) (fun z => by rw [e.1] at z; cases z)
  · have e := stS_13 (b := b) (L := L) h6 (ht.trans y)
    have eB : stB b L s x = tsN b L 8 (ss1 b L s) := by
      unfold stB
      rw [e]
      rfl
    rw [eB, e] at hQ
    refine hQ h' _ (Agm_sub (fun b j z => pr_ty (by omega) z) a) p (Or.inr rfl) (fun z => ?_)
    obtain ⟨r1, lc, lr, r2, r3, r4, r5, ⟨st, r6, r7, r8⟩, r9, r10⟩ := q z
    obtain ⟨x1, x2, x3, x4, x5, x6⟩ := hX
    have ri := cd_ri hLe r2
    have fw : Fw L (c + lr.length) (tsN b L 8 (ss1 b L s)).2 := by
      obtain ⟨-, st', a', g8, g4, q1, q2, q3, -⟩ := r2.1.2
      have : st = st' := (nI_eq (by omega) (by omega)).mp (r6.symm.trans g8)
      exact ⟨st', a', r2.1.2.1, g8, g4, by omega, q2, q3⟩
    have nw := Cq_new (a := 194) r2 hLe (by omega) r3 (by omega) r9 r10 r4
    have ex : (telS b L (ss1 b L s) x).2.2 = (x.1, x.2.1, (((tsN b L 8 (ss1 b L s)).2.1 14).toNatClampNeg, (tsN b L 8 (ss1 b L s)).2.2)) := by
      unfold telS
      dsimp only
      rw [if_pos r1]
    refine ⟨c + lr.length, ?_⟩
    show TxH h' ik L (tsN b L 8 (ss1 b L s)).2 (telS b L (ss1 b L s) x).2.2 (c + lr.length)
    rw [ex]
    exact ⟨Kx_pr (by omega) a x1, x2, Cq_agm (fun b j z => by unfold prX rdX pxX at z; omega) (by omega) a x3, nw, r5, fw⟩
end UPR
