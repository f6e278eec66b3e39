/-! the reference: capital -/
def cqX (ik b j : Nat) : Prop := cpX ik b j ∨ (b = 174 ∧ (j = 10 ∨ j = 11)) ∨ (b = 206 ∧ j = 1)
def crX (ik b j : Nat) : Prop := cqX ik b j ∨ (b = 174 ∧ j = 13)
def csX (ik b j : Nat) : Prop := cpX ik b j ∨ (b = 174 ∧ (j = 10 ∨ j = 11 ∨ j = 13))
section CPB
variable {d bk m L ik : Nat} {h h' : AH} {b tw : Nat → Int32} {C : PC} {Q : Option Value → AH → Prop} {A : AS} {K : KK}
theorem cq_w {w i b : Nat} (hb : 176 ≤ b ∧ b ≤ 199) (hw : bwM b = w) (hi : i < w) (hik : ik = 1 - bk) (hbk : bk ≤ 1) : ¬ cqX ik b (w * bk + i) := by
  intro z
  rcases z with ((z | z | z | ⟨-, -, h3, h4⟩) | z) | z | z
  · unfold pxX at z
    omega
  · omega
  · omega
  · rw [hw] at h3 h4
    rcases (show bk = 0 ∨ bk = 1 by omega) with rfl | rfl
    · rw [hik, Nat.sub_zero, Nat.mul_one, Nat.mul_zero, Nat.zero_add] at h3
      omega
    · rw [hik, Nat.sub_self, Nat.mul_zero, Nat.zero_add, Nat.mul_one] at h4
      omega
  · omega
  · omega
  · omega
theorem cq_1 {b : Nat} (hb : 176 ≤ b ∧ b ≤ 199) (hw : bwM b = 1) (hik : ik = 1 - bk) (hbk : bk ≤ 1) : ¬ cqX ik b bk := by
  have := cq_w (i := 0) hb hw (by omega) hik hbk
  rw [Nat.one_mul, Nat.add_zero] at this
  exact this
theorem cr_no {b j : Nat} (z : crX ik b j) : (b = 174 ∧ (j ≤ 13 ∨ (38 ≤ j ∧ j ≤ 49))) ∨ (176 ≤ b ∧ b ≤ 205) ∨ (b = 206 ∧ j = 1) := by
  rcases z with (((z | z | z | z) | z) | z | z) | z
  · unfold pxX at z
    omega
  · omega
  · omega
  · omega
  · omega
  · omega
  · omega
  · omega
theorem cs_no {b j : Nat} (z : csX ik b j) : (b = 174 ∧ (j ≤ 13 ∨ (38 ≤ j ∧ j ≤ 49))) ∨ (176 ≤ b ∧ b ≤ 205) := by
  rcases z with ((z | z | z | z) | z) | z
  · unfold pxX at z
    omega
  · omega
  · omega
  · omega
  · omega
  · omega
theorem Mc_cq (hik : ik = 1 - bk) (a : Agm (cqX ik) h h') (hC : McAt h bk C) : McAt h' bk C := by
  obtain ⟨m0, m1, ⟨m2, m3⟩, ⟨m4, m5⟩, ⟨m6, m7⟩, ⟨m8, m9⟩, ma, mb, mc, md, me, mf, mg, mh, mi, mj, mk, ml, mn⟩ := hC
  have one : ∀ b, 176 ≤ b → b ≤ 199 → bwM b = 1 → hI h' b bk = hI h b bk := fun b h1 h2 h3 => Agm_I a (cq_1 ⟨h1, h2⟩ h3 hik m1)
  have row : ∀ b w, 176 ≤ b → b ≤ 199 → bwM b = w → ∀ i, i < w → hI h' b (w * bk + i) = hI h b (w * bk + i) := fun b w h1 h2 h3 i hi => Agm_I a (cq_w ⟨h1, h2⟩ h3 hi hik m1)
  have e13 : hI h' 174 13 = hI h 174 13 := Agm_I a (fun z => by
    rcases z with ((z | z | z | z) | z) | z | z
    · unfold pxX at z
      omega
    · omega
    · omega
    · omega
    · omega
    · omega
    · omega)
  exact ⟨e13.trans m0, m1, ⟨(one 176 (by omega) (by omega) rfl).trans m2, m3⟩, ⟨(one 179 (by omega) (by omega) rfl).trans m4, m5⟩, ⟨(one 182 (by omega) (by omega) rfl).trans m6, m7⟩, ⟨(one 185 (by omega) (by omega) rfl).trans m8, m9⟩, (one 191 (by omega) (by omega) rfl).trans ma, fun i hi => (row 177 12 (by omega) (by omega) rfl i (by omega)).trans (mb i hi), fun i hi => (row 178 12 (by omega) (by omega) rfl i (by omega)).trans (mc i hi), fun i hi => (row 180 16 (by omega) (by omega) rfl i (by omega)).trans (md i hi), fun i hi => (row 181 16 (by omega) (by omega) rfl i (by omega)).trans (me i hi), mf, fun i hi => (row 183 8 (by omega) (by omega) rfl i (by omega)).trans (mg i hi), fun i hi => (row 184 8 (by omega) (by omega) rfl i (by omega)).trans (mh i hi), fun i hi => (row 186 16 (by omega) (by omega) rfl i (by omega)).trans (mi i hi), fun i hi => (row 187 16 (by omega) (by omega) rfl i (by omega)).trans (mj i hi), fun i hi => (row 188 16 (by omega) (by omega) rfl i (by omega)).trans (mk i hi), ml, mn⟩
theorem Cm_cq {a0 a1 on : Nat} {V : (Nat → Int32) → Int32} {t : Bool} (hik : ik = 1 - bk) (hbk : bk ≤ 1) (a : Agm (cqX ik) h h') (h0 : 176 ≤ a0 ∧ a0 < 200) (w0 : bwM a0 = 1) (h1 : 176 ≤ a1 ∧ a1 < 200) (w1 : bwM a1 = 1) (H : CmAt h bk a0 a1 on V t) : CmAt h' bk a0 a1 on V t := by
  rcases H with ⟨p1, p2⟩ | ⟨p1, fr, n, so, va, p2, p3, p4, p5, p6, p7⟩
  · exact Or.inl ⟨p1, (Agm_I a (cq_1 ⟨h0.1, by omega⟩ w0 hik hbk)).trans p2⟩
  · refine Or.inr ⟨p1, fr, n, so, va, (Agm_I a (cq_1 ⟨h0.1, by omega⟩ w0 hik hbk)).trans p2, (Agm_I a (cq_1 ⟨h1.1, by omega⟩ w1 hik hbk)).trans p3, p4, fun k hk => ?_, fun k hk => ?_, p7⟩
    · have := cq_w (b := 196) (w := 1600) (i := fr + k) (by omega) rfl (by omega) hik hbk
      rw [← Nat.add_assoc] at this
      exact (Agm_I a this).trans (p5 k hk)
    · have := cq_w (b := 197) (w := 1600) (i := fr + k) (by omega) rfl (by omega) hik hbk
      rw [← Nat.add_assoc] at this
      exact (Agm_I a this).trans (p6 k hk)
theorem Nm_cq (hik : ik = 1 - bk) (hbk : bk ≤ 1) (hn : A.C.nf ≤ 12) (hp : A.C.np ≤ 8) (a : Agm (cqX ik) h h') (H : NmM h bk A) : NmM h' bk A := ⟨fun i hi => by
  rw [Agm_L a (cq_w (b := 198) (w := 12) (by omega) rfl (by omega) hik hbk)]
  exact H.1 i hi, fun i hi => by
  rw [Agm_L a (cq_w (b := 199) (w := 8) (by omega) rfl (by omega) hik hbk)]
  exact H.2 i hi⟩
/-- the bank that was read, as the Capital that is told -/
theorem Mc_new {s : RS} {x : XK} {c : Nat} (hX : TxH h ik L s x c) (hW : WK x.1) (e13 : hI h 174 13 = nI ik) (hik : ik ≤ 1) : McAt h ik (toPC x) := by
  obtain ⟨⟨⟨n1, n2, ⟨n3, n4⟩, ⟨n5, n6⟩, n7, n8⟩, ⟨v1, v2⟩, ⟨m1, m2⟩, ⟨l1, l2⟩, ⟨f1, f2⟩, ⟨r1, r2⟩, ⟨p1, p2⟩, ⟨q1, q2, q3⟩, tl⟩, -⟩ := hX
  obtain ⟨⟨-, w1, w2, w3⟩, -⟩ := hW
  exact ⟨e13, hik, ⟨n3, n4⟩, ⟨v1, v2⟩, ⟨n5, n6⟩, ⟨m1, m2⟩, l2, f1, f2, r1, r2, w1, p1, p2, q1, q2, q3, w2, w3⟩
theorem Mo_capital {f g : Nat → Int32} (hd : 18 ≤ d) (hA : MdlAt h bk m A) (hTy : TyI A) (hb : ∀ k, k < 1600 → tw k = A.tp k) (hm : m + 9000 < 2000000000) (hQF : (txR tw A.tn K (f, g)).1 = -1 → ∀ h', MdlAt h' bk m (capF A tw (txR tw A.tn K (f, g))) → Agm mdX h h' → Q (some (.int (-1))) h') (hQT : ∀ n, n ≤ 80 → (txR tw A.tn K (f, g)).1 = nI n → ∀ h', MdlAt h' (1 - bk) (m + 9000) (capG A tw (txR tw A.tn K (f, g))) → Agm mdX h h' → Q (some (.int (nI n))) h') : CL d 198 [.ref 174] h Q := by
  have hA' := hA
  obtain ⟨t, b, x0, f0, zM, zC, zS, zT, zN, ⟨zB, zb⟩, zL, zE, zA, ⟨zf, zf20, zu, zu20, zP⟩, zs, zr, ⟨ztn, ztn6, ztp⟩, ⟨zfk, zfp⟩, ⟨zo, zo7, zob⟩⟩ := hA
  have bk1 : bk ≤ 1 := zC.2.1
  have e13 : hI h 174 13 = nI bk := zC.1
  have hTb : TpB h tw A.tn := Tp_b hTy hb ztn6 ztp
  have zM' := zM
  refine Mo_capRead (b := tw) (K := K) (f := f) (g := g) (ik := 1 - bk) (by omega) zM' e13 bk1 rfl ztn ztn6 hTb (fun hR h1 n hn a1 e1 p1 => ?_) (fun n hn hR h1 c a1 e1 p1 x1 => ?_)
  · have hM1 := Mo_agm a1 zM'
    have hM1' := hM1
    rcases p1 with ⟨z, -⟩ | ⟨-, e8, e9, j, hj, hj7, ej⟩
    · cases z
    have e8 : hI h1 174 8 = nI j := e8.trans ej
    have aq : Agm (cqX (1 - bk)) h (sI (sI h1 174 10 (nI j)) 174 11 ((txR tw A.tn K (f, g)).2.1.1 1)) := Agm_trans (Agm_sub (fun b j z => Or.inl z) a1) (Agm_trans (Agm_sI (Or.inr (Or.inl ⟨rfl, Or.inl rfl⟩))) (Agm_sI (Or.inr (Or.inl ⟨rfl, Or.inr rfl⟩))))
    have hM2 := Mo_agm aq zM'
    have hM2' := hM2
    have r1 : hI (sI (sI h1 174 10 (nI j)) 174 11 ((txR tw A.tn K (f, g)).2.1.1 1)) 206 1 = A.ref 1 := (Agm_I a1 (fun z => by have := cr_no (Or.inl (Or.inl z)); unfold cpX tyX pxX at z; omega)).trans (zr 1 (by omega))
    obtain ⟨xN, ⟨ra0, ra1, ra2, ra3, ra4, ra5, ra6, ra7, ra8, ra9, ra10, ra11, ra12, ra13, ra14, ra15, ra16, ra17, ra18, ra19, ra20, ra21, ra22, ra23, ra24, ra25, ra26, ra27, ra28, ra29, ra30, ra31, ra32, ra33, ra34, ra35, ra36, ra37, ra38, ra39, ra40, ra41, ra42, ra43, ra44⟩, ⟨la0, la1, la2, la3, la4, la5, la6, la7, la8, la9, la10, la11, la12, la13, la14, la15, la16, la17, la18, la19, la20, la21, la22, la23, la24, la25, la26, la27, la28, la29, la30, la31, la32, la33, la34, la35, la36, la37, la38, la39, la40, la41, la42, la43, la44⟩⟩ := hM1
    simp (disch := omega) only [g198_188, g198_189, g198_190, g198_193, g198_196, g198_197, g198_198, g198_201, g198_204, g198_205, g198_208, g198_211, g198_212, g198_213, GN_nx, GN_rtn, GN_ck, GN_br, GN_cll, ldI_0, ldJ_0, ldR_0, ldI_s, ldJ_s, ldR_s, pI_c, pII_c, pJ_c, pJJ_c, pJI_c, pR_c, pRI_c, pRJ_c, pRR_c, pRII_c, pRIJ_c, pRIR_c, pCopy_c, pIe_c, pJe_c, pRe_c, pE_c, p1_i, p1_r, p11_ir, pA_0, pA_1, pA_2, pA_3, pA_4, pA_5, st1_0, st1_i, st1_r, st1_n, st1_u, st1_j, st1_s, st2_0, st2_i, st2_r, st2_n, st2_u, st2_j, st2_s, List.length_cons, List.length_nil, Nat.reduceAdd, Nat.reduceLT, Nat.reduceLeDiff, Nat.reduceEqDiff, Nat.zero_add, true_and, and_true, true_implies, not_true_eq_false, not_false_eq_true, false_implies, Option.toList_some, Option.toList_none, arr, inb, List.cons_append, List.nil_append, rv_some, rv_none, nlt_t, nlt_f, nle_t, nle_f, neq_f, ix_cl, ix_nn, ix_lt, cmp_le, cmp_lt, cmp_eq, cmp_lt0, cmp_ge0, cmp_eq0, cmp_gt0, cmp_le0, nI_mul, nI_add, nm1_ne, nm1_ne', one01, zero01, b2i_0, b2i_1, b2i_01, cmp_eq1, true_or, or_true, false_or, or_false, neq_t, hN_sI, hLn_sI, hR_sI, hL_sI, hI_sI, hN_sA, hLn_sA, hR_sA, hL_sA, hI_sA, hN_wI, hLn_wI, hR_wI, hL_wI, hI_wI, false_and, and_false, if_true, if_false, hN_fA, hLn_fA, hR_fA, hN_wrS, hLn_wrS, hR_wrS, hL_wrS, wS_day, wS_keeps, wS_brs, wS_first, wS_knows, wS_purse, wS_till, wS_valid, wS_kept, sS_day, sS_keeps, sS_brs, sS_first, sS_knows, sS_purse, sS_till, sS_valid, sS_kept, wrS_wrS, day_mk, knows_mk, purse_mk, till_mk, valid_mk, kept_mk, keeps_mk, brs_mk, first_mk, hN_wrU, hLn_wrU, hR_wrU, hL_wrU, wU_19, wU_20, sU_19, sU_20, upd_same, upd_upd, hN_wrR, hLn_wrR, hR_wrR, hL_wrR, bI_0, bI_01', bI_t1, eq_self, Bool.true_eq_false, Bool.false_eq_true, hN_wrC, hLn_wrC, hR_wrC, hL_wrC, lay_174, lay_175, lay_176, lay_177, lay_178, lay_179, lay_180, lay_181, lay_182, lay_183, lay_184, lay_185, lay_186, lay_187, lay_188, lay_189, lay_190, lay_191, lay_192, lay_193, lay_194, lay_195, lay_196, lay_197, lay_198, lay_199, lay_200, lay_201, lay_202, lay_203, lay_204, lay_205, lay_206, lay_207, lay_208, lay_209, lay_210, lay_211, lay_212, lay_213, lay_214, lay_215, lay_216, lay_217, lay_218, lay_219, hN_wrO, hLn_wrO, hR_wrO, hN_wrL, hLn_wrL, hR_wrL, hN_sL', hI_sL', hR_sL', hLn_sL', hN_wrF, hLn_wrF, hR_wrF,  ra0, ra1, ra2, ra3, ra4, ra5, ra6, ra7, ra8, ra9, ra10, ra11, ra12, ra13, ra14, ra15, ra16, ra17, ra18, ra19, ra20, ra21, ra22, ra23, ra24, ra25, ra26, ra27, ra28, ra29, ra30, ra31, ra32, ra33, ra34, ra35, ra36, ra37, ra38, ra39, ra40, ra41, ra42, ra43, ra44, la0, la1, la2, la3, la4, la5, la6, la7, la8, la9, la10, la11, la12, la13, la14, la15, la16, la17, la18, la19, la20, la21, la22, la23, la24, la25, la26, la27, la28, la29, la30, la31, la32, la33, la34, la35, la36, la37, la38, la39, la40, la41, la42, la43, la44, e8, e9]
    refine Mo_refuses (k := 1) (by omega) hM2' (by omega) ?_
    have aF : Agm (cqX (1 - bk)) h (sI (sI (sI h1 174 10 (nI j)) 174 11 ((txR tw A.tn K (f, g)).2.1.1 1)) 206 1 (hI (sI (sI h1 174 10 (nI j)) 174 11 ((txR tw A.tn K (f, g)).2.1.1 1)) 206 1 + nI 1)) := Agm_trans aq (Agm_sI (Or.inr (Or.inr ⟨rfl, rfl⟩)))
    have fin := hQF hR (sI (sI (sI h1 174 10 (nI j)) 174 11 ((txR tw A.tn K (f, g)).2.1.1 1)) 206 1 (hI (sI (sI h1 174 10 (nI j)) 174 11 ((txR tw A.tn K (f, g)).2.1.1 1)) 206 1 + nI 1)) ?_ (Agm_sub (fun b j z => by have := cr_no (Or.inl z); unfold mdX; omega) aF)
    · simp (disch := omega) only [g198_216, GN_nx, GN_rtn, GN_ck, GN_br, GN_cll, ldI_0, ldJ_0, ldR_0, ldI_s, ldJ_s, ldR_s, pI_c, pII_c, pJ_c, pJJ_c, pJI_c, pR_c, pRI_c, pRJ_c, pRR_c, pRII_c, pRIJ_c, pRIR_c, pCopy_c, pIe_c, pJe_c, pRe_c, pE_c, p1_i, p1_r, p11_ir, pA_0, pA_1, pA_2, pA_3, pA_4, pA_5, st1_0, st1_i, st1_r, st1_n, st1_u, st1_j, st1_s, st2_0, st2_i, st2_r, st2_n, st2_u, st2_j, st2_s, List.length_cons, List.length_nil, Nat.reduceAdd, Nat.reduceLT, Nat.reduceLeDiff, Nat.reduceEqDiff, Nat.zero_add, true_and, and_true, true_implies, not_true_eq_false, not_false_eq_true, false_implies, Option.toList_some, Option.toList_none, arr, inb, List.cons_append, List.nil_append, rv_some, rv_none, nlt_t, nlt_f, nle_t, nle_f, neq_f, ix_cl, ix_nn, ix_lt, cmp_le, cmp_lt, cmp_eq, cmp_lt0, cmp_ge0, cmp_eq0, cmp_gt0, cmp_le0, nI_mul, nI_add, nm1_ne, nm1_ne', one01, zero01, b2i_0, b2i_1, b2i_01, cmp_eq1, true_or, or_true, false_or, or_false, neq_t, hN_sI, hLn_sI, hR_sI, hL_sI, hI_sI, hN_sA, hLn_sA, hR_sA, hL_sA, hI_sA, hN_wI, hLn_wI, hR_wI, hL_wI, hI_wI, false_and, and_false, if_true, if_false, hN_fA, hLn_fA, hR_fA, hN_wrS, hLn_wrS, hR_wrS, hL_wrS, wS_day, wS_keeps, wS_brs, wS_first, wS_knows, wS_purse, wS_till, wS_valid, wS_kept, sS_day, sS_keeps, sS_brs, sS_first, sS_knows, sS_purse, sS_till, sS_valid, sS_kept, wrS_wrS, day_mk, knows_mk, purse_mk, till_mk, valid_mk, kept_mk, keeps_mk, brs_mk, first_mk, hN_wrU, hLn_wrU, hR_wrU, hL_wrU, wU_19, wU_20, sU_19, sU_20, upd_same, upd_upd, hN_wrR, hLn_wrR, hR_wrR, hL_wrR, bI_0, bI_01', bI_t1, eq_self, Bool.true_eq_false, Bool.false_eq_true, hN_wrC, hLn_wrC, hR_wrC, hL_wrC, lay_174, lay_175, lay_176, lay_177, lay_178, lay_179, lay_180, lay_181, lay_182, lay_183, lay_184, lay_185, lay_186, lay_187, lay_188, lay_189, lay_190, lay_191, lay_192, lay_193, lay_194, lay_195, lay_196, lay_197, lay_198, lay_199, lay_200, lay_201, lay_202, lay_203, lay_204, lay_205, lay_206, lay_207, lay_208, lay_209, lay_210, lay_211, lay_212, lay_213, lay_214, lay_215, lay_216, lay_217, lay_218, lay_219, hN_wrO, hLn_wrO, hR_wrO, hN_wrL, hLn_wrL, hR_wrL, hN_sL', hI_sL', hR_sL', hLn_sL', hN_wrF, hLn_wrF, hR_wrF,  ra0, ra1, ra2, ra3, ra4, ra5, ra6, ra7, ra8, ra9, ra10, ra11, ra12, ra13, ra14, ra15, ra16, ra17, ra18, ra19, ra20, ra21, ra22, ra23, ra24, ra25, ra26, ra27, ra28, ra29, ra30, ra31, ra32, ra33, ra34, ra35, ra36, ra37, ra38, ra39, ra40, ra41, ra42, ra43, ra44, la0, la1, la2, la3, la4, la5, la6, la7, la8, la9, la10, la11, la12, la13, la14, la15, la16, la17, la18, la19, la20, la21, la22, la23, la24, la25, la26, la27, la28, la29, la30, la31, la32, la33, la34, la35, la36, la37, la38, la39, la40, la41, la42, la43, la44]
      exact fin
    · have no : ∀ b j, cqX (1 - bk) b j → (b = 174 ∧ (j ≤ 13 ∨ (38 ≤ j ∧ j ≤ 49))) ∨ (176 ≤ b ∧ b ≤ 205) ∨ (b = 206 ∧ j = 1) := fun b j z => cr_no (Or.inl z)
      generalize hH : sI (sI (sI h1 174 10 (nI j)) 174 11 ((txR tw A.tn K (f, g)).2.1.1 1)) 206 1 (hI (sI (sI h1 174 10 (nI j)) 174 11 ((txR tw A.tn K (f, g)).2.1.1 1)) 206 1 + nI 1) = H at *
      have lx : ∀ v b j, cqX (1 - bk) b j → ¬ lyX v b j := fun v b j z y => by
        have := no b j z
        unfold lyX at y
        omega
      have keep : ∀ j, 50 ≤ j → hI H 174 j = hI h 174 j := fun j hj => Agm_I aF (fun z => by have := no _ _ z; omega)
      refine ⟨t, b, x0, f0, Mo_agm aF zM', Mc_cq rfl aF zC, ⟨Cm_cq rfl bk1 aF (by omega) rfl (by omega) rfl zS.1, Cm_cq rfl bk1 aF (by omega) rfl (by omega) rfl zS.2⟩, trivial, Nm_cq (A := A) rfl bk1 zC.2.2.1.2 zC.2.2.2.2.1.2 aF zN, ⟨?_, zb⟩, Lay_agm (lx 0) aF zL, zE, fun v hv => ?_, ⟨(keep 60 (by omega)).trans zf, zf20, (keep 61 (by omega)).trans zu, zu20, fun k s hk => ?_⟩, (Agm_L aF (fun z => by have := no _ _ z; omega)).trans zs, fun k hk => ?_, ⟨?_, Nat.zero_le _, fun k hk => absurd hk (Nat.not_lt_zero _)⟩, ⟨?_, ?_⟩, ⟨(keep 78 (by omega)).trans zo, zo7, fun k hk => (Agm_I aF (fun z => by have := no _ _ z; omega)).trans (zob k hk)⟩⟩
      · obtain ⟨q1, q2, q3, q4, q5⟩ := zB
        exact ⟨(keep 69 (by omega)).trans q1, (keep 70 (by omega)).trans q2, (keep 71 (by omega)).trans q3, (keep 72 (by omega)).trans q4, (keep 73 (by omega)).trans q5⟩
      · obtain ⟨u, hu⟩ := zA v hv
        exact ⟨u, Lay_agm (lx v) aF hu⟩
      · obtain ⟨u, hu1, hu2⟩ := zP k s hk
        exact ⟨u, Lay_agm (lx _) aF hu1, hu2⟩
      · show hI H 206 k = upd A.ref 1 (A.ref 1 + nI 1) k
        rw [upd_a]
        by_cases c1 : k = 1
        · rw [if_pos c1, c1, ← hH, hI_sI, if_pos ⟨rfl, rfl⟩, r1]
        · rw [if_neg c1, Agm_I aF (fun z => by have := no _ _ z; omega)]
          exact zr k hk
      · rw [← hH]
        exact e1
      · rw [← hH]
        exact ej.symm
      · rw [← hH]
        rfl
  · have hM1 := Mo_agm a1 zM'
    have hM1' := hM1
    have e8 := Px_t p1
    have e9 := Px_9 p1
    have hWK := WK_txR (b := tw) (L := A.tn) (K := K) (f := f) (g := g)
    have hnn : ¬ (txR tw A.tn K (f, g)).1 = -1 := fun z => by
      rw [hR] at z
      have := nm1_ne (a := n) (by omega)
      rw [z] at this
      exact this.mp rfl
    obtain ⟨t0, t1⟩ := tx_ok hnn
    have k39 := x1.1.1.1
    have kik := x1.1.1.2.1
    have aq : Agm (csX (1 - bk)) h (sI (sI (sI h1 174 10 (nI 0)) 174 11 (-1)) 174 13 (nI (1 - bk))) := Agm_trans (Agm_sub (fun b j z => Or.inl z) a1) (Agm_trans (Agm_trans (Agm_sI (Or.inr ⟨rfl, Or.inl rfl⟩)) (Agm_sI (Or.inr ⟨rfl, Or.inr (Or.inl rfl)⟩))) (Agm_sI (Or.inr ⟨rfl, Or.inr (Or.inr rfl)⟩)))
    have a13 : Agm (fun b j => b = 174 ∧ (j = 10 ∨ j = 11 ∨ j = 13)) h1 (sI (sI (sI h1 174 10 (nI 0)) 174 11 (-1)) 174 13 (nI (1 - bk))) := Agm_trans (Agm_trans (Agm_sI (by omega)) (Agm_sI (by omega))) (Agm_sI (by omega))
    have no : ∀ b j, csX (1 - bk) b j → (b = 174 ∧ (j ≤ 13 ∨ (38 ≤ j ∧ j ≤ 49))) ∨ (176 ≤ b ∧ b ≤ 205) := fun b j z => cs_no z
    have x2 : TxH (sI (sI (sI h1 174 10 (nI 0)) 174 11 (-1)) 174 13 (nI (1 - bk))) (1 - bk) A.tn (txR tw A.tn K (f, g)).2.1 (txR tw A.tn K (f, g)).2.2 c := by
      obtain ⟨⟨⟨n1, n2, n3, n4, n5, n6⟩, y1⟩, y2, y3, y4, y5, y6⟩ := x1
      exact ⟨⟨⟨n1, n2, n3, n4, n5, n6⟩, Ka_agm (fun b j z => by omega) a13 y1⟩, y2, Cq_agm (fun b j z => by omega) (Nat.le_refl _) a13 y3, Cq_agm (fun b j z => by omega) (Nat.le_refl _) a13 y4, y5, y6⟩
    have f10 : hI (sI (sI (sI h1 174 10 (nI 0)) 174 11 (-1)) 174 13 (nI (1 - bk))) 174 10 = nI 0 := rfl
    have f11 : hI (sI (sI (sI h1 174 10 (nI 0)) 174 11 (-1)) 174 13 (nI (1 - bk))) 174 11 = -1 := rfl
    have f13 : hI (sI (sI (sI h1 174 10 (nI 0)) 174 11 (-1)) 174 13 (nI (1 - bk))) 174 13 = nI (1 - bk) := rfl
    have f1 : hI (sI (sI (sI h1 174 10 (nI 0)) 174 11 (-1)) 174 13 (nI (1 - bk))) 174 1 = nI 0 := e1
    obtain ⟨xN, ⟨ra0, ra1, ra2, ra3, ra4, ra5, ra6, ra7, ra8, ra9, ra10, ra11, ra12, ra13, ra14, ra15, ra16, ra17, ra18, ra19, ra20, ra21, ra22, ra23, ra24, ra25, ra26, ra27, ra28, ra29, ra30, ra31, ra32, ra33, ra34, ra35, ra36, ra37, ra38, ra39, ra40, ra41, ra42, ra43, ra44⟩, ⟨la0, la1, la2, la3, la4, la5, la6, la7, la8, la9, la10, la11, la12, la13, la14, la15, la16, la17, la18, la19, la20, la21, la22, la23, la24, la25, la26, la27, la28, la29, la30, la31, la32, la33, la34, la35, la36, la37, la38, la39, la40, la41, la42, la43, la44⟩⟩ := hM1
    simp (disch := omega) only [g198_188, g198_189, g198_190, g198_193, g198_196, g198_197, g198_198, g198_201, g198_204, g198_205, g198_208, g198_217, g198_218, g198_219, g198_222, g198_225, g198_226, GN_nx, GN_rtn, GN_ck, GN_br, GN_cll, ldI_0, ldJ_0, ldR_0, ldI_s, ldJ_s, ldR_s, pI_c, pII_c, pJ_c, pJJ_c, pJI_c, pR_c, pRI_c, pRJ_c, pRR_c, pRII_c, pRIJ_c, pRIR_c, pCopy_c, pIe_c, pJe_c, pRe_c, pE_c, p1_i, p1_r, p11_ir, pA_0, pA_1, pA_2, pA_3, pA_4, pA_5, st1_0, st1_i, st1_r, st1_n, st1_u, st1_j, st1_s, st2_0, st2_i, st2_r, st2_n, st2_u, st2_j, st2_s, List.length_cons, List.length_nil, Nat.reduceAdd, Nat.reduceLT, Nat.reduceLeDiff, Nat.reduceEqDiff, Nat.zero_add, true_and, and_true, true_implies, not_true_eq_false, not_false_eq_true, false_implies, Option.toList_some, Option.toList_none, arr, inb, List.cons_append, List.nil_append, rv_some, rv_none, nlt_t, nlt_f, nle_t, nle_f, neq_f, ix_cl, ix_nn, ix_lt, cmp_le, cmp_lt, cmp_eq, cmp_lt0, cmp_ge0, cmp_eq0, cmp_gt0, cmp_le0, nI_mul, nI_add, nm1_ne, nm1_ne', one01, zero01, b2i_0, b2i_1, b2i_01, cmp_eq1, true_or, or_true, false_or, or_false, neq_t, hN_sI, hLn_sI, hR_sI, hL_sI, hI_sI, hN_sA, hLn_sA, hR_sA, hL_sA, hI_sA, hN_wI, hLn_wI, hR_wI, hL_wI, hI_wI, false_and, and_false, if_true, if_false, hN_fA, hLn_fA, hR_fA, hN_wrS, hLn_wrS, hR_wrS, hL_wrS, wS_day, wS_keeps, wS_brs, wS_first, wS_knows, wS_purse, wS_till, wS_valid, wS_kept, sS_day, sS_keeps, sS_brs, sS_first, sS_knows, sS_purse, sS_till, sS_valid, sS_kept, wrS_wrS, day_mk, knows_mk, purse_mk, till_mk, valid_mk, kept_mk, keeps_mk, brs_mk, first_mk, hN_wrU, hLn_wrU, hR_wrU, hL_wrU, wU_19, wU_20, sU_19, sU_20, upd_same, upd_upd, hN_wrR, hLn_wrR, hR_wrR, hL_wrR, bI_0, bI_01', bI_t1, eq_self, Bool.true_eq_false, Bool.false_eq_true, hN_wrC, hLn_wrC, hR_wrC, hL_wrC, lay_174, lay_175, lay_176, lay_177, lay_178, lay_179, lay_180, lay_181, lay_182, lay_183, lay_184, lay_185, lay_186, lay_187, lay_188, lay_189, lay_190, lay_191, lay_192, lay_193, lay_194, lay_195, lay_196, lay_197, lay_198, lay_199, lay_200, lay_201, lay_202, lay_203, lay_204, lay_205, lay_206, lay_207, lay_208, lay_209, lay_210, lay_211, lay_212, lay_213, lay_214, lay_215, lay_216, lay_217, lay_218, lay_219, hN_wrO, hLn_wrO, hR_wrO, hN_wrL, hLn_wrL, hR_wrL, hN_sL', hI_sL', hR_sL', hLn_sL', hN_wrF, hLn_wrF, hR_wrF,  ra0, ra1, ra2, ra3, ra4, ra5, ra6, ra7, ra8, ra9, ra10, ra11, ra12, ra13, ra14, ra15, ra16, ra17, ra18, ra19, ra20, ra21, ra22, ra23, ra24, ra25, ra26, ra27, ra28, ra29, ra30, ra31, ra32, ra33, ra34, ra35, ra36, ra37, ra38, ra39, ra40, ra41, ra42, ra43, ra44, la0, la1, la2, la3, la4, la5, la6, la7, la8, la9, la10, la11, la12, la13, la14, la15, la16, la17, la18, la19, la20, la21, la22, la23, la24, la25, la26, la27, la28, la29, la30, la31, la32, la33, la34, la35, la36, la37, la38, la39, la40, la41, la42, la43, la44, e8, e9, k39]
    generalize sI (sI (sI h1 174 10 (nI 0)) 174 11 (-1)) 174 13 (nI (1 - bk)) = H at *
    have hM2 := Mo_agm aq zM'
    have hC2 := Mc_new x2 hWK f13 (by omega)
    have hWC := WC_of hWK
    have c16 : c ≤ 1600 := by
      obtain ⟨st, a, -, -, -, q1, q2, q3⟩ := x2.2.2.2.2.2
      omega
    have hS1 : CmAt H (1 - bk) 192 193 (toPC (txR tw A.tn K (f, g)).2.2).pOn (toPC (txR tw A.tn K (f, g)).2.2).pV false := Cq_Cm c16 x2.2.2.1
    have hS2 : CmAt H (1 - bk) 194 195 (toPC (txR tw A.tn K (f, g)).2.2).tOn (toPC (txR tw A.tn K (f, g)).2.2).tV true := Cq_Cm c16 x2.2.2.2.1
    have htl : ∀ k, k < 96 → hI H 190 (96 * (1 - bk) + k) = (toPC (txR tw A.tn K (f, g)).2.2).til k := x2.1.2.2.2.2.2.2.2.2
    have lx : ∀ v b j, csX (1 - bk) b j → ¬ lyX v b j := fun v b j z y => by
      have := no b j z
      unfold lyX at y
      omega
    have keep : ∀ j, 50 ≤ j → hI H 174 j = hI h 174 j := fun j hj => Agm_I aq (fun z => by have := no _ _ z; omega)
    have hB2 : BrAt H (nI b) x0 := by
      obtain ⟨q1, q2, q3, q4, q5⟩ := zB
      exact ⟨(keep 69 (by omega)).trans q1, (keep 70 (by omega)).trans q2, (keep 71 (by omega)).trans q3, (keep 72 (by omega)).trans q4, (keep 73 (by omega)).trans q5⟩
    refine Mo_begin (s := A.now) (m := m) (C := toPC (txR tw A.tn K (f, g)).2.2) (by omega) hM2 hC2 htl (Lay_agm (lx 0) aq zL) hB2 zb hWC hS2 hm hWK.2.2.2.2.2.1.1 (fun h2 u a2 e61 B2 s2 k2 => ?_)
    have hM3 := Mo_agm a2 hM2
    have hN3 := hM3.1
    obtain ⟨b2, hb2, eb2⟩ := k2
    have nb : ∀ b j, bgX b j → ncX b j ∧ ¬ (b = 206) ∧ ¬ b = 175 ∧ ¬ b = 219 ∧ ¬ (b = 174 ∧ ¬ (j = 61 ∨ (64 ≤ j ∧ j ≤ 73))) := fun b j z => by
      unfold bgX dyX lyX at z
      unfold ncX
      omega
    have keep2 : ∀ j, ¬ (j = 61 ∨ (64 ≤ j ∧ j ≤ 73)) → hI h2 174 j = hI H 174 j := fun j hj => Agm_I a2 (fun z => (nb _ _ z).2.2.2.2 ⟨rfl, hj⟩)
    have hbr := LB_br B2
    rw [eb2] at hbr
    simp (disch := omega) only [g198_229, g198_230, GN_nx, GN_rtn, GN_ck, GN_br, GN_cll, ldI_0, ldJ_0, ldR_0, ldI_s, ldJ_s, ldR_s, pI_c, pII_c, pJ_c, pJJ_c, pJI_c, pR_c, pRI_c, pRJ_c, pRR_c, pRII_c, pRIJ_c, pRIR_c, pCopy_c, pIe_c, pJe_c, pRe_c, pE_c, p1_i, p1_r, p11_ir, pA_0, pA_1, pA_2, pA_3, pA_4, pA_5, st1_0, st1_i, st1_r, st1_n, st1_u, st1_j, st1_s, st2_0, st2_i, st2_r, st2_n, st2_u, st2_j, st2_s, List.length_cons, List.length_nil, Nat.reduceAdd, Nat.reduceLT, Nat.reduceLeDiff, Nat.reduceEqDiff, Nat.zero_add, true_and, and_true, true_implies, not_true_eq_false, not_false_eq_true, false_implies, Option.toList_some, Option.toList_none, arr, inb, List.cons_append, List.nil_append, rv_some, rv_none, nlt_t, nlt_f, nle_t, nle_f, neq_f, ix_cl, ix_nn, ix_lt, cmp_le, cmp_lt, cmp_eq, cmp_lt0, cmp_ge0, cmp_eq0, cmp_gt0, cmp_le0, nI_mul, nI_add, nm1_ne, nm1_ne', one01, zero01, b2i_0, b2i_1, b2i_01, cmp_eq1, true_or, or_true, false_or, or_false, neq_t, hN_sI, hLn_sI, hR_sI, hL_sI, hI_sI, hN_sA, hLn_sA, hR_sA, hL_sA, hI_sA, hN_wI, hLn_wI, hR_wI, hL_wI, hI_wI, false_and, and_false, if_true, if_false, hN_fA, hLn_fA, hR_fA, hN_wrS, hLn_wrS, hR_wrS, hL_wrS, wS_day, wS_keeps, wS_brs, wS_first, wS_knows, wS_purse, wS_till, wS_valid, wS_kept, sS_day, sS_keeps, sS_brs, sS_first, sS_knows, sS_purse, sS_till, sS_valid, sS_kept, wrS_wrS, day_mk, knows_mk, purse_mk, till_mk, valid_mk, kept_mk, keeps_mk, brs_mk, first_mk, hN_wrU, hLn_wrU, hR_wrU, hL_wrU, wU_19, wU_20, sU_19, sU_20, upd_same, upd_upd, hN_wrR, hLn_wrR, hR_wrR, hL_wrR, bI_0, bI_01', bI_t1, eq_self, Bool.true_eq_false, Bool.false_eq_true, hN_wrC, hLn_wrC, hR_wrC, hL_wrC, lay_174, lay_175, lay_176, lay_177, lay_178, lay_179, lay_180, lay_181, lay_182, lay_183, lay_184, lay_185, lay_186, lay_187, lay_188, lay_189, lay_190, lay_191, lay_192, lay_193, lay_194, lay_195, lay_196, lay_197, lay_198, lay_199, lay_200, lay_201, lay_202, lay_203, lay_204, lay_205, lay_206, lay_207, lay_208, lay_209, lay_210, lay_211, lay_212, lay_213, lay_214, lay_215, lay_216, lay_217, lay_218, lay_219, hN_wrO, hLn_wrO, hR_wrO, hN_wrL, hLn_wrL, hR_wrL, hN_sL', hI_sL', hR_sL', hLn_sL', hN_wrF, hLn_wrF, hR_wrF]
    refine hQT n hn hR h2 ?_ (Agm_trans (Agm_sub (fun b j z => by have := no _ _ z; unfold mdX; omega) aq) (Agm_sub (fun b j z => by unfold bgX dyX lyX at z; unfold mdX; omega) a2))
    refine ⟨u, b2, u.first, f0, hM3, Mc_agm (fun b j z => (nb b j z).1) a2 hC2, ⟨Cm_agm (fun b j z => (nb b j z).1) a2 (by omega) (by omega) hS1, Cm_agm (fun b j z => (nb b j z).1) a2 (by omega) (by omega) hS2⟩, trivial, ⟨fun i hi => ?_, fun i hi => ?_⟩, ⟨hbr, hb2⟩, B2.1, s2, fun v hv => ?_, ⟨?_, zf20, e61, Nat.zero_le _, fun k s hk => by cases hk⟩, ?_, fun k hk => ?_, ⟨?_, Nat.zero_le _, fun k hk => absurd hk (Nat.not_lt_zero _)⟩, ⟨?_, ?_⟩, ⟨?_, zo7, fun k hk => ?_⟩⟩
    · rw [Agm_L a2 (fun z => (nb _ _ z).1.2 ⟨by omega, by omega⟩)]
      exact x2.1.1.2.2.2.2.1 i hi
    · rw [Agm_L a2 (fun z => (nb _ _ z).1.2 ⟨by omega, by omega⟩)]
      exact x2.1.1.2.2.2.2.2 i hi
    · by_cases c0 : v = 0
      · rw [c0]
        exact ⟨u, B2.1⟩
      · obtain ⟨w, hw⟩ := zA v hv
        exact ⟨w, Lay_agm (fun b j z y => by unfold bgX dyX lyX at z; unfold lyX at y; omega) a2 (Lay_agm (lx v) aq hw)⟩
    · exact (keep2 60 (by omega)).trans ((keep 60 (by omega)).trans zf)
    · exact (Agm_L a2 (fun z => (nb _ _ z).2.2.2.2 ⟨rfl, by omega⟩)).trans ((Agm_L aq (fun z => by have := no _ _ z; omega)).trans zs)
    · rw [Agm_I a2 (fun z => (nb _ _ z).2.1 rfl)]
      rw [Agm_I aq (fun z => by have := no _ _ z; omega)]
      exact zr k hk
    · exact (keep2 1 (by omega)).trans f1
    · show hI h2 174 10 = (txR tw A.tn K (f, g)).2.1.1 0
      rw [t0]
      exact (keep2 10 (by omega)).trans f10
    · show hI h2 174 11 = (txR tw A.tn K (f, g)).2.1.1 1
      rw [t1]
      exact (keep2 11 (by omega)).trans f11
    · exact (keep2 78 (by omega)).trans ((keep 78 (by omega)).trans zo)
    · rw [Agm_I a2 (fun z => (nb _ _ z).2.2.2.1 rfl), Agm_I aq (fun z => by have := no _ _ z; omega)]
      exact zob k hk
end CPB
