/-! the reference: a CAPITAL begins -/
def bgX (b j : Nat) : Prop := dyX 0 b j ∨ (b = 174 ∧ j = 61)
def bg0 (b j : Nat) : Prop := (b = 207 ∧ j = 0) ∨ (b = 211 ∧ j = 0) ∨ (b = 174 ∧ j = 61) ∨ ((b = 208 ∨ b = 209) ∧ j < 8) ∨ (b = 210 ∧ j < 96)
theorem bg_0 {b j : Nat} (z : bg0 b j) : bgX b j := by
  unfold bg0 at z
  unfold bgX dyX lyX
  omega
section XPR
variable {d bk m : Nat} {h : AH} {C : PC} {Q : Option Value → AH → Prop} {s u : PS}
/-- how a State begins that a text tells -/
theorem out_day : (dawnP (outP C s)).day = nI 0 := (by decide : (-1 : Int32) + nI 1 = nI 0)
theorem out_knows {i : Nat} (hi : i < 8) : (dawnP (outP C s)).knows i = nI 0 := if_pos hi
theorem out_keeps : (dawnP (outP C s)).keeps = nI 0 := rfl
theorem out_till {j : Nat} (hj : j < 96) : (dawnP (outP C s)).till j = C.til j := if_pos hj
theorem out_purse {i : Nat} (hi : i < C.np) : (dawnP (outP C s)).purse i = C.pur i := by
  show foN (fun i v => upd v i (C.pur i)) 0 C.np (clearP s).purse i = _
  rw [fo_updF, if_pos (by omega)]
theorem out_valid {i : Nat} (hi : i < 8) : (dawnP (outP C s)).valid i = fvM (dawnP (outP C s)).till (nI 0) i := by
  have e := out_day (C := C) (s := s)
  show foN (fun i v => upd v i (fvM (dawnP (outP C s)).till (dawnP (outP C s)).day i)) 0 8 (clearP s).valid i = _
  rw [fo_updF, if_pos (by omega), e]
theorem SI_out {b x : Int32} {pu ke : Nat → Int32} {b0 : Nat} (hb : b = nI b0) (hb0 : b0 ≤ m) (hTE : ∀ i f, i < 8 → f < 12 → (C.np ≤ i ∨ C.nf ≤ f) → C.til (i * 12 + f) = -1) : SI C 0 m (mkS (dawnP (outP C s)).day (dawnP (outP C s)).knows pu (dawnP (outP C s)).till (dawnP (outP C s)).valid ke (dawnP (outP C s)).keeps b x) := by
  refine ⟨out_day, by omega, ⟨0, Nat.zero_le _, rfl⟩, fun i f hi hf hh => ?_, fun i hi => ?_, ⟨b0, hb0, hb⟩, fun i hi => ?_, fun i _ hi => out_knows hi⟩
  · show (dawnP (outP C s)).till (i * 12 + f) = -1
    rw [out_till (by omega)]
    exact hTE i f hi hf hh
  · show (dawnP (outP C s)).valid i = fvM (dawnP (outP C s)).till (dawnP (outP C s)).day i
    rw [out_day]
    exact out_valid hi
  · show Kn C.nf ((dawnP (outP C s)).knows i)
    rw [out_knows hi]
    exact ⟨0, Nat.two_pow_pos _, rfl⟩
theorem SEq_out {b x : Int32} {pu ke : Nat → Int32} (hp : ∀ i, i < C.np → pu i = C.pur i) : SEq C (dawnP (outP C s)) (mkS (dawnP (outP C s)).day (dawnP (outP C s)).knows pu (dawnP (outP C s)).till (dawnP (outP C s)).valid ke (dawnP (outP C s)).keeps b x) := ⟨pu, ke, b, x, rfl, fun i hi => (hp i hi).trans (out_purse hi).symm, fun k hk => by
  rw [out_keeps, nI_clamp (by omega)] at hk
  omega⟩
/-- a layer 0 out of its pieces, all 40 kept entries as they were -/
theorem lay_mk {h' : AH} {dy kv br fi : Int32} {kn pu ti va : Nat → Int32} (hu : Lay h 0 u) (a : Agm bg0 h h') (e207 : hI h' 207 0 = dy) (e211 : hI h' 211 0 = kv) (e8 : ∀ i, i < 8 → hI h' 208 i = kn i ∧ hI h' 209 i = pu i) (e96 : ∀ k, k < 96 → hI h' 210 k = ti k) : Lay h' 0 (mkS dy kn pu ti va u.kept kv br fi) := by
  have k5 := fun j => hu 5 j (by omega)
  have k6 := fun j => hu 6 j (by omega)
  have k7 := fun j => hu 7 j (by omega)
  have k8 := fun j => hu 8 j (by omega)
  have g5 : ∀ j, hI h' 212 j = hI h 212 j := fun j => Agm_I a (by unfold bg0; omega)
  have g6 : ∀ j, hI h' 213 j = hI h 213 j := fun j => Agm_I a (by unfold bg0; omega)
  have g7 : ∀ j, hI h' 214 j = hI h 214 j := fun j => Agm_I a (by unfold bg0; omega)
  have g8 : ∀ j, hI h' 215 j = hI h 215 j := fun j => Agm_I a (by unfold bg0; omega)
  intro q j hq
  revert j
  refine k9 (P := fun q => ∀ j, hI h' (207 + q) j = rowL (mkS dy kn pu ti va u.kept kv br fi) 0 q (hI h' (207 + q)) j) ?_ ?_ ?_ ?_ ?_ ?_ ?_ ?_ ?_ q hq
  · intro j
    show hI h' 207 j = if j = 0 then dy else hI h' 207 j
    by_cases z : j = 0
    · rw [if_pos z, z, e207]
    · rw [if_neg z]
  · intro j
    show hI h' 208 j = if 8 * 0 ≤ j ∧ j < 8 * 0 + 8 then kn (j - 8 * 0) else hI h' 208 j
    by_cases z : 8 * 0 ≤ j ∧ j < 8 * 0 + 8
    · rw [if_pos z, (e8 j (by omega)).1, Nat.mul_zero, Nat.sub_zero]
    · rw [if_neg z]
  · intro j
    show hI h' 209 j = if 8 * 0 ≤ j ∧ j < 8 * 0 + 8 then pu (j - 8 * 0) else hI h' 209 j
    by_cases z : 8 * 0 ≤ j ∧ j < 8 * 0 + 8
    · rw [if_pos z, (e8 j (by omega)).2, Nat.mul_zero, Nat.sub_zero]
    · rw [if_neg z]
  · intro j
    show hI h' 210 j = if 96 * 0 ≤ j ∧ j < 96 * 0 + 96 then ti (j - 96 * 0) else hI h' 210 j
    by_cases z : 96 * 0 ≤ j ∧ j < 96 * 0 + 96
    · rw [if_pos z, e96 j (by omega), Nat.mul_zero, Nat.sub_zero]
    · rw [if_neg z]
  · intro j
    show hI h' 211 j = if j = 0 then kv else hI h' 211 j
    by_cases z : j = 0
    · rw [if_pos z, z, e211]
    · rw [if_neg z]
  · intro j
    show hI h' 212 j = if 40 * 0 ≤ j ∧ j < 40 * 0 + 40 then partM (u.kept (j - 40 * 0)) 0 else hI h' 212 j
    rw [g5]
    exact k5 j
  · intro j
    show hI h' 213 j = if 40 * 0 ≤ j ∧ j < 40 * 0 + 40 then partM (u.kept (j - 40 * 0)) 1 else hI h' 213 j
    rw [g6]
    exact k6 j
  · intro j
    show hI h' 214 j = if 40 * 0 ≤ j ∧ j < 40 * 0 + 40 then partM (u.kept (j - 40 * 0)) 2 else hI h' 214 j
    rw [g7]
    exact k7 j
  · intro j
    show hI h' 215 j = if 40 * 0 ≤ j ∧ j < 40 * 0 + 40 then partM (u.kept (j - 40 * 0)) 3 else hI h' 215 j
    rw [g8]
    exact k8 j
theorem Br_bg {h' : AH} {y x0 : Int32} (a : Agm bg0 h h') (hb : BrAt h y x0) : BrAt h' y x0 := by
  obtain ⟨q1, q2, q3, q4, q5⟩ := hb
  exact ⟨(Agm_I a (by unfold bg0; omega)).trans q1, (Agm_I a (by unfold bg0; omega)).trans q2, (Agm_I a (by unfold bg0; omega)).trans q3, (Agm_I a (by unfold bg0; omega)).trans q4, (Agm_I a (by unfold bg0; omega)).trans q5⟩
theorem KB_out : KB (dawnP (outP C s)) := ⟨0, Nat.zero_le _, out_keeps⟩
theorem SEq_nextB {X t : PS} (kb : KB (dawnP X)) (e : SEq C (dawnP X) t) : SEq C (nextP C X) (meetAllP C (inferAllP C (hearAllP C t))) := (SEqB_dayP (p := False) kb ⟨e, fun z => z.elim⟩).1
theorem bg_94 {h' : AH} {t0 : PS} (hd : 11 ≤ d) (hM : MoAt h') (hC : McAt h' bk C) (hW : WC C) (hP : CmAt h' bk 194 195 C.tOn C.tV true) (hm : m + 9000 < 2000000000) (e61 : hI h' 174 61 = nI 0) (hB : LayB h' 0 t0) (hsi : SI C 0 m t0) (y : Value) (hQ : ∀ h2, Agm (dyX 0) h' h2 → hI h2 174 61 = nI 0 → LayB h2 0 (meetAllP C (inferAllP C (hearAllP C t0))) → Q none h2) : G (d - 1) 208 94 [.ref 174, y] [] h' Q := by
  have hM1' := hM
  obtain ⟨xN, ⟨ra0, ra1, ra2, ra3, ra4, ra5, ra6, ra7, ra8, ra9, ra10, ra11, ra12, ra13, ra14, ra15, ra16, ra17, ra18, ra19, ra20, ra21, ra22, ra23, ra24, ra25, ra26, ra27, ra28, ra29, ra30, ra31, ra32, ra33, ra34, ra35, ra36, ra37, ra38, ra39, ra40, ra41, ra42, ra43, ra44⟩, ⟨la0, la1, la2, la3, la4, la5, la6, la7, la8, la9, la10, la11, la12, la13, la14, la15, la16, la17, la18, la19, la20, la21, la22, la23, la24, la25, la26, la27, la28, la29, la30, la31, la32, la33, la34, la35, la36, la37, la38, la39, la40, la41, la42, la43, la44⟩⟩ := hM
  simp (disch := omega) only [g208_94, g208_95, g208_96, GN_nx, GN_rtn, GN_ck, GN_br, GN_cll, ldI_0, ldJ_0, ldR_0, ldI_s, ldJ_s, ldR_s, pI_c, pII_c, pJ_c, pJJ_c, pJI_c, pR_c, pRI_c, pRJ_c, pRR_c, pRII_c, pRIJ_c, pRIR_c, pCopy_c, pIe_c, pJe_c, pRe_c, pE_c, p1_i, p1_r, p11_ir, pA_0, pA_1, pA_2, pA_3, pA_4, pA_5, st1_0, st1_i, st1_r, st1_n, st1_u, st1_j, st1_s, st2_0, st2_i, st2_r, st2_n, st2_u, st2_j, st2_s, List.length_cons, List.length_nil, Nat.reduceAdd, Nat.reduceLT, Nat.reduceLeDiff, Nat.reduceEqDiff, Nat.zero_add, true_and, and_true, true_implies, not_true_eq_false, not_false_eq_true, false_implies, Option.toList_some, Option.toList_none, arr, inb, List.cons_append, List.nil_append, rv_some, rv_none, nlt_t, nlt_f, nle_t, nle_f, neq_f, ix_cl, ix_nn, ix_lt, cmp_le, cmp_lt, cmp_eq, cmp_lt0, cmp_ge0, cmp_eq0, cmp_gt0, cmp_le0, nI_mul, nI_add, nm1_ne, nm1_ne', one01, zero01, b2i_0, b2i_1, b2i_01, cmp_eq1, true_or, or_true, false_or, or_false, neq_t, hN_sI, hLn_sI, hR_sI, hL_sI, hI_sI, hN_sA, hLn_sA, hR_sA, hL_sA, hI_sA, hN_wI, hLn_wI, hR_wI, hL_wI, hI_wI, false_and, and_false, if_true, if_false, hN_fA, hLn_fA, hR_fA, hN_wrS, hLn_wrS, hR_wrS, hL_wrS, wS_day, wS_keeps, wS_brs, wS_first, wS_knows, wS_purse, wS_till, wS_valid, wS_kept, sS_day, sS_keeps, sS_brs, sS_first, sS_knows, sS_purse, sS_till, sS_valid, sS_kept, wrS_wrS, day_mk, knows_mk, purse_mk, till_mk, valid_mk, kept_mk, keeps_mk, brs_mk, first_mk, hN_wrU, hLn_wrU, hR_wrU, hL_wrU, wU_19, wU_20, sU_19, sU_20, upd_same, upd_upd, hN_wrR, hLn_wrR, hR_wrR, hL_wrR, bI_0, bI_01', bI_t1, eq_self, Bool.true_eq_false, Bool.false_eq_true, hN_wrC, hLn_wrC, hR_wrC, hL_wrC, lay_174, lay_175, lay_176, lay_177, lay_178, lay_179, lay_180, lay_181, lay_182, lay_183, lay_184, lay_185, lay_186, lay_187, lay_188, lay_189, lay_190, lay_191, lay_192, lay_193, lay_194, lay_195, lay_196, lay_197, lay_198, lay_199, lay_200, lay_201, lay_202, lay_203, lay_204, lay_205, lay_206, lay_207, lay_208, lay_209, lay_210, lay_211, lay_212, lay_213, lay_214, lay_215, lay_216, lay_217, lay_218, lay_219, hN_wrO, hLn_wrO, hR_wrO, hN_wrL, hLn_wrL, hR_wrL, hN_sL', hI_sL', hR_sL', hLn_sL', hN_wrF, hLn_wrF, hR_wrF,  ra0, ra1, ra2, ra3, ra4, ra5, ra6, ra7, ra8, ra9, ra10, ra11, ra12, ra13, ra14, ra15, ra16, ra17, ra18, ra19, ra20, ra21, ra22, ra23, ra24, ra25, ra26, ra27, ra28, ra29, ra30, ra31, ra32, ra33, ra34, ra35, ra36, ra37, ra38, ra39, ra40, ra41, ra42, ra43, ra44, la0, la1, la2, la3, la4, la5, la6, la7, la8, la9, la10, la11, la12, la13, la14, la15, la16, la17, la18, la19, la20, la21, la22, la23, la24, la25, la26, la27, la28, la29, la30, la31, la32, la33, la34, la35, la36, la37, la38, la39, la40, la41, la42, la43, la44]
  refine Mo_dayBegins (bk := bk) (by omega) hM1' hC hB (by omega) hW hP hsi hm (fun h2 a2 B2 => ?_)
  have hN2 := (Mo_agm a2 hM1').1
  simp (disch := omega) only [g208_99, GN_nx, GN_rtn, GN_ck, GN_br, GN_cll, ldI_0, ldJ_0, ldR_0, ldI_s, ldJ_s, ldR_s, pI_c, pII_c, pJ_c, pJJ_c, pJI_c, pR_c, pRI_c, pRJ_c, pRR_c, pRII_c, pRIJ_c, pRIR_c, pCopy_c, pIe_c, pJe_c, pRe_c, pE_c, p1_i, p1_r, p11_ir, pA_0, pA_1, pA_2, pA_3, pA_4, pA_5, st1_0, st1_i, st1_r, st1_n, st1_u, st1_j, st1_s, st2_0, st2_i, st2_r, st2_n, st2_u, st2_j, st2_s, List.length_cons, List.length_nil, Nat.reduceAdd, Nat.reduceLT, Nat.reduceLeDiff, Nat.reduceEqDiff, Nat.zero_add, true_and, and_true, true_implies, not_true_eq_false, not_false_eq_true, false_implies, Option.toList_some, Option.toList_none, arr, inb, List.cons_append, List.nil_append, rv_some, rv_none, nlt_t, nlt_f, nle_t, nle_f, neq_f, ix_cl, ix_nn, ix_lt, cmp_le, cmp_lt, cmp_eq, cmp_lt0, cmp_ge0, cmp_eq0, cmp_gt0, cmp_le0, nI_mul, nI_add, nm1_ne, nm1_ne', one01, zero01, b2i_0, b2i_1, b2i_01, cmp_eq1, true_or, or_true, false_or, or_false, neq_t, hN_sI, hLn_sI, hR_sI, hL_sI, hI_sI, hN_sA, hLn_sA, hR_sA, hL_sA, hI_sA, hN_wI, hLn_wI, hR_wI, hL_wI, hI_wI, false_and, and_false, if_true, if_false, hN_fA, hLn_fA, hR_fA, hN_wrS, hLn_wrS, hR_wrS, hL_wrS, wS_day, wS_keeps, wS_brs, wS_first, wS_knows, wS_purse, wS_till, wS_valid, wS_kept, sS_day, sS_keeps, sS_brs, sS_first, sS_knows, sS_purse, sS_till, sS_valid, sS_kept, wrS_wrS, day_mk, knows_mk, purse_mk, till_mk, valid_mk, kept_mk, keeps_mk, brs_mk, first_mk, hN_wrU, hLn_wrU, hR_wrU, hL_wrU, wU_19, wU_20, sU_19, sU_20, upd_same, upd_upd, hN_wrR, hLn_wrR, hR_wrR, hL_wrR, bI_0, bI_01', bI_t1, eq_self, Bool.true_eq_false, Bool.false_eq_true, hN_wrC, hLn_wrC, hR_wrC, hL_wrC, lay_174, lay_175, lay_176, lay_177, lay_178, lay_179, lay_180, lay_181, lay_182, lay_183, lay_184, lay_185, lay_186, lay_187, lay_188, lay_189, lay_190, lay_191, lay_192, lay_193, lay_194, lay_195, lay_196, lay_197, lay_198, lay_199, lay_200, lay_201, lay_202, lay_203, lay_204, lay_205, lay_206, lay_207, lay_208, lay_209, lay_210, lay_211, lay_212, lay_213, lay_214, lay_215, lay_216, lay_217, lay_218, lay_219, hN_wrO, hLn_wrO, hR_wrO, hN_wrL, hLn_wrL, hR_wrL, hN_sL', hI_sL', hR_sL', hLn_sL', hN_wrF, hLn_wrF, hR_wrF]
  exact hQ h2 a2 ((Agm_I a2 (by unfold dyX lyX; omega)).trans e61) B2
theorem bg_e1 {h' : AH} {y0 x0 : Int32} (hu : Lay h 0 u) (hb : BrAt h y0 x0) (a : Agm bg0 h h') (e207 : hI h' 207 0 = nI 0) (e211 : hI h' 211 0 = nI 0) (e8 : ∀ i, i < 8 → hI h' 208 i = nI 0 ∧ hI h' 209 i = hI h 184 (8 * bk + i)) (e96 : ∀ k, k < 96 → hI h' 210 k = C.til k) : Lay h' 0 (mkS (dawnP (outP C s)).day (dawnP (outP C s)).knows (fun i => hI h 184 (8 * bk + i)) (dawnP (outP C s)).till (dawnP (outP C s)).valid u.kept (dawnP (outP C s)).keeps y0 x0) := by
  have o1 := out_day (C := C) (s := s)
  have o2 := fun i (hi : i < 8) => out_knows (C := C) (s := s) hi
  have o3 := out_keeps (C := C) (s := s)
  have o4 := fun j (hj : j < 96) => out_till (C := C) (s := s) hj
  generalize dawnP (outP C s) = X at *
  exact lay_mk hu a (e207.trans o1.symm) (e211.trans o3.symm) (fun i hi => ⟨(e8 i hi).1.trans (o2 i hi).symm, (e8 i hi).2⟩) (fun k hk => (e96 k hk).trans (o4 k hk).symm)
theorem LB_mk {h : AH} {v : Nat} {s : PS} {y x : Int32} (H : Lay h v s) (hb : BrAt h y x) (e1 : s.brs = y) (e2 : s.first = x) : LayB h v s := by
  subst e1
  subst e2
  obtain ⟨b0, b1, b2, b3, b4⟩ := hb
  exact ⟨H, fun k hk => k5' (P := fun k => hI h 174 (69 + k) = brF s k) b0 b1 b2 b3 b4 k hk⟩
theorem bg_e2 {h' : AH} {y0 x0 : Int32} (hu : Lay h 0 u) (hb : BrAt h y0 x0) (a : Agm bg0 h h') (e207 : hI h' 207 0 = nI 0) (e211 : hI h' 211 0 = nI 0) (e8 : ∀ i, i < 8 → hI h' 208 i = nI 0 ∧ hI h' 209 i = hI h 184 (8 * bk + i)) (e96 : ∀ k, k < 96 → hI h' 210 k = C.til k) : LayB h' 0 (mkS (dawnP (outP C s)).day (dawnP (outP C s)).knows (fun i => hI h 184 (8 * bk + i)) (dawnP (outP C s)).till (dawnP (outP C s)).valid u.kept (dawnP (outP C s)).keeps y0 x0) := by
  have l := bg_e1 (C := C) (s := s) hu hb a e207 e211 e8 e96
  generalize dawnP (outP C s) = X at *
  exact LB_mk l (Br_bg a hb) brs_mk first_mk
theorem bg_e3 {h' : AH} {b0 : Nat} {x0 : Int32} (hu : Lay h 0 u) (hb : BrAt h (nI b0) x0) (hb0 : b0 ≤ m) (hTE : ∀ i f, i < 8 → f < 12 → (C.np ≤ i ∨ C.nf ≤ f) → C.til (i * 12 + f) = -1) (pur : ∀ i, i < C.np → hI h 184 (8 * bk + i) = C.pur i) (a : Agm bg0 h h') (e207 : hI h' 207 0 = nI 0) (e211 : hI h' 211 0 = nI 0) (e8 : ∀ i, i < 8 → hI h' 208 i = nI 0 ∧ hI h' 209 i = hI h 184 (8 * bk + i)) (e96 : ∀ k, k < 96 → hI h' 210 k = C.til k) : ∃ t0, LayB h' 0 t0 ∧ SI C 0 m t0 ∧ SEq C (dawnP (outP C s)) t0 := by
  obtain ⟨y0, ey⟩ : ∃ y0, y0 = nI b0 := ⟨_, rfl⟩
  rw [← ey] at hb
  have z1 := bg_e2 (C := C) (s := s) hu hb a e207 e211 e8 e96
  have z2 := SI_out (C := C) (s := s) (pu := fun i => hI h 184 (8 * bk + i)) (ke := u.kept) (x := x0) ey hb0 hTE
  have z3 := SEq_out (C := C) (s := s) (pu := fun i => hI h 184 (8 * bk + i)) (ke := u.kept) (b := y0) (x := x0) pur
  generalize dawnP (outP C s) = X at *
  exact ⟨_, z1, z2, z3⟩
theorem bg_fin {h' : AH} {b0 : Nat} {x0 : Int32} (hd : 11 ≤ d) (hM : MoAt h) (hC : McAt h bk C) (hu : Lay h 0 u) (hb : BrAt h (nI b0) x0) (hb0 : b0 ≤ m) (hW : WC C) (hP : CmAt h bk 194 195 C.tOn C.tV true) (hm : m + 9000 < 2000000000) (hTE : ∀ i f, i < 8 → f < 12 → (C.np ≤ i ∨ C.nf ≤ f) → C.til (i * 12 + f) = -1) (hQ : ∀ h' t, Agm bgX h h' → hI h' 174 61 = nI 0 → LayB h' 0 t → SEq C (nextP C (outP C s)) t → (∃ b, b ≤ m + 9000 ∧ t.brs = nI b) → Q none h') (a : Agm bg0 h h') (e207 : hI h' 207 0 = nI 0) (e211 : hI h' 211 0 = nI 0) (e61 : hI h' 174 61 = nI 0) (e8 : ∀ i, i < 8 → hI h' 208 i = nI 0 ∧ hI h' 209 i = hI h 184 (8 * bk + i)) (e96 : ∀ k, k < 96 → hI h' 210 k = C.til k) (y : Value) : G (d - 1) 208 94 [.ref 174, y] [] h' Q := by
  have hM1 := Mo_agm a hM
  have ak : ∀ b j, bg0 b j → ncX b j := fun b j z => by
    unfold bg0 at z
    unfold ncX
    omega
  have bk1 : bk ≤ 1 := hC.2.1
  have hC1 := Mc_agm ak a hC
  have hP1 := Cm_agm ak a (by omega) (by omega) hP
  have pur : ∀ i, i < C.np → hI h 184 (8 * bk + i) = C.pur i := hC.2.2.2.2.2.2.2.2.2.2.2.2.2.1
  obtain ⟨t0, hB, hsi, hse⟩ := bg_e3 (C := C) (s := s) hu hb hb0 hTE pur a e207 e211 e8 e96
  refine bg_94 hd hM1 hC1 hW hP1 hm e61 hB hsi y (fun h2 a2 e2 B2 => ?_)
  have hWT : WT C := WT_of hP
  obtain ⟨b, hb, eb⟩ := (SI_meetAll hW hWT (SI_dawnAll hW hsi)).2.2.2.2.2.1
  have := hW.1
  exact hQ h2 _ (Agm_trans (Agm_sub (fun b j z => bg_0 z) a) (Agm_sub (fun b j z => Or.inl z) a2)) e2 B2 (SEq_nextB KB_out hse) ⟨b, by omega, eb⟩
theorem bg_62 (hd : 11 ≤ d) (hM : MoAt h) (hC : McAt h bk C) (ht : ∀ k, k < 96 → hI h 190 (96 * bk + k) = C.til k) (fin : ∀ h', Agm bg0 h h' → hI h' 207 0 = nI 0 → hI h' 211 0 = nI 0 → hI h' 174 61 = nI 0 → (∀ i, i < 8 → hI h' 208 i = nI 0 ∧ hI h' 209 i = hI h 184 (8 * bk + i)) → (∀ k, k < 96 → hI h' 210 k = C.til k) → ∀ y : Value, G (d - 1) 208 94 [.ref 174, y] [] h' Q) : ∀ (k i : Nat) (h' : AH), i + k = 96 → Agm bg0 h h' → hI h' 207 0 = nI 0 → hI h' 211 0 = nI 0 → hI h' 174 61 = nI 0 → (∀ i, i < 8 → hI h' 208 i = nI 0 ∧ hI h' 209 i = hI h 184 (8 * bk + i)) → (∀ j, j < i → hI h' 210 j = C.til j) → G (d - 1) 208 62 [.ref 174, .int (nI i)] [] h' Q := by
  have hM' := hM
  have b13 : hI h 174 13 = nI bk := hC.1
  have bk1 : bk ≤ 1 := hC.2.1
  intro k
  induction k with
  | zero =>
    intro i h' hi a e1 e2 e3 e4 e5
    obtain rfl : i = 96 := by omega
    have f := fin h' a e1 e2 e3 e4 e5 (.int (nI 96))
    have hM1 := Mo_agm a hM'
    obtain ⟨xN, ⟨ra0, ra1, ra2, ra3, ra4, ra5, ra6, ra7, ra8, ra9, ra10, ra11, ra12, ra13, ra14, ra15, ra16, ra17, ra18, ra19, ra20, ra21, ra22, ra23, ra24, ra25, ra26, ra27, ra28, ra29, ra30, ra31, ra32, ra33, ra34, ra35, ra36, ra37, ra38, ra39, ra40, ra41, ra42, ra43, ra44⟩, ⟨la0, la1, la2, la3, la4, la5, la6, la7, la8, la9, la10, la11, la12, la13, la14, la15, la16, la17, la18, la19, la20, la21, la22, la23, la24, la25, la26, la27, la28, la29, la30, la31, la32, la33, la34, la35, la36, la37, la38, la39, la40, la41, la42, la43, la44⟩⟩ := hM1
    rw [g208_62]
    simp (disch := omega) only [g208_63, g208_65, GN_nx, GN_rtn, GN_ck, GN_br, GN_cll, ldI_0, ldJ_0, ldR_0, ldI_s, ldJ_s, ldR_s, pI_c, pII_c, pJ_c, pJJ_c, pJI_c, pR_c, pRI_c, pRJ_c, pRR_c, pRII_c, pRIJ_c, pRIR_c, pCopy_c, pIe_c, pJe_c, pRe_c, pE_c, p1_i, p1_r, p11_ir, pA_0, pA_1, pA_2, pA_3, pA_4, pA_5, st1_0, st1_i, st1_r, st1_n, st1_u, st1_j, st1_s, st2_0, st2_i, st2_r, st2_n, st2_u, st2_j, st2_s, List.length_cons, List.length_nil, Nat.reduceAdd, Nat.reduceLT, Nat.reduceLeDiff, Nat.reduceEqDiff, Nat.zero_add, true_and, and_true, true_implies, not_true_eq_false, not_false_eq_true, false_implies, Option.toList_some, Option.toList_none, arr, inb, List.cons_append, List.nil_append, rv_some, rv_none, nlt_t, nlt_f, nle_t, nle_f, neq_f, ix_cl, ix_nn, ix_lt, cmp_le, cmp_lt, cmp_eq, cmp_lt0, cmp_ge0, cmp_eq0, cmp_gt0, cmp_le0, nI_mul, nI_add, nm1_ne, nm1_ne', one01, zero01, b2i_0, b2i_1, b2i_01, cmp_eq1, true_or, or_true, false_or, or_false, neq_t, hN_sI, hLn_sI, hR_sI, hL_sI, hI_sI, hN_sA, hLn_sA, hR_sA, hL_sA, hI_sA, hN_wI, hLn_wI, hR_wI, hL_wI, hI_wI, false_and, and_false, if_true, if_false, hN_fA, hLn_fA, hR_fA, hN_wrS, hLn_wrS, hR_wrS, hL_wrS, wS_day, wS_keeps, wS_brs, wS_first, wS_knows, wS_purse, wS_till, wS_valid, wS_kept, sS_day, sS_keeps, sS_brs, sS_first, sS_knows, sS_purse, sS_till, sS_valid, sS_kept, wrS_wrS, day_mk, knows_mk, purse_mk, till_mk, valid_mk, kept_mk, keeps_mk, brs_mk, first_mk, hN_wrU, hLn_wrU, hR_wrU, hL_wrU, wU_19, wU_20, sU_19, sU_20, upd_same, upd_upd, hN_wrR, hLn_wrR, hR_wrR, hL_wrR, bI_0, bI_01', bI_t1, eq_self, Bool.true_eq_false, Bool.false_eq_true, hN_wrC, hLn_wrC, hR_wrC, hL_wrC, lay_174, lay_175, lay_176, lay_177, lay_178, lay_179, lay_180, lay_181, lay_182, lay_183, lay_184, lay_185, lay_186, lay_187, lay_188, lay_189, lay_190, lay_191, lay_192, lay_193, lay_194, lay_195, lay_196, lay_197, lay_198, lay_199, lay_200, lay_201, lay_202, lay_203, lay_204, lay_205, lay_206, lay_207, lay_208, lay_209, lay_210, lay_211, lay_212, lay_213, lay_214, lay_215, lay_216, lay_217, lay_218, lay_219, hN_wrO, hLn_wrO, hR_wrO, hN_wrL, hLn_wrL, hR_wrL, hN_sL', hI_sL', hR_sL', hLn_sL', hN_wrF, hLn_wrF, hR_wrF,  ra0, ra1, ra2, ra3, ra4, ra5, ra6, ra7, ra8, ra9, ra10, ra11, ra12, ra13, ra14, ra15, ra16, ra17, ra18, ra19, ra20, ra21, ra22, ra23, ra24, ra25, ra26, ra27, ra28, ra29, ra30, ra31, ra32, ra33, ra34, ra35, ra36, ra37, ra38, ra39, ra40, ra41, ra42, ra43, ra44, la0, la1, la2, la3, la4, la5, la6, la7, la8, la9, la10, la11, la12, la13, la14, la15, la16, la17, la18, la19, la20, la21, la22, la23, la24, la25, la26, la27, la28, la29, la30, la31, la32, la33, la34, la35, la36, la37, la38, la39, la40, la41, la42, la43, la44]
    exact f
  | succ k ih =>
    intro i h' hi a e1 e2 e3 e4 e5
    have hM1 := Mo_agm a hM'
    have t190 : hI h' 190 (96 * bk + i) = C.til i := (Agm_I a (by unfold bg0; omega)).trans (ht i (by omega))
    have b13' : hI h' 174 13 = nI bk := (Agm_I a (by unfold bg0; omega)).trans b13
    have go := ih (i + 1) (sI h' 210 i (C.til i)) (by omega) (Agm_trans a (Agm_sI (by unfold bg0; omega))) e1 e2 e3 e4 (fun j hj => by
      rw [hI_sI]
      by_cases z : j = i
      · rw [if_pos ⟨rfl, z⟩, z]
      · rw [if_neg (fun y => z y.2)]
        exact e5 j (by omega))
    obtain ⟨xN, ⟨ra0, ra1, ra2, ra3, ra4, ra5, ra6, ra7, ra8, ra9, ra10, ra11, ra12, ra13, ra14, ra15, ra16, ra17, ra18, ra19, ra20, ra21, ra22, ra23, ra24, ra25, ra26, ra27, ra28, ra29, ra30, ra31, ra32, ra33, ra34, ra35, ra36, ra37, ra38, ra39, ra40, ra41, ra42, ra43, ra44⟩, ⟨la0, la1, la2, la3, la4, la5, la6, la7, la8, la9, la10, la11, la12, la13, la14, la15, la16, la17, la18, la19, la20, la21, la22, la23, la24, la25, la26, la27, la28, la29, la30, la31, la32, la33, la34, la35, la36, la37, la38, la39, la40, la41, la42, la43, la44⟩⟩ := hM1
    rw [g208_62]
    simp (disch := omega) only [g208_63, g208_65, g208_68, g208_69, g208_72, g208_73, g208_74, g208_77, g208_79, g208_80, g208_83, g208_84, g208_85, g208_86, g208_87, g208_88, g208_91, GN_nx, GN_rtn, GN_ck, GN_br, GN_cll, ldI_0, ldJ_0, ldR_0, ldI_s, ldJ_s, ldR_s, pI_c, pII_c, pJ_c, pJJ_c, pJI_c, pR_c, pRI_c, pRJ_c, pRR_c, pRII_c, pRIJ_c, pRIR_c, pCopy_c, pIe_c, pJe_c, pRe_c, pE_c, p1_i, p1_r, p11_ir, pA_0, pA_1, pA_2, pA_3, pA_4, pA_5, st1_0, st1_i, st1_r, st1_n, st1_u, st1_j, st1_s, st2_0, st2_i, st2_r, st2_n, st2_u, st2_j, st2_s, List.length_cons, List.length_nil, Nat.reduceAdd, Nat.reduceLT, Nat.reduceLeDiff, Nat.reduceEqDiff, Nat.zero_add, true_and, and_true, true_implies, not_true_eq_false, not_false_eq_true, false_implies, Option.toList_some, Option.toList_none, arr, inb, List.cons_append, List.nil_append, rv_some, rv_none, nlt_t, nlt_f, nle_t, nle_f, neq_f, ix_cl, ix_nn, ix_lt, cmp_le, cmp_lt, cmp_eq, cmp_lt0, cmp_ge0, cmp_eq0, cmp_gt0, cmp_le0, nI_mul, nI_add, nm1_ne, nm1_ne', one01, zero01, b2i_0, b2i_1, b2i_01, cmp_eq1, true_or, or_true, false_or, or_false, neq_t, hN_sI, hLn_sI, hR_sI, hL_sI, hI_sI, hN_sA, hLn_sA, hR_sA, hL_sA, hI_sA, hN_wI, hLn_wI, hR_wI, hL_wI, hI_wI, false_and, and_false, if_true, if_false, hN_fA, hLn_fA, hR_fA, hN_wrS, hLn_wrS, hR_wrS, hL_wrS, wS_day, wS_keeps, wS_brs, wS_first, wS_knows, wS_purse, wS_till, wS_valid, wS_kept, sS_day, sS_keeps, sS_brs, sS_first, sS_knows, sS_purse, sS_till, sS_valid, sS_kept, wrS_wrS, day_mk, knows_mk, purse_mk, till_mk, valid_mk, kept_mk, keeps_mk, brs_mk, first_mk, hN_wrU, hLn_wrU, hR_wrU, hL_wrU, wU_19, wU_20, sU_19, sU_20, upd_same, upd_upd, hN_wrR, hLn_wrR, hR_wrR, hL_wrR, bI_0, bI_01', bI_t1, eq_self, Bool.true_eq_false, Bool.false_eq_true, hN_wrC, hLn_wrC, hR_wrC, hL_wrC, lay_174, lay_175, lay_176, lay_177, lay_178, lay_179, lay_180, lay_181, lay_182, lay_183, lay_184, lay_185, lay_186, lay_187, lay_188, lay_189, lay_190, lay_191, lay_192, lay_193, lay_194, lay_195, lay_196, lay_197, lay_198, lay_199, lay_200, lay_201, lay_202, lay_203, lay_204, lay_205, lay_206, lay_207, lay_208, lay_209, lay_210, lay_211, lay_212, lay_213, lay_214, lay_215, lay_216, lay_217, lay_218, lay_219, hN_wrO, hLn_wrO, hR_wrO, hN_wrL, hLn_wrL, hR_wrL, hN_sL', hI_sL', hR_sL', hLn_sL', hN_wrF, hLn_wrF, hR_wrF,  ra0, ra1, ra2, ra3, ra4, ra5, ra6, ra7, ra8, ra9, ra10, ra11, ra12, ra13, ra14, ra15, ra16, ra17, ra18, ra19, ra20, ra21, ra22, ra23, ra24, ra25, ra26, ra27, ra28, ra29, ra30, ra31, ra32, ra33, ra34, ra35, ra36, ra37, ra38, ra39, ra40, ra41, ra42, ra43, ra44, la0, la1, la2, la3, la4, la5, la6, la7, la8, la9, la10, la11, la12, la13, la14, la15, la16, la17, la18, la19, la20, la21, la22, la23, la24, la25, la26, la27, la28, la29, la30, la31, la32, la33, la34, la35, la36, la37, la38, la39, la40, la41, la42, la43, la44, b13', t190]
    exact go
theorem bg_21 (hd : 11 ≤ d) (hM : MoAt h) (hC : McAt h bk C) (key2 : ∀ h', Agm bg0 h h' → hI h' 207 0 = nI 0 → hI h' 211 0 = nI 0 → hI h' 174 61 = nI 0 → (∀ i, i < 8 → hI h' 208 i = nI 0 ∧ hI h' 209 i = hI h 184 (8 * bk + i)) → G (d - 1) 208 62 [.ref 174, .int (nI 0)] [] h' Q) : ∀ (k i : Nat) (h' : AH), i + k = 8 → Agm bg0 h h' → hI h' 207 0 = nI 0 → hI h' 211 0 = nI 0 → hI h' 174 61 = nI 0 → (∀ j, j < i → hI h' 208 j = nI 0 ∧ hI h' 209 j = hI h 184 (8 * bk + j)) → G (d - 1) 208 21 [.ref 174, .int (nI i)] [] h' Q := by
  have hM' := hM
  have b13 : hI h 174 13 = nI bk := hC.1
  have bk1 : bk ≤ 1 := hC.2.1
  intro k
  induction k with
  | zero =>
    intro i h' hi a e1 e2 e3 e4
    obtain rfl : i = 8 := by omega
    have f := key2 h' a e1 e2 e3 e4
    have hM1 := Mo_agm a hM'
    obtain ⟨xN, ⟨ra0, ra1, ra2, ra3, ra4, ra5, ra6, ra7, ra8, ra9, ra10, ra11, ra12, ra13, ra14, ra15, ra16, ra17, ra18, ra19, ra20, ra21, ra22, ra23, ra24, ra25, ra26, ra27, ra28, ra29, ra30, ra31, ra32, ra33, ra34, ra35, ra36, ra37, ra38, ra39, ra40, ra41, ra42, ra43, ra44⟩, ⟨la0, la1, la2, la3, la4, la5, la6, la7, la8, la9, la10, la11, la12, la13, la14, la15, la16, la17, la18, la19, la20, la21, la22, la23, la24, la25, la26, la27, la28, la29, la30, la31, la32, la33, la34, la35, la36, la37, la38, la39, la40, la41, la42, la43, la44⟩⟩ := hM1
    rw [g208_21]
    simp (disch := omega) only [g208_22, g208_24, g208_60, g208_61, GN_nx, GN_rtn, GN_ck, GN_br, GN_cll, ldI_0, ldJ_0, ldR_0, ldI_s, ldJ_s, ldR_s, pI_c, pII_c, pJ_c, pJJ_c, pJI_c, pR_c, pRI_c, pRJ_c, pRR_c, pRII_c, pRIJ_c, pRIR_c, pCopy_c, pIe_c, pJe_c, pRe_c, pE_c, p1_i, p1_r, p11_ir, pA_0, pA_1, pA_2, pA_3, pA_4, pA_5, st1_0, st1_i, st1_r, st1_n, st1_u, st1_j, st1_s, st2_0, st2_i, st2_r, st2_n, st2_u, st2_j, st2_s, List.length_cons, List.length_nil, Nat.reduceAdd, Nat.reduceLT, Nat.reduceLeDiff, Nat.reduceEqDiff, Nat.zero_add, true_and, and_true, true_implies, not_true_eq_false, not_false_eq_true, false_implies, Option.toList_some, Option.toList_none, arr, inb, List.cons_append, List.nil_append, rv_some, rv_none, nlt_t, nlt_f, nle_t, nle_f, neq_f, ix_cl, ix_nn, ix_lt, cmp_le, cmp_lt, cmp_eq, cmp_lt0, cmp_ge0, cmp_eq0, cmp_gt0, cmp_le0, nI_mul, nI_add, nm1_ne, nm1_ne', one01, zero01, b2i_0, b2i_1, b2i_01, cmp_eq1, true_or, or_true, false_or, or_false, neq_t, hN_sI, hLn_sI, hR_sI, hL_sI, hI_sI, hN_sA, hLn_sA, hR_sA, hL_sA, hI_sA, hN_wI, hLn_wI, hR_wI, hL_wI, hI_wI, false_and, and_false, if_true, if_false, hN_fA, hLn_fA, hR_fA, hN_wrS, hLn_wrS, hR_wrS, hL_wrS, wS_day, wS_keeps, wS_brs, wS_first, wS_knows, wS_purse, wS_till, wS_valid, wS_kept, sS_day, sS_keeps, sS_brs, sS_first, sS_knows, sS_purse, sS_till, sS_valid, sS_kept, wrS_wrS, day_mk, knows_mk, purse_mk, till_mk, valid_mk, kept_mk, keeps_mk, brs_mk, first_mk, hN_wrU, hLn_wrU, hR_wrU, hL_wrU, wU_19, wU_20, sU_19, sU_20, upd_same, upd_upd, hN_wrR, hLn_wrR, hR_wrR, hL_wrR, bI_0, bI_01', bI_t1, eq_self, Bool.true_eq_false, Bool.false_eq_true, hN_wrC, hLn_wrC, hR_wrC, hL_wrC, lay_174, lay_175, lay_176, lay_177, lay_178, lay_179, lay_180, lay_181, lay_182, lay_183, lay_184, lay_185, lay_186, lay_187, lay_188, lay_189, lay_190, lay_191, lay_192, lay_193, lay_194, lay_195, lay_196, lay_197, lay_198, lay_199, lay_200, lay_201, lay_202, lay_203, lay_204, lay_205, lay_206, lay_207, lay_208, lay_209, lay_210, lay_211, lay_212, lay_213, lay_214, lay_215, lay_216, lay_217, lay_218, lay_219, hN_wrO, hLn_wrO, hR_wrO, hN_wrL, hLn_wrL, hR_wrL, hN_sL', hI_sL', hR_sL', hLn_sL', hN_wrF, hLn_wrF, hR_wrF,  ra0, ra1, ra2, ra3, ra4, ra5, ra6, ra7, ra8, ra9, ra10, ra11, ra12, ra13, ra14, ra15, ra16, ra17, ra18, ra19, ra20, ra21, ra22, ra23, ra24, ra25, ra26, ra27, ra28, ra29, ra30, ra31, ra32, ra33, ra34, ra35, ra36, ra37, ra38, ra39, ra40, ra41, ra42, ra43, ra44, la0, la1, la2, la3, la4, la5, la6, la7, la8, la9, la10, la11, la12, la13, la14, la15, la16, la17, la18, la19, la20, la21, la22, la23, la24, la25, la26, la27, la28, la29, la30, la31, la32, la33, la34, la35, la36, la37, la38, la39, la40, la41, la42, la43, la44]
    exact f
  | succ k ih =>
    intro i h' hi a e1 e2 e3 e4
    have hM1 := Mo_agm a hM'
    have t184 : hI h' 184 (8 * bk + i) = hI h 184 (8 * bk + i) := Agm_I a (by unfold bg0; omega)
    have b13' : hI h' 174 13 = nI bk := (Agm_I a (by unfold bg0; omega)).trans b13
    have go := ih (i + 1) (sI (sI h' 208 i (nI 0)) 209 i (hI h 184 (8 * bk + i))) (by omega) (Agm_trans a (Agm_trans (Agm_sI (by unfold bg0; omega)) (Agm_sI (by unfold bg0; omega)))) e1 e2 e3 (fun j hj => by
      rw [hI_sI, if_neg (by omega), hI_sI, hI_sI, hI_sI]
      by_cases z : j = i
      · rw [if_pos ⟨rfl, z⟩, if_pos ⟨rfl, z⟩, z]
        exact ⟨rfl, rfl⟩
      · rw [if_neg (fun y => z y.2), if_neg (fun y => z y.2), if_neg (by omega)]
        exact e4 j (by omega))
    obtain ⟨xN, ⟨ra0, ra1, ra2, ra3, ra4, ra5, ra6, ra7, ra8, ra9, ra10, ra11, ra12, ra13, ra14, ra15, ra16, ra17, ra18, ra19, ra20, ra21, ra22, ra23, ra24, ra25, ra26, ra27, ra28, ra29, ra30, ra31, ra32, ra33, ra34, ra35, ra36, ra37, ra38, ra39, ra40, ra41, ra42, ra43, ra44⟩, ⟨la0, la1, la2, la3, la4, la5, la6, la7, la8, la9, la10, la11, la12, la13, la14, la15, la16, la17, la18, la19, la20, la21, la22, la23, la24, la25, la26, la27, la28, la29, la30, la31, la32, la33, la34, la35, la36, la37, la38, la39, la40, la41, la42, la43, la44⟩⟩ := hM1
    rw [g208_21]
    simp (disch := omega) only [g208_22, g208_24, g208_27, g208_28, g208_31, g208_32, g208_33, g208_34, g208_35, g208_38, g208_39, g208_40, g208_43, g208_45, g208_46, g208_49, g208_50, g208_51, g208_52, g208_53, g208_54, g208_57, GN_nx, GN_rtn, GN_ck, GN_br, GN_cll, ldI_0, ldJ_0, ldR_0, ldI_s, ldJ_s, ldR_s, pI_c, pII_c, pJ_c, pJJ_c, pJI_c, pR_c, pRI_c, pRJ_c, pRR_c, pRII_c, pRIJ_c, pRIR_c, pCopy_c, pIe_c, pJe_c, pRe_c, pE_c, p1_i, p1_r, p11_ir, pA_0, pA_1, pA_2, pA_3, pA_4, pA_5, st1_0, st1_i, st1_r, st1_n, st1_u, st1_j, st1_s, st2_0, st2_i, st2_r, st2_n, st2_u, st2_j, st2_s, List.length_cons, List.length_nil, Nat.reduceAdd, Nat.reduceLT, Nat.reduceLeDiff, Nat.reduceEqDiff, Nat.zero_add, true_and, and_true, true_implies, not_true_eq_false, not_false_eq_true, false_implies, Option.toList_some, Option.toList_none, arr, inb, List.cons_append, List.nil_append, rv_some, rv_none, nlt_t, nlt_f, nle_t, nle_f, neq_f, ix_cl, ix_nn, ix_lt, cmp_le, cmp_lt, cmp_eq, cmp_lt0, cmp_ge0, cmp_eq0, cmp_gt0, cmp_le0, nI_mul, nI_add, nm1_ne, nm1_ne', one01, zero01, b2i_0, b2i_1, b2i_01, cmp_eq1, true_or, or_true, false_or, or_false, neq_t, hN_sI, hLn_sI, hR_sI, hL_sI, hI_sI, hN_sA, hLn_sA, hR_sA, hL_sA, hI_sA, hN_wI, hLn_wI, hR_wI, hL_wI, hI_wI, false_and, and_false, if_true, if_false, hN_fA, hLn_fA, hR_fA, hN_wrS, hLn_wrS, hR_wrS, hL_wrS, wS_day, wS_keeps, wS_brs, wS_first, wS_knows, wS_purse, wS_till, wS_valid, wS_kept, sS_day, sS_keeps, sS_brs, sS_first, sS_knows, sS_purse, sS_till, sS_valid, sS_kept, wrS_wrS, day_mk, knows_mk, purse_mk, till_mk, valid_mk, kept_mk, keeps_mk, brs_mk, first_mk, hN_wrU, hLn_wrU, hR_wrU, hL_wrU, wU_19, wU_20, sU_19, sU_20, upd_same, upd_upd, hN_wrR, hLn_wrR, hR_wrR, hL_wrR, bI_0, bI_01', bI_t1, eq_self, Bool.true_eq_false, Bool.false_eq_true, hN_wrC, hLn_wrC, hR_wrC, hL_wrC, lay_174, lay_175, lay_176, lay_177, lay_178, lay_179, lay_180, lay_181, lay_182, lay_183, lay_184, lay_185, lay_186, lay_187, lay_188, lay_189, lay_190, lay_191, lay_192, lay_193, lay_194, lay_195, lay_196, lay_197, lay_198, lay_199, lay_200, lay_201, lay_202, lay_203, lay_204, lay_205, lay_206, lay_207, lay_208, lay_209, lay_210, lay_211, lay_212, lay_213, lay_214, lay_215, lay_216, lay_217, lay_218, lay_219, hN_wrO, hLn_wrO, hR_wrO, hN_wrL, hLn_wrL, hR_wrL, hN_sL', hI_sL', hR_sL', hLn_sL', hN_wrF, hLn_wrF, hR_wrF,  ra0, ra1, ra2, ra3, ra4, ra5, ra6, ra7, ra8, ra9, ra10, ra11, ra12, ra13, ra14, ra15, ra16, ra17, ra18, ra19, ra20, ra21, ra22, ra23, ra24, ra25, ra26, ra27, ra28, ra29, ra30, ra31, ra32, ra33, ra34, ra35, ra36, ra37, ra38, ra39, ra40, ra41, ra42, ra43, ra44, la0, la1, la2, la3, la4, la5, la6, la7, la8, la9, la10, la11, la12, la13, la14, la15, la16, la17, la18, la19, la20, la21, la22, la23, la24, la25, la26, la27, la28, la29, la30, la31, la32, la33, la34, la35, la36, la37, la38, la39, la40, la41, la42, la43, la44, b13', t184]
    exact go
theorem Mo_begin {b0 : Nat} {x0 : Int32} (hd : 11 ≤ d) (hM : MoAt h) (hC : McAt h bk C) (ht : ∀ k, k < 96 → hI h 190 (96 * bk + k) = C.til k) (hu : Lay h 0 u) (hb : BrAt h (nI b0) x0) (hb0 : b0 ≤ m) (hW : WC C) (hP : CmAt h bk 194 195 C.tOn C.tV true) (hm : m + 9000 < 2000000000) (hTE : ∀ i f, i < 8 → f < 12 → (C.np ≤ i ∨ C.nf ≤ f) → C.til (i * 12 + f) = -1) (hQ : ∀ h' t, Agm bgX h h' → hI h' 174 61 = nI 0 → LayB h' 0 t → SEq C (nextP C (outP C s)) t → (∃ b, b ≤ m + 9000 ∧ t.brs = nI b) → Q none h') : CL d 208 [.ref 174] h Q := by
  have fin := fun h' (a : Agm bg0 h h') e207 e211 e61 e8 e96 (y : Value) => bg_fin (s := s) hd hM hC hu hb hb0 hW hP hm hTE hQ a e207 e211 e61 e8 e96 y
  have key2 := fun h' (a : Agm bg0 h h') e1 e2 e3 e4 => bg_62 hd hM hC ht fin 96 0 h' (by omega) a e1 e2 e3 e4 (fun j hj => by omega)
  have key1 := bg_21 hd hM hC key2
  have go := key1 8 0 (sI (sI (sI h 207 0 (nI 0)) 211 0 (nI 0)) 174 61 (nI 0)) rfl (Agm_trans (Agm_trans (Agm_sI (by unfold bg0; omega)) (Agm_sI (by unfold bg0; omega))) (Agm_sI (by unfold bg0; omega))) rfl rfl rfl (fun j hj => by omega)
  refine en208 (by omega) ?_
  obtain ⟨xN, ⟨ra0, ra1, ra2, ra3, ra4, ra5, ra6, ra7, ra8, ra9, ra10, ra11, ra12, ra13, ra14, ra15, ra16, ra17, ra18, ra19, ra20, ra21, ra22, ra23, ra24, ra25, ra26, ra27, ra28, ra29, ra30, ra31, ra32, ra33, ra34, ra35, ra36, ra37, ra38, ra39, ra40, ra41, ra42, ra43, ra44⟩, ⟨la0, la1, la2, la3, la4, la5, la6, la7, la8, la9, la10, la11, la12, la13, la14, la15, la16, la17, la18, la19, la20, la21, la22, la23, la24, la25, la26, la27, la28, la29, la30, la31, la32, la33, la34, la35, la36, la37, la38, la39, la40, la41, la42, la43, la44⟩⟩ := hM
  simp (disch := omega) only [g208_0, g208_1, g208_4, g208_5, g208_6, g208_7, g208_8, g208_11, g208_12, g208_13, g208_14, g208_15, g208_16, g208_19, g208_20, GN_nx, GN_rtn, GN_ck, GN_br, GN_cll, ldI_0, ldJ_0, ldR_0, ldI_s, ldJ_s, ldR_s, pI_c, pII_c, pJ_c, pJJ_c, pJI_c, pR_c, pRI_c, pRJ_c, pRR_c, pRII_c, pRIJ_c, pRIR_c, pCopy_c, pIe_c, pJe_c, pRe_c, pE_c, p1_i, p1_r, p11_ir, pA_0, pA_1, pA_2, pA_3, pA_4, pA_5, st1_0, st1_i, st1_r, st1_n, st1_u, st1_j, st1_s, st2_0, st2_i, st2_r, st2_n, st2_u, st2_j, st2_s, List.length_cons, List.length_nil, Nat.reduceAdd, Nat.reduceLT, Nat.reduceLeDiff, Nat.reduceEqDiff, Nat.zero_add, true_and, and_true, true_implies, not_true_eq_false, not_false_eq_true, false_implies, Option.toList_some, Option.toList_none, arr, inb, List.cons_append, List.nil_append, rv_some, rv_none, nlt_t, nlt_f, nle_t, nle_f, neq_f, ix_cl, ix_nn, ix_lt, cmp_le, cmp_lt, cmp_eq, cmp_lt0, cmp_ge0, cmp_eq0, cmp_gt0, cmp_le0, nI_mul, nI_add, nm1_ne, nm1_ne', one01, zero01, b2i_0, b2i_1, b2i_01, cmp_eq1, true_or, or_true, false_or, or_false, neq_t, hN_sI, hLn_sI, hR_sI, hL_sI, hI_sI, hN_sA, hLn_sA, hR_sA, hL_sA, hI_sA, hN_wI, hLn_wI, hR_wI, hL_wI, hI_wI, false_and, and_false, if_true, if_false, hN_fA, hLn_fA, hR_fA, hN_wrS, hLn_wrS, hR_wrS, hL_wrS, wS_day, wS_keeps, wS_brs, wS_first, wS_knows, wS_purse, wS_till, wS_valid, wS_kept, sS_day, sS_keeps, sS_brs, sS_first, sS_knows, sS_purse, sS_till, sS_valid, sS_kept, wrS_wrS, day_mk, knows_mk, purse_mk, till_mk, valid_mk, kept_mk, keeps_mk, brs_mk, first_mk, hN_wrU, hLn_wrU, hR_wrU, hL_wrU, wU_19, wU_20, sU_19, sU_20, upd_same, upd_upd, hN_wrR, hLn_wrR, hR_wrR, hL_wrR, bI_0, bI_01', bI_t1, eq_self, Bool.true_eq_false, Bool.false_eq_true, hN_wrC, hLn_wrC, hR_wrC, hL_wrC, lay_174, lay_175, lay_176, lay_177, lay_178, lay_179, lay_180, lay_181, lay_182, lay_183, lay_184, lay_185, lay_186, lay_187, lay_188, lay_189, lay_190, lay_191, lay_192, lay_193, lay_194, lay_195, lay_196, lay_197, lay_198, lay_199, lay_200, lay_201, lay_202, lay_203, lay_204, lay_205, lay_206, lay_207, lay_208, lay_209, lay_210, lay_211, lay_212, lay_213, lay_214, lay_215, lay_216, lay_217, lay_218, lay_219, hN_wrO, hLn_wrO, hR_wrO, hN_wrL, hLn_wrL, hR_wrL, hN_sL', hI_sL', hR_sL', hLn_sL', hN_wrF, hLn_wrF, hR_wrF,  ra0, ra1, ra2, ra3, ra4, ra5, ra6, ra7, ra8, ra9, ra10, ra11, ra12, ra13, ra14, ra15, ra16, ra17, ra18, ra19, ra20, ra21, ra22, ra23, ra24, ra25, ra26, ra27, ra28, ra29, ra30, ra31, ra32, ra33, ra34, ra35, ra36, ra37, ra38, ra39, ra40, ra41, ra42, ra43, ra44, la0, la1, la2, la3, la4, la5, la6, la7, la8, la9, la10, la11, la12, la13, la14, la15, la16, la17, la18, la19, la20, la21, la22, la23, la24, la25, la26, la27, la28, la29, la30, la31, la32, la33, la34, la35, la36, la37, la38, la39, la40, la41, la42, la43, la44]
  exact go
end XPR
