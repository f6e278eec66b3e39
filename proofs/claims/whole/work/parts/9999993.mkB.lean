/-! the reference: how it begins -/
def mkX (b _ : Nat) : Prop := b = 191 ∨ b = 192 ∨ b = 194 ∨ b = 210
section MKB
variable {d v i w : Nat} {h h' h0 : AH} {Q : Option Value → AH → Prop}
theorem mk_MoAt (m : MI h0 220 16090 rTm iTm jTm h) : MoAt h := by
  obtain ⟨m1, -, -, -, m5, -, -, m8⟩ := m
  have r : ∀ j, hR h 174 j = rTm j := fun j => by rw [m5]
  have l : ∀ a, 175 ≤ a → a < 220 → hLn h a = lnT a := fun a h1 h2 => (m8 a h1 h2).2.2
  exact ⟨by omega, ⟨(r 0).trans rfl, (r 14).trans rfl, (r 15).trans rfl, (r 16).trans rfl, (r 17).trans rfl, (r 18).trans rfl, (r 19).trans rfl, (r 20).trans rfl, (r 21).trans rfl, (r 22).trans rfl, (r 23).trans rfl, (r 24).trans rfl, (r 25).trans rfl, (r 26).trans rfl, (r 27).trans rfl, (r 28).trans rfl, (r 29).trans rfl, (r 30).trans rfl, (r 31).trans rfl, (r 32).trans rfl, (r 33).trans rfl, (r 34).trans rfl, (r 35).trans rfl, (r 36).trans rfl, (r 37).trans rfl, (r 40).trans rfl, (r 41).trans rfl, (r 42).trans rfl, (r 43).trans rfl, (r 44).trans rfl, (r 47).trans rfl, (r 50).trans rfl, (r 51).trans rfl, (r 52).trans rfl, (r 53).trans rfl, (r 54).trans rfl, (r 55).trans rfl, (r 56).trans rfl, (r 57).trans rfl, (r 58).trans rfl, (r 59).trans rfl, (r 63).trans rfl, (r 74).trans rfl, (r 76).trans rfl, (r 77).trans rfl⟩, ⟨(l 175 (by omega) (by omega)).trans rfl, (l 176 (by omega) (by omega)).trans rfl, (l 177 (by omega) (by omega)).trans rfl, (l 178 (by omega) (by omega)).trans rfl, (l 179 (by omega) (by omega)).trans rfl, (l 180 (by omega) (by omega)).trans rfl, (l 181 (by omega) (by omega)).trans rfl, (l 182 (by omega) (by omega)).trans rfl, (l 183 (by omega) (by omega)).trans rfl, (l 184 (by omega) (by omega)).trans rfl, (l 185 (by omega) (by omega)).trans rfl, (l 186 (by omega) (by omega)).trans rfl, (l 187 (by omega) (by omega)).trans rfl, (l 188 (by omega) (by omega)).trans rfl, (l 189 (by omega) (by omega)).trans rfl, (l 190 (by omega) (by omega)).trans rfl, (l 191 (by omega) (by omega)).trans rfl, (l 192 (by omega) (by omega)).trans rfl, (l 193 (by omega) (by omega)).trans rfl, (l 194 (by omega) (by omega)).trans rfl, (l 195 (by omega) (by omega)).trans rfl, (l 196 (by omega) (by omega)).trans rfl, (l 197 (by omega) (by omega)).trans rfl, (l 198 (by omega) (by omega)).trans rfl, (l 199 (by omega) (by omega)).trans rfl, (l 200 (by omega) (by omega)).trans rfl, (l 201 (by omega) (by omega)).trans rfl, (l 202 (by omega) (by omega)).trans rfl, (l 203 (by omega) (by omega)).trans rfl, (l 204 (by omega) (by omega)).trans rfl, (l 205 (by omega) (by omega)).trans rfl, (l 206 (by omega) (by omega)).trans rfl, (l 207 (by omega) (by omega)).trans rfl, (l 208 (by omega) (by omega)).trans rfl, (l 209 (by omega) (by omega)).trans rfl, (l 210 (by omega) (by omega)).trans rfl, (l 211 (by omega) (by omega)).trans rfl, (l 212 (by omega) (by omega)).trans rfl, (l 213 (by omega) (by omega)).trans rfl, (l 214 (by omega) (by omega)).trans rfl, (l 215 (by omega) (by omega)).trans rfl, (l 216 (by omega) (by omega)).trans rfl, (l 217 (by omega) (by omega)).trans rfl, (l 218 (by omega) (by omega)).trans rfl, (l 219 (by omega) (by omega)).trans rfl⟩⟩
theorem Lay_z (hv : v < 22) (z : ∀ b j, 207 ≤ b → b ≤ 215 → ¬ b = 210 → hI h b j = 0) (e : ∀ j, j < 2112 → hI h 210 j = -1) : Lay h v zeroS := by
  have p0 : ∀ w, w < 4 → partM 0 w = 0 := by decide +kernel
  intro q j hq
  revert j
  refine k9 (P := fun q => ∀ j, hI h (207 + q) j = rowL zeroS v q (hI h (207 + q)) j) ?_ ?_ ?_ ?_ ?_ ?_ ?_ ?_ ?_ q hq
  · intro j
    show hI h 207 j = if j = v then (0 : Int32) else hI h 207 j
    rw [z 207 j (by omega) (by omega) (by omega)]
    split <;> rfl
  · intro j
    show hI h 208 j = if 8 * v ≤ j ∧ j < 8 * v + 8 then (0 : Int32) else hI h 208 j
    rw [z 208 j (by omega) (by omega) (by omega)]
    split <;> rfl
  · intro j
    show hI h 209 j = if 8 * v ≤ j ∧ j < 8 * v + 8 then (0 : Int32) else hI h 209 j
    rw [z 209 j (by omega) (by omega) (by omega)]
    split <;> rfl
  · intro j
    show hI h 210 j = if 96 * v ≤ j ∧ j < 96 * v + 96 then (-1 : Int32) else hI h 210 j
    split
    · exact e j (by omega)
    · rfl
  · intro j
    show hI h 211 j = if j = v then (0 : Int32) else hI h 211 j
    rw [z 211 j (by omega) (by omega) (by omega)]
    split <;> rfl
  · intro j
    show hI h 212 j = if 40 * v ≤ j ∧ j < 40 * v + 40 then partM 0 0 else hI h 212 j
    rw [z 212 j (by omega) (by omega) (by omega), p0 0 (by omega)]
    split <;> rfl
  · intro j
    show hI h 213 j = if 40 * v ≤ j ∧ j < 40 * v + 40 then partM 0 1 else hI h 213 j
    rw [z 213 j (by omega) (by omega) (by omega), p0 1 (by omega)]
    split <;> rfl
  · intro j
    show hI h 214 j = if 40 * v ≤ j ∧ j < 40 * v + 40 then partM 0 2 else hI h 214 j
    rw [z 214 j (by omega) (by omega) (by omega), p0 2 (by omega)]
    split <;> rfl
  · intro j
    show hI h 215 j = if 40 * v ≤ j ∧ j < 40 * v + 40 then partM 0 3 else hI h 215 j
    rw [z 215 j (by omega) (by omega) (by omega), p0 3 (by omega)]
    split <;> rfl
theorem Agm_same {b : Nat} (a : Agm mkX h h') (hb : b < 174) : Same h h' b := ⟨by
  funext j
  exact Agm_I a (by unfold mkX; omega), by
  funext j
  exact Agm_L a (by unfold mkX; omega), by rw [a.2.2.2.1], by rw [a.2.2.1]⟩
theorem Mdl_new {t : Nat → Int32} (m : MI h0 220 16090 rTm iTm jTm h) (a : Agm mkX h h') (e191 : hI h' 191 0 = nI 20) (e192 : hI h' 192 0 = -1) (e194 : hI h' 194 0 = -1) (e210 : ∀ j, j < 2112 → hI h' 210 j = -1) : MdlAt h' 0 0 (A0 t) := by
  have hM := Mo_agm a (mk_MoAt m)
  obtain ⟨m1, -, -, -, m5, m6, m7, m8⟩ := m
  have f : ∀ j, hI h' 174 j = iTm j := fun j => (Agm_I a (by unfold mkX; omega)).trans (by rw [m6])
  have g : ∀ j, hL h' 174 j = jTm j := fun j => (Agm_L a (by unfold mkX; omega)).trans (by rw [m7])
  have z : ∀ b j, 175 ≤ b → b < 220 → ¬ (b = 191 ∨ b = 192 ∨ b = 194 ∨ b = 210) → hI h' b j = 0 := fun b j h1 h2 h3 => (Agm_I a h3).trans ((m8 b h1 h2).1 j)
  have lay0 : ∀ v, v < 22 → Lay h' v zeroS := fun v hv => Lay_z hv (fun b j h1 h2 h3 => z b j (by omega) (by omega) (by omega)) e210
  have no : ∀ {P : Nat → Prop} (i : Nat), i < 0 → P i := fun i hi => absurd hi (Nat.not_lt_zero i)
  refine ⟨zeroS, 0, 0, 0, hM, ?_, ⟨Or.inl ⟨rfl, e192⟩, Or.inl ⟨rfl, e194⟩⟩, trivial, ⟨fun i hi => no i hi, fun i hi => no i hi⟩, ⟨⟨(f 69).trans rfl, (f 70).trans (show iTm 70 = partM 0 0 by decide +kernel), (f 71).trans (show iTm 71 = partM 0 1 by decide +kernel), (f 72).trans (show iTm 72 = partM 0 2 by decide +kernel), (f 73).trans (show iTm 73 = partM 0 3 by decide +kernel)⟩, Nat.le_refl _⟩, lay0 0 (by omega), SEq_refl, fun v hv => ⟨_, lay0 v hv⟩, ⟨(f 60).trans rfl, by omega, (f 61).trans rfl, Nat.zero_le _, fun k s hk => by cases hk⟩, (g 62).trans (show jTm 62 = (1 : Int32).toInt64 by decide +kernel), fun k hk => z 206 k (by omega) (by omega) (by omega), ⟨(f 1).trans rfl, Nat.zero_le _, fun k hk => no k hk⟩, ⟨(f 10).trans rfl, (f 11).trans rfl⟩, ⟨(f 78).trans rfl, Nat.zero_le _, fun k hk => no k hk⟩⟩
  have y : ∀ b j, 175 ≤ b → b < 220 → ¬ (b = 191 ∨ b = 192 ∨ b = 194 ∨ b = 210) → hI h' b j = nI 0 := z
  exact ⟨(f 13).trans rfl, Nat.zero_le _, ⟨y 176 0 (by omega) (by omega) (by omega), Nat.zero_le _⟩, ⟨y 179 0 (by omega) (by omega) (by omega), Nat.zero_le _⟩, ⟨y 182 0 (by omega) (by omega) (by omega), Nat.zero_le _⟩, ⟨y 185 0 (by omega) (by omega) (by omega), Nat.zero_le _⟩, e191, fun i hi => no i hi, fun i hi => no i hi, fun i hi => no i hi, fun i hi => no i hi, fun i hi => no i hi, fun i hi => no i hi, fun i hi => no i hi, fun i hi => no i hi, fun i hi => no i hi, fun i hi => no i hi, fun i hi => no i hi, fun i hi => no i hi⟩
theorem SI_z0 {t : Nat → Int32} : SI (C0 t) 0 0 zeroS := ⟨rfl, by omega, ⟨0, Nat.zero_le _, rfl⟩, fun _ _ _ _ _ => rfl, fun i _ => (fv_none (till := fun _ => -1) (day := 0) (i := i) (fun _ _ => (show (-1 : Int32) < 0 by decide))).symm, ⟨0, Nat.le_refl _, rfl⟩, fun _ _ => ⟨0, Nat.two_pow_pos _, rfl⟩, fun _ _ _ => rfl⟩
theorem INV_init {t : Nat → Int32} : INV (A0 t) := by
  have no : ∀ {P : Nat → Prop} (i : Nat), i < 0 → P i := fun i hi => absurd hi (Nat.not_lt_zero i)
  refine ⟨⟨⟨Nat.zero_le _, Nat.zero_le _, Nat.zero_le _, Nat.zero_le _⟩, fun i hi => no i hi, fun i hi => no i hi, ⟨20, by omega, rfl⟩, fun i hi => no i hi, fun i hi => no i hi, fun i hi => no i hi, fun i hi => no i hi⟩, ⟨⟨20, by omega, (show nI 20 - cvM (fun _ => (0 : Int32)) = nI 20 by decide +kernel)⟩, 0, 0, by omega, SI_z0⟩, fun s hs => (by cases hs), (show (0 : Int32) ≤ 1 by decide)⟩
theorem TyI_init {t : Nat → Int32} : TyI (A0 t) := fun _ _ => ⟨0, by omega, (show (0 : Int32) = byM (nI 0) by decide)⟩
theorem mk_562 {h1 : AH} (hM : MoAt h1) (hQ : ∀ h', Agm (fun b _ => b = 210) h1 h' → (∀ j, j < 2112 → hI h' 210 j = -1) → Q none h') : ∀ (k i : Nat) (h' : AH), i + k = 2112 → Agm (fun b _ => b = 210) h1 h' → (∀ j, j < i → hI h' 210 j = -1) → G (d - 1) 155 562 [.ref 174, .int (nI i)] [] h' Q := by
  intro k
  induction k with
  | zero =>
    intro i h' hi a e
    obtain rfl : i = 2112 := by omega
    have hM1 := Mo_agm a hM
    have f := hQ h' a e
    obtain ⟨xN, ⟨ra0, ra1, ra2, ra3, ra4, ra5, ra6, ra7, ra8, ra9, ra10, ra11, ra12, ra13, ra14, ra15, ra16, ra17, ra18, ra19, ra20, ra21, ra22, ra23, ra24, ra25, ra26, ra27, ra28, ra29, ra30, ra31, ra32, ra33, ra34, ra35, ra36, ra37, ra38, ra39, ra40, ra41, ra42, ra43, ra44⟩, ⟨la0, la1, la2, la3, la4, la5, la6, la7, la8, la9, la10, la11, la12, la13, la14, la15, la16, la17, la18, la19, la20, la21, la22, la23, la24, la25, la26, la27, la28, la29, la30, la31, la32, la33, la34, la35, la36, la37, la38, la39, la40, la41, la42, la43, la44⟩⟩ := hM1
    rw [g155_562]
    simp (disch := omega) only [g155_563, g155_566, g155_582, GN_nx, GN_rtn, GN_ck, GN_br, GN_cll, ldI_0, ldJ_0, ldR_0, ldI_s, ldJ_s, ldR_s, pI_c, pII_c, pJ_c, pJJ_c, pJI_c, pR_c, pRI_c, pRJ_c, pRR_c, pRII_c, pRIJ_c, pRIR_c, pCopy_c, pIe_c, pJe_c, pRe_c, pE_c, p1_i, p1_r, p11_ir, pA_0, pA_1, pA_2, pA_3, pA_4, pA_5, st1_0, st1_i, st1_r, st1_n, st1_u, st1_j, st1_s, st2_0, st2_i, st2_r, st2_n, st2_u, st2_j, st2_s, List.length_cons, List.length_nil, Nat.reduceAdd, Nat.reduceLT, Nat.reduceLeDiff, Nat.reduceEqDiff, Nat.zero_add, true_and, and_true, true_implies, not_true_eq_false, not_false_eq_true, false_implies, Option.toList_some, Option.toList_none, arr, inb, List.cons_append, List.nil_append, rv_some, rv_none, nlt_t, nlt_f, nle_t, nle_f, neq_f, ix_cl, ix_nn, ix_lt, cmp_le, cmp_lt, cmp_eq, cmp_lt0, cmp_ge0, cmp_eq0, cmp_gt0, cmp_le0, nI_mul, nI_add, nm1_ne, nm1_ne', one01, zero01, b2i_0, b2i_1, b2i_01, cmp_eq1, true_or, or_true, false_or, or_false, neq_t, hN_sI, hLn_sI, hR_sI, hL_sI, hI_sI, hN_sA, hLn_sA, hR_sA, hL_sA, hI_sA, hN_wI, hLn_wI, hR_wI, hL_wI, hI_wI, false_and, and_false, if_true, if_false, hN_fA, hLn_fA, hR_fA, hN_wrS, hLn_wrS, hR_wrS, hL_wrS, wS_day, wS_keeps, wS_brs, wS_first, wS_knows, wS_purse, wS_till, wS_valid, wS_kept, sS_day, sS_keeps, sS_brs, sS_first, sS_knows, sS_purse, sS_till, sS_valid, sS_kept, wrS_wrS, day_mk, knows_mk, purse_mk, till_mk, valid_mk, kept_mk, keeps_mk, brs_mk, first_mk, hN_wrU, hLn_wrU, hR_wrU, hL_wrU, wU_19, wU_20, sU_19, sU_20, upd_same, upd_upd, hN_wrR, hLn_wrR, hR_wrR, hL_wrR, bI_0, bI_01', bI_t1, eq_self, Bool.true_eq_false, Bool.false_eq_true, hN_wrC, hLn_wrC, hR_wrC, hL_wrC, lay_174, lay_175, lay_176, lay_177, lay_178, lay_179, lay_180, lay_181, lay_182, lay_183, lay_184, lay_185, lay_186, lay_187, lay_188, lay_189, lay_190, lay_191, lay_192, lay_193, lay_194, lay_195, lay_196, lay_197, lay_198, lay_199, lay_200, lay_201, lay_202, lay_203, lay_204, lay_205, lay_206, lay_207, lay_208, lay_209, lay_210, lay_211, lay_212, lay_213, lay_214, lay_215, lay_216, lay_217, lay_218, lay_219, hN_wrO, hLn_wrO, hR_wrO, hN_wrL, hLn_wrL, hR_wrL, hN_sL', hI_sL', hR_sL', hLn_sL', hN_wrF, hLn_wrF, hR_wrF,  ra0, ra1, ra2, ra3, ra4, ra5, ra6, ra7, ra8, ra9, ra10, ra11, ra12, ra13, ra14, ra15, ra16, ra17, ra18, ra19, ra20, ra21, ra22, ra23, ra24, ra25, ra26, ra27, ra28, ra29, ra30, ra31, ra32, ra33, ra34, ra35, ra36, ra37, ra38, ra39, ra40, ra41, ra42, ra43, ra44, la0, la1, la2, la3, la4, la5, la6, la7, la8, la9, la10, la11, la12, la13, la14, la15, la16, la17, la18, la19, la20, la21, la22, la23, la24, la25, la26, la27, la28, la29, la30, la31, la32, la33, la34, la35, la36, la37, la38, la39, la40, la41, la42, la43, la44]
    exact f
  | succ k ih =>
    intro i h' hi a e
    have hM1 := Mo_agm a hM
    have go := ih (i + 1) (sI h' 210 i (-1)) (by omega) (Agm_trans a (Agm_sI rfl)) (fun j hj => by
      rw [hI_sI]
      by_cases z : j = i
      · rw [if_pos ⟨rfl, z⟩]
      · rw [if_neg (fun y => z y.2)]
        exact e j (by omega))
    obtain ⟨xN, ⟨ra0, ra1, ra2, ra3, ra4, ra5, ra6, ra7, ra8, ra9, ra10, ra11, ra12, ra13, ra14, ra15, ra16, ra17, ra18, ra19, ra20, ra21, ra22, ra23, ra24, ra25, ra26, ra27, ra28, ra29, ra30, ra31, ra32, ra33, ra34, ra35, ra36, ra37, ra38, ra39, ra40, ra41, ra42, ra43, ra44⟩, ⟨la0, la1, la2, la3, la4, la5, la6, la7, la8, la9, la10, la11, la12, la13, la14, la15, la16, la17, la18, la19, la20, la21, la22, la23, la24, la25, la26, la27, la28, la29, la30, la31, la32, la33, la34, la35, la36, la37, la38, la39, la40, la41, la42, la43, la44⟩⟩ := hM1
    rw [g155_562]
    simp (disch := omega) only [g155_563, g155_566, g155_569, g155_570, g155_573, g155_574, g155_575, g155_576, g155_579, GN_nx, GN_rtn, GN_ck, GN_br, GN_cll, ldI_0, ldJ_0, ldR_0, ldI_s, ldJ_s, ldR_s, pI_c, pII_c, pJ_c, pJJ_c, pJI_c, pR_c, pRI_c, pRJ_c, pRR_c, pRII_c, pRIJ_c, pRIR_c, pCopy_c, pIe_c, pJe_c, pRe_c, pE_c, p1_i, p1_r, p11_ir, pA_0, pA_1, pA_2, pA_3, pA_4, pA_5, st1_0, st1_i, st1_r, st1_n, st1_u, st1_j, st1_s, st2_0, st2_i, st2_r, st2_n, st2_u, st2_j, st2_s, List.length_cons, List.length_nil, Nat.reduceAdd, Nat.reduceLT, Nat.reduceLeDiff, Nat.reduceEqDiff, Nat.zero_add, true_and, and_true, true_implies, not_true_eq_false, not_false_eq_true, false_implies, Option.toList_some, Option.toList_none, arr, inb, List.cons_append, List.nil_append, rv_some, rv_none, nlt_t, nlt_f, nle_t, nle_f, neq_f, ix_cl, ix_nn, ix_lt, cmp_le, cmp_lt, cmp_eq, cmp_lt0, cmp_ge0, cmp_eq0, cmp_gt0, cmp_le0, nI_mul, nI_add, nm1_ne, nm1_ne', one01, zero01, b2i_0, b2i_1, b2i_01, cmp_eq1, true_or, or_true, false_or, or_false, neq_t, hN_sI, hLn_sI, hR_sI, hL_sI, hI_sI, hN_sA, hLn_sA, hR_sA, hL_sA, hI_sA, hN_wI, hLn_wI, hR_wI, hL_wI, hI_wI, false_and, and_false, if_true, if_false, hN_fA, hLn_fA, hR_fA, hN_wrS, hLn_wrS, hR_wrS, hL_wrS, wS_day, wS_keeps, wS_brs, wS_first, wS_knows, wS_purse, wS_till, wS_valid, wS_kept, sS_day, sS_keeps, sS_brs, sS_first, sS_knows, sS_purse, sS_till, sS_valid, sS_kept, wrS_wrS, day_mk, knows_mk, purse_mk, till_mk, valid_mk, kept_mk, keeps_mk, brs_mk, first_mk, hN_wrU, hLn_wrU, hR_wrU, hL_wrU, wU_19, wU_20, sU_19, sU_20, upd_same, upd_upd, hN_wrR, hLn_wrR, hR_wrR, hL_wrR, bI_0, bI_01', bI_t1, eq_self, Bool.true_eq_false, Bool.false_eq_true, hN_wrC, hLn_wrC, hR_wrC, hL_wrC, lay_174, lay_175, lay_176, lay_177, lay_178, lay_179, lay_180, lay_181, lay_182, lay_183, lay_184, lay_185, lay_186, lay_187, lay_188, lay_189, lay_190, lay_191, lay_192, lay_193, lay_194, lay_195, lay_196, lay_197, lay_198, lay_199, lay_200, lay_201, lay_202, lay_203, lay_204, lay_205, lay_206, lay_207, lay_208, lay_209, lay_210, lay_211, lay_212, lay_213, lay_214, lay_215, lay_216, lay_217, lay_218, lay_219, hN_wrO, hLn_wrO, hR_wrO, hN_wrL, hLn_wrL, hR_wrL, hN_sL', hI_sL', hR_sL', hLn_sL', hN_wrF, hLn_wrF, hR_wrF,  ra0, ra1, ra2, ra3, ra4, ra5, ra6, ra7, ra8, ra9, ra10, ra11, ra12, ra13, ra14, ra15, ra16, ra17, ra18, ra19, ra20, ra21, ra22, ra23, ra24, ra25, ra26, ra27, ra28, ra29, ra30, ra31, ra32, ra33, ra34, ra35, ra36, ra37, ra38, ra39, ra40, ra41, ra42, ra43, ra44, la0, la1, la2, la3, la4, la5, la6, la7, la8, la9, la10, la11, la12, la13, la14, la15, la16, la17, la18, la19, la20, la21, la22, la23, la24, la25, la26, la27, la28, la29, la30, la31, la32, la33, la34, la35, la36, la37, la38, la39, la40, la41, la42, la43, la44]
    exact go
theorem Mo_init (hd : 1 ≤ d) (hN0 : hN h0 = 175) (hz : hI h0 174 = fun _ => 0) (hzl : hL h0 174 = fun _ => 0) (hzr : hR h0 174 = fun _ => none) (hQ : ∀ h', (∀ t, MdlAt h' 0 0 (A0 t)) → hN h' = 220 → hW h' = hW h0 + 16090 → hS h' = hS h0 → (∀ a, a < 174 → Same h0 h' a) → Q none h') : CL d 155 [.ref 174] h0 Q := by
  have m0 : MI h0 175 0 (fun _ => none) (fun _ => 0) (fun _ => 0) h0 := ⟨hN0, rfl, rfl, fun a _ => Same_refl, hzr, hz, hzl, fun a h1 h2 => by omega⟩
  refine en155 hd ?_
  have hx : 174 < hN h0 := by omega
  have go := mk_run (d := d) (Q := Q) m0 (fun h m => by
    have hM := mk_MoAt m
    have hM' := hM
    have aM : Agm mkX h (sI (sI (sI h 192 0 (-1)) 194 0 (-1)) 191 0 (nI 20)) := Agm_trans (Agm_trans (Agm_sI (by unfold mkX; omega)) (Agm_sI (by unfold mkX; omega))) (Agm_sI (by unfold mkX; omega))
    have f := mk_562 (d := d) (Q := Q) (Mo_agm aM hM') (fun h2 a2 e => by
      have a3 : Agm mkX h h2 := Agm_trans aM (Agm_sub (fun b j z => Or.inr (Or.inr (Or.inr z))) a2)
      have b3 := a3
      have eN : hN h2 = hN h := a3.1
      have eW : hW h2 = hW h := a3.2.1
      refine hQ h2 (fun t => Mdl_new m a3 ((Agm_I a2 (show ¬ (191 = 210) by omega)).trans rfl) ((Agm_I a2 (show ¬ (192 = 210) by omega)).trans rfl) ((Agm_I a2 (show ¬ (194 = 210) by omega)).trans rfl) e) (eN.trans m.1) (eW.trans m.2.1) (a3.2.2.2.2.1.trans m.2.2.1) (fun a ha => Same_trans (m.2.2.2.1 a ha) (Agm_same a3 ha))) 2112 0 _ rfl Agm_refl (fun j hj => absurd hj (Nat.not_lt_zero j))
    obtain ⟨xN, ⟨ra0, ra1, ra2, ra3, ra4, ra5, ra6, ra7, ra8, ra9, ra10, ra11, ra12, ra13, ra14, ra15, ra16, ra17, ra18, ra19, ra20, ra21, ra22, ra23, ra24, ra25, ra26, ra27, ra28, ra29, ra30, ra31, ra32, ra33, ra34, ra35, ra36, ra37, ra38, ra39, ra40, ra41, ra42, ra43, ra44⟩, ⟨la0, la1, la2, la3, la4, la5, la6, la7, la8, la9, la10, la11, la12, la13, la14, la15, la16, la17, la18, la19, la20, la21, la22, la23, la24, la25, la26, la27, la28, la29, la30, la31, la32, la33, la34, la35, la36, la37, la38, la39, la40, la41, la42, la43, la44⟩⟩ := hM
    simp (disch := omega) only [g155_538, g155_539, g155_542, g155_543, g155_544, g155_545, g155_546, g155_549, g155_550, g155_551, g155_552, g155_553, g155_556, g155_557, g155_559, g155_560, g155_561, GN_nx, GN_rtn, GN_ck, GN_br, GN_cll, ldI_0, ldJ_0, ldR_0, ldI_s, ldJ_s, ldR_s, pI_c, pII_c, pJ_c, pJJ_c, pJI_c, pR_c, pRI_c, pRJ_c, pRR_c, pRII_c, pRIJ_c, pRIR_c, pCopy_c, pIe_c, pJe_c, pRe_c, pE_c, p1_i, p1_r, p11_ir, pA_0, pA_1, pA_2, pA_3, pA_4, pA_5, st1_0, st1_i, st1_r, st1_n, st1_u, st1_j, st1_s, st2_0, st2_i, st2_r, st2_n, st2_u, st2_j, st2_s, List.length_cons, List.length_nil, Nat.reduceAdd, Nat.reduceLT, Nat.reduceLeDiff, Nat.reduceEqDiff, Nat.zero_add, true_and, and_true, true_implies, not_true_eq_false, not_false_eq_true, false_implies, Option.toList_some, Option.toList_none, arr, inb, List.cons_append, List.nil_append, rv_some, rv_none, nlt_t, nlt_f, nle_t, nle_f, neq_f, ix_cl, ix_nn, ix_lt, cmp_le, cmp_lt, cmp_eq, cmp_lt0, cmp_ge0, cmp_eq0, cmp_gt0, cmp_le0, nI_mul, nI_add, nm1_ne, nm1_ne', one01, zero01, b2i_0, b2i_1, b2i_01, cmp_eq1, true_or, or_true, false_or, or_false, neq_t, hN_sI, hLn_sI, hR_sI, hL_sI, hI_sI, hN_sA, hLn_sA, hR_sA, hL_sA, hI_sA, hN_wI, hLn_wI, hR_wI, hL_wI, hI_wI, false_and, and_false, if_true, if_false, hN_fA, hLn_fA, hR_fA, hN_wrS, hLn_wrS, hR_wrS, hL_wrS, wS_day, wS_keeps, wS_brs, wS_first, wS_knows, wS_purse, wS_till, wS_valid, wS_kept, sS_day, sS_keeps, sS_brs, sS_first, sS_knows, sS_purse, sS_till, sS_valid, sS_kept, wrS_wrS, day_mk, knows_mk, purse_mk, till_mk, valid_mk, kept_mk, keeps_mk, brs_mk, first_mk, hN_wrU, hLn_wrU, hR_wrU, hL_wrU, wU_19, wU_20, sU_19, sU_20, upd_same, upd_upd, hN_wrR, hLn_wrR, hR_wrR, hL_wrR, bI_0, bI_01', bI_t1, eq_self, Bool.true_eq_false, Bool.false_eq_true, hN_wrC, hLn_wrC, hR_wrC, hL_wrC, lay_174, lay_175, lay_176, lay_177, lay_178, lay_179, lay_180, lay_181, lay_182, lay_183, lay_184, lay_185, lay_186, lay_187, lay_188, lay_189, lay_190, lay_191, lay_192, lay_193, lay_194, lay_195, lay_196, lay_197, lay_198, lay_199, lay_200, lay_201, lay_202, lay_203, lay_204, lay_205, lay_206, lay_207, lay_208, lay_209, lay_210, lay_211, lay_212, lay_213, lay_214, lay_215, lay_216, lay_217, lay_218, lay_219, hN_wrO, hLn_wrO, hR_wrO, hN_wrL, hLn_wrL, hR_wrL, hN_sL', hI_sL', hR_sL', hLn_sL', hN_wrF, hLn_wrF, hR_wrF,  ra0, ra1, ra2, ra3, ra4, ra5, ra6, ra7, ra8, ra9, ra10, ra11, ra12, ra13, ra14, ra15, ra16, ra17, ra18, ra19, ra20, ra21, ra22, ra23, ra24, ra25, ra26, ra27, ra28, ra29, ra30, ra31, ra32, ra33, ra34, ra35, ra36, ra37, ra38, ra39, ra40, ra41, ra42, ra43, ra44, la0, la1, la2, la3, la4, la5, la6, la7, la8, la9, la10, la11, la12, la13, la14, la15, la16, la17, la18, la19, la20, la21, la22, la23, la24, la25, la26, la27, la28, la29, la30, la31, la32, la33, la34, la35, la36, la37, la38, la39, la40, la41, la42, la43, la44]
    exact f)
  simp (disch := omega) only [g155_0, g155_1, GN_nx, GN_rtn, GN_ck, GN_br, GN_cll, ldI_0, ldJ_0, ldR_0, ldI_s, ldJ_s, ldR_s, pI_c, pII_c, pJ_c, pJJ_c, pJI_c, pR_c, pRI_c, pRJ_c, pRR_c, pRII_c, pRIJ_c, pRIR_c, pCopy_c, pIe_c, pJe_c, pRe_c, pE_c, p1_i, p1_r, p11_ir, pA_0, pA_1, pA_2, pA_3, pA_4, pA_5, st1_0, st1_i, st1_r, st1_n, st1_u, st1_j, st1_s, st2_0, st2_i, st2_r, st2_n, st2_u, st2_j, st2_s, List.length_cons, List.length_nil, Nat.reduceAdd, Nat.reduceLT, Nat.reduceLeDiff, Nat.reduceEqDiff, Nat.zero_add, true_and, and_true, true_implies, not_true_eq_false, not_false_eq_true, false_implies, Option.toList_some, Option.toList_none, arr, inb, List.cons_append, List.nil_append, rv_some, rv_none, nlt_t, nlt_f, nle_t, nle_f, neq_f, ix_cl, ix_nn, ix_lt, cmp_le, cmp_lt, cmp_eq, cmp_lt0, cmp_ge0, cmp_eq0, cmp_gt0, cmp_le0, nI_mul, nI_add, nm1_ne, nm1_ne', one01, zero01, b2i_0, b2i_1, b2i_01, cmp_eq1, true_or, or_true, false_or, or_false, neq_t, hN_sI, hLn_sI, hR_sI, hL_sI, hI_sI, hN_sA, hLn_sA, hR_sA, hL_sA, hI_sA, hN_wI, hLn_wI, hR_wI, hL_wI, hI_wI, false_and, and_false, if_true, if_false, hN_fA, hLn_fA, hR_fA, hN_wrS, hLn_wrS, hR_wrS, hL_wrS, wS_day, wS_keeps, wS_brs, wS_first, wS_knows, wS_purse, wS_till, wS_valid, wS_kept, sS_day, sS_keeps, sS_brs, sS_first, sS_knows, sS_purse, sS_till, sS_valid, sS_kept, wrS_wrS, day_mk, knows_mk, purse_mk, till_mk, valid_mk, kept_mk, keeps_mk, brs_mk, first_mk, hN_wrU, hLn_wrU, hR_wrU, hL_wrU, wU_19, wU_20, sU_19, sU_20, upd_same, upd_upd, hN_wrR, hLn_wrR, hR_wrR, hL_wrR, bI_0, bI_01', bI_t1, eq_self, Bool.true_eq_false, Bool.false_eq_true, hN_wrC, hLn_wrC, hR_wrC, hL_wrC, lay_174, lay_175, lay_176, lay_177, lay_178, lay_179, lay_180, lay_181, lay_182, lay_183, lay_184, lay_185, lay_186, lay_187, lay_188, lay_189, lay_190, lay_191, lay_192, lay_193, lay_194, lay_195, lay_196, lay_197, lay_198, lay_199, lay_200, lay_201, lay_202, lay_203, lay_204, lay_205, lay_206, lay_207, lay_208, lay_209, lay_210, lay_211, lay_212, lay_213, lay_214, lay_215, lay_216, lay_217, lay_218, lay_219, hN_wrO, hLn_wrO, hR_wrO, hN_wrL, hLn_wrL, hR_wrL, hN_sL', hI_sL', hR_sL', hLn_sL', hN_wrF, hLn_wrF, hR_wrF]
  exact go
end MKB
