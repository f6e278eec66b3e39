/-! BlissMarket: capital, the call -/
/-- what the model looks at stays -/
def FrC (h h' : AH) : Prop := hN h ≤ hN h' ∧ hS h' = hS h ∧ ∀ a, 174 ≤ a → a ≤ 219 → hI h' a = hI h a ∧ hLn h' a = hLn h a ∧ hL h' a = hL h a ∧ hR h' a = hR h a
theorem FrC_agr {h h' : AH} (a : Agr clsX h h') : FrC h h' := by
  obtain ⟨a0, a1, a2, a3, a4, a5, a6⟩ := a
  refine ⟨Nat.le_of_eq a0.symm, a5, fun b b1 b2 => ⟨a6 b (by unfold clsX; omega), by rw [a2], by rw [a4], by rw [a3]⟩⟩
theorem sml_of {K : KK} : KW K → KI K := fun h => h.1
section CAPI
variable {d c e p q : Nat} {C : PC} {A : AS} {h : AH} {Q : Option Value → AH → Prop} {s : PS}
def capF (A : AS) (b : Nat → Int32) (r : Int32 × RS × XK) : AS := refA (mkA A.C A.fn A.pn A.now A.past A.seed A.ref 0 b (r.2.1.1 0) (r.2.1.1 1) A.zn A.zb) 1
def capG (A : AS) (b : Nat → Int32) (r : Int32 × RS × XK) : AS := mkA (toPC r.2.2) (r.2.2.1 1) (r.2.2.1 6) (nextP (toPC r.2.2) (outP (toPC r.2.2) A.now)) [] A.seed A.ref 0 b (r.2.1.1 0) (r.2.1.1 1) A.zn A.zb
theorem C_capital (hd : 120 ≤ d) (hA : ClsAt h c e p q A) (hN1 : hN h ≤ 90000)
  (hQ0 : ∀ h' K f g, f 14 = hI h 2 14 → (txR (hI h 1) A.tn K (f, g)).1 = -1 → ClsAt h' c e p q (capF A (hI h 1) (txR (hI h 1) A.tn K (f, g))) → FrC h h' → hN h' ≤ hN h + 2 → hW h' ≤ hW h + 3200 → Q (some (.int (-1))) h')
  (hQ1 : ∀ h' K f g, f 14 = hI h 2 14 → ¬ (txR (hI h 1) A.tn K (f, g)).1 = -1 → ClsAt h' e c p q (capG A (hI h 1) (txR (hI h 1) A.tn K (f, g))) → FrC h h' → hN h' ≤ hN h + 2 → hW h' ≤ hW h + 3200 → Q (some (.int (txR (hI h 1) A.tn K (f, g)).1)) h') : CL d 107 [.ref 0] h Q := by
  have hA' := hA
  obtain ⟨hF, hC, vfn, vpn, vnow, vkb, vpast, vseed, vref, ⟨vtn, vtn6⟩, vtp, vfk, vfp, ⟨vzn, vzn7⟩, vzb, vcd⟩ := hA
  have hsc := (Fa_dj hF).2.2
  have hF' := hF
  have hT := Cls_tape (n := 0) (g := hI h 1) hA' (Nat.zero_le _)
  have e1 : sI h 0 10 (nI 0) = wrT h (nI 0) (hI h 1) := by
    have := sT_0 (h := h) (v := hI h 0 10) (g := hI h 1) (x := nI 0)
    rw [wrT_self] at this
    exact this
  rw [← e1] at hT
  have eb : hI (sI h 0 10 (nI 0)) 1 = hI h 1 := hI_sI_ne (by omega)
  have eW : hW (sI h 0 10 (nI 0)) = hW h := rfl
  have e14 : hI (sI h 0 10 (nI 0)) 2 = hI h 2 := hI_sI_ne (by omega)
  obtain ⟨o0, oN, o1, o2, o3, o4, o5, o6, o7, o8, o9, oA, ⟨oB, oC, oD⟩, ⟨oE, oF⟩, oG, oH, oI, oJ, oK, oL, oM, oP, oQ, oR⟩ := hF
  refine en107 (by omega) ?_
  simp (disch := omega) only [g107_0, g107_1, g107_4, g107_5, g107_6, g107_7, g107_10, g107_11, g107_14, g107_15, g107_18, g107_19, g107_20, g107_23, GN_nx, GN_rtn, GN_ck, GN_br, GN_cll, ldI_0, ldJ_0, ldR_0, ldI_s, ldJ_s, ldR_s, pI_c, pII_c, pJ_c, pJJ_c, pJI_c, pR_c, pRI_c, pRJ_c, pRR_c, pRII_c, pRIJ_c, pRIR_c, pCopy_c, pIe_c, pJe_c, pRe_c, pE_c, p1_i, p1_r, p11_ir, pA_0, pA_1, pA_2, pA_3, pA_4, pA_5, st1_0, st1_i, st1_r, st1_n, st1_u, st1_j, st1_s, st2_0, st2_i, st2_r, st2_n, st2_u, st2_j, st2_s, List.length_cons, List.length_nil, Nat.reduceAdd, Nat.reduceLT, Nat.reduceLeDiff, Nat.reduceEqDiff, Nat.zero_add, true_and, and_true, true_implies, not_true_eq_false, not_false_eq_true, false_implies, Option.toList_some, Option.toList_none, arr, inb, List.cons_append, List.nil_append, rv_some, rv_none, nlt_t, nlt_f, nle_t, nle_f, neq_f, ix_cl, ix_nn, ix_lt, cmp_le, cmp_lt, cmp_eq, cmp_lt0, cmp_ge0, cmp_eq0, cmp_gt0, cmp_le0, nI_mul, nI_add, nm1_ne, nm1_ne', one01, zero01, b2i_0, b2i_1, b2i_01, cmp_eq1, true_or, or_true, false_or, or_false, neq_t, hN_sI, hLn_sI, hR_sI, hL_sI, hI_sI, hN_sA, hLn_sA, hR_sA, hL_sA, hI_sA, hN_wI, hLn_wI, hR_wI, hL_wI, hI_wI, false_and, and_false, if_true, if_false, hN_fA, hLn_fA, hR_fA, hN_wrS, hLn_wrS, hR_wrS, hL_wrS, wS_day, wS_keeps, wS_brs, wS_first, wS_knows, wS_purse, wS_till, wS_valid, wS_kept, sS_day, sS_keeps, sS_brs, sS_first, sS_knows, sS_purse, sS_till, sS_valid, sS_kept, wrS_wrS, day_mk, knows_mk, purse_mk, till_mk, valid_mk, kept_mk, keeps_mk, brs_mk, first_mk, hN_wrU, hLn_wrU, hR_wrU, hL_wrU, wU_19, wU_20, sU_19, sU_20, upd_same, upd_upd, hN_wrR, hLn_wrR, hR_wrR, hL_wrR, bI_0, bI_01', bI_t1, eq_self, Bool.true_eq_false, Bool.false_eq_true, hN_wrC, hLn_wrC, hR_wrC, hL_wrC,  o0, o1, o2, o3, o4, o5, o6, o7, o8, o9, oA, oB, oC, oE, oF, vtn, oQ.1]
  generalize hb : hI h 1 = b at *
  generalize sI h 0 10 (nI 0) = H at *
  obtain ⟨hT1, hT2⟩ := hT
  have eN : hN H = hN h := hT2.1
  have eLn : hLn H = hLn h := hT2.2.2.1
  have eR : hR H = hR h := hT2.2.2.2.1
  have eL : hL H = hL h := hT2.2.2.2.2.1
  have eS : hS H = hS h := hT2.2.2.2.2.2.1
  have hT3 := hT1
  obtain ⟨hF1, hC1, wfn, wpn, wnow, wkb, wpast, wseed, wref, ⟨wtn, wtn6⟩, wtp, wfk, wfp, ⟨wzn, wzn7⟩, wzb, wcd⟩ := hT1
  have eCap : CapAt H e := by
    have z := hF1
    obtain ⟨o0, oN, o1, o2, o3, o4, o5, o6, o7, o8, o9, oA, ⟨oB, oC, oD⟩, ⟨oE, oF⟩, oG, oH, oI, oJ, oK, oL, oM, oP, oQ, oR⟩ := z
    exact oL
  have hee : 4 < e := by omega
  have hid : wrR (wrC H e (fun k => hI H (e + k))) (hI H 2) (hI H 3) = H := by
    rw [wrC_self, wrR_self]
  have rb : ∀ a i, ¬ (a = 2 ∧ (i = 2 ∨ i = 5)) → ¬ (a = e ∧ (i = 18 ∨ i = 19)) → hR (basH H e) a i = hR H a i := fun a i z1 z2 => by
    unfold basH
    rw [hR_sR, if_neg (by omega), hR_sR, if_neg (by omega), hR_sR, if_neg (by omega), hR_sR, if_neg (by omega)]
  have hRd : RdAt (basH H e) b := by
    refine ⟨oQ.1, by show 219 < hN H; omega, ?_, ?_, ⟨oQ.2.2.1, by show hLn H 3 = 1600; rw [eLn]; exact oQ.2.2.2⟩, ?_, oR.2.1, by show hLn H 4 = 26; rw [eLn]; exact oR.2.2.1, ⟨oB, by show hLn H 1 = 1600; rw [eLn]; exact oC⟩, fun k hk => by show hL H 4 k = ownV k; rw [eL]; exact oR.2.2.2 k hk, eb⟩
    · unfold basH
      rw [hR_sR, if_neg (by omega), hR_sR, if_neg (by omega), hR_sR, if_neg (by omega), hR_sR, if_pos ⟨rfl, rfl⟩]
    · rw [rb _ _ (by omega) (by omega), eR]
      exact oQ.2.1
    · rw [rb _ _ (by omega) (by omega), eR]
      exact oR.1
  have := Rd_readText (Q := fun v h1 => G (d - 1) 107 26 [.ref 0, .int (nI A.tn), uu, uu] (v.toList ++ []) h1 Q) (K := fun k => hI H (e + k)) (f := hI H 2) (g := hI H 3) (d := d - 1) (by omega) hRd eCap hee (by omega) (by omega) vtn6 wcd (fun h' hx => ?_)
  · rw [hid] at this
    exact this
  have hQ0 := fun h' => hQ0 h' (fun k => hI H (e + k)) (hI H 2) (hI H 3) (by rw [e14])
  have hQ1 := fun h' => hQ1 h' (fun k => hI H (e + k)) (hI H 2) (hI H 3) (by rw [e14])
  have hkw : KW (txR b A.tn (fun k => hI H (e + k)) (hI H 2, hI H 3)).2.2.1 := KW_tx _ _ _ _ KW_clr
  have hri : RI A.tn (txR b A.tn (fun k => hI H (e + k)) (hI H 2, hI H 3)).2.1 := by
    obtain ⟨k, k1, k2⟩ := wcd
    exact RI_tx vtn6 _ _ _ _ (RI_nx vtn6 ⟨by simp [strF, upd_a], ⟨0, by simp [strF, upd_a], Nat.zero_le _⟩, k, by simp [strF, upd_a]; exact k1, k2⟩)
  generalize txR b A.tn (fun k => hI H (e + k)) (hI H 2, hI H 3) = r at *
  obtain ⟨res, s2, x⟩ := r
  dsimp only at hx hkw hri hQ0 hQ1 ⊢
  obtain ⟨x0, x1, x2, x3, x4⟩ := hx
  obtain ⟨y0, y1, y2, y3⟩ := x0
  have z0 : hN H ≤ hN h' := y0
  have z1 : ∀ a, a < hN H → hI h' a = hI H a ∧ hLn h' a = hLn H a ∧ hL h' a = hL H a := y1
  have z2 : ∀ a i, a < hN H → ¬ (a = e ∧ 18 ≤ i) → ¬ (a = 2 ∧ (i = 2 ∨ i = 5)) → hR h' a i = hR H a i := fun a i w1 w2 w3 => (y2 a i w1 w2).trans (rb a i w3 (by omega))
  have z3 : hS h' = hS H := y3
  have z4 : hN h' ≤ hN H + min x.2.1.1 1 + min x.2.2.1 1 := x3
  have z5 : hW h' ≤ hW H + x.2.1.1 + x.2.2.1 := x4
  have zl1 : x.2.1.1 ≤ 1600 := by
    rcases x1 with w | ⟨w0, a, w1, w2, w3, w4, w5, w6, w7⟩
    · omega
    · exact w6
  have zl2 : x.2.2.1 ≤ 1600 := by
    rcases x2 with w | ⟨w0, a, w1, w2, w3, w4, w5, w6, w7⟩
    · omega
    · exact w6
  have hl : LEh H h' := ⟨z0, fun a ha => (z1 a ha).2.1, fun a ha => (z1 a ha).2.2⟩
  -- the heap behind the reading
  have gI : ∀ a, a < hN H → ¬ (a = 2 ∨ a = 3) → ¬ (e ≤ a ∧ a ≤ e + 12) → hI (wrR (wrC h' e x.1) s2.1 s2.2) a = hI H a := fun a w1 w2 w3 => by
    rw [wR_ne (by omega), wC_ne (by omega)]
    exact (z1 a w1).1
  have hlW : LEh H (wrR (wrC h' e x.1) s2.1 s2.2) := hl
  have rW : ∀ a i, a < hN H → ¬ (a = e ∧ 18 ≤ i) → ¬ (a = 2 ∧ (i = 2 ∨ i = 5)) → hR (wrR (wrC h' e x.1) s2.1 s2.2) a i = hR H a i := z2
  have x1W : CodX h' (hR (wrR (wrC h' e x.1) s2.1 s2.2) e 18) x.2.1.1 x.2.1.2 := x1
  have x2W : CodX h' (hR (wrR (wrC h' e x.1) s2.1 s2.2) e 19) x.2.2.1 x.2.2.2 := x2
  have bI2 : ∀ a, 219 < a → hI (wrR (wrC h' e x.1) s2.1 s2.2) a = hI h' a := fun a w => by
    rw [wR_ne (by omega), wC_ne (by omega)]
  have cK : ∀ k, k ≤ 12 → hI (wrR (wrC h' e x.1) s2.1 s2.2) (e + k) = x.1 k := fun k hk => by
    rw [wR_ne (by omega), wC_in hk]
  have f0 : hI (wrR (wrC h' e x.1) s2.1 s2.2) 2 = s2.1 := rfl
  have nW : hN (wrR (wrC h' e x.1) s2.1 s2.2) = hN h' := rfl
  have lW : hLn (wrR (wrC h' e x.1) s2.1 s2.2) = hLn h' := rfl
  have wW : hW (wrR (wrC h' e x.1) s2.1 s2.2) = hW h' := rfl
  have sW : hS (wrR (wrC h' e x.1) s2.1 s2.2) = hS h' := rfl
  generalize wrR (wrC h' e x.1) s2.1 s2.2 = W at *
  have l1 := hlW.1
  have hF2 : FaAt W c e p q := Fa_le hF1 hlW (fun i hi => rW 0 i (by omega) (by omega) (by omega)) (by rw [rW 0 9 (by omega) (by omega) (by omega), eR]; exact oA) ⟨rW 2 13 (by omega) (by omega) (by omega), rW 2 15 (by omega) (by omega) (by omega)⟩ (fun a i w1 w2 => rW a i (by omega) (by omega) (by omega)) (Cap_le hlW (fun i hi => rW e i (by omega) (by omega) (by omega)) eCap) oM
  have hC2 : CpAt W c A.C := Cp_le hlW (fun i => rW 5 i (by omega) (by omega) (by omega)) (rW 19 8 (by omega) (by omega) (by omega)) (fun i => rW c i (by omega) (by omega) (by omega)) (fun a w1 w2 => gI a (by omega) (by omega) (by omega)) (fun a w1 w2 => gI a (by omega) (by omega) (by omega)) hC1
  have coded : ∃ k, hI W 2 14 = nI k ∧ k ≤ 1600 := by
    obtain ⟨-, -, k, k1, k2⟩ := hri
    exact ⟨k, by rw [f0]; exact k1, k2⟩
  have hA2 : ClsAt W c e p q (mkA A.C A.fn A.pn A.now A.past A.seed A.ref 0 b (s2.1 0) (s2.1 1) A.zn A.zb) := by
    refine ⟨hF2, hC2, ?_, ?_, NowAt_c (fun a w1 w2 => gI a (by omega) (by omega) (by omega)) wnow, wkb, Past_c (fun a w1 w2 => gI a (by omega) (by omega) (by omega)) wpast, ?_, ?_, ⟨?_, Nat.zero_le _⟩, ?_, by rw [f0]; rfl, by rw [f0]; rfl, ⟨?_, wzn7⟩, ?_, coded⟩
    · rw [gI _ (by omega) (by omega) (by omega)]
      exact wfn
    · rw [gI _ (by omega) (by omega) (by omega)]
      exact wpn
    · rw [gI _ (by omega) (by omega) (by omega)]
      exact wseed
    · rw [gI _ (by omega) (by omega) (by omega)]
      exact wref
    · rw [gI _ (by omega) (by omega) (by omega)]
      exact wtn
    · rw [gI _ (by omega) (by omega) (by omega)]
      exact wtp
    · rw [gI _ (by omega) (by omega) (by omega)]
      exact wzn
    · rw [gI _ (by omega) (by omega) (by omega)]
      exact wzb
  have fr : FrC h W := by
    refine ⟨by omega, by rw [sW, z3, eS], fun a w1 w2 => ⟨?_, ?_, ?_, ?_⟩⟩
    · rw [gI a (by omega) (by omega) (by omega)]
      exact hT2.2.2.2.2.2.2 a (by unfold clsX; omega)
    · rw [hlW.2.1 a (by omega), eLn]
    · rw [hlW.2.2 a (by omega), eL]
    · funext i
      rw [rW a i (by omega) (by omega) (by omega), eR]
  have frt : ∀ W', Agr clsX W W' → FrC h W' := fun W' ag => by
    have g := FrC_agr ag
    exact ⟨Nat.le_trans fr.1 g.1, g.2.1.trans fr.2.1, fun a w1 w2 => ⟨(g.2.2 a w1 w2).1.trans (fr.2.2 a w1 w2).1, (g.2.2 a w1 w2).2.1.trans (fr.2.2 a w1 w2).2.1, (g.2.2 a w1 w2).2.2.1.trans (fr.2.2 a w1 w2).2.2.1, (g.2.2 a w1 w2).2.2.2.trans (fr.2.2 a w1 w2).2.2.2⟩⟩
  have cnt : ∀ n : Nat, min n 1 ≤ 1 := fun n => Nat.min_le_right _ _
  have c1 := cnt x.2.1.1
  have c2 := cnt x.2.2.1
  by_cases hres : res = -1
  · subst hres
    have r0 : lay 0 = 8 := o0
    simp (disch := omega) only [g107_26, g107_27, g107_28, g107_29, g107_32, g107_33, g107_34, GN_nx, GN_rtn, GN_ck, GN_br, GN_cll, ldI_0, ldJ_0, ldR_0, ldI_s, ldJ_s, ldR_s, pI_c, pII_c, pJ_c, pJJ_c, pJI_c, pR_c, pRI_c, pRJ_c, pRR_c, pRII_c, pRIJ_c, pRIR_c, pCopy_c, pIe_c, pJe_c, pRe_c, pE_c, p1_i, p1_r, p11_ir, pA_0, pA_1, pA_2, pA_3, pA_4, pA_5, st1_0, st1_i, st1_r, st1_n, st1_u, st1_j, st1_s, st2_0, st2_i, st2_r, st2_n, st2_u, st2_j, st2_s, List.length_cons, List.length_nil, Nat.reduceAdd, Nat.reduceLT, Nat.reduceLeDiff, Nat.reduceEqDiff, Nat.zero_add, true_and, and_true, true_implies, not_true_eq_false, not_false_eq_true, false_implies, Option.toList_some, Option.toList_none, arr, inb, List.cons_append, List.nil_append, rv_some, rv_none, nlt_t, nlt_f, nle_t, nle_f, neq_f, ix_cl, ix_nn, ix_lt, cmp_le, cmp_lt, cmp_eq, cmp_lt0, cmp_ge0, cmp_eq0, cmp_gt0, cmp_le0, nI_mul, nI_add, nm1_ne, nm1_ne', one01, zero01, b2i_0, b2i_1, b2i_01, cmp_eq1, true_or, or_true, false_or, or_false, neq_t, hN_sI, hLn_sI, hR_sI, hL_sI, hI_sI, hN_sA, hLn_sA, hR_sA, hL_sA, hI_sA, hN_wI, hLn_wI, hR_wI, hL_wI, hI_wI, false_and, and_false, if_true, if_false, hN_fA, hLn_fA, hR_fA, hN_wrS, hLn_wrS, hR_wrS, hL_wrS, wS_day, wS_keeps, wS_brs, wS_first, wS_knows, wS_purse, wS_till, wS_valid, wS_kept, sS_day, sS_keeps, sS_brs, sS_first, sS_knows, sS_purse, sS_till, sS_valid, sS_kept, wrS_wrS, day_mk, knows_mk, purse_mk, till_mk, valid_mk, kept_mk, keeps_mk, brs_mk, first_mk, hN_wrU, hLn_wrU, hR_wrU, hL_wrU, wU_19, wU_20, sU_19, sU_20, upd_same, upd_upd, hN_wrR, hLn_wrR, hR_wrR, hL_wrR, bI_0, bI_01', bI_t1, eq_self, Bool.true_eq_false, Bool.false_eq_true, hN_wrC, hLn_wrC, hR_wrC, hL_wrC,  r0]
    refine C_refused (by omega) hA2 (by omega) (fun h2 a2 b2 => ?_)
    simp (disch := omega) only [g107_37, GN_nx, GN_rtn, GN_ck, GN_br, GN_cll, ldI_0, ldJ_0, ldR_0, ldI_s, ldJ_s, ldR_s, pI_c, pII_c, pJ_c, pJJ_c, pJI_c, pR_c, pRI_c, pRJ_c, pRR_c, pRII_c, pRIJ_c, pRIR_c, pCopy_c, pIe_c, pJe_c, pRe_c, pE_c, p1_i, p1_r, p11_ir, pA_0, pA_1, pA_2, pA_3, pA_4, pA_5, st1_0, st1_i, st1_r, st1_n, st1_u, st1_j, st1_s, st2_0, st2_i, st2_r, st2_n, st2_u, st2_j, st2_s, List.length_cons, List.length_nil, Nat.reduceAdd, Nat.reduceLT, Nat.reduceLeDiff, Nat.reduceEqDiff, Nat.zero_add, true_and, and_true, true_implies, not_true_eq_false, not_false_eq_true, false_implies, Option.toList_some, Option.toList_none, arr, inb, List.cons_append, List.nil_append, rv_some, rv_none, nlt_t, nlt_f, nle_t, nle_f, neq_f, ix_cl, ix_nn, ix_lt, cmp_le, cmp_lt, cmp_eq, cmp_lt0, cmp_ge0, cmp_eq0, cmp_gt0, cmp_le0, nI_mul, nI_add, nm1_ne, nm1_ne', one01, zero01, b2i_0, b2i_1, b2i_01, cmp_eq1, true_or, or_true, false_or, or_false, neq_t, hN_sI, hLn_sI, hR_sI, hL_sI, hI_sI, hN_sA, hLn_sA, hR_sA, hL_sA, hI_sA, hN_wI, hLn_wI, hR_wI, hL_wI, hI_wI, false_and, and_false, if_true, if_false, hN_fA, hLn_fA, hR_fA, hN_wrS, hLn_wrS, hR_wrS, hL_wrS, wS_day, wS_keeps, wS_brs, wS_first, wS_knows, wS_purse, wS_till, wS_valid, wS_kept, sS_day, sS_keeps, sS_brs, sS_first, sS_knows, sS_purse, sS_till, sS_valid, sS_kept, wrS_wrS, day_mk, knows_mk, purse_mk, till_mk, valid_mk, kept_mk, keeps_mk, brs_mk, first_mk, hN_wrU, hLn_wrU, hR_wrU, hL_wrU, wU_19, wU_20, sU_19, sU_20, upd_same, upd_upd, hN_wrR, hLn_wrR, hR_wrR, hL_wrR, bI_0, bI_01', bI_t1, eq_self, Bool.true_eq_false, Bool.false_eq_true, hN_wrC, hLn_wrC, hR_wrC, hL_wrC]
    refine hQ0 h2 rfl a2 (frt h2 b2) ?_ ?_
    · rw [b2.1]
      omega
    · rw [b2.2.1]
      omega
  · have hcapc : CapAt W c := hC2.1.2.2.2.2.1
    have hC3 := hC2
    have hF3 := hF2
    have hki := hkw.1
    obtain ⟨hk1, hk2, hk3, hk4⟩ := hki
    clear hQ0 hA' hF' hF1 hC1 hRd oB oC oD oE oF oG oH oI oJ oK oL oM oQ oR o0 o1 o2 o3 o4 o5 o6 o7 o8 o9 oA
    obtain ⟨o0, oN, o1, o2, o3, o4, o5, o6, o7, o8, o9, oA, ⟨oB, oC, oD⟩, ⟨oE, oF⟩, oG, oH, oI, oJ, oK, oL, oM, oP, oQ, oR⟩ := hF3
    obtain ⟨⟨k0, k1, k2, k3, ⟨c0, cN, cT, ⟨r0, r1, r2, r3, r4, r5, r6, r7, r8, r9, r10, r11⟩, ⟨⟨a0, b0⟩, ⟨a1, b1⟩, ⟨a2, b2⟩, ⟨a3, b3⟩, ⟨a4, b4⟩, ⟨a5, b5⟩, ⟨a6, b6⟩, ⟨a7, b7⟩, ⟨a8, b8⟩, ⟨a9, b9⟩, ⟨a10, b10⟩, ⟨a11, b11⟩⟩⟩, k4, k5, k6, k7⟩, ⟨⟨n0, m0⟩, ⟨n1, m1⟩, ⟨n2, m2⟩, ⟨n3, m3⟩, n4⟩, -⟩ := hC3
    have i0 : lay 26 = 2 := oI.1
    simp (disch := omega) only [g107_26, g107_27, g107_28, g107_29, g107_32, g107_33, g107_34, g107_37, g107_38, g107_39, g107_42, g107_45, g107_46, g107_47, g107_50, g107_51, g107_54, g107_57, g107_58, g107_59, g107_62, g107_63, g107_66, GN_nx, GN_rtn, GN_ck, GN_br, GN_cll, ldI_0, ldJ_0, ldR_0, ldI_s, ldJ_s, ldR_s, pI_c, pII_c, pJ_c, pJJ_c, pJI_c, pR_c, pRI_c, pRJ_c, pRR_c, pRII_c, pRIJ_c, pRIR_c, pCopy_c, pIe_c, pJe_c, pRe_c, pE_c, p1_i, p1_r, p11_ir, pA_0, pA_1, pA_2, pA_3, pA_4, pA_5, st1_0, st1_i, st1_r, st1_n, st1_u, st1_j, st1_s, st2_0, st2_i, st2_r, st2_n, st2_u, st2_j, st2_s, List.length_cons, List.length_nil, Nat.reduceAdd, Nat.reduceLT, Nat.reduceLeDiff, Nat.reduceEqDiff, Nat.zero_add, true_and, and_true, true_implies, not_true_eq_false, not_false_eq_true, false_implies, Option.toList_some, Option.toList_none, arr, inb, List.cons_append, List.nil_append, rv_some, rv_none, nlt_t, nlt_f, nle_t, nle_f, neq_f, ix_cl, ix_nn, ix_lt, cmp_le, cmp_lt, cmp_eq, cmp_lt0, cmp_ge0, cmp_eq0, cmp_gt0, cmp_le0, nI_mul, nI_add, nm1_ne, nm1_ne', one01, zero01, b2i_0, b2i_1, b2i_01, cmp_eq1, true_or, or_true, false_or, or_false, neq_t, hN_sI, hLn_sI, hR_sI, hL_sI, hI_sI, hN_sA, hLn_sA, hR_sA, hL_sA, hI_sA, hN_wI, hLn_wI, hR_wI, hL_wI, hI_wI, false_and, and_false, if_true, if_false, hN_fA, hLn_fA, hR_fA, hN_wrS, hLn_wrS, hR_wrS, hL_wrS, wS_day, wS_keeps, wS_brs, wS_first, wS_knows, wS_purse, wS_till, wS_valid, wS_kept, sS_day, sS_keeps, sS_brs, sS_first, sS_knows, sS_purse, sS_till, sS_valid, sS_kept, wrS_wrS, day_mk, knows_mk, purse_mk, till_mk, valid_mk, kept_mk, keeps_mk, brs_mk, first_mk, hN_wrU, hLn_wrU, hR_wrU, hL_wrU, wU_19, wU_20, sU_19, sU_20, upd_same, upd_upd, hN_wrR, hLn_wrR, hR_wrR, hL_wrR, bI_0, bI_01', bI_t1, eq_self, Bool.true_eq_false, Bool.false_eq_true, hN_wrC, hLn_wrC, hR_wrC, hL_wrC,  o0, o1, o2, o3, o4, o5, o6, o7, o8, o9, oA, oB, oC, oE, oF, k0, k2, k3, hres, i0, hR_sR, hN_sR]
    have rS : ∀ a i, ¬ a = 5 → ¬ a = 0 → hR (sR (sR W 5 0 (some e)) 0 9 (some c)) a i = hR W a i := fun a i w1 w2 => by
      rw [hR_sR, if_neg (by omega), hR_sR, if_neg (by omega)]
    have rS0 : ∀ i, i < 9 → hR (sR (sR W 5 0 (some e)) 0 9 (some c)) 0 i = hR W 0 i := fun i w1 => by
      rw [hR_sR, if_neg (by omega), hR_sR, if_neg (by omega)]
    have rS9 : hR (sR (sR W 5 0 (some e)) 0 9 (some c)) 0 9 = some c := by
      rw [hR_sR, if_pos ⟨rfl, rfl⟩]
    have rS50 : hR (sR (sR W 5 0 (some e)) 0 9 (some c)) 5 0 = some e := by
      rw [hR_sR, if_neg (by omega), hR_sR, if_pos ⟨rfl, rfl⟩]
    have rS51 : hR (sR (sR W 5 0 (some e)) 0 9 (some c)) 5 1 = hR W 5 1 := by
      rw [hR_sR, if_neg (by omega), hR_sR, if_neg (by omega)]
    have nS : hN (sR (sR W 5 0 (some e)) 0 9 (some c)) = hN W := rfl
    have lS : hLn (sR (sR W 5 0 (some e)) 0 9 (some c)) = hLn W := rfl
    have LS : hL (sR (sR W 5 0 (some e)) 0 9 (some c)) = hL W := rfl
    have iS : hI (sR (sR W 5 0 (some e)) 0 9 (some c)) = hI W := rfl
    have sS : hS (sR (sR W 5 0 (some e)) 0 9 (some c)) = hS W := rfl
    have wS : hW (sR (sR W 5 0 (some e)) 0 9 (some c)) = hW W := rfl
    generalize sR (sR W 5 0 (some e)) 0 9 (some c) = V at *
    have lV : LEh W V := ⟨Nat.le_of_eq nS.symm, fun a _ => by rw [lS], fun a _ => by rw [LS]⟩
    refine Pa_forget (by omega) (Pa_le lV (fun a i w1 w2 => rS a i (by omega) (by omega)) oI) ?_
    have o3' : hR V 0 2 = some 5 := (rS0 2 (by omega)).trans o3
    have o7' : hR V 0 6 = some p := (rS0 6 (by omega)).trans o7
    simp (disch := omega) only [g107_69, g107_70, g107_73, g107_74, g107_77, GN_nx, GN_rtn, GN_ck, GN_br, GN_cll, ldI_0, ldJ_0, ldR_0, ldI_s, ldJ_s, ldR_s, pI_c, pII_c, pJ_c, pJJ_c, pJI_c, pR_c, pRI_c, pRJ_c, pRR_c, pRII_c, pRIJ_c, pRIR_c, pCopy_c, pIe_c, pJe_c, pRe_c, pE_c, p1_i, p1_r, p11_ir, pA_0, pA_1, pA_2, pA_3, pA_4, pA_5, st1_0, st1_i, st1_r, st1_n, st1_u, st1_j, st1_s, st2_0, st2_i, st2_r, st2_n, st2_u, st2_j, st2_s, List.length_cons, List.length_nil, Nat.reduceAdd, Nat.reduceLT, Nat.reduceLeDiff, Nat.reduceEqDiff, Nat.zero_add, true_and, and_true, true_implies, not_true_eq_false, not_false_eq_true, false_implies, Option.toList_some, Option.toList_none, arr, inb, List.cons_append, List.nil_append, rv_some, rv_none, nlt_t, nlt_f, nle_t, nle_f, neq_f, ix_cl, ix_nn, ix_lt, cmp_le, cmp_lt, cmp_eq, cmp_lt0, cmp_ge0, cmp_eq0, cmp_gt0, cmp_le0, nI_mul, nI_add, nm1_ne, nm1_ne', one01, zero01, b2i_0, b2i_1, b2i_01, cmp_eq1, true_or, or_true, false_or, or_false, neq_t, hN_sI, hLn_sI, hR_sI, hL_sI, hI_sI, hN_sA, hLn_sA, hR_sA, hL_sA, hI_sA, hN_wI, hLn_wI, hR_wI, hL_wI, hI_wI, false_and, and_false, if_true, if_false, hN_fA, hLn_fA, hR_fA, hN_wrS, hLn_wrS, hR_wrS, hL_wrS, wS_day, wS_keeps, wS_brs, wS_first, wS_knows, wS_purse, wS_till, wS_valid, wS_kept, sS_day, sS_keeps, sS_brs, sS_first, sS_knows, sS_purse, sS_till, sS_valid, sS_kept, wrS_wrS, day_mk, knows_mk, purse_mk, till_mk, valid_mk, kept_mk, keeps_mk, brs_mk, first_mk, hN_wrU, hLn_wrU, hR_wrU, hL_wrU, wU_19, wU_20, sU_19, sU_20, upd_same, upd_upd, hN_wrR, hLn_wrR, hR_wrR, hL_wrR, bI_0, bI_01', bI_t1, eq_self, Bool.true_eq_false, Bool.false_eq_true, hN_wrC, hLn_wrC, hR_wrC, hL_wrC,  o0, o3', o7', k0, nS]
    have iU : ∀ a, ¬ a = 26 → hI (sI V 26 2 (nI 0)) a = hI W a := fun a w => by rw [hI_sI_ne w, iS]
    have i26 : hI (sI V 26 2 (nI 0)) 26 1 = hI W 26 1 := by rw [hI_sI, if_neg (by omega), iS]
    have i26' : hI (sI V 26 2 (nI 0)) 26 2 = nI 0 := by rw [hI_sI, if_pos ⟨rfl, rfl⟩]
    have nU : hN (sI V 26 2 (nI 0)) = hN W := nS
    have lU : hLn (sI V 26 2 (nI 0)) = hLn W := lS
    have LU : hL (sI V 26 2 (nI 0)) = hL W := LS
    have rU : hR (sI V 26 2 (nI 0)) = hR V := rfl
    have sU : hS (sI V 26 2 (nI 0)) = hS W := sS
    have wU : hW (sI V 26 2 (nI 0)) = hW W := wS
    generalize sI V 26 2 (nI 0) = U at *
    have lWU : LEh W U := ⟨Nat.le_of_eq nU.symm, fun a _ => by rw [lU], fun a _ => by rw [LU]⟩
    have hcapU : CapAt U e := Cap_le lWU (fun i _ => by rw [rU]; exact rS e i (by omega) (by omega)) oL
    have nowU : NowAt U p A.now := NowAt_c (fun a w1 w2 => iU a (by omega)) hA2.2.2.2.2.1
    have cKU : ∀ k, k ≤ 12 → hI U (e + k) = x.1 k := fun k hk => by
      rw [iU _ (by omega)]
      exact cK k hk
    have cK0 : hI U e = x.1 0 := cKU 0 (by omega)
    have codU : ∀ (i n : Nat) (cg : Nat → Int32), CodX h' (hR W e i) n cg → CodX U (hR U e i) n cg := fun i n cg hx => by
      rw [rU, rS e i (by omega) (by omega)]
      rcases hx with w | ⟨w0, a, w1, ⟨w2, w2'⟩, w3, w4, w5, w6, w7⟩
      · exact Or.inl w
      · exact Or.inr ⟨w0, a, w1, ⟨w2, by rw [lU, lW]; exact w2'⟩, w3, by rw [nU, nW]; exact w4, w5, w6, fun j hj => by rw [iU _ (by omega), bI2 a w3]; exact w7 j hj⟩
    have hCU : CpAt U e (toPC x) := by
      refine ⟨⟨k0, by rw [nU]; omega, by rw [rU]; exact rS50, by rw [rU, rS51]; exact k3, hcapU, k4, by rw [rU, rS 19 8 (by omega) (by omega)]; exact k5, k6, by rw [lU]; exact k7⟩, ⟨?_, ?_, ?_, ?_, ?_⟩, ?_, ?_, ?_, ?_, hkw.2.1, ?_, ?_, ?_, ?_, ?_, hkw.2.2.1, hkw.2.2.2, ?_, Cod_X (codU 18 _ _ x1W), Cod_X (codU 19 _ _ x2W)⟩
      · rw [cK0]
        exact hk1
      · rw [cK0]
        exact hk2
      · rw [cK0]
        exact hk3
      · rw [cK0]
        exact hk4
      · rw [cK0]
        rfl
      · exact fun i _ => by rw [cKU 2 (by omega)]; rfl
      · exact fun i _ => by rw [cKU 3 (by omega)]; rfl
      · exact fun i _ => by rw [cKU 4 (by omega)]; rfl
      · exact fun i _ => by rw [cKU 5 (by omega)]; rfl
      · exact fun i _ => by rw [cKU 7 (by omega)]; rfl
      · exact fun i _ => by rw [cKU 8 (by omega)]; rfl
      · exact fun i _ => by rw [cKU 9 (by omega)]; rfl
      · exact fun i _ => by rw [cKU 10 (by omega)]; rfl
      · exact fun i _ => by rw [cKU 11 (by omega)]; rfl
      · exact fun i _ => by rw [cKU 12 (by omega)]; rfl
    have hSU : StAt U p := St_le lWU (fun i _ => by rw [rU]; exact rS p i (by omega) (by omega)) oG
    have hDe : Dj e p := ⟨by omega, by omega, by omega, by omega⟩
    have := Mk_setOut (Q := fun v h1 => G (d - 1) 107 80 [.ref 0, .int (nI A.tn), .int res, .ref c] (v.toList ++ []) h1 Q) (s := A.now) (f := hI U 19) (g := hI U 20) (d := d - 1) (by omega) hCU hSU hDe (fun f' g' => ?_)
    · rw [W_id nowU] at this
      exact this
    simp (disch := omega) only [g107_80, g107_81, GN_nx, GN_rtn, GN_ck, GN_br, GN_cll, ldI_0, ldJ_0, ldR_0, ldI_s, ldJ_s, ldR_s, pI_c, pII_c, pJ_c, pJJ_c, pJI_c, pR_c, pRI_c, pRJ_c, pRR_c, pRII_c, pRIJ_c, pRIR_c, pCopy_c, pIe_c, pJe_c, pRe_c, pE_c, p1_i, p1_r, p11_ir, pA_0, pA_1, pA_2, pA_3, pA_4, pA_5, st1_0, st1_i, st1_r, st1_n, st1_u, st1_j, st1_s, st2_0, st2_i, st2_r, st2_n, st2_u, st2_j, st2_s, List.length_cons, List.length_nil, Nat.reduceAdd, Nat.reduceLT, Nat.reduceLeDiff, Nat.reduceEqDiff, Nat.zero_add, true_and, and_true, true_implies, not_true_eq_false, not_false_eq_true, false_implies, Option.toList_some, Option.toList_none, arr, inb, List.cons_append, List.nil_append, rv_some, rv_none, nlt_t, nlt_f, nle_t, nle_f, neq_f, ix_cl, ix_nn, ix_lt, cmp_le, cmp_lt, cmp_eq, cmp_lt0, cmp_ge0, cmp_eq0, cmp_gt0, cmp_le0, nI_mul, nI_add, nm1_ne, nm1_ne', one01, zero01, b2i_0, b2i_1, b2i_01, cmp_eq1, true_or, or_true, false_or, or_false, neq_t, hN_sI, hLn_sI, hR_sI, hL_sI, hI_sI, hN_sA, hLn_sA, hR_sA, hL_sA, hI_sA, hN_wI, hLn_wI, hR_wI, hL_wI, hI_wI, false_and, and_false, if_true, if_false, hN_fA, hLn_fA, hR_fA, hN_wrS, hLn_wrS, hR_wrS, hL_wrS, wS_day, wS_keeps, wS_brs, wS_first, wS_knows, wS_purse, wS_till, wS_valid, wS_kept, sS_day, sS_keeps, sS_brs, sS_first, sS_knows, sS_purse, sS_till, sS_valid, sS_kept, wrS_wrS, day_mk, knows_mk, purse_mk, till_mk, valid_mk, kept_mk, keeps_mk, brs_mk, first_mk, hN_wrU, hLn_wrU, hR_wrU, hL_wrU, wU_19, wU_20, sU_19, sU_20, upd_same, upd_upd, hN_wrR, hLn_wrR, hR_wrR, hL_wrR, bI_0, bI_01', bI_t1, eq_self, Bool.true_eq_false, Bool.false_eq_true, hN_wrC, hLn_wrC, hR_wrC, hL_wrC]
    have ne : ∀ a, ¬ (19 ≤ a ∧ a ≤ 20) → ¬ (148 ≤ a ∧ a ≤ 153) → ¬ a = 26 → hI (wrS (wrU U f' g') p (nextP (toPC x) (outP (toPC x) A.now))) a = hI W a := fun a w1 w2 w3 => by
      rw [wS_ne (by omega), wU_ne (by omega) (by omega), iU a w3]
    have ne26 : ∀ j, hI (wrS (wrU U f' g') p (nextP (toPC x) (outP (toPC x) A.now))) 26 j = hI U 26 j := fun j => by
      rw [wS_ne (by omega), wU_ne (by omega) (by omega)]
    have lWX : LEh W (wrS (wrU U f' g') p (nextP (toPC x) (outP (toPC x) A.now))) := lWU
    have rX : hR (wrS (wrU U f' g') p (nextP (toPC x) (outP (toPC x) A.now))) = hR V := rU
    have hCX : CpAt (wrS (wrU U f' g') p (nextP (toPC x) (outP (toPC x) A.now))) e (toPC x) := CpAt_eq (h := U) rfl rfl rfl (fun a w1 w2 => by rw [wS_ne (by omega), wU_ne (by omega) (by omega)]) (fun a w1 => by rw [wS_ne (by omega), wU_ne (by omega) (by omega)]) hCU
    have nX : NowAt (wrS (wrU U f' g') p (nextP (toPC x) (outP (toPC x) A.now))) p (nextP (toPC x) (outP (toPC x) A.now)) := NowAt_of
    have wfX : WfS (nextP (toPC x) (outP (toPC x) A.now)) := by
      refine ⟨KB_next ⟨0, Nat.zero_le _, rfl⟩, 0, Nat.zero_le _, ?_⟩
      rw [day_next]
      show (-1 : Int32) + nI 1 = nI 0
      decide
    have cntX1 : hN (wrS (wrU U f' g') p (nextP (toPC x) (outP (toPC x) A.now))) = hN W := nU
    have cntX2 : hW (wrS (wrU U f' g') p (nextP (toPC x) (outP (toPC x) A.now))) = hW W := wU
    have cntX3 : hS (wrS (wrU U f' g') p (nextP (toPC x) (outP (toPC x) A.now))) = hS W := sU
    have cKX : ∀ k, 1 ≤ k → k ≤ 12 → hI (wrS (wrU U f' g') p (nextP (toPC x) (outP (toPC x) A.now))) (e + k) = x.1 k := fun k w1 w2 => by
      rw [ne _ (by omega) (by omega) (by omega)]
      exact cK k w2
    generalize wrS (wrU U f' g') p (nextP (toPC x) (outP (toPC x) A.now)) = X at *
    have hFX : FaAt X e c p q := Fa_le hF2 lWX (fun i w => by rw [rX]; exact rS0 i w) (by rw [rX]; exact rS9) ⟨by rw [rX]; exact rS 2 13 (by omega) (by omega), by rw [rX]; exact rS 2 15 (by omega) (by omega)⟩ (fun a i w1 w2 => by rw [rX]; exact rS a i (by omega) (by omega)) (Cap_le lWX (fun i _ => by rw [rX]; exact rS c i (by omega) (by omega)) hcapc) (by omega)
    obtain ⟨-, -, -, -, -, -, ⟨pn, p1, p2, -⟩, vse, vre, -, vtap, vf, vg, vz, vzz, vco⟩ := hA2
    refine hQ1 X hres ⟨hFX, hCX, ?_, ?_, nX, wfX, ⟨pn, ?_, p2, ?_, Nat.zero_le _, fun k t hk => by cases hk⟩, ?_, ?_, ⟨?_, Nat.zero_le _⟩, ?_, ?_, ?_, ?_, ?_, ?_⟩ ⟨?_, ?_, fun a w1 w2 => ⟨?_, ?_, ?_, ?_⟩⟩ ?_ ?_
    · exact fun i _ => by rw [cKX 1 (by omega) (by omega)]; rfl
    · exact fun i _ => by rw [cKX 6 (by omega) (by omega)]; rfl
    · rw [ne26, i26]
      exact p1
    · rw [ne26, i26']
      rfl
    · rw [ne 0 (by omega) (by omega) (by omega)]
      exact vse
    · rw [ne 160 (by omega) (by omega) (by omega)]
      exact vre
    · rw [ne 0 (by omega) (by omega) (by omega), gI 0 (by omega) (by omega) (by omega)]
      exact wtn
    · rw [ne 1 (by omega) (by omega) (by omega)]
      exact vtap
    · rw [ne 2 (by omega) (by omega) (by omega)]
      exact vf
    · rw [ne 2 (by omega) (by omega) (by omega)]
      exact vg
    · rw [ne 24 (by omega) (by omega) (by omega)]
      exact vz
    · rw [ne 25 (by omega) (by omega) (by omega)]
      exact vzz
    · rw [ne 2 (by omega) (by omega) (by omega)]
      exact vco
    · rw [cntX1]
      exact fr.1
    · rw [cntX3]
      exact fr.2.1
    · rw [ne a (by omega) (by omega) (by omega)]
      exact (fr.2.2 a w1 w2).1
    · rw [lWX.2.1 a (by omega)]
      exact (fr.2.2 a w1 w2).2.1
    · rw [lWX.2.2 a (by omega)]
      exact (fr.2.2 a w1 w2).2.2.1
    · have e9 : hR X a = hR W a := by
        funext i
        rw [rX]
        exact rS a i (by omega) (by omega)
      rw [e9]
      exact (fr.2.2 a w1 w2).2.2.2
    · rw [cntX1]
      omega
    · rw [cntX2]
      omega
end CAPI
