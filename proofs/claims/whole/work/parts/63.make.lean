/-! the makers -/
section ALC2
variable {h : AH} {a i n : Nat} {v : Option Nat}
theorem hL_alc {sl b j : Nat} : hL (alc h n sl) b j = if b = hN h then 0 else hL h b j := rfl
theorem hL_sR' : hL (sR h a i v) = hL h := rfl
theorem ix_mil (hi : i ≤ 1000000) : ((nI i).toInt ≤ 1000000) = True := by
  rw [nI_toInt (by omega)]
  exact eq_true (by omega)
end ALC2
/-- cells below p stay -/
def Gr (p : Nat) (h h' : AH) : Prop := ∀ a, a < p → hI h' a = hI h a ∧ hL h' a = hL h a ∧ hR h' a = hR h a ∧ hLn h' a = hLn h a
theorem Gr_refl {p : Nat} {h : AH} : Gr p h h := fun _ _ => ⟨rfl, rfl, rfl, rfl⟩
theorem Gr_trans {p : Nat} {h h' h'' : AH} (a : Gr p h h') (b : Gr p h' h'') : Gr p h h'' := fun x hx => ⟨(b x hx).1.trans (a x hx).1, (b x hx).2.1.trans (a x hx).2.1, (b x hx).2.2.1.trans (a x hx).2.2.1, (b x hx).2.2.2.trans (a x hx).2.2.2⟩
theorem Gr_le {p q : Nat} {h h' : AH} (a : Gr p h h') (hq : q ≤ p) : Gr q h h' := fun x hx => a x (by omega)
theorem Gr_alc {p n sl : Nat} {h : AH} (hp : p ≤ hN h) : Gr p h (alc h n sl) := fun x hx => by
  refine ⟨?_, ?_, ?_, ?_⟩
  · funext j
    rw [hI_alc, if_neg (by omega)]
  · funext j
    rw [hL_alc, if_neg (by omega)]
  · funext j
    rw [hR_alc, if_neg (by omega)]
  · rw [hLn_alc, if_neg (by omega)]
theorem Gr_sR {p a i : Nat} {v : Option Nat} {h : AH} (hp : p ≤ a) : Gr p h (sR h a i v) := fun x hx => by
  refine ⟨rfl, rfl, ?_, rfl⟩
  funext j
  rw [hR_sR, if_neg (by omega)]
theorem Gr_sI {p a i : Nat} {v : Int32} {h : AH} (hp : p ≤ a) : Gr p h (sI h a i v) := fun x hx => ⟨hI_sI_ne (by omega), rfl, rfl, rfl⟩
theorem Gr_sA {p a : Nat} {f : Nat → Int32} {h : AH} (hp : p ≤ a) : Gr p h (sA h a f) := fun x hx => ⟨hI_sA_ne (by omega), rfl, rfl, rfl⟩
def zeroS : PS := mkS 0 (fun _ => 0) (fun _ => 0) (fun _ => -1) (fun _ => 0) (fun _ => 0) 0 0 0
section MAKE
variable {d p : Nat} {h : AH} {Q : Option Value → AH → Prop}
theorem St_init (hd : 2 ≤ d) (hp : hN h = p + 1) (l0 : lay p = 6) (l1 : lay (p + 1) = 10) (l2 : lay (p + 2) = 10) (l3 : lay (p + 3) = 10) (l4 : lay (p + 4) = 10) (l5 : lay (p + 5) = 10) (hp3 : p < 900) (hz : hI h p = fun _ => 0) (hQ : ∀ h', hN h' = p + 6 → hW h' = hW h + 160 → hS h' = hS h → Gr p h h' → StAt h' p → NowAt h' p zeroS → Q none h') : CL d 83 [.ref p] h Q := by
  refine en83 (by omega) ?_
  simp (disch := omega) only [g83_0, g83_1, g83_4, g83_5, g83_7, g83_9, g83_12, g83_13, g83_15, g83_17, g83_20, g83_21, g83_23, g83_25, g83_28, g83_29, g83_31, g83_33, g83_36, g83_37, g83_39, g83_41, g83_44, g83_45, g83_48, g83_49, GN_nx, GN_rtn, GN_ck, GN_br, GN_cll, ldI_0, ldJ_0, ldR_0, ldI_s, ldJ_s, ldR_s, pI_c, pII_c, pJ_c, pJJ_c, pJI_c, pR_c, pRI_c, pRJ_c, pRR_c, pRII_c, pRIJ_c, pRIR_c, pCopy_c, pIe_c, pJe_c, pRe_c, pE_c, p1_i, p1_r, p11_ir, pA_0, pA_1, pA_2, pA_3, pA_4, pA_5, st1_0, st1_i, st1_r, st1_n, st1_u, st1_j, st1_s, st2_0, st2_i, st2_r, st2_n, st2_u, st2_j, st2_s, List.length_cons, List.length_nil, Nat.reduceAdd, Nat.reduceLT, Nat.reduceLeDiff, Nat.reduceEqDiff, Nat.zero_add, true_and, and_true, true_implies, not_true_eq_false, not_false_eq_true, false_implies, Option.toList_some, Option.toList_none, arr, inb, List.cons_append, List.nil_append, rv_some, rv_none, nlt_t, nlt_f, nle_t, nle_f, neq_f, ix_cl, ix_nn, ix_lt, cmp_le, cmp_lt, cmp_eq, cmp_lt0, cmp_ge0, cmp_eq0, cmp_gt0, cmp_le0, nI_mul, nI_add, nm1_ne, nm1_ne', one01, zero01, b2i_0, b2i_1, b2i_01, cmp_eq1, true_or, or_true, false_or, or_false, neq_t, hN_sI, hLn_sI, hR_sI, hL_sI, hI_sI, hN_sA, hLn_sA, hR_sA, hL_sA, hI_sA, hN_wI, hLn_wI, hR_wI, hL_wI, hI_wI, false_and, and_false, if_true, if_false, hN_fA, hLn_fA, hR_fA, hN_wrS, hLn_wrS, hR_wrS, hL_wrS, wS_day, wS_keeps, wS_brs, wS_first, wS_knows, wS_purse, wS_till, wS_valid, wS_kept, sS_day, sS_keeps, sS_brs, sS_first, sS_knows, sS_purse, sS_till, sS_valid, sS_kept, wrS_wrS, day_mk, knows_mk, purse_mk, till_mk, valid_mk, kept_mk, keeps_mk, brs_mk, first_mk, hN_wrU, hLn_wrU, hR_wrU, hL_wrU, wU_19, wU_20, sU_19, sU_20, upd_same, upd_upd, hN_wrR, hLn_wrR, hR_wrR, hL_wrR, bI_0, bI_01', bI_t1, eq_self, Bool.true_eq_false, Bool.false_eq_true, hN_wrC, hLn_wrC, hR_wrC, hL_wrC,  l0, l1, l2, l3, l4, l5, hN_sR, hN_alc, hR_sR, hR_alc, hp, ix_mil, Nat.add_assoc]
  refine J_fill (n := 96) (by omega) ⟨l3, ?_⟩ ?_ (by omega) (by omega) ?_
  · simp (disch := omega) only [hLn_sR, hLn_alc, hN_sR, hN_alc, hp, Nat.add_assoc, Nat.reduceAdd, neq_t, neq_f, if_true, if_false]
  · simp (disch := omega) only [hN_sR, hN_alc, hp, Nat.add_assoc, Nat.reduceAdd]
    omega
  simp (disch := omega) only [g83_52, GN_nx, GN_rtn, GN_ck, GN_br, GN_cll, ldI_0, ldJ_0, ldR_0, ldI_s, ldJ_s, ldR_s, pI_c, pII_c, pJ_c, pJJ_c, pJI_c, pR_c, pRI_c, pRJ_c, pRR_c, pRII_c, pRIJ_c, pRIR_c, pCopy_c, pIe_c, pJe_c, pRe_c, pE_c, p1_i, p1_r, p11_ir, pA_0, pA_1, pA_2, pA_3, pA_4, pA_5, st1_0, st1_i, st1_r, st1_n, st1_u, st1_j, st1_s, st2_0, st2_i, st2_r, st2_n, st2_u, st2_j, st2_s, List.length_cons, List.length_nil, Nat.reduceAdd, Nat.reduceLT, Nat.reduceLeDiff, Nat.reduceEqDiff, Nat.zero_add, true_and, and_true, true_implies, not_true_eq_false, not_false_eq_true, false_implies, Option.toList_some, Option.toList_none, arr, inb, List.cons_append, List.nil_append, rv_some, rv_none, nlt_t, nlt_f, nle_t, nle_f, neq_f, ix_cl, ix_nn, ix_lt, cmp_le, cmp_lt, cmp_eq, cmp_lt0, cmp_ge0, cmp_eq0, cmp_gt0, cmp_le0, nI_mul, nI_add, nm1_ne, nm1_ne', one01, zero01, b2i_0, b2i_1, b2i_01, cmp_eq1, true_or, or_true, false_or, or_false, neq_t, hN_sI, hLn_sI, hR_sI, hL_sI, hI_sI, hN_sA, hLn_sA, hR_sA, hL_sA, hI_sA, hN_wI, hLn_wI, hR_wI, hL_wI, hI_wI, false_and, and_false, if_true, if_false, hN_fA, hLn_fA, hR_fA, hN_wrS, hLn_wrS, hR_wrS, hL_wrS, wS_day, wS_keeps, wS_brs, wS_first, wS_knows, wS_purse, wS_till, wS_valid, wS_kept, sS_day, sS_keeps, sS_brs, sS_first, sS_knows, sS_purse, sS_till, sS_valid, sS_kept, wrS_wrS, day_mk, knows_mk, purse_mk, till_mk, valid_mk, kept_mk, keeps_mk, brs_mk, first_mk, hN_wrU, hLn_wrU, hR_wrU, hL_wrU, wU_19, wU_20, sU_19, sU_20, upd_same, upd_upd, hN_wrR, hLn_wrR, hR_wrR, hL_wrR, bI_0, bI_01', bI_t1, eq_self, Bool.true_eq_false, Bool.false_eq_true, hN_wrC, hLn_wrC, hR_wrC, hL_wrC]
  refine hQ _ ?_ ?_ rfl ?_ ?_ ?_
  · simp (disch := omega) only [hN_fA, hN_sR, hN_alc, hp, Nat.add_assoc, Nat.reduceAdd]
  · show hW h + 8 + 8 + 96 + 8 + 40 = hW h + 160
    omega
  · refine Gr_trans (Gr_alc (by omega)) (Gr_trans (Gr_sR (by omega)) (Gr_trans (Gr_alc (by rw [hN_sR, hN_alc]; omega)) (Gr_trans (Gr_sR (by omega)) (Gr_trans (Gr_alc (by rw [hN_sR, hN_alc, hN_sR, hN_alc]; omega)) (Gr_trans (Gr_sR (by omega)) (Gr_trans (Gr_alc (by rw [hN_sR, hN_alc, hN_sR, hN_alc, hN_sR, hN_alc]; omega)) (Gr_trans (Gr_sR (by omega)) (Gr_trans (Gr_alc (by rw [hN_sR, hN_alc, hN_sR, hN_alc, hN_sR, hN_alc, hN_sR, hN_alc]; omega)) (Gr_trans (Gr_sR (by omega)) (Gr_sA (by omega)))))))))))
  · refine ⟨l0, ?_, by omega, ⟨?_, ?_, ?_, ?_, ?_⟩, ⟨l1, ?_⟩, ⟨l2, ?_⟩, ⟨l3, ?_⟩, ⟨l4, ?_⟩, ⟨l5, ?_⟩⟩
    all_goals simp (disch := omega) only [hN_fA, hLn_fA, hR_fA, hR_sR, hLn_sR, hLn_alc, hN_sR, hN_alc, hR_alc, hp, Nat.add_assoc, Nat.reduceAdd, neq_t, neq_f, if_true, if_false, true_and, false_and, and_true, and_false, Nat.reduceEqDiff]
    omega
  · intro k j hk
    refine k6 (P := fun k => hI (fillA _ (p + 3) 96 (-1)) (p + k) j = rowS zeroS k (hI (fillA _ (p + 3) 96 (-1)) (p + k)) j) ?_ ?_ ?_ ?_ ?_ ?_ k hk
    all_goals
      simp (disch := omega) only [fillA, hI_sA, hI_sR, hI_alc, hN_sR, hN_alc, hp, hz, Nat.add_zero, Nat.add_assoc, Nat.reduceAdd, neq_t, neq_f, if_true, if_false, rowS, zeroS, day_mk, knows_mk, purse_mk, till_mk, valid_mk, kept_mk, keeps_mk, brs_mk, first_mk]
      try (repeat' split) <;> rfl
end MAKE
