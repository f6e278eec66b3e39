/-! Capital's readers -/
theorem rv_some {q : Nat} : rv (some q) = .ref q := rfl
def foN {α : Type} (f : Nat → α → α) : Nat → Nat → α → α
  | _, 0, a => a
  | i, k + 1, a => foN f (i + 1) k (f i a)
/-- a Capital at c, its arrays behind it -/
def CapAt (h : AH) (c : Nat) : Prop := lay c = 0 ∧ c + 12 < hN h ∧ (∀ k, k < 12 → lay (c + 1 + k) = 10) ∧
  (hR h c 0 = some (c + 1) ∧ hR h c 1 = some (c + 2) ∧ hR h c 2 = some (c + 3) ∧ hR h c 4 = some (c + 4) ∧ hR h c 5 = some (c + 5) ∧ hR h c 7 = some (c + 6) ∧ hR h c 8 = some (c + 7) ∧ hR h c 9 = some (c + 8) ∧ hR h c 11 = some (c + 9) ∧ hR h c 12 = some (c + 10) ∧ hR h c 13 = some (c + 11) ∧ hR h c 15 = some (c + 12)) ∧
  (hLn h (c + 1) = 12 ∧ hLn h (c + 2) = 12 ∧ hLn h (c + 3) = 12 ∧ hLn h (c + 4) = 16 ∧ hLn h (c + 5) = 16 ∧ hLn h (c + 6) = 8 ∧ hLn h (c + 7) = 8 ∧ hLn h (c + 8) = 8 ∧ hLn h (c + 9) = 16 ∧ hLn h (c + 10) = 16 ∧ hLn h (c + 11) = 16 ∧ hLn h (c + 12) = 96) ∧ c < 1000
def comF (f : Nat → Int32) (day : Int32) (i : Nat) (acc : Int32) : Int32 := if f i ≤ day then acc ||| ((nI 1) <<< (nI i &&& 31)) else acc
theorem Cap_commonAt_loop {d c n : Nat} {h : AH} {day : Int32} {Q : Option Value → AH → Prop} (hC : CapAt h c) (hn : hI h c 3 = nI n) (hn12 : n ≤ 12) : ∀ (k i : Nat) (acc : Int32), i + k = n → Q (some (.int (foN (comF (hI h (c + 2)) day) i k acc))) h → G d 3 4 [.ref c, .int day, .int acc, .int (nI i)] [] h Q
  | 0, i, acc, hi, hQ => by
    obtain ⟨l0, hN, l1, hr, hl, hc⟩ := hC
    have e : nI n ≤ nI i := nI_le (by omega) (by omega)
    have hN0 : c < hN h := by omega
    simp only [g3_4, g3_5, g3_6, g3_9, GN_nx, GN_rtn, GN_ck, GN_br, GN_cll, ldI_0, ldJ_0, ldR_0, ldI_s, ldJ_s, ldR_s, pI_c, pII_c, pJ_c, pJJ_c, pJI_c, pR_c, pRI_c, pRJ_c, pRR_c, pRII_c, pRIJ_c, pRIR_c, pCopy_c, pIe_c, pJe_c, pRe_c, pE_c, p1_i, p1_r, p11_ir, pA_0, pA_1, pA_2, pA_3, pA_4, pA_5, st1_0, st1_i, st1_r, st1_n, st1_u, st1_j, st1_s, st2_0, st2_i, st2_r, st2_n, st2_u, st2_j, st2_s, List.length_cons, List.length_nil, Nat.reduceAdd, Nat.reduceLT, Nat.reduceLeDiff, Nat.reduceEqDiff, Nat.zero_add, true_and, and_true, true_implies, not_true_eq_false, not_false_eq_true, false_implies, Option.toList_some, Option.toList_none, arr, inb, List.cons_append, List.nil_append, rv_some,  l0, hn, e, hN0]
    simp only [g3_34, g3_35, GN_nx, GN_rtn, GN_ck, GN_br, GN_cll, ldI_0, ldJ_0, ldR_0, ldI_s, ldJ_s, ldR_s, pI_c, pII_c, pJ_c, pJJ_c, pJI_c, pR_c, pRI_c, pRJ_c, pRR_c, pRII_c, pRIJ_c, pRIR_c, pCopy_c, pIe_c, pJe_c, pRe_c, pE_c, p1_i, p1_r, p11_ir, pA_0, pA_1, pA_2, pA_3, pA_4, pA_5, st1_0, st1_i, st1_r, st1_n, st1_u, st1_j, st1_s, st2_0, st2_i, st2_r, st2_n, st2_u, st2_j, st2_s, List.length_cons, List.length_nil, Nat.reduceAdd, Nat.reduceLT, Nat.reduceLeDiff, Nat.reduceEqDiff, Nat.zero_add, true_and, and_true, true_implies, not_true_eq_false, not_false_eq_true, false_implies, Option.toList_some, Option.toList_none, arr, inb, List.cons_append, List.nil_append, rv_some]
    exact hQ
  | k + 1, i, acc, hi, hQ => by
    have hC' := hC
    obtain ⟨l0, hN, l1, hr, hl, hc⟩ := hC
    have e : ¬ nI n ≤ nI i := nI_ge (by omega) (by omega)
    have l2 : lay (c + 2) = 10 := l1 1 (by omega)
    have hcl : (nI i).toNatClampNeg = i := nI_clamp (by omega)
    have hin : (0 ≤ (nI i).toInt ∧ (nI i).toInt < ((12 : Nat) : Int)) := by
      rw [nI_toInt (by omega)]
      omega
    have hN0 : c < hN h := by omega
    have hN2 : c + 2 < hN h := by omega
    have hne : ¬ c + 2 = 1000003 := by omega
    simp only [g3_4, g3_5, g3_6, g3_9, GN_nx, GN_rtn, GN_ck, GN_br, GN_cll, ldI_0, ldJ_0, ldR_0, ldI_s, ldJ_s, ldR_s, pI_c, pII_c, pJ_c, pJJ_c, pJI_c, pR_c, pRI_c, pRJ_c, pRR_c, pRII_c, pRIJ_c, pRIR_c, pCopy_c, pIe_c, pJe_c, pRe_c, pE_c, p1_i, p1_r, p11_ir, pA_0, pA_1, pA_2, pA_3, pA_4, pA_5, st1_0, st1_i, st1_r, st1_n, st1_u, st1_j, st1_s, st2_0, st2_i, st2_r, st2_n, st2_u, st2_j, st2_s, List.length_cons, List.length_nil, Nat.reduceAdd, Nat.reduceLT, Nat.reduceLeDiff, Nat.reduceEqDiff, Nat.zero_add, true_and, and_true, true_implies, not_true_eq_false, not_false_eq_true, false_implies, Option.toList_some, Option.toList_none, arr, inb, List.cons_append, List.nil_append, rv_some,  l0, hn, e, hN0]
    simp only [g3_12, g3_13, g3_16, g3_17, g3_18, g3_19, GN_nx, GN_rtn, GN_ck, GN_br, GN_cll, ldI_0, ldJ_0, ldR_0, ldI_s, ldJ_s, ldR_s, pI_c, pII_c, pJ_c, pJJ_c, pJI_c, pR_c, pRI_c, pRJ_c, pRR_c, pRII_c, pRIJ_c, pRIR_c, pCopy_c, pIe_c, pJe_c, pRe_c, pE_c, p1_i, p1_r, p11_ir, pA_0, pA_1, pA_2, pA_3, pA_4, pA_5, st1_0, st1_i, st1_r, st1_n, st1_u, st1_j, st1_s, st2_0, st2_i, st2_r, st2_n, st2_u, st2_j, st2_s, List.length_cons, List.length_nil, Nat.reduceAdd, Nat.reduceLT, Nat.reduceLeDiff, Nat.reduceEqDiff, Nat.zero_add, true_and, and_true, true_implies, not_true_eq_false, not_false_eq_true, false_implies, Option.toList_some, Option.toList_none, arr, inb, List.cons_append, List.nil_append, rv_some,  l0, l2, hr.2.1, hl.2.1, hcl, hin.1, hin.2, hN0, hN2, hne]
    have e1 : nI i + nI 1 = nI (i + 1) := nI_1 i
    constructor
    · intro hlt
      simp only [g3_28, g3_31, GN_nx, GN_rtn, GN_ck, GN_br, GN_cll, ldI_0, ldJ_0, ldR_0, ldI_s, ldJ_s, ldR_s, pI_c, pII_c, pJ_c, pJJ_c, pJI_c, pR_c, pRI_c, pRJ_c, pRR_c, pRII_c, pRIJ_c, pRIR_c, pCopy_c, pIe_c, pJe_c, pRe_c, pE_c, p1_i, p1_r, p11_ir, pA_0, pA_1, pA_2, pA_3, pA_4, pA_5, st1_0, st1_i, st1_r, st1_n, st1_u, st1_j, st1_s, st2_0, st2_i, st2_r, st2_n, st2_u, st2_j, st2_s, List.length_cons, List.length_nil, Nat.reduceAdd, Nat.reduceLT, Nat.reduceLeDiff, Nat.reduceEqDiff, Nat.zero_add, true_and, and_true, true_implies, not_true_eq_false, not_false_eq_true, false_implies, Option.toList_some, Option.toList_none, arr, inb, List.cons_append, List.nil_append, rv_some,  e1]
      refine Cap_commonAt_loop hC' hn hn12 k (i + 1) acc (by omega) ?_
      have : foN (comF (hI h (c + 2)) day) i (k + 1) acc = foN (comF (hI h (c + 2)) day) (i + 1) k acc := by
        show foN _ (i + 1) k (comF (hI h (c + 2)) day i acc) = _
        rw [comF, if_neg (Int32.not_le.mpr hlt)]
      rw [← this]
      exact hQ
    · intro hlt
      simp only [g3_22, g3_23, g3_24, g3_25, g3_26, g3_27, g3_28, g3_31, GN_nx, GN_rtn, GN_ck, GN_br, GN_cll, ldI_0, ldJ_0, ldR_0, ldI_s, ldJ_s, ldR_s, pI_c, pII_c, pJ_c, pJJ_c, pJI_c, pR_c, pRI_c, pRJ_c, pRR_c, pRII_c, pRIJ_c, pRIR_c, pCopy_c, pIe_c, pJe_c, pRe_c, pE_c, p1_i, p1_r, p11_ir, pA_0, pA_1, pA_2, pA_3, pA_4, pA_5, st1_0, st1_i, st1_r, st1_n, st1_u, st1_j, st1_s, st2_0, st2_i, st2_r, st2_n, st2_u, st2_j, st2_s, List.length_cons, List.length_nil, Nat.reduceAdd, Nat.reduceLT, Nat.reduceLeDiff, Nat.reduceEqDiff, Nat.zero_add, true_and, and_true, true_implies, not_true_eq_false, not_false_eq_true, false_implies, Option.toList_some, Option.toList_none, arr, inb, List.cons_append, List.nil_append, rv_some,  e1]
      refine Cap_commonAt_loop hC' hn hn12 k (i + 1) _ (by omega) ?_
      have : foN (comF (hI h (c + 2)) day) i (k + 1) acc = foN (comF (hI h (c + 2)) day) (i + 1) k (acc ||| ((nI 1) <<< (nI i &&& 31))) := by
        show foN _ (i + 1) k (comF (hI h (c + 2)) day i acc) = _
        rw [comF, if_pos (Int32.not_lt.mp hlt)]
      rw [← this]
      exact hQ
