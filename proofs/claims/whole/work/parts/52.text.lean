/-! what a STATEMENT keeps; the whole text -/
section KEEP
variable {L : Nat} {b : Nat → Int32} {s : RS} {K : KK} {x : XK}
theorem thI_K {P : KK → Prop} {r : Int32 × RS} {k : Int32 → RS → SR} (h0 : P K) (hk : ∀ v s, P (k v s).2.2) : P (thI r K k).2.2 := by
  unfold thI
  split
  · exact h0
  · exact hk _ _
theorem thB_K {P : KK → Prop} {r : Bool × RS} {k : RS → SR} (h0 : P K) (hk : ∀ s, P (k s).2.2) : P (thB r K k).2.2 := by
  unfold thB
  split
  · exact hk _
  · exact h0
theorem thI_R {r : Int32 × RS} {k : Int32 → RS → SR} (h0 : RI L r.2) (hk : ∀ v s, RI L s → RI L (k v s).2.1) : RI L (thI r K k).2.1 := by
  unfold thI
  split
  · exact h0
  · exact hk _ _ h0
theorem thB_R {r : Bool × RS} {k : RS → SR} (h0 : RI L r.2) (hk : ∀ s, RI L s → RI L (k s).2.1) : RI L (thB r K k).2.1 := by
  unfold thB
  split
  · exact hk _ h0
  · exact h0
theorem KI_mk {K' : KK} {i j k l : Nat} (e1 : K' 0 3 = nI i) (h1 : i ≤ 12) (e2 : K' 0 6 = nI j) (h2 : j ≤ 16) (e3 : K' 0 10 = nI k) (h3 : k ≤ 8) (e4 : K' 0 14 = nI l) (h4 : l ≤ 16) : KI K' := by
  have f1 : cF K' = i := by unfold cF; rw [e1]; exact nI_clamp (by omega)
  have f2 : cU K' = j := by unfold cU; rw [e2]; exact nI_clamp (by omega)
  have f3 : cP K' = k := by unfold cP; rw [e3]; exact nI_clamp (by omega)
  have f4 : cM K' = l := by unfold cM; rw [e4]; exact nI_clamp (by omega)
  exact ⟨⟨by rw [f1]; exact e1, by omega⟩, ⟨by rw [f2]; exact e2, by omega⟩, ⟨by rw [f3]; exact e3, by omega⟩, ⟨by rw [f4]; exact e4, by omega⟩⟩
theorem KI_fact (hK : KI K) (h : cF K < 12) : KI (factS b L K s).2.2 := by
  refine thI_K hK (fun _ _ => thB_K hK (fun _ => thI_K hK (fun _ _ => thB_K hK (fun _ => thI_K hK (fun _ _ => ?_)))))
  obtain ⟨⟨y1, z1⟩, ⟨y2, z2⟩, ⟨y3, z3⟩, ⟨y4, z4⟩⟩ := hK
  exact KI_mk (i := cF K + 1) (by simp [addF, u2_a]) (by omega) (by simp [addF, u2_a]; exact y2) z2 (by simp [addF, u2_a]; exact y3) z3 (by simp [addF, u2_a]; exact y4) z4
theorem KI_pers (hK : KI K) (h : cP K < 8) : KI (persS b L K s).2.2 := by
  refine thI_K hK (fun _ _ => thB_K hK (fun _ => thI_K hK (fun _ _ => thB_K hK (fun _ => thI_K hK (fun _ _ => ?_)))))
  obtain ⟨⟨y1, z1⟩, ⟨y2, z2⟩, ⟨y3, z3⟩, ⟨y4, z4⟩⟩ := hK
  exact KI_mk (k := cP K + 1) (by simp [addP, u2_a]; exact y1) z1 (by simp [addP, u2_a]; exact y2) z2 (by simp [addP, u2_a]) (by omega) (by simp [addP, u2_a]; exact y4) z4
theorem KI_meet (hK : KI K) (h : cM K < 16) : KI (meetS b L K s).2.2 := by
  refine thI_K hK (fun _ _ => thI_K hK (fun _ _ => thB_K hK (fun _ => thI_K hK (fun _ _ => ?_))))
  obtain ⟨⟨y1, z1⟩, ⟨y2, z2⟩, ⟨y3, z3⟩, ⟨y4, z4⟩⟩ := hK
  exact KI_mk (l := cM K + 1) (by simp [addM, u2_a]; exact y1) z1 (by simp [addM, u2_a]; exact y2) z2 (by simp [addM, u2_a]; exact y3) z3 (by simp [addM, u2_a]) (by omega)
theorem KI_rule (hK : KI K) (h : cU K < 16) : KI (ruleS b L K s).2.2 := by
  refine thI_K hK (fun _ _ => thB_K hK (fun _ => ?_))
  unfold ruleE
  split
  · obtain ⟨⟨y1, z1⟩, ⟨y2, z2⟩, ⟨y3, z3⟩, ⟨y4, z4⟩⟩ := hK
    exact KI_mk (j := cU K + 1) (by simp [addU, u2_a]; exact y1) z1 (by simp [addU, u2_a]) (by omega) (by simp [addU, u2_a]; exact y3) z3 (by simp [addU, u2_a]; exact y4) z4
  · exact hK
theorem KI_lic (hK : KI K) : KI (licS b L K s).2.2 := by
  refine thI_K hK (fun _ _ => thI_K hK (fun _ _ => thB_K hK (fun _ => thI_K hK (fun _ _ => ?_))))
  obtain ⟨⟨y1, z1⟩, ⟨y2, z2⟩, ⟨y3, z3⟩, ⟨y4, z4⟩⟩ := hK
  show KI (addL _ _ _ _)
  unfold addL
  split
  · exact KI_mk (by simp [u2_a]; exact y1) z1 (by simp [u2_a]; exact y2) z2 (by simp [u2_a]; exact y3) z3 (by simp [u2_a]; exact y4) z4
  · exact KI_mk (by simp [u2_a]; exact y1) z1 (by simp [u2_a]; exact y2) z2 (by simp [u2_a]; exact y3) z3 (by simp [u2_a]; exact y4) z4
theorem KI_sto (hK : KI K) : KI (stoS b L K s).2.2 := by
  refine thI_K hK (fun _ _ => ?_)
  obtain ⟨⟨y1, z1⟩, ⟨y2, z2⟩, ⟨y3, z3⟩, ⟨y4, z4⟩⟩ := hK
  exact KI_mk (by simp [u2_a]; exact y1) z1 (by simp [u2_a]; exact y2) z2 (by simp [u2_a]; exact y3) z3 (by simp [u2_a]; exact y4) z4
theorem KI_stm {k p : Int32} (hK : KI x.1) (htoo : tooB x.1 x.2.1.1 x.2.2.1 k = false) : KI (stmR b L k p s x).2.2.1 := by
  unfold stmR
  unfold tooB at htoo
  by_cases z0 : k.toInt = 0
  · rw [if_pos z0] at htoo ⊢
    exact KI_fact hK (by have := of_decide_eq_false htoo; omega)
  rw [if_neg z0] at htoo ⊢
  by_cases z3 : k.toInt = 3
  · rw [if_pos z3] at htoo ⊢
    exact KI_rule hK (by have := of_decide_eq_false htoo; omega)
  rw [if_neg z3] at htoo ⊢
  by_cases z5 : k.toInt = 5
  · rw [if_pos z5] at htoo ⊢
    exact KI_pers hK (by have := of_decide_eq_false htoo; omega)
  rw [if_neg z5] at htoo ⊢
  by_cases z8 : k.toInt = 8
  · rw [if_pos z8] at htoo ⊢
    exact KI_meet hK (by have := of_decide_eq_false htoo; omega)
  rw [if_neg z8] at htoo ⊢
  by_cases z10 : k.toInt = 10
  · rw [if_pos z10]
    exact KI_lic hK
  rw [if_neg z10]
  by_cases z12 : k.toInt = 12
  · rw [if_pos z12]
    unfold prcS
    dsimp only
    split
    · exact hK
    · exact hK
  rw [if_neg z12]
  by_cases z13 : k.toInt = 13
  · rw [if_pos z13]
    unfold telS
    dsimp only
    split
    · exact hK
    · exact hK
  rw [if_neg z13]
  by_cases z14 : k.toInt = 14
  · rw [if_pos z14]
    exact KI_sto hK
  rw [if_neg z14]
  exact hK
theorem KI_st (hK : KI x.1) : KI (stS b L s x).2.2.1 := by
  unfold stS
  cases htoo : tooB x.1 x.2.1.1 x.2.2.1 (s.1 6) with
  | true =>
    rw [if_pos rfl]
    exact hK
  | false =>
    rw [if_neg (by decide)]
    exact KI_stm hK htoo
theorem RI_rul {y : Int32} (hLe : L ≤ 1600) : ∀ (q k : Nat) (fr : Int32) (s : RS), RI L s → RI L (rulL b L K y q k fr s).2.2
  | 0, _, _, _, h => h
  | q + 1, k, fr, s, h => by
    unfold rulL
    have h1 := RI_nam (b := b) (nm := K 1) (n := cF K) (bar := fr ||| bt y) hLe h
    split
    · split
      · exact h1
      · exact RI_rul hLe q (k + 1) _ _ h1
    · exact h
theorem RI_stm {k p : Int32} (hLe : L ≤ 1600) (h : RI L s) (ho : s.1 12 = nI 0) : RI L (stmR b L k p s x).2.1 := by
  unfold stmR
  by_cases z0 : k.toInt = 0
  · rw [if_pos z0]
    exact thI_R (RI_new hLe h) (fun _ _ h => thB_R (RI_ps hLe h) (fun _ h => thI_R (RI_nm hLe h) (fun _ _ h => thB_R (RI_ps hLe h) (fun _ h => thI_R (RI_nm hLe h) (fun _ _ h => h)))))
  rw [if_neg z0]
  by_cases z3 : k.toInt = 3
  · rw [if_pos z3]
    refine thI_R (RI_nam hLe h) (fun _ _ h => thB_R (RI_ps hLe h) (fun _ h => ?_))
    unfold ruleE
    split
    · exact RI_rul hLe _ _ _ _ h
    · exact RI_rul hLe _ _ _ _ h
  rw [if_neg z3]
  by_cases z5 : k.toInt = 5
  · rw [if_pos z5]
    exact thI_R (RI_new hLe h) (fun _ _ h => thB_R (RI_ps hLe h) (fun _ h => thI_R (RI_nm hLe h) (fun _ _ h => thB_R (RI_ps hLe h) (fun _ h => thI_R (RI_nm hLe h) (fun _ _ h => h)))))
  rw [if_neg z5]
  by_cases z8 : k.toInt = 8
  · rw [if_pos z8]
    exact thI_R (RI_nam hLe h) (fun _ _ h => thI_R (RI_nam hLe h) (fun _ _ h => thB_R (RI_ps hLe h) (fun _ h => thI_R (RI_nm hLe h) (fun _ _ h => h))))
  rw [if_neg z8]
  by_cases z10 : k.toInt = 10
  · rw [if_pos z10]
    exact thI_R (RI_nam hLe h) (fun _ _ h => thI_R (RI_kn hLe h) (fun _ _ h => thB_R (RI_ps hLe h) (fun _ h => thI_R (RI_nm hLe h) (fun _ _ h => h))))
  rw [if_neg z10]
  by_cases z12 : k.toInt = 12
  · rw [if_pos z12]
    exact (sm_ok (b := b) hLe 8 0 (by omega) (by omega) s h ho).1
  rw [if_neg z12]
  by_cases z13 : k.toInt = 13
  · rw [if_pos z13]
    exact (ts_ok (b := b) hLe 8 0 (by omega) (by omega) s h ho).1
  rw [if_neg z13]
  by_cases z14 : k.toInt = 14
  · rw [if_pos z14]
    exact thI_R (RI_nm hLe h) (fun _ _ h => h)
  rw [if_neg z14]
  exact RI_fl h
theorem RI_st (hLe : L ≤ 1600) (h : RI L s) : RI L (stS b L s x).2.1 := by
  unfold stS
  by_cases z : tooB x.1 x.2.1.1 x.2.2.1 (s.1 6) = true
  · rw [if_pos z]
    exact RI_fl (RI_frt h)
  rw [if_neg z]
  refine RI_stm hLe (RI_zer ?_) zer_12
  split
  · exact RI_nx hLe (RI_frt h)
  · exact RI_frt h
end KEEP
def txL (b : Nat → Int32) (L : Nat) : Nat → Nat → RS → XK → Int32 × RS × XK
  | 0, _, s, x => (-1, s, x)
  | q + 1, n, s, x => if s.1 6 = nI 28 then (nI n, s, x) else if 80 ≤ n then (-1, (flS s (nI 6) (s.1 8)).2, x) else if (stS b L s x).1 = true then (if (psS b L (nI 159) (stS b L s x).2.1).1 = true then txL b L q (n + 1) (psS b L (nI 159) (stS b L s x).2.1).2 (stS b L s x).2.2 else (-1, (psS b L (nI 159) (stS b L s x).2.1).2, (stS b L s x).2.2)) else (-1, (stS b L s x).2.1, (stS b L s x).2.2)
def strF (f : Nat → Int32) (n : Nat) : Nat → Int32 := upd (upd (upd (upd (upd f 3 (nI n)) 4 (nI 0)) 10 (nI 0)) 0 (nI 0)) 1 (-1)
def filK (K : KK) : KK := fun k => if k = 12 then (fun j => if j < 96 then -1 else K 12 j) else K k
def clrK (K : KK) : KK := u2 (u2 (filK (u2 (u2 (u2 (u2 K 0 3 (nI 0)) 0 6 (nI 0)) 0 10 (nI 0)) 0 14 (nI 0))) 0 16 (nI 0)) 0 17 (nI 20)
def clrX (K : KK) : XK := (clrK K, (0, fun _ => 0), (0, fun _ => 0))
def txR (b : Nat → Int32) (n : Nat) (K : KK) (s : RS) : Int32 × RS × XK := txL b n 81 0 (nxS b n (strF s.1 n, s.2)) (clrX K)
def basH (h : AH) (c : Nat) : AH := sR (sR (sR (sR h 2 2 (some 1)) 2 5 (some c)) c 18 (some 1000000)) c 19 (some 1000000)
section TXT
variable {d c : Nat} {h : AH} {b f g : Nat → Int32} {K : KK} {Q : Option Value → AH → Prop}
theorem sR_R {a i : Nat} {v : Option Nat} : sR (wrR (wrC h c K) f g) a i v = wrR (wrC (sR h a i v) c K) f g := rfl
theorem sA_R {H : AH} {a : Nat} {v : Nat → Int32} (h1 : a < 2 ∨ 3 < a) : sA (wrR H f g) a v = wrR (sA H a v) f g := by
  refine ah_ext rfl rfl rfl ?_ rfl
  funext b j
  show (if b = a then v j else if b = 2 then f j else if b = 3 then g j else hI H b j) = if b = 2 then f j else if b = 3 then g j else if b = a then v j else hI H b j
  by_cases hb : b = a
  · rw [if_pos hb, if_neg (by omega), if_neg (by omega), if_pos hb]
  · rw [if_neg hb, if_neg hb]
theorem fil_C (hc : 4 < c) : fillA (wrR (wrC h c K) f g) (c + 12) 96 (-1) = wrR (wrC h c (filK K)) f g := by
  unfold fillA
  rw [sA_R (by omega), sA_C (by omega), wR_ne (by omega), wC_in (by omega)]
  rfl
theorem Cap_sR {a i : Nat} {v : Option Nat} (hC : CapAt h c) (hai : ¬ a = c ∨ 17 < i) : CapAt (sR h a i v) c := by
  obtain ⟨e0, eN, eT, ⟨q0, q1, q2, q3, q4, q5, q6, q7, q8, q9, q10, q11⟩, ⟨⟨a0, b0⟩, ⟨a1, b1⟩, ⟨a2, b2⟩, ⟨a3, b3⟩, ⟨a4, b4⟩, ⟨a5, b5⟩, ⟨a6, b6⟩, ⟨a7, b7⟩, ⟨a8, b8⟩, ⟨a9, b9⟩, ⟨a10, b10⟩, ⟨a11, b11⟩⟩⟩ := hC
  have rr : ∀ j w, j < 18 → hR h c j = w → hR (sR h a i v) c j = w := fun j w hj e => by
    rw [hR_sR, if_neg (by omega)]
    exact e
  exact ⟨e0, eN, eT, ⟨rr _ _ (by omega) q0, rr _ _ (by omega) q1, rr _ _ (by omega) q2, rr _ _ (by omega) q3, rr _ _ (by omega) q4, rr _ _ (by omega) q5, rr _ _ (by omega) q6, rr _ _ (by omega) q7, rr _ _ (by omega) q8, rr _ _ (by omega) q9, rr _ _ (by omega) q10, rr _ _ (by omega) q11⟩, ⟨a0, b0⟩, ⟨a1, b1⟩, ⟨a2, b2⟩, ⟨a3, b3⟩, ⟨a4, b4⟩, ⟨a5, b5⟩, ⟨a6, b6⟩, ⟨a7, b7⟩, ⟨a8, b8⟩, ⟨a9, b9⟩, ⟨a10, b10⟩, ⟨a11, b11⟩⟩
theorem Cap_clear (hd : 2 ≤ d) (hC : CapAt h c) (hc : 4 < c) (hQ : Q none (wrR (wrC (sR (sR h c 18 (some 1000000)) c 19 (some 1000000)) c (clrK K)) f g)) : CL d 1 [.ref c] (wrR (wrC h c K) f g) Q := by
  have hC' := hC
  obtain ⟨e0, eN, eT, ⟨q0, q1, q2, q3, q4, q5, q6, q7, q8, q9, q10, q11⟩, ⟨⟨a0, b0⟩, ⟨a1, b1⟩, ⟨a2, b2⟩, ⟨a3, b3⟩, ⟨a4, b4⟩, ⟨a5, b5⟩, ⟨a6, b6⟩, ⟨a7, b7⟩, ⟨a8, b8⟩, ⟨a9, b9⟩, ⟨a10, b10⟩, ⟨a11, b11⟩⟩⟩ := hC
  refine en1 (by omega) ?_
  simp (disch := omega) only [g1_0, g1_1, g1_2, g1_5, g1_6, g1_7, g1_10, g1_11, g1_12, g1_15, g1_16, g1_17, g1_20, g1_21, g1_24, g1_25, GN_nx, GN_rtn, GN_ck, GN_br, GN_cll, ldI_0, ldJ_0, ldR_0, ldI_s, ldJ_s, ldR_s, pI_c, pII_c, pJ_c, pJJ_c, pJI_c, pR_c, pRI_c, pRJ_c, pRR_c, pRII_c, pRIJ_c, pRIR_c, pCopy_c, pIe_c, pJe_c, pRe_c, pE_c, p1_i, p1_r, p11_ir, pA_0, pA_1, pA_2, pA_3, pA_4, pA_5, st1_0, st1_i, st1_r, st1_n, st1_u, st1_j, st1_s, st2_0, st2_i, st2_r, st2_n, st2_u, st2_j, st2_s, List.length_cons, List.length_nil, Nat.reduceAdd, Nat.reduceLT, Nat.reduceLeDiff, Nat.reduceEqDiff, Nat.zero_add, true_and, and_true, true_implies, not_true_eq_false, not_false_eq_true, false_implies, Option.toList_some, Option.toList_none, arr, inb, List.cons_append, List.nil_append, rv_some, rv_none, nlt_t, nlt_f, nle_t, nle_f, neq_f, ix_cl, ix_nn, ix_lt, cmp_le, cmp_lt, cmp_eq, cmp_lt0, cmp_ge0, cmp_eq0, cmp_gt0, cmp_le0, nI_mul, nI_add, nm1_ne, nm1_ne', one01, zero01, b2i_0, b2i_1, b2i_01, cmp_eq1, true_or, or_true, false_or, or_false, neq_t, hN_sI, hLn_sI, hR_sI, hL_sI, hI_sI, hN_sA, hLn_sA, hR_sA, hL_sA, hI_sA, hN_wI, hLn_wI, hR_wI, hL_wI, hI_wI, false_and, and_false, if_true, if_false, hN_fA, hLn_fA, hR_fA, hN_wrS, hLn_wrS, hR_wrS, hL_wrS, wS_day, wS_keeps, wS_brs, wS_first, wS_knows, wS_purse, wS_till, wS_valid, wS_kept, sS_day, sS_keeps, sS_brs, sS_first, sS_knows, sS_purse, sS_till, sS_valid, sS_kept, wrS_wrS, day_mk, knows_mk, purse_mk, till_mk, valid_mk, kept_mk, keeps_mk, brs_mk, first_mk, hN_wrU, hLn_wrU, hR_wrU, hL_wrU, wU_19, wU_20, sU_19, sU_20, upd_same, upd_upd, hN_wrR, hLn_wrR, hR_wrR, hL_wrR, bI_0, bI_01', bI_t1, eq_self, Bool.true_eq_false, Bool.false_eq_true, hN_wrC, hLn_wrC, hR_wrC, hL_wrC,  e0, q0, q1, q2, q3, q4, q5, q6, q7, q8, q9, q10, q11, a0, b0, a1, b1, a2, b2, a3, b3, a4, b4, a5, b5, a6, b6, a7, b7, a8, b8, a9, b9, a10, b10, a11, b11, sRR_ne, sC_0]
  refine J_fill (n := 96) (by omega) ⟨a11, b11⟩ (by rw [hN_wrR, hN_wrC]; omega) (by omega) (by omega) ?_
  rw [fil_C hc]
  simp (disch := omega) only [g1_28, g1_29, g1_30, g1_33, g1_34, g1_36, g1_39, g1_40, g1_43, g1_46, g1_47, g1_50, g1_53, GN_nx, GN_rtn, GN_ck, GN_br, GN_cll, ldI_0, ldJ_0, ldR_0, ldI_s, ldJ_s, ldR_s, pI_c, pII_c, pJ_c, pJJ_c, pJI_c, pR_c, pRI_c, pRJ_c, pRR_c, pRII_c, pRIJ_c, pRIR_c, pCopy_c, pIe_c, pJe_c, pRe_c, pE_c, p1_i, p1_r, p11_ir, pA_0, pA_1, pA_2, pA_3, pA_4, pA_5, st1_0, st1_i, st1_r, st1_n, st1_u, st1_j, st1_s, st2_0, st2_i, st2_r, st2_n, st2_u, st2_j, st2_s, List.length_cons, List.length_nil, Nat.reduceAdd, Nat.reduceLT, Nat.reduceLeDiff, Nat.reduceEqDiff, Nat.zero_add, true_and, and_true, true_implies, not_true_eq_false, not_false_eq_true, false_implies, Option.toList_some, Option.toList_none, arr, inb, List.cons_append, List.nil_append, rv_some, rv_none, nlt_t, nlt_f, nle_t, nle_f, neq_f, ix_cl, ix_nn, ix_lt, cmp_le, cmp_lt, cmp_eq, cmp_lt0, cmp_ge0, cmp_eq0, cmp_gt0, cmp_le0, nI_mul, nI_add, nm1_ne, nm1_ne', one01, zero01, b2i_0, b2i_1, b2i_01, cmp_eq1, true_or, or_true, false_or, or_false, neq_t, hN_sI, hLn_sI, hR_sI, hL_sI, hI_sI, hN_sA, hLn_sA, hR_sA, hL_sA, hI_sA, hN_wI, hLn_wI, hR_wI, hL_wI, hI_wI, false_and, and_false, if_true, if_false, hN_fA, hLn_fA, hR_fA, hN_wrS, hLn_wrS, hR_wrS, hL_wrS, wS_day, wS_keeps, wS_brs, wS_first, wS_knows, wS_purse, wS_till, wS_valid, wS_kept, sS_day, sS_keeps, sS_brs, sS_first, sS_knows, sS_purse, sS_till, sS_valid, sS_kept, wrS_wrS, day_mk, knows_mk, purse_mk, till_mk, valid_mk, kept_mk, keeps_mk, brs_mk, first_mk, hN_wrU, hLn_wrU, hR_wrU, hL_wrU, wU_19, wU_20, sU_19, sU_20, upd_same, upd_upd, hN_wrR, hLn_wrR, hR_wrR, hL_wrR, bI_0, bI_01', bI_t1, eq_self, Bool.true_eq_false, Bool.false_eq_true, hN_wrC, hLn_wrC, hR_wrC, hL_wrC,  e0, q0, q1, q2, q3, q4, q5, q6, q7, q8, q9, q10, q11, a0, b0, a1, b1, a2, b2, a3, b3, a4, b4, a5, b5, a6, b6, a7, b7, a8, b8, a9, b9, a10, b10, a11, b11, sRR_ne, sC_0, sR_R, hN_sR]
  exact hQ
theorem Rd_readText {n : Nat} (hd : 100 ≤ d) (hRd : RdAt (basH h c) b) (hC : CapAt h c) (hc : 4 < c) (hN0 : 220 ≤ hN h) (hN1 : hN h ≤ 90000) (hn : n ≤ 1600) (h14 : ∃ k, f 14 = nI k ∧ k ≤ 1600) (hQ : ∀ h', HX c (basH h c) h' (txR b n K (f, g)).2.2 → Q (some (.int (txR b n K (f, g)).1)) (wrR (wrC h' c (txR b n K (f, g)).2.2.1) (txR b n K (f, g)).2.1.1 (txR b n K (f, g)).2.1.2)) : CL d 50 [.ref 2, .ref 1, .int (nI n), .ref c] (wrR (wrC h c K) f g) Q := by
  have hRd' := hRd
  have hCb : CapAt (basH h c) c := Cap_sR (Cap_sR (Cap_sR (Cap_sR hC (by omega)) (by omega)) (by omega)) (by omega)
  obtain ⟨r0, r1, r2, r3, r4, r6, r7, r8, ⟨r9, r10⟩, r11, r12⟩ := hRd
  have hNb : hN (basH h c) = hN h := rfl
  have e0 : lay c = 0 := hC.1
  have eN : c + 12 < hN h := hC.2.1
  have r10' : hLn h 1 = 1600 := r10
  have hr5 : hR (basH h c) 2 5 = some c := by
    unfold basH
    rw [hR_sR, if_neg (by omega), hR_sR, if_neg (by omega), hR_sR, if_pos ⟨rfl, rfl⟩]
  have key : ∀ (q m : Nat) (s : RS) (x : XK) (h1 : AH), m + q = 81 → HX c (basH h c) h1 x → m ≤ 80 → RI n s → TI n s → KI x.1 → (∀ h', HX c (basH h c) h' (txL b n q m s x).2.2 → Q (some (.int (txL b n q m s x).1)) (wrR (wrC h' c (txL b n q m s x).2.2.1) (txL b n q m s x).2.1.1 (txL b n q m s x).2.1.2)) → G (d - 1) 50 54 [.ref 2, .ref 1, .int (nI n), .ref c, .int (nI m)] [] (wrR (wrC h1 c x.1) s.1 s.2) Q := by
    intro q
    induction q with
    | zero =>
      intro m s x h1 hm hx hm80 hri hti hK hq
      omega
    | succ q ih =>
      intro m s x h1 hm hx hm80 hri hti hK hq
      have hR1 := Rd_ex hc hRd' hx.1
      have h1N : 219 < hN h1 := hR1.2.1
      have hRC := RdAt_C (K := x.1) (c := c) hc hR1
      rw [txL] at hq
      simp (disch := omega) only [g50_54, g50_55, g50_58, g50_60, GN_nx, GN_rtn, GN_ck, GN_br, GN_cll, ldI_0, ldJ_0, ldR_0, ldI_s, ldJ_s, ldR_s, pI_c, pII_c, pJ_c, pJJ_c, pJI_c, pR_c, pRI_c, pRJ_c, pRR_c, pRII_c, pRIJ_c, pRIR_c, pCopy_c, pIe_c, pJe_c, pRe_c, pE_c, p1_i, p1_r, p11_ir, pA_0, pA_1, pA_2, pA_3, pA_4, pA_5, st1_0, st1_i, st1_r, st1_n, st1_u, st1_j, st1_s, st2_0, st2_i, st2_r, st2_n, st2_u, st2_j, st2_s, List.length_cons, List.length_nil, Nat.reduceAdd, Nat.reduceLT, Nat.reduceLeDiff, Nat.reduceEqDiff, Nat.zero_add, true_and, and_true, true_implies, not_true_eq_false, not_false_eq_true, false_implies, Option.toList_some, Option.toList_none, arr, inb, List.cons_append, List.nil_append, rv_some, rv_none, nlt_t, nlt_f, nle_t, nle_f, neq_f, ix_cl, ix_nn, ix_lt, cmp_le, cmp_lt, cmp_eq, cmp_lt0, cmp_ge0, cmp_eq0, cmp_gt0, cmp_le0, nI_mul, nI_add, nm1_ne, nm1_ne', one01, zero01, b2i_0, b2i_1, b2i_01, cmp_eq1, true_or, or_true, false_or, or_false, neq_t, hN_sI, hLn_sI, hR_sI, hL_sI, hI_sI, hN_sA, hLn_sA, hR_sA, hL_sA, hI_sA, hN_wI, hLn_wI, hR_wI, hL_wI, hI_wI, false_and, and_false, if_true, if_false, hN_fA, hLn_fA, hR_fA, hN_wrS, hLn_wrS, hR_wrS, hL_wrS, wS_day, wS_keeps, wS_brs, wS_first, wS_knows, wS_purse, wS_till, wS_valid, wS_kept, sS_day, sS_keeps, sS_brs, sS_first, sS_knows, sS_purse, sS_till, sS_valid, sS_kept, wrS_wrS, day_mk, knows_mk, purse_mk, till_mk, valid_mk, kept_mk, keeps_mk, brs_mk, first_mk, hN_wrU, hLn_wrU, hR_wrU, hL_wrU, wU_19, wU_20, sU_19, sU_20, upd_same, upd_upd, hN_wrR, hLn_wrR, hR_wrR, hL_wrR, bI_0, bI_01', bI_t1, eq_self, Bool.true_eq_false, Bool.false_eq_true, hN_wrC, hLn_wrC, hR_wrC, hL_wrC,  r0, wR_2]
      refine And.intro (fun e1 => ?_) (fun e1 => ?_)
      · rw [if_pos e1] at hq
        simp (disch := omega) only [g50_108, g50_110, GN_nx, GN_rtn, GN_ck, GN_br, GN_cll, ldI_0, ldJ_0, ldR_0, ldI_s, ldJ_s, ldR_s, pI_c, pII_c, pJ_c, pJJ_c, pJI_c, pR_c, pRI_c, pRJ_c, pRR_c, pRII_c, pRIJ_c, pRIR_c, pCopy_c, pIe_c, pJe_c, pRe_c, pE_c, p1_i, p1_r, p11_ir, pA_0, pA_1, pA_2, pA_3, pA_4, pA_5, st1_0, st1_i, st1_r, st1_n, st1_u, st1_j, st1_s, st2_0, st2_i, st2_r, st2_n, st2_u, st2_j, st2_s, List.length_cons, List.length_nil, Nat.reduceAdd, Nat.reduceLT, Nat.reduceLeDiff, Nat.reduceEqDiff, Nat.zero_add, true_and, and_true, true_implies, not_true_eq_false, not_false_eq_true, false_implies, Option.toList_some, Option.toList_none, arr, inb, List.cons_append, List.nil_append, rv_some, rv_none, nlt_t, nlt_f, nle_t, nle_f, neq_f, ix_cl, ix_nn, ix_lt, cmp_le, cmp_lt, cmp_eq, cmp_lt0, cmp_ge0, cmp_eq0, cmp_gt0, cmp_le0, nI_mul, nI_add, nm1_ne, nm1_ne', one01, zero01, b2i_0, b2i_1, b2i_01, cmp_eq1, true_or, or_true, false_or, or_false, neq_t, hN_sI, hLn_sI, hR_sI, hL_sI, hI_sI, hN_sA, hLn_sA, hR_sA, hL_sA, hI_sA, hN_wI, hLn_wI, hR_wI, hL_wI, hI_wI, false_and, and_false, if_true, if_false, hN_fA, hLn_fA, hR_fA, hN_wrS, hLn_wrS, hR_wrS, hL_wrS, wS_day, wS_keeps, wS_brs, wS_first, wS_knows, wS_purse, wS_till, wS_valid, wS_kept, sS_day, sS_keeps, sS_brs, sS_first, sS_knows, sS_purse, sS_till, sS_valid, sS_kept, wrS_wrS, day_mk, knows_mk, purse_mk, till_mk, valid_mk, kept_mk, keeps_mk, brs_mk, first_mk, hN_wrU, hLn_wrU, hR_wrU, hL_wrU, wU_19, wU_20, sU_19, sU_20, upd_same, upd_upd, hN_wrR, hLn_wrR, hR_wrR, hL_wrR, bI_0, bI_01', bI_t1, eq_self, Bool.true_eq_false, Bool.false_eq_true, hN_wrC, hLn_wrC, hR_wrC, hL_wrC]
        exact hq h1 hx
      · rw [if_neg e1] at hq
        simp (disch := omega) only [g50_63, g50_65, g50_67, GN_nx, GN_rtn, GN_ck, GN_br, GN_cll, ldI_0, ldJ_0, ldR_0, ldI_s, ldJ_s, ldR_s, pI_c, pII_c, pJ_c, pJJ_c, pJI_c, pR_c, pRI_c, pRJ_c, pRR_c, pRII_c, pRIJ_c, pRIR_c, pCopy_c, pIe_c, pJe_c, pRe_c, pE_c, p1_i, p1_r, p11_ir, pA_0, pA_1, pA_2, pA_3, pA_4, pA_5, st1_0, st1_i, st1_r, st1_n, st1_u, st1_j, st1_s, st2_0, st2_i, st2_r, st2_n, st2_u, st2_j, st2_s, List.length_cons, List.length_nil, Nat.reduceAdd, Nat.reduceLT, Nat.reduceLeDiff, Nat.reduceEqDiff, Nat.zero_add, true_and, and_true, true_implies, not_true_eq_false, not_false_eq_true, false_implies, Option.toList_some, Option.toList_none, arr, inb, List.cons_append, List.nil_append, rv_some, rv_none, nlt_t, nlt_f, nle_t, nle_f, neq_f, ix_cl, ix_nn, ix_lt, cmp_le, cmp_lt, cmp_eq, cmp_lt0, cmp_ge0, cmp_eq0, cmp_gt0, cmp_le0, nI_mul, nI_add, nm1_ne, nm1_ne', one01, zero01, b2i_0, b2i_1, b2i_01, cmp_eq1, true_or, or_true, false_or, or_false, neq_t, hN_sI, hLn_sI, hR_sI, hL_sI, hI_sI, hN_sA, hLn_sA, hR_sA, hL_sA, hI_sA, hN_wI, hLn_wI, hR_wI, hL_wI, hI_wI, false_and, and_false, if_true, if_false, hN_fA, hLn_fA, hR_fA, hN_wrS, hLn_wrS, hR_wrS, hL_wrS, wS_day, wS_keeps, wS_brs, wS_first, wS_knows, wS_purse, wS_till, wS_valid, wS_kept, sS_day, sS_keeps, sS_brs, sS_first, sS_knows, sS_purse, sS_till, sS_valid, sS_kept, wrS_wrS, day_mk, knows_mk, purse_mk, till_mk, valid_mk, kept_mk, keeps_mk, brs_mk, first_mk, hN_wrU, hLn_wrU, hR_wrU, hL_wrU, wU_19, wU_20, sU_19, sU_20, upd_same, upd_upd, hN_wrR, hLn_wrR, hR_wrR, hL_wrR, bI_0, bI_01', bI_t1, eq_self, Bool.true_eq_false, Bool.false_eq_true, hN_wrC, hLn_wrC, hR_wrC, hL_wrC]
        refine And.intro (fun e2 => ?_) (fun e2 => ?_)
        · rw [if_neg (by omega)] at hq
          simp (disch := omega) only [g50_83, g50_84, GN_nx, GN_rtn, GN_ck, GN_br, GN_cll, ldI_0, ldJ_0, ldR_0, ldI_s, ldJ_s, ldR_s, pI_c, pII_c, pJ_c, pJJ_c, pJI_c, pR_c, pRI_c, pRJ_c, pRR_c, pRII_c, pRIJ_c, pRIR_c, pCopy_c, pIe_c, pJe_c, pRe_c, pE_c, p1_i, p1_r, p11_ir, pA_0, pA_1, pA_2, pA_3, pA_4, pA_5, st1_0, st1_i, st1_r, st1_n, st1_u, st1_j, st1_s, st2_0, st2_i, st2_r, st2_n, st2_u, st2_j, st2_s, List.length_cons, List.length_nil, Nat.reduceAdd, Nat.reduceLT, Nat.reduceLeDiff, Nat.reduceEqDiff, Nat.zero_add, true_and, and_true, true_implies, not_true_eq_false, not_false_eq_true, false_implies, Option.toList_some, Option.toList_none, arr, inb, List.cons_append, List.nil_append, rv_some, rv_none, nlt_t, nlt_f, nle_t, nle_f, neq_f, ix_cl, ix_nn, ix_lt, cmp_le, cmp_lt, cmp_eq, cmp_lt0, cmp_ge0, cmp_eq0, cmp_gt0, cmp_le0, nI_mul, nI_add, nm1_ne, nm1_ne', one01, zero01, b2i_0, b2i_1, b2i_01, cmp_eq1, true_or, or_true, false_or, or_false, neq_t, hN_sI, hLn_sI, hR_sI, hL_sI, hI_sI, hN_sA, hLn_sA, hR_sA, hL_sA, hI_sA, hN_wI, hLn_wI, hR_wI, hL_wI, hI_wI, false_and, and_false, if_true, if_false, hN_fA, hLn_fA, hR_fA, hN_wrS, hLn_wrS, hR_wrS, hL_wrS, wS_day, wS_keeps, wS_brs, wS_first, wS_knows, wS_purse, wS_till, wS_valid, wS_kept, sS_day, sS_keeps, sS_brs, sS_first, sS_knows, sS_purse, sS_till, sS_valid, sS_kept, wrS_wrS, day_mk, knows_mk, purse_mk, till_mk, valid_mk, kept_mk, keeps_mk, brs_mk, first_mk, hN_wrU, hLn_wrU, hR_wrU, hL_wrU, wU_19, wU_20, sU_19, sU_20, upd_same, upd_upd, hN_wrR, hLn_wrR, hR_wrR, hL_wrR, bI_0, bI_01', bI_t1, eq_self, Bool.true_eq_false, Bool.false_eq_true, hN_wrC, hLn_wrC, hR_wrC, hL_wrC,  r0]
          refine Rd_statement (by omega) hRd' hCb hc hr5 (by omega) (by omega) hn hx hri hti hK (fun h2 hx2 => ?_)
          have hri2 := RI_st (b := b) (x := x) hn hri
          have hK2 := KI_st (b := b) (L := n) (s := s) hK
          have hR2 := Rd_ex hc hRd' hx2.1
          have h2N : 219 < hN h2 := hR2.2.1
          generalize stS b n s x = r at *
          obtain ⟨ok, s2, x2⟩ := r
          have hRC2 := RdAt_C (K := x2.1) (c := c) hc hR2
          cases ok with
          | false =>
            rw [if_neg (fun z => by cases z)] at hq
            simp (disch := omega) only [g50_87, g50_100, g50_101, GN_nx, GN_rtn, GN_ck, GN_br, GN_cll, ldI_0, ldJ_0, ldR_0, ldI_s, ldJ_s, ldR_s, pI_c, pII_c, pJ_c, pJJ_c, pJI_c, pR_c, pRI_c, pRJ_c, pRR_c, pRII_c, pRIJ_c, pRIR_c, pCopy_c, pIe_c, pJe_c, pRe_c, pE_c, p1_i, p1_r, p11_ir, pA_0, pA_1, pA_2, pA_3, pA_4, pA_5, st1_0, st1_i, st1_r, st1_n, st1_u, st1_j, st1_s, st2_0, st2_i, st2_r, st2_n, st2_u, st2_j, st2_s, List.length_cons, List.length_nil, Nat.reduceAdd, Nat.reduceLT, Nat.reduceLeDiff, Nat.reduceEqDiff, Nat.zero_add, true_and, and_true, true_implies, not_true_eq_false, not_false_eq_true, false_implies, Option.toList_some, Option.toList_none, arr, inb, List.cons_append, List.nil_append, rv_some, rv_none, nlt_t, nlt_f, nle_t, nle_f, neq_f, ix_cl, ix_nn, ix_lt, cmp_le, cmp_lt, cmp_eq, cmp_lt0, cmp_ge0, cmp_eq0, cmp_gt0, cmp_le0, nI_mul, nI_add, nm1_ne, nm1_ne', one01, zero01, b2i_0, b2i_1, b2i_01, cmp_eq1, true_or, or_true, false_or, or_false, neq_t, hN_sI, hLn_sI, hR_sI, hL_sI, hI_sI, hN_sA, hLn_sA, hR_sA, hL_sA, hI_sA, hN_wI, hLn_wI, hR_wI, hL_wI, hI_wI, false_and, and_false, if_true, if_false, hN_fA, hLn_fA, hR_fA, hN_wrS, hLn_wrS, hR_wrS, hL_wrS, wS_day, wS_keeps, wS_brs, wS_first, wS_knows, wS_purse, wS_till, wS_valid, wS_kept, sS_day, sS_keeps, sS_brs, sS_first, sS_knows, sS_purse, sS_till, sS_valid, sS_kept, wrS_wrS, day_mk, knows_mk, purse_mk, till_mk, valid_mk, kept_mk, keeps_mk, brs_mk, first_mk, hN_wrU, hLn_wrU, hR_wrU, hL_wrU, wU_19, wU_20, sU_19, sU_20, upd_same, upd_upd, hN_wrR, hLn_wrR, hR_wrR, hL_wrR, bI_0, bI_01', bI_t1, eq_self, Bool.true_eq_false, Bool.false_eq_true, hN_wrC, hLn_wrC, hR_wrC, hL_wrC]
            exact hq h2 hx2
          | true =>
            rw [if_pos rfl] at hq
            simp (disch := omega) only [g50_87, g50_90, g50_91, g50_94, GN_nx, GN_rtn, GN_ck, GN_br, GN_cll, ldI_0, ldJ_0, ldR_0, ldI_s, ldJ_s, ldR_s, pI_c, pII_c, pJ_c, pJJ_c, pJI_c, pR_c, pRI_c, pRJ_c, pRR_c, pRII_c, pRIJ_c, pRIR_c, pCopy_c, pIe_c, pJe_c, pRe_c, pE_c, p1_i, p1_r, p11_ir, pA_0, pA_1, pA_2, pA_3, pA_4, pA_5, st1_0, st1_i, st1_r, st1_n, st1_u, st1_j, st1_s, st2_0, st2_i, st2_r, st2_n, st2_u, st2_j, st2_s, List.length_cons, List.length_nil, Nat.reduceAdd, Nat.reduceLT, Nat.reduceLeDiff, Nat.reduceEqDiff, Nat.zero_add, true_and, and_true, true_implies, not_true_eq_false, not_false_eq_true, false_implies, Option.toList_some, Option.toList_none, arr, inb, List.cons_append, List.nil_append, rv_some, rv_none, nlt_t, nlt_f, nle_t, nle_f, neq_f, ix_cl, ix_nn, ix_lt, cmp_le, cmp_lt, cmp_eq, cmp_lt0, cmp_ge0, cmp_eq0, cmp_gt0, cmp_le0, nI_mul, nI_add, nm1_ne, nm1_ne', one01, zero01, b2i_0, b2i_1, b2i_01, cmp_eq1, true_or, or_true, false_or, or_false, neq_t, hN_sI, hLn_sI, hR_sI, hL_sI, hI_sI, hN_sA, hLn_sA, hR_sA, hL_sA, hI_sA, hN_wI, hLn_wI, hR_wI, hL_wI, hI_wI, false_and, and_false, if_true, if_false, hN_fA, hLn_fA, hR_fA, hN_wrS, hLn_wrS, hR_wrS, hL_wrS, wS_day, wS_keeps, wS_brs, wS_first, wS_knows, wS_purse, wS_till, wS_valid, wS_kept, sS_day, sS_keeps, sS_brs, sS_first, sS_knows, sS_purse, sS_till, sS_valid, sS_kept, wrS_wrS, day_mk, knows_mk, purse_mk, till_mk, valid_mk, kept_mk, keeps_mk, brs_mk, first_mk, hN_wrU, hLn_wrU, hR_wrU, hL_wrU, wU_19, wU_20, sU_19, sU_20, upd_same, upd_upd, hN_wrR, hLn_wrR, hR_wrR, hL_wrR, bI_0, bI_01', bI_t1, eq_self, Bool.true_eq_false, Bool.false_eq_true, hN_wrC, hLn_wrC, hR_wrC, hL_wrC,  r0]
            refine R_pass hRC2 hn (by omega) hri2 ?_
            have hri3 := RI_ps (b := b) (w := nI 159) hn hri2
            have hti3 : (psS b n (nI 159) s2).1 = true → TI n (psS b n (nI 159) s2).2 := fun z => by
              obtain ⟨i3, ⟨a, i4, ia⟩, ik⟩ := hri2
              unfold psS passR at *
              split
              · exact TI_nx hn i4 ia
              · rename_i y
                rw [if_neg y] at z
                cases z
            dsimp only at hq hri3 hti3
            generalize psS b n (nI 159) s2 = r at *
            obtain ⟨ok, s3⟩ := r
            cases ok with
            | false =>
              rw [if_neg (fun z => by cases z)] at hq
              simp (disch := omega) only [g50_97, g50_100, g50_101, GN_nx, GN_rtn, GN_ck, GN_br, GN_cll, ldI_0, ldJ_0, ldR_0, ldI_s, ldJ_s, ldR_s, pI_c, pII_c, pJ_c, pJJ_c, pJI_c, pR_c, pRI_c, pRJ_c, pRR_c, pRII_c, pRIJ_c, pRIR_c, pCopy_c, pIe_c, pJe_c, pRe_c, pE_c, p1_i, p1_r, p11_ir, pA_0, pA_1, pA_2, pA_3, pA_4, pA_5, st1_0, st1_i, st1_r, st1_n, st1_u, st1_j, st1_s, st2_0, st2_i, st2_r, st2_n, st2_u, st2_j, st2_s, List.length_cons, List.length_nil, Nat.reduceAdd, Nat.reduceLT, Nat.reduceLeDiff, Nat.reduceEqDiff, Nat.zero_add, true_and, and_true, true_implies, not_true_eq_false, not_false_eq_true, false_implies, Option.toList_some, Option.toList_none, arr, inb, List.cons_append, List.nil_append, rv_some, rv_none, nlt_t, nlt_f, nle_t, nle_f, neq_f, ix_cl, ix_nn, ix_lt, cmp_le, cmp_lt, cmp_eq, cmp_lt0, cmp_ge0, cmp_eq0, cmp_gt0, cmp_le0, nI_mul, nI_add, nm1_ne, nm1_ne', one01, zero01, b2i_0, b2i_1, b2i_01, cmp_eq1, true_or, or_true, false_or, or_false, neq_t, hN_sI, hLn_sI, hR_sI, hL_sI, hI_sI, hN_sA, hLn_sA, hR_sA, hL_sA, hI_sA, hN_wI, hLn_wI, hR_wI, hL_wI, hI_wI, false_and, and_false, if_true, if_false, hN_fA, hLn_fA, hR_fA, hN_wrS, hLn_wrS, hR_wrS, hL_wrS, wS_day, wS_keeps, wS_brs, wS_first, wS_knows, wS_purse, wS_till, wS_valid, wS_kept, sS_day, sS_keeps, sS_brs, sS_first, sS_knows, sS_purse, sS_till, sS_valid, sS_kept, wrS_wrS, day_mk, knows_mk, purse_mk, till_mk, valid_mk, kept_mk, keeps_mk, brs_mk, first_mk, hN_wrU, hLn_wrU, hR_wrU, hL_wrU, wU_19, wU_20, sU_19, sU_20, upd_same, upd_upd, hN_wrR, hLn_wrR, hR_wrR, hL_wrR, bI_0, bI_01', bI_t1, eq_self, Bool.true_eq_false, Bool.false_eq_true, hN_wrC, hLn_wrC, hR_wrC, hL_wrC]
              exact hq h2 hx2
            | true =>
              rw [if_pos rfl] at hq
              simp (disch := omega) only [g50_97, g50_102, g50_105, GN_nx, GN_rtn, GN_ck, GN_br, GN_cll, ldI_0, ldJ_0, ldR_0, ldI_s, ldJ_s, ldR_s, pI_c, pII_c, pJ_c, pJJ_c, pJI_c, pR_c, pRI_c, pRJ_c, pRR_c, pRII_c, pRIJ_c, pRIR_c, pCopy_c, pIe_c, pJe_c, pRe_c, pE_c, p1_i, p1_r, p11_ir, pA_0, pA_1, pA_2, pA_3, pA_4, pA_5, st1_0, st1_i, st1_r, st1_n, st1_u, st1_j, st1_s, st2_0, st2_i, st2_r, st2_n, st2_u, st2_j, st2_s, List.length_cons, List.length_nil, Nat.reduceAdd, Nat.reduceLT, Nat.reduceLeDiff, Nat.reduceEqDiff, Nat.zero_add, true_and, and_true, true_implies, not_true_eq_false, not_false_eq_true, false_implies, Option.toList_some, Option.toList_none, arr, inb, List.cons_append, List.nil_append, rv_some, rv_none, nlt_t, nlt_f, nle_t, nle_f, neq_f, ix_cl, ix_nn, ix_lt, cmp_le, cmp_lt, cmp_eq, cmp_lt0, cmp_ge0, cmp_eq0, cmp_gt0, cmp_le0, nI_mul, nI_add, nm1_ne, nm1_ne', one01, zero01, b2i_0, b2i_1, b2i_01, cmp_eq1, true_or, or_true, false_or, or_false, neq_t, hN_sI, hLn_sI, hR_sI, hL_sI, hI_sI, hN_sA, hLn_sA, hR_sA, hL_sA, hI_sA, hN_wI, hLn_wI, hR_wI, hL_wI, hI_wI, false_and, and_false, if_true, if_false, hN_fA, hLn_fA, hR_fA, hN_wrS, hLn_wrS, hR_wrS, hL_wrS, wS_day, wS_keeps, wS_brs, wS_first, wS_knows, wS_purse, wS_till, wS_valid, wS_kept, sS_day, sS_keeps, sS_brs, sS_first, sS_knows, sS_purse, sS_till, sS_valid, sS_kept, wrS_wrS, day_mk, knows_mk, purse_mk, till_mk, valid_mk, kept_mk, keeps_mk, brs_mk, first_mk, hN_wrU, hLn_wrU, hR_wrU, hL_wrU, wU_19, wU_20, sU_19, sU_20, upd_same, upd_upd, hN_wrR, hLn_wrR, hR_wrR, hL_wrR, bI_0, bI_01', bI_t1, eq_self, Bool.true_eq_false, Bool.false_eq_true, hN_wrC, hLn_wrC, hR_wrC, hL_wrC]
              exact ih (m + 1) s3 x2 h2 (by omega) hx2 (by omega) hri3 (hti3 rfl) hK2 hq
        · rw [if_pos (by omega)] at hq
          simp (disch := omega) only [g50_70, g50_71, g50_73, g50_74, g50_77, GN_nx, GN_rtn, GN_ck, GN_br, GN_cll, ldI_0, ldJ_0, ldR_0, ldI_s, ldJ_s, ldR_s, pI_c, pII_c, pJ_c, pJJ_c, pJI_c, pR_c, pRI_c, pRJ_c, pRR_c, pRII_c, pRIJ_c, pRIR_c, pCopy_c, pIe_c, pJe_c, pRe_c, pE_c, p1_i, p1_r, p11_ir, pA_0, pA_1, pA_2, pA_3, pA_4, pA_5, st1_0, st1_i, st1_r, st1_n, st1_u, st1_j, st1_s, st2_0, st2_i, st2_r, st2_n, st2_u, st2_j, st2_s, List.length_cons, List.length_nil, Nat.reduceAdd, Nat.reduceLT, Nat.reduceLeDiff, Nat.reduceEqDiff, Nat.zero_add, true_and, and_true, true_implies, not_true_eq_false, not_false_eq_true, false_implies, Option.toList_some, Option.toList_none, arr, inb, List.cons_append, List.nil_append, rv_some, rv_none, nlt_t, nlt_f, nle_t, nle_f, neq_f, ix_cl, ix_nn, ix_lt, cmp_le, cmp_lt, cmp_eq, cmp_lt0, cmp_ge0, cmp_eq0, cmp_gt0, cmp_le0, nI_mul, nI_add, nm1_ne, nm1_ne', one01, zero01, b2i_0, b2i_1, b2i_01, cmp_eq1, true_or, or_true, false_or, or_false, neq_t, hN_sI, hLn_sI, hR_sI, hL_sI, hI_sI, hN_sA, hLn_sA, hR_sA, hL_sA, hI_sA, hN_wI, hLn_wI, hR_wI, hL_wI, hI_wI, false_and, and_false, if_true, if_false, hN_fA, hLn_fA, hR_fA, hN_wrS, hLn_wrS, hR_wrS, hL_wrS, wS_day, wS_keeps, wS_brs, wS_first, wS_knows, wS_purse, wS_till, wS_valid, wS_kept, sS_day, sS_keeps, sS_brs, sS_first, sS_knows, sS_purse, sS_till, sS_valid, sS_kept, wrS_wrS, day_mk, knows_mk, purse_mk, till_mk, valid_mk, kept_mk, keeps_mk, brs_mk, first_mk, hN_wrU, hLn_wrU, hR_wrU, hL_wrU, wU_19, wU_20, sU_19, sU_20, upd_same, upd_upd, hN_wrR, hLn_wrR, hR_wrR, hL_wrR, bI_0, bI_01', bI_t1, eq_self, Bool.true_eq_false, Bool.false_eq_true, hN_wrC, hLn_wrC, hR_wrC, hL_wrC,  r0, wR_2]
          refine R_fail hRC (by omega) ?_
          simp (disch := omega) only [g50_80, g50_81, g50_82, GN_nx, GN_rtn, GN_ck, GN_br, GN_cll, ldI_0, ldJ_0, ldR_0, ldI_s, ldJ_s, ldR_s, pI_c, pII_c, pJ_c, pJJ_c, pJI_c, pR_c, pRI_c, pRJ_c, pRR_c, pRII_c, pRIJ_c, pRIR_c, pCopy_c, pIe_c, pJe_c, pRe_c, pE_c, p1_i, p1_r, p11_ir, pA_0, pA_1, pA_2, pA_3, pA_4, pA_5, st1_0, st1_i, st1_r, st1_n, st1_u, st1_j, st1_s, st2_0, st2_i, st2_r, st2_n, st2_u, st2_j, st2_s, List.length_cons, List.length_nil, Nat.reduceAdd, Nat.reduceLT, Nat.reduceLeDiff, Nat.reduceEqDiff, Nat.zero_add, true_and, and_true, true_implies, not_true_eq_false, not_false_eq_true, false_implies, Option.toList_some, Option.toList_none, arr, inb, List.cons_append, List.nil_append, rv_some, rv_none, nlt_t, nlt_f, nle_t, nle_f, neq_f, ix_cl, ix_nn, ix_lt, cmp_le, cmp_lt, cmp_eq, cmp_lt0, cmp_ge0, cmp_eq0, cmp_gt0, cmp_le0, nI_mul, nI_add, nm1_ne, nm1_ne', one01, zero01, b2i_0, b2i_1, b2i_01, cmp_eq1, true_or, or_true, false_or, or_false, neq_t, hN_sI, hLn_sI, hR_sI, hL_sI, hI_sI, hN_sA, hLn_sA, hR_sA, hL_sA, hI_sA, hN_wI, hLn_wI, hR_wI, hL_wI, hI_wI, false_and, and_false, if_true, if_false, hN_fA, hLn_fA, hR_fA, hN_wrS, hLn_wrS, hR_wrS, hL_wrS, wS_day, wS_keeps, wS_brs, wS_first, wS_knows, wS_purse, wS_till, wS_valid, wS_kept, sS_day, sS_keeps, sS_brs, sS_first, sS_knows, sS_purse, sS_till, sS_valid, sS_kept, wrS_wrS, day_mk, knows_mk, purse_mk, till_mk, valid_mk, kept_mk, keeps_mk, brs_mk, first_mk, hN_wrU, hLn_wrU, hR_wrU, hL_wrU, wU_19, wU_20, sU_19, sU_20, upd_same, upd_upd, hN_wrR, hLn_wrR, hR_wrR, hL_wrR, bI_0, bI_01', bI_t1, eq_self, Bool.true_eq_false, Bool.false_eq_true, hN_wrC, hLn_wrC, hR_wrC, hL_wrC]
          exact hq h1 hx
  refine en50 (by omega) ?_
  simp (disch := omega) only [g50_0, g50_1, g50_2, g50_5, g50_6, g50_7, g50_8, g50_9, GN_nx, GN_rtn, GN_ck, GN_br, GN_cll, ldI_0, ldJ_0, ldR_0, ldI_s, ldJ_s, ldR_s, pI_c, pII_c, pJ_c, pJJ_c, pJI_c, pR_c, pRI_c, pRJ_c, pRR_c, pRII_c, pRIJ_c, pRIR_c, pCopy_c, pIe_c, pJe_c, pRe_c, pE_c, p1_i, p1_r, p11_ir, pA_0, pA_1, pA_2, pA_3, pA_4, pA_5, st1_0, st1_i, st1_r, st1_n, st1_u, st1_j, st1_s, st2_0, st2_i, st2_r, st2_n, st2_u, st2_j, st2_s, List.length_cons, List.length_nil, Nat.reduceAdd, Nat.reduceLT, Nat.reduceLeDiff, Nat.reduceEqDiff, Nat.zero_add, true_and, and_true, true_implies, not_true_eq_false, not_false_eq_true, false_implies, Option.toList_some, Option.toList_none, arr, inb, List.cons_append, List.nil_append, rv_some, rv_none, nlt_t, nlt_f, nle_t, nle_f, neq_f, ix_cl, ix_nn, ix_lt, cmp_le, cmp_lt, cmp_eq, cmp_lt0, cmp_ge0, cmp_eq0, cmp_gt0, cmp_le0, nI_mul, nI_add, nm1_ne, nm1_ne', one01, zero01, b2i_0, b2i_1, b2i_01, cmp_eq1, true_or, or_true, false_or, or_false, neq_t, hN_sI, hLn_sI, hR_sI, hL_sI, hI_sI, hN_sA, hLn_sA, hR_sA, hL_sA, hI_sA, hN_wI, hLn_wI, hR_wI, hL_wI, hI_wI, false_and, and_false, if_true, if_false, hN_fA, hLn_fA, hR_fA, hN_wrS, hLn_wrS, hR_wrS, hL_wrS, wS_day, wS_keeps, wS_brs, wS_first, wS_knows, wS_purse, wS_till, wS_valid, wS_kept, sS_day, sS_keeps, sS_brs, sS_first, sS_knows, sS_purse, sS_till, sS_valid, sS_kept, wrS_wrS, day_mk, knows_mk, purse_mk, till_mk, valid_mk, kept_mk, keeps_mk, brs_mk, first_mk, hN_wrU, hLn_wrU, hR_wrU, hL_wrU, wU_19, wU_20, sU_19, sU_20, upd_same, upd_upd, hN_wrR, hLn_wrR, hR_wrR, hL_wrR, bI_0, bI_01', bI_t1, eq_self, Bool.true_eq_false, Bool.false_eq_true, hN_wrC, hLn_wrC, hR_wrC, hL_wrC,  r0, r9, r10', sR_R, hN_sR, hLn_sR]
  refine J_minI (by omega) ?_
  rw [minI_n (by omega) (by omega), Nat.min_eq_left hn]
  simp (disch := omega) only [g50_12, g50_15, g50_16, g50_17, g50_20, g50_21, g50_22, g50_25, g50_26, g50_29, GN_nx, GN_rtn, GN_ck, GN_br, GN_cll, ldI_0, ldJ_0, ldR_0, ldI_s, ldJ_s, ldR_s, pI_c, pII_c, pJ_c, pJJ_c, pJI_c, pR_c, pRI_c, pRJ_c, pRR_c, pRII_c, pRIJ_c, pRIR_c, pCopy_c, pIe_c, pJe_c, pRe_c, pE_c, p1_i, p1_r, p11_ir, pA_0, pA_1, pA_2, pA_3, pA_4, pA_5, st1_0, st1_i, st1_r, st1_n, st1_u, st1_j, st1_s, st2_0, st2_i, st2_r, st2_n, st2_u, st2_j, st2_s, List.length_cons, List.length_nil, Nat.reduceAdd, Nat.reduceLT, Nat.reduceLeDiff, Nat.reduceEqDiff, Nat.zero_add, true_and, and_true, true_implies, not_true_eq_false, not_false_eq_true, false_implies, Option.toList_some, Option.toList_none, arr, inb, List.cons_append, List.nil_append, rv_some, rv_none, nlt_t, nlt_f, nle_t, nle_f, neq_f, ix_cl, ix_nn, ix_lt, cmp_le, cmp_lt, cmp_eq, cmp_lt0, cmp_ge0, cmp_eq0, cmp_gt0, cmp_le0, nI_mul, nI_add, nm1_ne, nm1_ne', one01, zero01, b2i_0, b2i_1, b2i_01, cmp_eq1, true_or, or_true, false_or, or_false, neq_t, hN_sI, hLn_sI, hR_sI, hL_sI, hI_sI, hN_sA, hLn_sA, hR_sA, hL_sA, hI_sA, hN_wI, hLn_wI, hR_wI, hL_wI, hI_wI, false_and, and_false, if_true, if_false, hN_fA, hLn_fA, hR_fA, hN_wrS, hLn_wrS, hR_wrS, hL_wrS, wS_day, wS_keeps, wS_brs, wS_first, wS_knows, wS_purse, wS_till, wS_valid, wS_kept, sS_day, sS_keeps, sS_brs, sS_first, sS_knows, sS_purse, sS_till, sS_valid, sS_kept, wrS_wrS, day_mk, knows_mk, purse_mk, till_mk, valid_mk, kept_mk, keeps_mk, brs_mk, first_mk, hN_wrU, hLn_wrU, hR_wrU, hL_wrU, wU_19, wU_20, sU_19, sU_20, upd_same, upd_upd, hN_wrR, hLn_wrR, hR_wrR, hL_wrR, bI_0, bI_01', bI_t1, eq_self, Bool.true_eq_false, Bool.false_eq_true, hN_wrC, hLn_wrC, hR_wrC, hL_wrC,  r0, e0, sR_2, sR_R, hR_sR, hN_sR]
  refine Cap_clear (by omega) (Cap_sR (Cap_sR hC (by omega)) (by omega)) hc ?_
  rw [show sR (sR (sR (sR h 2 2 (some 1)) 2 5 (some c)) c 18 (some 1000000)) c 19 (some 1000000) = basH h c from rfl]
  simp (disch := omega) only [g50_32, g50_33, g50_34, g50_37, g50_38, g50_39, g50_42, g50_43, g50_44, g50_47, g50_48, GN_nx, GN_rtn, GN_ck, GN_br, GN_cll, ldI_0, ldJ_0, ldR_0, ldI_s, ldJ_s, ldR_s, pI_c, pII_c, pJ_c, pJJ_c, pJI_c, pR_c, pRI_c, pRJ_c, pRR_c, pRII_c, pRIJ_c, pRIR_c, pCopy_c, pIe_c, pJe_c, pRe_c, pE_c, p1_i, p1_r, p11_ir, pA_0, pA_1, pA_2, pA_3, pA_4, pA_5, st1_0, st1_i, st1_r, st1_n, st1_u, st1_j, st1_s, st2_0, st2_i, st2_r, st2_n, st2_u, st2_j, st2_s, List.length_cons, List.length_nil, Nat.reduceAdd, Nat.reduceLT, Nat.reduceLeDiff, Nat.reduceEqDiff, Nat.zero_add, true_and, and_true, true_implies, not_true_eq_false, not_false_eq_true, false_implies, Option.toList_some, Option.toList_none, arr, inb, List.cons_append, List.nil_append, rv_some, rv_none, nlt_t, nlt_f, nle_t, nle_f, neq_f, ix_cl, ix_nn, ix_lt, cmp_le, cmp_lt, cmp_eq, cmp_lt0, cmp_ge0, cmp_eq0, cmp_gt0, cmp_le0, nI_mul, nI_add, nm1_ne, nm1_ne', one01, zero01, b2i_0, b2i_1, b2i_01, cmp_eq1, true_or, or_true, false_or, or_false, neq_t, hN_sI, hLn_sI, hR_sI, hL_sI, hI_sI, hN_sA, hLn_sA, hR_sA, hL_sA, hI_sA, hN_wI, hLn_wI, hR_wI, hL_wI, hI_wI, false_and, and_false, if_true, if_false, hN_fA, hLn_fA, hR_fA, hN_wrS, hLn_wrS, hR_wrS, hL_wrS, wS_day, wS_keeps, wS_brs, wS_first, wS_knows, wS_purse, wS_till, wS_valid, wS_kept, sS_day, sS_keeps, sS_brs, sS_first, sS_knows, sS_purse, sS_till, sS_valid, sS_kept, wrS_wrS, day_mk, knows_mk, purse_mk, till_mk, valid_mk, kept_mk, keeps_mk, brs_mk, first_mk, hN_wrU, hLn_wrU, hR_wrU, hL_wrU, wU_19, wU_20, sU_19, sU_20, upd_same, upd_upd, hN_wrR, hLn_wrR, hR_wrR, hL_wrR, bI_0, bI_01', bI_t1, eq_self, Bool.true_eq_false, Bool.false_eq_true, hN_wrC, hLn_wrC, hR_wrC, hL_wrC,  r0, sR_2, show (nI 0 = 0) = True from by decide]
  obtain ⟨k, e14, k1600⟩ := h14
  have hRC := RdAt_C (K := clrK K) (c := c) hc hRd'
  have hri0 : RI n (strF f n, g) := ⟨by simp [strF, upd_a], ⟨0, by simp [strF, upd_a], Nat.zero_le _⟩, k, by simp [strF, upd_a]; exact e14, k1600⟩
  refine R_next (s := (strF f n, g)) hRC hn (by omega) hri0 ?_
  simp (disch := omega) only [g50_51, g50_52, GN_nx, GN_rtn, GN_ck, GN_br, GN_cll, ldI_0, ldJ_0, ldR_0, ldI_s, ldJ_s, ldR_s, pI_c, pII_c, pJ_c, pJJ_c, pJI_c, pR_c, pRI_c, pRJ_c, pRR_c, pRII_c, pRIJ_c, pRIR_c, pCopy_c, pIe_c, pJe_c, pRe_c, pE_c, p1_i, p1_r, p11_ir, pA_0, pA_1, pA_2, pA_3, pA_4, pA_5, st1_0, st1_i, st1_r, st1_n, st1_u, st1_j, st1_s, st2_0, st2_i, st2_r, st2_n, st2_u, st2_j, st2_s, List.length_cons, List.length_nil, Nat.reduceAdd, Nat.reduceLT, Nat.reduceLeDiff, Nat.reduceEqDiff, Nat.zero_add, true_and, and_true, true_implies, not_true_eq_false, not_false_eq_true, false_implies, Option.toList_some, Option.toList_none, arr, inb, List.cons_append, List.nil_append, rv_some, rv_none, nlt_t, nlt_f, nle_t, nle_f, neq_f, ix_cl, ix_nn, ix_lt, cmp_le, cmp_lt, cmp_eq, cmp_lt0, cmp_ge0, cmp_eq0, cmp_gt0, cmp_le0, nI_mul, nI_add, nm1_ne, nm1_ne', one01, zero01, b2i_0, b2i_1, b2i_01, cmp_eq1, true_or, or_true, false_or, or_false, neq_t, hN_sI, hLn_sI, hR_sI, hL_sI, hI_sI, hN_sA, hLn_sA, hR_sA, hL_sA, hI_sA, hN_wI, hLn_wI, hR_wI, hL_wI, hI_wI, false_and, and_false, if_true, if_false, hN_fA, hLn_fA, hR_fA, hN_wrS, hLn_wrS, hR_wrS, hL_wrS, wS_day, wS_keeps, wS_brs, wS_first, wS_knows, wS_purse, wS_till, wS_valid, wS_kept, sS_day, sS_keeps, sS_brs, sS_first, sS_knows, sS_purse, sS_till, sS_valid, sS_kept, wrS_wrS, day_mk, knows_mk, purse_mk, till_mk, valid_mk, kept_mk, keeps_mk, brs_mk, first_mk, hN_wrU, hLn_wrU, hR_wrU, hL_wrU, wU_19, wU_20, sU_19, sU_20, upd_same, upd_upd, hN_wrR, hLn_wrR, hR_wrR, hL_wrR, bI_0, bI_01', bI_t1, eq_self, Bool.true_eq_false, Bool.false_eq_true, hN_wrC, hLn_wrC, hR_wrC, hL_wrC]
  refine key 81 0 (nxS b n (strF f n, g)) (clrX K) (basH h c) rfl ⟨ExH_refl, Or.inl ⟨rfl, ?_⟩, Or.inl ⟨rfl, ?_⟩, Nat.le_refl _, Nat.le_refl _⟩ (Nat.zero_le _) (RI_nx hn hri0) (TI_nx (a := 0) hn (by simp [strF, upd_a]) (Nat.zero_le _)) ?_ hQ
  · unfold basH
    rw [hR_sR, if_neg (by omega), hR_sR, if_pos ⟨rfl, rfl⟩]
  · unfold basH
    rw [hR_sR, if_pos ⟨rfl, rfl⟩]
  · exact KI_mk (i := 0) (j := 0) (k := 0) (l := 0) (by simp [clrX, clrK, filK, u2_a]) (by omega) (by simp [clrX, clrK, filK, u2_a]) (by omega) (by simp [clrX, clrK, filK, u2_a]) (by omega) (by simp [clrX, clrK, filK, u2_a]) (by omega)
end TXT
