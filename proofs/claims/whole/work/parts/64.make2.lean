/-! the makers: Capital, Sums, Market, Questions, Picture -/
def Same (h h' : AH) (a : Nat) : Prop := hI h' a = hI h a ∧ hL h' a = hL h a ∧ hR h' a = hR h a ∧ hLn h' a = hLn h a
theorem Same_refl {h : AH} {a : Nat} : Same h h a := ⟨rfl, rfl, rfl, rfl⟩
theorem Same_trans {h h' h'' : AH} {a : Nat} (x : Same h h' a) (y : Same h' h'' a) : Same h h'' a := ⟨y.1.trans x.1, y.2.1.trans x.2.1, y.2.2.1.trans x.2.2.1, y.2.2.2.trans x.2.2.2⟩
theorem Same_alc {h : AH} {a n sl : Nat} (ha : ¬ a = hN h) : Same h (alc h n sl) a := by
  refine ⟨?_, ?_, ?_, ?_⟩
  · funext j
    rw [hI_alc, if_neg ha]
  · funext j
    rw [hL_alc, if_neg ha]
  · funext j
    rw [hR_alc, if_neg ha]
  · rw [hLn_alc, if_neg ha]
theorem Same_sR {h : AH} {a b i : Nat} {v : Option Nat} (ha : ¬ a = b) : Same h (sR h b i v) a := by
  refine ⟨rfl, rfl, ?_, rfl⟩
  funext j
  rw [hR_sR, if_neg (fun z => ha z.1)]
theorem Same_sI {h : AH} {a b i : Nat} {v : Int32} (ha : ¬ a = b) : Same h (sI h b i v) a := ⟨hI_sI_ne ha, rfl, rfl, rfl⟩
theorem Same_gr {h h' : AH} {p a : Nat} (g : Gr p h h') (ha : a < p) : Same h h' a := g a ha
theorem St_same {h h' : AH} {p : Nat} (hn : hN h ≤ hN h') (g : ∀ a, p ≤ a → a ≤ p + 5 → Same h h' a) (hS : StAt h p) : StAt h' p := by
  obtain ⟨s0, sN, sT, ⟨s1, s2, s3, s4, s5⟩, i1, i2, i3, i4, i5⟩ := hS
  have r := (g p (by omega) (by omega)).2.2.1
  have ia : ∀ k n, 1 ≤ k → k ≤ 5 → IA h (p + k) n → IA h' (p + k) n := fun k n w1 w2 w3 => ⟨w3.1, (g (p + k) (by omega) (by omega)).2.2.2.trans w3.2⟩
  exact ⟨s0, by omega, sT, ⟨by rw [r]; exact s1, by rw [r]; exact s2, by rw [r]; exact s3, by rw [r]; exact s4, by rw [r]; exact s5⟩, ia 1 _ (by omega) (by omega) i1, ia 2 _ (by omega) (by omega) i2, ia 3 _ (by omega) (by omega) i3, ia 4 _ (by omega) (by omega) i4, ia 5 _ (by omega) (by omega) i5⟩
theorem Cap_same {h h' : AH} {p : Nat} (hn : hN h ≤ hN h') (g : ∀ a, p ≤ a → a ≤ p + 12 → Same h h' a) (hC : CapAt h p) : CapAt h' p := by
  obtain ⟨e0, eN, eT, ⟨q0, q1, q2, q3, q4, q5, q6, q7, q8, q9, q10, q11⟩, i0, i1, i2, i3, i4, i5, i6, i7, i8, i9, i10, i11⟩ := hC
  have r := (g p (by omega) (by omega)).2.2.1
  have ia : ∀ k n, 1 ≤ k → k ≤ 12 → IA h (p + k) n → IA h' (p + k) n := fun k n w1 w2 w3 => ⟨w3.1, (g (p + k) (by omega) (by omega)).2.2.2.trans w3.2⟩
  exact ⟨e0, by omega, eT, ⟨by rw [r]; exact q0, by rw [r]; exact q1, by rw [r]; exact q2, by rw [r]; exact q3, by rw [r]; exact q4, by rw [r]; exact q5, by rw [r]; exact q6, by rw [r]; exact q7, by rw [r]; exact q8, by rw [r]; exact q9, by rw [r]; exact q10, by rw [r]; exact q11⟩, ia 1 _ (by omega) (by omega) i0, ia 2 _ (by omega) (by omega) i1, ia 3 _ (by omega) (by omega) i2, ia 4 _ (by omega) (by omega) i3, ia 5 _ (by omega) (by omega) i4, ia 6 _ (by omega) (by omega) i5, ia 7 _ (by omega) (by omega) i6, ia 8 _ (by omega) (by omega) i7, ia 9 _ (by omega) (by omega) i8, ia 10 _ (by omega) (by omega) i9, ia 11 _ (by omega) (by omega) i10, ia 12 _ (by omega) (by omega) i11⟩
/-- one more array, and its place in the object -/
def na (h : AH) (p i n a : Nat) : AH := sR (alc h n n) p i (some a)
section NA
variable {h : AH} {p i n a b j : Nat}
theorem hN_na : hN (na h p i n a) = hN h + 1 := rfl
theorem hW_na : hW (na h p i n a) = hW h + n := rfl
theorem hS_na : hS (na h p i n a) = hS h := rfl
theorem hI_na : hI (na h p i n a) b j = if b = hN h then 0 else hI h b j := rfl
theorem hL_na : hL (na h p i n a) b j = if b = hN h then 0 else hL h b j := rfl
theorem hLn_na : hLn (na h p i n a) b = if b = hN h then n else hLn h b := rfl
theorem hR_na : hR (na h p i n a) b j = if b = p ∧ j = i then some a else if b = hN h then none else hR h b j := rfl
theorem Gr_na {q : Nat} (h1 : q ≤ hN h) (h2 : q ≤ p) : Gr q h (na h p i n a) := Gr_trans (Gr_alc h1) (Gr_sR h2)
theorem na_def : sR (alc h n n) p i (some a) = na h p i n a := rfl
end NA
/-- arrays made one after another, each into its place of the object p -/
def mkL : AH → Nat → List (Nat × Nat) → AH
  | h, _, [] => h
  | h, p, q :: r => mkL (na h p q.1 q.2 (hN h)) p r
theorem mkL_N : ∀ (l : List (Nat × Nat)) (h : AH) (p : Nat), hN (mkL h p l) = hN h + l.length
  | [], _, _ => rfl
  | q :: r, h, p => by
    rw [mkL, mkL_N r, hN_na, List.length_cons]
    omega
theorem mkL_S : ∀ (l : List (Nat × Nat)) (h : AH) (p : Nat), hS (mkL h p l) = hS h
  | [], _, _ => rfl
  | q :: r, h, p => by
    rw [mkL, mkL_S r, hS_na]
theorem mkL_W : ∀ (l : List (Nat × Nat)) (h : AH) (p : Nat), hW (mkL h p l) = hW h + (l.map Prod.snd).sum
  | [], _, _ => rfl
  | q :: r, h, p => by
    rw [mkL, mkL_W r, hW_na, List.map_cons, List.sum_cons]
    omega
theorem mkL_old : ∀ (l : List (Nat × Nat)) (h : AH) (p a : Nat), a < hN h → hI (mkL h p l) a = hI h a ∧ hL (mkL h p l) a = hL h a ∧ hLn (mkL h p l) a = hLn h a ∧ (¬ a = p → hR (mkL h p l) a = hR h a)
  | [], _, _, _, _ => ⟨rfl, rfl, rfl, fun _ => rfl⟩
  | q :: r, h, p, a, ha => by
    obtain ⟨e1, e2, e3, e4⟩ := mkL_old r (na h p q.1 q.2 (hN h)) p a (by rw [hN_na]; omega)
    rw [mkL]
    refine ⟨e1.trans ?_, e2.trans ?_, e3.trans ?_, fun hp => (e4 hp).trans ?_⟩
    · funext j
      rw [hI_na, if_neg (by omega)]
    · funext j
      rw [hL_na, if_neg (by omega)]
    · rw [hLn_na, if_neg (by omega)]
    · funext j
      rw [hR_na, if_neg (fun z => hp z.1), if_neg (by omega)]
theorem mkL_ref : ∀ (l : List (Nat × Nat)) (h : AH) (p i : Nat), p < hN h → (∀ q ∈ l, ¬ q.1 = i) → hR (mkL h p l) p i = hR h p i
  | [], _, _, _, _, _ => rfl
  | q :: r, h, p, i, hp, hi => by
    rw [mkL, mkL_ref r _ p i (by rw [hN_na]; omega) (fun q hq => hi q (List.mem_cons_of_mem _ hq)), hR_na, if_neg (fun z => hi q List.mem_cons_self z.2.symm), if_neg (by omega)]
theorem mkL_new : ∀ (l : List (Nat × Nat)) (h : AH) (p k i n : Nat), p < hN h → l[k]? = some (i, n) → (l.map Prod.fst).Nodup → hLn (mkL h p l) (hN h + k) = n ∧ hR (mkL h p l) p i = some (hN h + k) ∧ hI (mkL h p l) (hN h + k) = fun _ => 0
  | [], _, _, _, _, _, _, hk, _ => by cases hk
  | q :: r, h, p, 0, i, n, hp, hk, hd => by
    cases hk
    rw [List.map_cons, List.nodup_cons] at hd
    obtain ⟨e1, e2, e3, e4⟩ := mkL_old r (na h p i n (hN h)) p (hN h) (by rw [hN_na]; omega)
    rw [mkL]
    refine ⟨e3.trans (by rw [hLn_na, if_pos rfl]), ?_, e1.trans (by funext j; rw [hI_na, if_pos rfl])⟩
    rw [mkL_ref r _ p i (by rw [hN_na]; omega) (fun q hq z => hd.1 (by have w := List.mem_map_of_mem (f := Prod.fst) hq; rw [z] at w; exact w)), hR_na, if_pos ⟨rfl, rfl⟩]
    rfl
  | q :: r, h, p, k + 1, i, n, hp, hk, hd => by
    rw [List.map_cons, List.nodup_cons] at hd
    have := mkL_new r (na h p q.1 q.2 (hN h)) p k i n (by rw [hN_na]; omega) hk hd.2
    rw [hN_na, show hN h + 1 + k = hN h + (k + 1) by omega] at this
    rw [mkL]
    exact this
/-- a Capital just made -/
def CapNew (h : AH) (p : Nat) : Prop := CapAt h p ∧ (∀ j, hI h p j = if j = 17 then nI 20 else 0) ∧ hR h p 18 = some 1000000 ∧ hR h p 19 = some 1000000
theorem CapNew_same {h h' : AH} {p : Nat} (hn : hN h ≤ hN h') (g : ∀ a, p ≤ a → a ≤ p + 12 → Same h h' a) (hC : CapNew h p) : CapNew h' p :=
  have s := g p (by omega) (by omega)
  ⟨Cap_same hn g hC.1, by rw [s.1]; exact hC.2.1, by rw [s.2.2.1]; exact hC.2.2.1, by rw [s.2.2.1]; exact hC.2.2.2⟩
section MAKE2
variable {d p : Nat} {h : AH} {Q : Option Value → AH → Prop}
theorem Cap_init (hd : 1 ≤ d) (hp : hN h = p + 1) (l0 : lay p = 0) (hl : ∀ k, 1 ≤ k → k ≤ 12 → lay (p + k) = 10) (hp3 : p < 900) (hz : hI h p = fun _ => 0) (hQ : ∀ h', hN h' = p + 13 → hW h' = hW h + 236 → hS h' = hS h → Gr p h h' → CapNew h' p → Q none h') : CL d 0 [.ref p] h Q := by
  refine en0 hd ?_
  have l1 := hl 1 (by omega) (by omega)
  have l2 := hl 2 (by omega) (by omega)
  have l3 := hl 3 (by omega) (by omega)
  have l4 := hl 4 (by omega) (by omega)
  have l5 := hl 5 (by omega) (by omega)
  have l6 := hl 6 (by omega) (by omega)
  have l7 := hl 7 (by omega) (by omega)
  have l8 := hl 8 (by omega) (by omega)
  have l9 := hl 9 (by omega) (by omega)
  have l10 := hl 10 (by omega) (by omega)
  have l11 := hl 11 (by omega) (by omega)
  have l12 := hl 12 (by omega) (by omega)
  simp (disch := omega) only [g0_0, g0_1, g0_4, g0_5, g0_7, g0_9, g0_12, g0_13, g0_15, g0_17, g0_20, g0_21, g0_23, g0_25, g0_28, g0_29, g0_31, g0_33, g0_36, g0_37, g0_39, g0_41, g0_44, g0_45, g0_47, g0_49, g0_52, g0_53, g0_55, g0_57, g0_60, g0_61, g0_63, g0_65, g0_68, g0_69, g0_71, g0_73, g0_76, g0_77, g0_79, g0_81, g0_84, g0_85, g0_87, g0_89, g0_92, g0_93, g0_95, g0_97, g0_100, g0_101, g0_103, g0_106, g0_107, g0_110, g0_113, g0_114, g0_117, g0_120, GN_nx, GN_rtn, GN_ck, GN_br, GN_cll, ldI_0, ldJ_0, ldR_0, ldI_s, ldJ_s, ldR_s, pI_c, pII_c, pJ_c, pJJ_c, pJI_c, pR_c, pRI_c, pRJ_c, pRR_c, pRII_c, pRIJ_c, pRIR_c, pCopy_c, pIe_c, pJe_c, pRe_c, pE_c, p1_i, p1_r, p11_ir, pA_0, pA_1, pA_2, pA_3, pA_4, pA_5, st1_0, st1_i, st1_r, st1_n, st1_u, st1_j, st1_s, st2_0, st2_i, st2_r, st2_n, st2_u, st2_j, st2_s, List.length_cons, List.length_nil, Nat.reduceAdd, Nat.reduceLT, Nat.reduceLeDiff, Nat.reduceEqDiff, Nat.zero_add, true_and, and_true, true_implies, not_true_eq_false, not_false_eq_true, false_implies, Option.toList_some, Option.toList_none, arr, inb, List.cons_append, List.nil_append, rv_some, rv_none, nlt_t, nlt_f, nle_t, nle_f, neq_f, ix_cl, ix_nn, ix_lt, cmp_le, cmp_lt, cmp_eq, cmp_lt0, cmp_ge0, cmp_eq0, cmp_gt0, cmp_le0, nI_mul, nI_add, nm1_ne, nm1_ne', one01, zero01, b2i_0, b2i_1, b2i_01, cmp_eq1, true_or, or_true, false_or, or_false, neq_t, hN_sI, hLn_sI, hR_sI, hL_sI, hI_sI, hN_sA, hLn_sA, hR_sA, hL_sA, hI_sA, hN_wI, hLn_wI, hR_wI, hL_wI, hI_wI, false_and, and_false, if_true, if_false, hN_fA, hLn_fA, hR_fA, hN_wrS, hLn_wrS, hR_wrS, hL_wrS, wS_day, wS_keeps, wS_brs, wS_first, wS_knows, wS_purse, wS_till, wS_valid, wS_kept, sS_day, sS_keeps, sS_brs, sS_first, sS_knows, sS_purse, sS_till, sS_valid, sS_kept, wrS_wrS, day_mk, knows_mk, purse_mk, till_mk, valid_mk, kept_mk, keeps_mk, brs_mk, first_mk, hN_wrU, hLn_wrU, hR_wrU, hL_wrU, wU_19, wU_20, sU_19, sU_20, upd_same, upd_upd, hN_wrR, hLn_wrR, hR_wrR, hL_wrR, bI_0, bI_01', bI_t1, eq_self, Bool.true_eq_false, Bool.false_eq_true, hN_wrC, hLn_wrC, hR_wrC, hL_wrC,  l0, l1, l2, l3, l4, l5, l6, l7, l8, l9, l10, l11, l12, na_def, hN_na, hN_sR, hN_alc, hp, ix_mil, Nat.add_assoc]
  have hpN : p < hN h := by omega
  have new := fun k i n hk => mkL_new [(0, 12), (1, 12), (2, 12), (4, 16), (5, 16), (7, 8), (8, 8), (9, 8), (11, 16), (12, 16), (13, 16), (15, 96)] h p k i n hpN hk (by decide)
  have old := fun a ha => mkL_old [(0, 12), (1, 12), (2, 12), (4, 16), (5, 16), (7, 8), (8, 8), (9, 8), (11, 16), (12, 16), (13, 16), (15, 96)] h p a ha
  have eN := mkL_N [(0, 12), (1, 12), (2, 12), (4, 16), (5, 16), (7, 8), (8, 8), (9, 8), (11, 16), (12, 16), (13, 16), (15, 96)] h p
  have eW := mkL_W [(0, 12), (1, 12), (2, 12), (4, 16), (5, 16), (7, 8), (8, 8), (9, 8), (11, 16), (12, 16), (13, 16), (15, 96)] h p
  have eS := mkL_S [(0, 12), (1, 12), (2, 12), (4, 16), (5, 16), (7, 8), (8, 8), (9, 8), (11, 16), (12, 16), (13, 16), (15, 96)] h p
  have fin := hQ (sR (sR (sI (mkL h p [(0, 12), (1, 12), (2, 12), (4, 16), (5, 16), (7, 8), (8, 8), (9, 8), (11, 16), (12, 16), (13, 16), (15, 96)]) p 17 (nI 20)) p 18 (some 1000000)) p 19 (some 1000000))
  have go : ∀ H, H = mkL h p [(0, 12), (1, 12), (2, 12), (4, 16), (5, 16), (7, 8), (8, 8), (9, 8), (11, 16), (12, 16), (13, 16), (15, 96)] → Q none (sR (sR (sI H p 17 (nI 20)) p 18 (some 1000000)) p 19 (some 1000000)) := by
    intro H eH
    rw [← eH] at new old eN eW eS fin
    refine fin ?_ ?_ ?_ ?_ ⟨⟨l0, ?_, by omega, ⟨?_, ?_, ?_, ?_, ?_, ?_, ?_, ?_, ?_, ?_, ?_, ?_⟩, ⟨l1, ?_⟩, ⟨l2, ?_⟩, ⟨l3, ?_⟩, ⟨l4, ?_⟩, ⟨l5, ?_⟩, ⟨l6, ?_⟩, ⟨l7, ?_⟩, ⟨l8, ?_⟩, ⟨l9, ?_⟩, ⟨l10, ?_⟩, ⟨l11, ?_⟩, ⟨l12, ?_⟩⟩, ?_, ?_, ?_⟩
    · show hN H = p + 13
      rw [eN, hp]
      rfl
    · exact eW
    · exact eS
    · intro a ha
      obtain ⟨w1, w2, w3, w4⟩ := old a (by omega)
      exact Same_trans (Same_trans ⟨w1, w2, w4 (by omega), w3⟩ (Same_sI (by omega))) (Same_trans (Same_sR (by omega)) (Same_sR (by omega)))
    · show p + 12 < hN H
      rw [eN, hp]
      show p + 12 < p + 1 + 12
      omega
    · rw [hR_sR, if_neg (by omega), hR_sR, if_neg (by omega)]
      show hR H p 0 = _
      rw [(new 0 0 12 rfl).2.1, hp, Nat.add_assoc]
    · rw [hR_sR, if_neg (by omega), hR_sR, if_neg (by omega)]
      show hR H p 1 = _
      rw [(new 1 1 12 rfl).2.1, hp, Nat.add_assoc]
    · rw [hR_sR, if_neg (by omega), hR_sR, if_neg (by omega)]
      show hR H p 2 = _
      rw [(new 2 2 12 rfl).2.1, hp, Nat.add_assoc]
    · rw [hR_sR, if_neg (by omega), hR_sR, if_neg (by omega)]
      show hR H p 4 = _
      rw [(new 3 4 16 rfl).2.1, hp, Nat.add_assoc]
    · rw [hR_sR, if_neg (by omega), hR_sR, if_neg (by omega)]
      show hR H p 5 = _
      rw [(new 4 5 16 rfl).2.1, hp, Nat.add_assoc]
    · rw [hR_sR, if_neg (by omega), hR_sR, if_neg (by omega)]
      show hR H p 7 = _
      rw [(new 5 7 8 rfl).2.1, hp, Nat.add_assoc]
    · rw [hR_sR, if_neg (by omega), hR_sR, if_neg (by omega)]
      show hR H p 8 = _
      rw [(new 6 8 8 rfl).2.1, hp, Nat.add_assoc]
    · rw [hR_sR, if_neg (by omega), hR_sR, if_neg (by omega)]
      show hR H p 9 = _
      rw [(new 7 9 8 rfl).2.1, hp, Nat.add_assoc]
    · rw [hR_sR, if_neg (by omega), hR_sR, if_neg (by omega)]
      show hR H p 11 = _
      rw [(new 8 11 16 rfl).2.1, hp, Nat.add_assoc]
    · rw [hR_sR, if_neg (by omega), hR_sR, if_neg (by omega)]
      show hR H p 12 = _
      rw [(new 9 12 16 rfl).2.1, hp, Nat.add_assoc]
    · rw [hR_sR, if_neg (by omega), hR_sR, if_neg (by omega)]
      show hR H p 13 = _
      rw [(new 10 13 16 rfl).2.1, hp, Nat.add_assoc]
    · rw [hR_sR, if_neg (by omega), hR_sR, if_neg (by omega)]
      show hR H p 15 = _
      rw [(new 11 15 96 rfl).2.1, hp, Nat.add_assoc]
    · show hLn H (p + 1) = _
      have := (new 0 0 12 rfl).1
      rw [hp, Nat.add_assoc] at this
      exact this
    · show hLn H (p + 2) = _
      have := (new 1 1 12 rfl).1
      rw [hp, Nat.add_assoc] at this
      exact this
    · show hLn H (p + 3) = _
      have := (new 2 2 12 rfl).1
      rw [hp, Nat.add_assoc] at this
      exact this
    · show hLn H (p + 4) = _
      have := (new 3 4 16 rfl).1
      rw [hp, Nat.add_assoc] at this
      exact this
    · show hLn H (p + 5) = _
      have := (new 4 5 16 rfl).1
      rw [hp, Nat.add_assoc] at this
      exact this
    · show hLn H (p + 6) = _
      have := (new 5 7 8 rfl).1
      rw [hp, Nat.add_assoc] at this
      exact this
    · show hLn H (p + 7) = _
      have := (new 6 8 8 rfl).1
      rw [hp, Nat.add_assoc] at this
      exact this
    · show hLn H (p + 8) = _
      have := (new 7 9 8 rfl).1
      rw [hp, Nat.add_assoc] at this
      exact this
    · show hLn H (p + 9) = _
      have := (new 8 11 16 rfl).1
      rw [hp, Nat.add_assoc] at this
      exact this
    · show hLn H (p + 10) = _
      have := (new 9 12 16 rfl).1
      rw [hp, Nat.add_assoc] at this
      exact this
    · show hLn H (p + 11) = _
      have := (new 10 13 16 rfl).1
      rw [hp, Nat.add_assoc] at this
      exact this
    · show hLn H (p + 12) = _
      have := (new 11 15 96 rfl).1
      rw [hp, Nat.add_assoc] at this
      exact this
    · intro j
      show (if p = p ∧ j = 17 then nI 20 else hI H p j) = _
      rw [(old p hpN).1, hz]
      by_cases hj : j = 17
      · rw [if_pos ⟨rfl, hj⟩, if_pos hj]
      · rw [if_neg (fun z => hj z.2), if_neg hj]
    · rw [hR_sR, if_neg (by omega), hR_sR, if_pos ⟨rfl, rfl⟩]
    · rw [hR_sR, if_pos ⟨rfl, rfl⟩]
  refine go _ ?_
  simp only [mkL, hN_na, hp, Nat.add_assoc, Nat.reduceAdd]
theorem Su_init (hd : 1 ≤ d) (hp : hN h = p + 1) (l0 : lay p = 7) (l1 : lay (p + 1) = 10) (hp3 : p < 900) (hQ : ∀ h', hN h' = p + 2 → hW h' = hW h + 64 → hS h' = hS h → Gr p h h' → hR h' p 8 = some (p + 1) → IA h' (p + 1) 64 → hI h' p = hI h p → hI h' (p + 1) = (fun _ => 0) → Q none h') : CL d 98 [.ref p] h Q := by
  refine en98 hd ?_
  simp (disch := omega) only [g98_0, g98_1, g98_4, g98_5, g98_7, g98_9, g98_12, GN_nx, GN_rtn, GN_ck, GN_br, GN_cll, ldI_0, ldJ_0, ldR_0, ldI_s, ldJ_s, ldR_s, pI_c, pII_c, pJ_c, pJJ_c, pJI_c, pR_c, pRI_c, pRJ_c, pRR_c, pRII_c, pRIJ_c, pRIR_c, pCopy_c, pIe_c, pJe_c, pRe_c, pE_c, p1_i, p1_r, p11_ir, pA_0, pA_1, pA_2, pA_3, pA_4, pA_5, st1_0, st1_i, st1_r, st1_n, st1_u, st1_j, st1_s, st2_0, st2_i, st2_r, st2_n, st2_u, st2_j, st2_s, List.length_cons, List.length_nil, Nat.reduceAdd, Nat.reduceLT, Nat.reduceLeDiff, Nat.reduceEqDiff, Nat.zero_add, true_and, and_true, true_implies, not_true_eq_false, not_false_eq_true, false_implies, Option.toList_some, Option.toList_none, arr, inb, List.cons_append, List.nil_append, rv_some, rv_none, nlt_t, nlt_f, nle_t, nle_f, neq_f, ix_cl, ix_nn, ix_lt, cmp_le, cmp_lt, cmp_eq, cmp_lt0, cmp_ge0, cmp_eq0, cmp_gt0, cmp_le0, nI_mul, nI_add, nm1_ne, nm1_ne', one01, zero01, b2i_0, b2i_1, b2i_01, cmp_eq1, true_or, or_true, false_or, or_false, neq_t, hN_sI, hLn_sI, hR_sI, hL_sI, hI_sI, hN_sA, hLn_sA, hR_sA, hL_sA, hI_sA, hN_wI, hLn_wI, hR_wI, hL_wI, hI_wI, false_and, and_false, if_true, if_false, hN_fA, hLn_fA, hR_fA, hN_wrS, hLn_wrS, hR_wrS, hL_wrS, wS_day, wS_keeps, wS_brs, wS_first, wS_knows, wS_purse, wS_till, wS_valid, wS_kept, sS_day, sS_keeps, sS_brs, sS_first, sS_knows, sS_purse, sS_till, sS_valid, sS_kept, wrS_wrS, day_mk, knows_mk, purse_mk, till_mk, valid_mk, kept_mk, keeps_mk, brs_mk, first_mk, hN_wrU, hLn_wrU, hR_wrU, hL_wrU, wU_19, wU_20, sU_19, sU_20, upd_same, upd_upd, hN_wrR, hLn_wrR, hR_wrR, hL_wrR, bI_0, bI_01', bI_t1, eq_self, Bool.true_eq_false, Bool.false_eq_true, hN_wrC, hLn_wrC, hR_wrC, hL_wrC,  l0, l1, na_def, hN_na, hN_alc, hp, ix_mil, Nat.add_assoc]
  have hpN : p < hN h := by omega
  obtain ⟨n1, n2, n3⟩ := mkL_new [(8, 64)] h p 0 8 64 hpN rfl (by decide)
  have old := fun a ha => mkL_old [(8, 64)] h p a ha
  have fin := hQ (mkL h p [(8, 64)]) (by rw [mkL_N, hp]; rfl) (mkL_W _ _ _) (mkL_S _ _ _) (fun a ha => by
    obtain ⟨w1, w2, w3, w4⟩ := old a (by omega)
    exact ⟨w1, w2, w4 (by omega), w3⟩) (by rw [n2, hp]) ⟨l1, by rw [hp] at n1; exact n1⟩ (old p hpN).1 (by rw [hp] at n3; exact n3)
  simp only [mkL, hp] at fin
  exact fin
theorem Qu_init (hd : 1 ≤ d) (hp : hN h = 22) (hQ : ∀ h', hN h' = 24 → hW h' = hW h + 24 → hS h' = hS h → Gr 21 h h' → hR h' 21 0 = some 22 → hR h' 21 1 = some 23 → IA h' 22 12 → IA h' 23 12 → hI h' 21 = hI h 21 → Q none h') : CL d 34 [.ref 21] h Q := by
  refine en34 hd ?_
  have l0 : lay 21 = 4 := rfl
  have l1 : lay 22 = 10 := rfl
  have l2 : lay 23 = 10 := rfl
  simp (disch := omega) only [g34_0, g34_1, g34_4, g34_5, g34_7, g34_9, g34_12, g34_13, g34_15, g34_17, g34_20, GN_nx, GN_rtn, GN_ck, GN_br, GN_cll, ldI_0, ldJ_0, ldR_0, ldI_s, ldJ_s, ldR_s, pI_c, pII_c, pJ_c, pJJ_c, pJI_c, pR_c, pRI_c, pRJ_c, pRR_c, pRII_c, pRIJ_c, pRIR_c, pCopy_c, pIe_c, pJe_c, pRe_c, pE_c, p1_i, p1_r, p11_ir, pA_0, pA_1, pA_2, pA_3, pA_4, pA_5, st1_0, st1_i, st1_r, st1_n, st1_u, st1_j, st1_s, st2_0, st2_i, st2_r, st2_n, st2_u, st2_j, st2_s, List.length_cons, List.length_nil, Nat.reduceAdd, Nat.reduceLT, Nat.reduceLeDiff, Nat.reduceEqDiff, Nat.zero_add, true_and, and_true, true_implies, not_true_eq_false, not_false_eq_true, false_implies, Option.toList_some, Option.toList_none, arr, inb, List.cons_append, List.nil_append, rv_some, rv_none, nlt_t, nlt_f, nle_t, nle_f, neq_f, ix_cl, ix_nn, ix_lt, cmp_le, cmp_lt, cmp_eq, cmp_lt0, cmp_ge0, cmp_eq0, cmp_gt0, cmp_le0, nI_mul, nI_add, nm1_ne, nm1_ne', one01, zero01, b2i_0, b2i_1, b2i_01, cmp_eq1, true_or, or_true, false_or, or_false, neq_t, hN_sI, hLn_sI, hR_sI, hL_sI, hI_sI, hN_sA, hLn_sA, hR_sA, hL_sA, hI_sA, hN_wI, hLn_wI, hR_wI, hL_wI, hI_wI, false_and, and_false, if_true, if_false, hN_fA, hLn_fA, hR_fA, hN_wrS, hLn_wrS, hR_wrS, hL_wrS, wS_day, wS_keeps, wS_brs, wS_first, wS_knows, wS_purse, wS_till, wS_valid, wS_kept, sS_day, sS_keeps, sS_brs, sS_first, sS_knows, sS_purse, sS_till, sS_valid, sS_kept, wrS_wrS, day_mk, knows_mk, purse_mk, till_mk, valid_mk, kept_mk, keeps_mk, brs_mk, first_mk, hN_wrU, hLn_wrU, hR_wrU, hL_wrU, wU_19, wU_20, sU_19, sU_20, upd_same, upd_upd, hN_wrR, hLn_wrR, hR_wrR, hL_wrR, bI_0, bI_01', bI_t1, eq_self, Bool.true_eq_false, Bool.false_eq_true, hN_wrC, hLn_wrC, hR_wrC, hL_wrC,  l0, l1, l2, na_def, hN_na, hN_alc, hp, ix_mil, Nat.add_assoc]
  have hpN : 21 < hN h := by omega
  obtain ⟨n1, n2, n3⟩ := mkL_new [(0, 12), (1, 12)] h 21 0 0 12 hpN rfl (by decide)
  obtain ⟨m1, m2, m3⟩ := mkL_new [(0, 12), (1, 12)] h 21 1 1 12 hpN rfl (by decide)
  have old := fun a ha => mkL_old [(0, 12), (1, 12)] h 21 a ha
  have fin := hQ (mkL h 21 [(0, 12), (1, 12)]) (by rw [mkL_N, hp]; rfl) (mkL_W _ _ _) (mkL_S _ _ _) (fun a ha => by
    obtain ⟨w1, w2, w3, w4⟩ := old a (by omega)
    exact ⟨w1, w2, w4 (by omega), w3⟩) (by rw [n2, hp]) (by rw [m2, hp]) ⟨l1, by rw [hp] at n1; exact n1⟩ ⟨l2, by rw [hp] at m1; exact m1⟩ (old 21 hpN).1
  simp only [mkL, hN_na, hp, Nat.reduceAdd] at fin
  exact fin
theorem Pi_init (hd : 1 ≤ d) (hp : hN h = 25) (hQ : ∀ h', hN h' = 26 → hW h' = hW h + 227 → hS h' = hS h → Gr 24 h h' → hR h' 24 0 = some 25 → hLn h' 25 = 227 → hI h' 24 = hI h 24 → hI h' 25 = (fun _ => 0) → Q none h') : CL d 26 [.ref 24] h Q := by
  refine en26 hd ?_
  have l0 : lay 24 = 3 := rfl
  have l1 : lay 25 = 11 := rfl
  simp (disch := omega) only [g26_0, g26_1, g26_4, g26_5, g26_8, g26_10, g26_13, GN_nx, GN_rtn, GN_ck, GN_br, GN_cll, ldI_0, ldJ_0, ldR_0, ldI_s, ldJ_s, ldR_s, pI_c, pII_c, pJ_c, pJJ_c, pJI_c, pR_c, pRI_c, pRJ_c, pRR_c, pRII_c, pRIJ_c, pRIR_c, pCopy_c, pIe_c, pJe_c, pRe_c, pE_c, p1_i, p1_r, p11_ir, pA_0, pA_1, pA_2, pA_3, pA_4, pA_5, st1_0, st1_i, st1_r, st1_n, st1_u, st1_j, st1_s, st2_0, st2_i, st2_r, st2_n, st2_u, st2_j, st2_s, List.length_cons, List.length_nil, Nat.reduceAdd, Nat.reduceLT, Nat.reduceLeDiff, Nat.reduceEqDiff, Nat.zero_add, true_and, and_true, true_implies, not_true_eq_false, not_false_eq_true, false_implies, Option.toList_some, Option.toList_none, arr, inb, List.cons_append, List.nil_append, rv_some, rv_none, nlt_t, nlt_f, nle_t, nle_f, neq_f, ix_cl, ix_nn, ix_lt, cmp_le, cmp_lt, cmp_eq, cmp_lt0, cmp_ge0, cmp_eq0, cmp_gt0, cmp_le0, nI_mul, nI_add, nm1_ne, nm1_ne', one01, zero01, b2i_0, b2i_1, b2i_01, cmp_eq1, true_or, or_true, false_or, or_false, neq_t, hN_sI, hLn_sI, hR_sI, hL_sI, hI_sI, hN_sA, hLn_sA, hR_sA, hL_sA, hI_sA, hN_wI, hLn_wI, hR_wI, hL_wI, hI_wI, false_and, and_false, if_true, if_false, hN_fA, hLn_fA, hR_fA, hN_wrS, hLn_wrS, hR_wrS, hL_wrS, wS_day, wS_keeps, wS_brs, wS_first, wS_knows, wS_purse, wS_till, wS_valid, wS_kept, sS_day, sS_keeps, sS_brs, sS_first, sS_knows, sS_purse, sS_till, sS_valid, sS_kept, wrS_wrS, day_mk, knows_mk, purse_mk, till_mk, valid_mk, kept_mk, keeps_mk, brs_mk, first_mk, hN_wrU, hLn_wrU, hR_wrU, hL_wrU, wU_19, wU_20, sU_19, sU_20, upd_same, upd_upd, hN_wrR, hLn_wrR, hR_wrR, hL_wrR, bI_0, bI_01', bI_t1, eq_self, Bool.true_eq_false, Bool.false_eq_true, hN_wrC, hLn_wrC, hR_wrC, hL_wrC,  l0, l1, na_def, hN_na, hN_alc, hp, ix_mil, Nat.add_assoc]
  have hpN : 24 < hN h := by omega
  obtain ⟨n1, n2, n3⟩ := mkL_new [(0, 227)] h 24 0 0 227 hpN rfl (by decide)
  have old := fun a ha => mkL_old [(0, 227)] h 24 a ha
  have fin := hQ (mkL h 24 [(0, 227)]) (by rw [mkL_N, hp]; rfl) (mkL_W _ _ _) (mkL_S _ _ _) (fun a ha => by
    obtain ⟨w1, w2, w3, w4⟩ := old a (by omega)
    exact ⟨w1, w2, w4 (by omega), w3⟩) (by rw [n2, hp]) (by rw [hp] at n1; exact n1) (old 24 hpN).1 (by rw [hp] at n3; exact n3)
  simp only [mkL, hN_na, hp, Nat.reduceAdd] at fin
  exact fin
theorem Mk_init (hd : 3 ≤ d) (hp : hN h = 6) (hQ : ∀ h', hN h' = 21 → hW h' = hW h + 330 → hS h' = hS h → Gr 5 h h' → hR h' 5 0 = some 6 → hR h' 5 1 = some 19 → CapNew h' 6 → hR h' 19 8 = some 20 → IA h' 20 64 → Q none h') : CL d 10 [.ref 5] h Q := by
  refine en10 (by omega) ?_
  have l5 : lay 5 = 1 := rfl
  have l6 : lay 6 = 0 := rfl
  have l19 : lay 19 = 7 := rfl
  simp (disch := omega) only [g10_0, g10_1, g10_4, g10_5, g10_8, g10_9, GN_nx, GN_rtn, GN_ck, GN_br, GN_cll, ldI_0, ldJ_0, ldR_0, ldI_s, ldJ_s, ldR_s, pI_c, pII_c, pJ_c, pJJ_c, pJI_c, pR_c, pRI_c, pRJ_c, pRR_c, pRII_c, pRIJ_c, pRIR_c, pCopy_c, pIe_c, pJe_c, pRe_c, pE_c, p1_i, p1_r, p11_ir, pA_0, pA_1, pA_2, pA_3, pA_4, pA_5, st1_0, st1_i, st1_r, st1_n, st1_u, st1_j, st1_s, st2_0, st2_i, st2_r, st2_n, st2_u, st2_j, st2_s, List.length_cons, List.length_nil, Nat.reduceAdd, Nat.reduceLT, Nat.reduceLeDiff, Nat.reduceEqDiff, Nat.zero_add, true_and, and_true, true_implies, not_true_eq_false, not_false_eq_true, false_implies, Option.toList_some, Option.toList_none, arr, inb, List.cons_append, List.nil_append, rv_some, rv_none, nlt_t, nlt_f, nle_t, nle_f, neq_f, ix_cl, ix_nn, ix_lt, cmp_le, cmp_lt, cmp_eq, cmp_lt0, cmp_ge0, cmp_eq0, cmp_gt0, cmp_le0, nI_mul, nI_add, nm1_ne, nm1_ne', one01, zero01, b2i_0, b2i_1, b2i_01, cmp_eq1, true_or, or_true, false_or, or_false, neq_t, hN_sI, hLn_sI, hR_sI, hL_sI, hI_sI, hN_sA, hLn_sA, hR_sA, hL_sA, hI_sA, hN_wI, hLn_wI, hR_wI, hL_wI, hI_wI, false_and, and_false, if_true, if_false, hN_fA, hLn_fA, hR_fA, hN_wrS, hLn_wrS, hR_wrS, hL_wrS, wS_day, wS_keeps, wS_brs, wS_first, wS_knows, wS_purse, wS_till, wS_valid, wS_kept, sS_day, sS_keeps, sS_brs, sS_first, sS_knows, sS_purse, sS_till, sS_valid, sS_kept, wrS_wrS, day_mk, knows_mk, purse_mk, till_mk, valid_mk, kept_mk, keeps_mk, brs_mk, first_mk, hN_wrU, hLn_wrU, hR_wrU, hL_wrU, wU_19, wU_20, sU_19, sU_20, upd_same, upd_upd, hN_wrR, hLn_wrR, hR_wrR, hL_wrR, bI_0, bI_01', bI_t1, eq_self, Bool.true_eq_false, Bool.false_eq_true, hN_wrC, hLn_wrC, hR_wrC, hL_wrC,  l5, l6, hN_alc, hp, ix_mil]
  refine Cap_init (p := 6) (by omega) (by rw [hN_alc, hp]) rfl (fun k k1 k2 => (by decide : ∀ k : Fin 13, 1 ≤ k.val → lay (6 + k.val) = 10) ⟨k, by omega⟩ k1) (by omega) (by funext j; rw [hI_alc, if_pos hp.symm]) (fun h1 n1 w1 s1 g1 c1 => ?_)
  have n1 : hN h1 = 19 := n1
  simp (disch := omega) only [g10_12, g10_15, g10_16, g10_19, g10_20, GN_nx, GN_rtn, GN_ck, GN_br, GN_cll, ldI_0, ldJ_0, ldR_0, ldI_s, ldJ_s, ldR_s, pI_c, pII_c, pJ_c, pJJ_c, pJI_c, pR_c, pRI_c, pRJ_c, pRR_c, pRII_c, pRIJ_c, pRIR_c, pCopy_c, pIe_c, pJe_c, pRe_c, pE_c, p1_i, p1_r, p11_ir, pA_0, pA_1, pA_2, pA_3, pA_4, pA_5, st1_0, st1_i, st1_r, st1_n, st1_u, st1_j, st1_s, st2_0, st2_i, st2_r, st2_n, st2_u, st2_j, st2_s, List.length_cons, List.length_nil, Nat.reduceAdd, Nat.reduceLT, Nat.reduceLeDiff, Nat.reduceEqDiff, Nat.zero_add, true_and, and_true, true_implies, not_true_eq_false, not_false_eq_true, false_implies, Option.toList_some, Option.toList_none, arr, inb, List.cons_append, List.nil_append, rv_some, rv_none, nlt_t, nlt_f, nle_t, nle_f, neq_f, ix_cl, ix_nn, ix_lt, cmp_le, cmp_lt, cmp_eq, cmp_lt0, cmp_ge0, cmp_eq0, cmp_gt0, cmp_le0, nI_mul, nI_add, nm1_ne, nm1_ne', one01, zero01, b2i_0, b2i_1, b2i_01, cmp_eq1, true_or, or_true, false_or, or_false, neq_t, hN_sI, hLn_sI, hR_sI, hL_sI, hI_sI, hN_sA, hLn_sA, hR_sA, hL_sA, hI_sA, hN_wI, hLn_wI, hR_wI, hL_wI, hI_wI, false_and, and_false, if_true, if_false, hN_fA, hLn_fA, hR_fA, hN_wrS, hLn_wrS, hR_wrS, hL_wrS, wS_day, wS_keeps, wS_brs, wS_first, wS_knows, wS_purse, wS_till, wS_valid, wS_kept, sS_day, sS_keeps, sS_brs, sS_first, sS_knows, sS_purse, sS_till, sS_valid, sS_kept, wrS_wrS, day_mk, knows_mk, purse_mk, till_mk, valid_mk, kept_mk, keeps_mk, brs_mk, first_mk, hN_wrU, hLn_wrU, hR_wrU, hL_wrU, wU_19, wU_20, sU_19, sU_20, upd_same, upd_upd, hN_wrR, hLn_wrR, hR_wrR, hL_wrR, bI_0, bI_01', bI_t1, eq_self, Bool.true_eq_false, Bool.false_eq_true, hN_wrC, hLn_wrC, hR_wrC, hL_wrC,  l5, l19, hN_sR, hN_alc, n1, ix_mil]
  refine Su_init (p := 19) (by omega) (by rw [hN_alc, hN_sR, n1]) rfl rfl (by omega) (fun h2 n2 w2 s2 g2 r2 i2 z2 z3 => ?_)
  have n2 : hN h2 = 21 := n2
  simp (disch := omega) only [g10_23, g10_26, GN_nx, GN_rtn, GN_ck, GN_br, GN_cll, ldI_0, ldJ_0, ldR_0, ldI_s, ldJ_s, ldR_s, pI_c, pII_c, pJ_c, pJJ_c, pJI_c, pR_c, pRI_c, pRJ_c, pRR_c, pRII_c, pRIJ_c, pRIR_c, pCopy_c, pIe_c, pJe_c, pRe_c, pE_c, p1_i, p1_r, p11_ir, pA_0, pA_1, pA_2, pA_3, pA_4, pA_5, st1_0, st1_i, st1_r, st1_n, st1_u, st1_j, st1_s, st2_0, st2_i, st2_r, st2_n, st2_u, st2_j, st2_s, List.length_cons, List.length_nil, Nat.reduceAdd, Nat.reduceLT, Nat.reduceLeDiff, Nat.reduceEqDiff, Nat.zero_add, true_and, and_true, true_implies, not_true_eq_false, not_false_eq_true, false_implies, Option.toList_some, Option.toList_none, arr, inb, List.cons_append, List.nil_append, rv_some, rv_none, nlt_t, nlt_f, nle_t, nle_f, neq_f, ix_cl, ix_nn, ix_lt, cmp_le, cmp_lt, cmp_eq, cmp_lt0, cmp_ge0, cmp_eq0, cmp_gt0, cmp_le0, nI_mul, nI_add, nm1_ne, nm1_ne', one01, zero01, b2i_0, b2i_1, b2i_01, cmp_eq1, true_or, or_true, false_or, or_false, neq_t, hN_sI, hLn_sI, hR_sI, hL_sI, hI_sI, hN_sA, hLn_sA, hR_sA, hL_sA, hI_sA, hN_wI, hLn_wI, hR_wI, hL_wI, hI_wI, false_and, and_false, if_true, if_false, hN_fA, hLn_fA, hR_fA, hN_wrS, hLn_wrS, hR_wrS, hL_wrS, wS_day, wS_keeps, wS_brs, wS_first, wS_knows, wS_purse, wS_till, wS_valid, wS_kept, sS_day, sS_keeps, sS_brs, sS_first, sS_knows, sS_purse, sS_till, sS_valid, sS_kept, wrS_wrS, day_mk, knows_mk, purse_mk, till_mk, valid_mk, kept_mk, keeps_mk, brs_mk, first_mk, hN_wrU, hLn_wrU, hR_wrU, hL_wrU, wU_19, wU_20, sU_19, sU_20, upd_same, upd_upd, hN_wrR, hLn_wrR, hR_wrR, hL_wrR, bI_0, bI_01', bI_t1, eq_self, Bool.true_eq_false, Bool.false_eq_true, hN_wrC, hLn_wrC, hR_wrC, hL_wrC,  l5, hN_sR, n2]
  have sm : ∀ a, a < 19 → ¬ a = 5 → Same h1 (sR h2 5 1 (some 19)) a := fun a w1 w2 => Same_trans (Same_sR w2) (Same_trans (Same_alc (by rw [hN_sR]; omega)) (Same_trans (g2 a w1) (Same_sR w2)))
  refine hQ _ n2 ?_ ?_ ?_ ?_ ?_ ?_ ?_ ?_
  · show hW h2 = _
    rw [w2]
    show hW h1 + 10 + 64 = _
    rw [w1]
    show hW h + 20 + 236 + 10 + 64 = _
    omega
  · show hS h2 = _
    rw [s2]
    show hS h1 = _
    rw [s1]
    rfl
  · exact fun a ha => Same_trans (Same_alc (by omega)) (Same_trans (g1 a (by omega)) (sm a (by omega) (by omega)))
  · rw [hR_sR, if_neg (by omega), (g2 5 (by omega)).2.2.1, hR_alc, if_neg (by rw [hN_sR]; omega), hR_sR, if_pos ⟨rfl, rfl⟩]
  · rw [hR_sR, if_pos ⟨rfl, rfl⟩]
  · exact CapNew_same (by rw [hN_sR]; omega) (fun a w1 w2 => sm a (by omega) (by omega)) c1
  · rw [hR_sR, if_neg (by omega)]
    exact r2
  · exact i2
end MAKE2
