/-! the 34 pairs of calls -/
/-- k calls made: both sides hold the same state -/
def LW (L : Nat) (xs : Nat → Int32) (k : Nat) (h : AH) : Prop := hS h = (L, xs) ∧ hN h ≤ 220 + 2 * k ∧ hW h ≤ 40000 + 3200 * k ∧ ∃ (A : AS) (c e bk m : Nat), m ≤ 280000 * k ∧ ClsAt h c e 148 154 A ∧ MdlAt h bk m A ∧ INV A ∧ TyI A
/-- a call of the class and then the same of the reference: one answer -/
def PairOK (mC mM : Nat) (as : List Value) : Prop := ∀ (d k : Nat) (h : AH) (L : Nat) (xs : Nat → Int32) (Q : Option Value → AH → Prop), 130 ≤ d → k ≤ 600 → LW L xs k h → (∀ (v : Int32) (h1 : AH), hS h1 = (L, xs) → 219 < hN h1 → (∀ Q2 : Option Value → AH → Prop, (∀ h2, LW L xs (k + 1) h2 → Q2 (some (.int v)) h2) → CL d mM (.ref 174 :: as) h1 Q2) → Q (some (.int v)) h1) → CL d mC (.ref 0 :: as) h Q
section PAIRB
variable {L k bk m m' c e : Nat} {xs : Nat → Int32} {h h1 h3 : AH} {A A' : AS} {x1 x2 x3 x4 x5 : Int32}
theorem Cls_N {p q : Nat} (hA : ClsAt h c e p q A) : 219 < hN h := hA.1.2.1
theorem FrC_scr (a : Agr scr h h1) : FrC h h1 := by
  obtain ⟨a0, a1, a2, a3, a4, a5, a6⟩ := a
  exact ⟨Nat.le_of_eq a0.symm, a5, fun b b1 b2 => ⟨a6 b (by unfold scr; omega), by rw [a2], by rw [a4], by rw [a3]⟩⟩
theorem LW_fin (hs : hS h1 = (L, xs)) (hn : hN h1 ≤ 220 + 2 * (k + 1)) (hw : hW h1 ≤ 40000 + 3200 * (k + 1)) (hm : m' ≤ 280000 * (k + 1)) (hA : ClsAt h1 c e 148 154 A') (a3 : Agm mdX h1 h3) (hM : MdlAt h3 bk m' A') (hI0 : INV A') (hT : TyI A') : LW L xs (k + 1) h3 := by
  have b0 := a3.1
  have b1 := a3.2.1
  exact ⟨a3.2.2.2.2.1.trans hs, by omega, by omega, A', c, e, bk, m', hm, Cls_agm a3 hA, hM, hI0, hT⟩
theorem pr_0 : PairOK 105 158 [.int x1, .int x2, .int x3, .int x4, .int x5] := fun d k h L xs Q hd hk hw hQ => by
  obtain ⟨hs, hn, hww, A, c, e, bk, m, hm, hA, hM, hI0, hT⟩ := hw
  have tp : ∀ k, k < 1600 → hI h 1 k = A.tp k := hA.2.2.2.2.2.2.2.2.2.2.1
  have hWT := WT_mdl hM
  refine C_feed (by omega) hA (fun h1 hA1 a1 => hQ _ h1 (a1.2.2.2.2.2.1.trans hs) (Cls_N hA1) (fun Q2 hh => ?_))
  have n1 := a1.1
  have w1 := a1.2.1
  exact Mo_feed (g := hI h 1) (by omega) (Mdl_frc (FrC_agr a1) hM) tp (fun h3 hM3 a3 => hh h3 (LW_fin (a1.2.2.2.2.2.1.trans hs) (by omega) (by omega) (by omega) hA1 a3 hM3 (INV_fee hI0) (Ty_fee hT tp)))
theorem pr_1 : PairOK 106 159 [.int x1] := fun d k h L xs Q hd hk hw hQ => by
  obtain ⟨hs, hn, hww, A, c, e, bk, m, hm, hA, hM, hI0, hT⟩ := hw
  have tp : ∀ k, k < 1600 → hI h 1 k = A.tp k := hA.2.2.2.2.2.2.2.2.2.2.1
  have hWT := WT_mdl hM
  refine C_end (by omega) hA (fun h1 hA1 a1 => hQ _ h1 (a1.2.2.2.2.2.1.trans hs) (Cls_N hA1) (fun Q2 hh => ?_))
  have n1 := a1.1
  have w1 := a1.2.1
  exact Mo_end (g := hI h 1) (by omega) (Mdl_frc (FrC_agr a1) hM) tp (fun h3 hM3 a3 => hh h3 (LW_fin (a1.2.2.2.2.2.1.trans hs) (by omega) (by omega) (by omega) hA1 a3 hM3 (INV_end hI0) (Ty_end hT tp)))
theorem pr_3 : PairOK 108 199 [.int x1] := fun d k h L xs Q hd hk hw hQ => by
  obtain ⟨hs, hn, hww, A, c, e, bk, m, hm, hA, hM, hI0, hT⟩ := hw
  have tp : ∀ k, k < 1600 → hI h 1 k = A.tp k := hA.2.2.2.2.2.2.2.2.2.2.1
  have hWT := WT_mdl hM
  refine C_fault (by omega) hA (hQ _ h hs (Cls_N hA) (fun Q2 hh => ?_))
  exact Mo_fault (by omega) hM (hh h (LW_fin hs (by omega) (by omega) (show m ≤ 280000 * (k + 1) by omega) hA Agm_refl hM hI0 hT))
theorem pr_4 : PairOK 109 231 [.int x1] := fun d k h L xs Q hd hk hw hQ => by
  obtain ⟨hs, hn, hww, A, c, e, bk, m, hm, hA, hM, hI0, hT⟩ := hw
  have tp : ∀ k, k < 1600 → hI h 1 k = A.tp k := hA.2.2.2.2.2.2.2.2.2.2.1
  have hWT := WT_mdl hM
  refine C_has (by omega) hA (hQ _ h hs (Cls_N hA) (fun Q2 hh => ?_))
  exact Mo_has (by omega) hI0 hM (hh h (LW_fin hs (by omega) (by omega) (show m ≤ 280000 * (k + 1) by omega) hA Agm_refl hM hI0 hT))
theorem pr_5 : PairOK 110 232 [.int x1, .int x2, .int x3] := fun d k h L xs Q hd hk hw hQ => by
  obtain ⟨hs, hn, hww, A, c, e, bk, m, hm, hA, hM, hI0, hT⟩ := hw
  have tp : ∀ k, k < 1600 → hI h 1 k = A.tp k := hA.2.2.2.2.2.2.2.2.2.2.1
  have hWT := WT_mdl hM
  refine C_letter (by omega) hA (hQ _ h hs (Cls_N hA) (fun Q2 hh => ?_))
  exact Mo_letter (by omega) hM (hh h (LW_fin hs (by omega) (by omega) (show m ≤ 280000 * (k + 1) by omega) hA Agm_refl hM hI0 hT))
theorem pr_6 : PairOK 111 233 [.int x1, .int x2] := fun d k h L xs Q hd hk hw hQ => by
  obtain ⟨hs, hn, hww, A, c, e, bk, m, hm, hA, hM, hI0, hT⟩ := hw
  have tp : ∀ k, k < 1600 → hI h 1 k = A.tp k := hA.2.2.2.2.2.2.2.2.2.2.1
  have hWT := WT_mdl hM
  refine C_fact (by omega) hA (hQ _ h hs (Cls_N hA) (fun Q2 hh => ?_))
  exact Mo_fact (by omega) hI0 hM (hh h (LW_fin hs (by omega) (by omega) (show m ≤ 280000 * (k + 1) by omega) hA Agm_refl hM hI0 hT))
theorem pr_7 : PairOK 112 234 [.int x1, .int x2] := fun d k h L xs Q hd hk hw hQ => by
  obtain ⟨hs, hn, hww, A, c, e, bk, m, hm, hA, hM, hI0, hT⟩ := hw
  have tp : ∀ k, k < 1600 → hI h 1 k = A.tp k := hA.2.2.2.2.2.2.2.2.2.2.1
  have hWT := WT_mdl hM
  refine C_rule (by omega) hA (hQ _ h hs (Cls_N hA) (fun Q2 hh => ?_))
  exact Mo_rule (by omega) hM (hh h (LW_fin hs (by omega) (by omega) (show m ≤ 280000 * (k + 1) by omega) hA Agm_refl hM hI0 hT))
theorem pr_8 : PairOK 113 235 [.int x1, .int x2] := fun d k h L xs Q hd hk hw hQ => by
  obtain ⟨hs, hn, hww, A, c, e, bk, m, hm, hA, hM, hI0, hT⟩ := hw
  have tp : ∀ k, k < 1600 → hI h 1 k = A.tp k := hA.2.2.2.2.2.2.2.2.2.2.1
  have hWT := WT_mdl hM
  refine C_person (by omega) hA (hQ _ h hs (Cls_N hA) (fun Q2 hh => ?_))
  exact Mo_person (by omega) hI0 hM (hh h (LW_fin hs (by omega) (by omega) (show m ≤ 280000 * (k + 1) by omega) hA Agm_refl hM hI0 hT))
theorem pr_9 : PairOK 114 236 [.int x1, .int x2] := fun d k h L xs Q hd hk hw hQ => by
  obtain ⟨hs, hn, hww, A, c, e, bk, m, hm, hA, hM, hI0, hT⟩ := hw
  have tp : ∀ k, k < 1600 → hI h 1 k = A.tp k := hA.2.2.2.2.2.2.2.2.2.2.1
  have hWT := WT_mdl hM
  refine C_licence (by omega) hA (hQ _ h hs (Cls_N hA) (fun Q2 hh => ?_))
  exact Mo_licence (by omega) hI0 hM (hh h (LW_fin hs (by omega) (by omega) (show m ≤ 280000 * (k + 1) by omega) hA Agm_refl hM hI0 hT))
theorem pr_10 : PairOK 115 237 [.int x1, .int x2, .int x3] := fun d k h L xs Q hd hk hw hQ => by
  obtain ⟨hs, hn, hww, A, c, e, bk, m, hm, hA, hM, hI0, hT⟩ := hw
  have tp : ∀ k, k < 1600 → hI h 1 k = A.tp k := hA.2.2.2.2.2.2.2.2.2.2.1
  have hWT := WT_mdl hM
  refine C_price (by omega) hA (fun h1 a1 => hQ _ h1 (a1.2.2.2.2.2.1.trans hs) (Cls_N (Cls_agr a1 hA)) (fun Q2 hh => ?_))
  have n1 := a1.1
  have w1 := a1.2.1
  exact Mo_price  (by omega) hI0 (Mdl_frc (FrC_scr a1) hM)  (fun h3 hM3 a3 => hh h3 (LW_fin (a1.2.2.2.2.2.1.trans hs) (by omega) (by omega) (by omega) (Cls_agr a1 hA) a3 hM3 hI0 hT))
theorem pr_11 : PairOK 116 238 [.int x1, .int x2, .int x3] := fun d k h L xs Q hd hk hw hQ => by
  obtain ⟨hs, hn, hww, A, c, e, bk, m, hm, hA, hM, hI0, hT⟩ := hw
  have tp : ∀ k, k < 1600 → hI h 1 k = A.tp k := hA.2.2.2.2.2.2.2.2.2.2.1
  have hWT := WT_mdl hM
  refine C_buy (by omega) hA (fun h1 hA1 a1 => hQ _ h1 (a1.2.2.2.2.2.1.trans hs) (Cls_N hA1) (fun Q2 hh => ?_))
  have n1 := a1.1
  have w1 := a1.2.1
  exact Mo_buy  (by omega) hI0 (Mdl_frc (FrC_agr a1) hM)  (fun h3 hM3 a3 => hh h3 (LW_fin (a1.2.2.2.2.2.1.trans hs) (by omega) (by omega) (by omega) hA1 a3 hM3 (INV_buy hI0) (Ty_buy hT)))
theorem pr_12 : PairOK 117 239 [.int x1, .int x2] := fun d k h L xs Q hd hk hw hQ => by
  obtain ⟨hs, hn, hww, A, c, e, bk, m, hm, hA, hM, hI0, hT⟩ := hw
  have tp : ∀ k, k < 1600 → hI h 1 k = A.tp k := hA.2.2.2.2.2.2.2.2.2.2.1
  have hWT := WT_mdl hM
  refine C_back (by omega) hA (fun h1 hA1 a1 => hQ _ h1 (a1.2.2.2.2.2.1.trans hs) (Cls_N hA1) (fun Q2 hh => ?_))
  have n1 := a1.1
  have w1 := a1.2.1
  exact Mo_back  (by omega) hI0 (Mdl_frc (FrC_agr a1) hM)  (fun h3 hM3 a3 => hh h3 (LW_fin (a1.2.2.2.2.2.1.trans hs) (by omega) (by omega) (by omega) hA1 a3 hM3 (INV_bac hI0) (Ty_bac hT)))
theorem pr_13 : PairOK 118 241 [.int x1, .int x2] := fun d k h L xs Q hd hk hw hQ => by
  obtain ⟨hs, hn, hww, A, c, e, bk, m, hm, hA, hM, hI0, hT⟩ := hw
  have tp : ∀ k, k < 1600 → hI h 1 k = A.tp k := hA.2.2.2.2.2.2.2.2.2.2.1
  have hWT := WT_mdl hM
  refine C_word (by omega) hA (fun h1 hA1 a1 => hQ _ h1 (a1.2.2.2.2.2.1.trans hs) (Cls_N hA1) (fun Q2 hh => ?_))
  have n1 := a1.1
  have w1 := a1.2.1
  exact Mo_word  (by omega) hI0 (Mdl_frc (FrC_agr a1) hM) (by omega) (fun h3 hM3 a3 => hh h3 (LW_fin (a1.2.2.2.2.2.1.trans hs) (by omega) (by omega) (by omega) hA1 a3 hM3 (INV_wor hI0) (Ty_wor hT)))
theorem pr_14 : PairOK 119 242 [.int x1] := fun d k h L xs Q hd hk hw hQ => by
  obtain ⟨hs, hn, hww, A, c, e, bk, m, hm, hA, hM, hI0, hT⟩ := hw
  have tp : ∀ k, k < 1600 → hI h 1 k = A.tp k := hA.2.2.2.2.2.2.2.2.2.2.1
  have hWT := WT_mdl hM
  refine C_days (by omega) hA (fun h1 hA1 a1 => hQ _ h1 (a1.2.2.2.2.2.1.trans hs) (Cls_N hA1) (fun Q2 hh => ?_))
  have n1 := a1.1
  have w1 := a1.2.1
  exact Mo_days  (by omega) hI0 (Mdl_frc (FrC_agr a1) hM)  (fun h3 hM3 a3 => hh h3 (LW_fin (a1.2.2.2.2.2.1.trans hs) (by omega) (by omega) (by omega) hA1 a3 hM3 (INV_day hI0 hWT) (Ty_day hT)))
theorem pr_15 : PairOK 120 245 [.int x1] := fun d k h L xs Q hd hk hw hQ => by
  obtain ⟨hs, hn, hww, A, c, e, bk, m, hm, hA, hM, hI0, hT⟩ := hw
  have tp : ∀ k, k < 1600 → hI h 1 k = A.tp k := hA.2.2.2.2.2.2.2.2.2.2.1
  have hWT := WT_mdl hM
  refine C_rumours (by omega) hA (fun h1 hA1 a1 => hQ _ h1 (a1.2.2.2.2.2.1.trans hs) (Cls_N hA1) (fun Q2 hh => ?_))
  have n1 := a1.1
  have w1 := a1.2.1
  exact Mo_rumours  (by omega) hI0 (Mdl_frc (FrC_agr a1) hM)  (fun h3 hM3 a3 => hh h3 (LW_fin (a1.2.2.2.2.2.1.trans hs) (by omega) (by omega) (by omega) hA1 a3 hM3 (INV_rum hI0 hWT) (Ty_rum hT)))
theorem pr_16 : PairOK 121 211 [] := fun d k h L xs Q hd hk hw hQ => by
  obtain ⟨hs, hn, hww, A, c, e, bk, m, hm, hA, hM, hI0, hT⟩ := hw
  have tp : ∀ k, k < 1600 → hI h 1 k = A.tp k := hA.2.2.2.2.2.2.2.2.2.2.1
  have hWT := WT_mdl hM
  refine C_undo (by omega) hA (fun h1 hA1 a1 => hQ _ h1 (a1.2.2.2.2.2.1.trans hs) (Cls_N hA1) (fun Q2 hh => ?_))
  have n1 := a1.1
  have w1 := a1.2.1
  exact Mo_undo  (by omega) hI0 (Mdl_frc (FrC_agr a1) hM)  (fun h3 hM3 a3 => hh h3 (LW_fin (a1.2.2.2.2.2.1.trans hs) (by omega) (by omega) (by omega) hA1 a3 hM3 (INV_und hI0) (Ty_und hT)))
theorem pr_17 : PairOK 122 246 [.int x1] := fun d k h L xs Q hd hk hw hQ => by
  obtain ⟨hs, hn, hww, A, c, e, bk, m, hm, hA, hM, hI0, hT⟩ := hw
  have tp : ∀ k, k < 1600 → hI h 1 k = A.tp k := hA.2.2.2.2.2.2.2.2.2.2.1
  have hWT := WT_mdl hM
  refine C_seed (by omega) hA (fun h1 hA1 a1 => hQ _ h1 (a1.2.2.2.2.2.1.trans hs) (Cls_N hA1) (fun Q2 hh => ?_))
  have n1 := a1.1
  have w1 := a1.2.1
  exact Mo_seed  (by omega) (Mdl_frc (FrC_agr a1) hM)  (fun h3 hM3 a3 => hh h3 (LW_fin (a1.2.2.2.2.2.1.trans hs) (by omega) (by omega) (by omega) hA1 a3 hM3 (INV_sed hI0) (Ty_sed hT)))
theorem pr_18 : PairOK 123 247 [.int x1, .int x2] := fun d k h L xs Q hd hk hw hQ => by
  obtain ⟨hs, hn, hww, A, c, e, bk, m, hm, hA, hM, hI0, hT⟩ := hw
  have tp : ∀ k, k < 1600 → hI h 1 k = A.tp k := hA.2.2.2.2.2.2.2.2.2.2.1
  have hWT := WT_mdl hM
  refine C_kept (by omega) hA (hQ _ h hs (Cls_N hA) (fun Q2 hh => ?_))
  exact Mo_kept (by omega) hI0 hM (hh h (LW_fin hs (by omega) (by omega) (show m ≤ 280000 * (k + 1) by omega) hA Agm_refl hM hI0 hT))
theorem pr_19 : PairOK 124 251 [.int x1, .int x2] := fun d k h L xs Q hd hk hw hQ => by
  obtain ⟨hs, hn, hww, A, c, e, bk, m, hm, hA, hM, hI0, hT⟩ := hw
  have tp : ∀ k, k < 1600 → hI h 1 k = A.tp k := hA.2.2.2.2.2.2.2.2.2.2.1
  have hWT := WT_mdl hM
  refine C_when (by omega) hA (fun h1 a1 => hQ _ h1 (a1.2.2.2.2.2.1.trans hs) (Cls_N (Cls_agr a1 hA)) (fun Q2 hh => ?_))
  have n1 := a1.1
  have w1 := a1.2.1
  exact Mo_when  (by omega) hI0 (Mdl_frc (FrC_scr a1) hM) (by omega) (fun h3 hM3 a3 => hh h3 (LW_fin (a1.2.2.2.2.2.1.trans hs) (by omega) (by omega) (by omega) (Cls_agr a1 hA) a3 hM3 hI0 hT))
theorem pr_20 : PairOK 125 252 [.int x1] := fun d k h L xs Q hd hk hw hQ => by
  obtain ⟨hs, hn, hww, A, c, e, bk, m, hm, hA, hM, hI0, hT⟩ := hw
  have tp : ∀ k, k < 1600 → hI h 1 k = A.tp k := hA.2.2.2.2.2.2.2.2.2.2.1
  have hWT := WT_mdl hM
  refine C_breach (by omega) hA (fun h1 a1 => hQ _ h1 (a1.2.2.2.2.2.1.trans hs) (Cls_N (Cls_agr a1 hA)) (fun Q2 hh => ?_))
  have n1 := a1.1
  have w1 := a1.2.1
  exact Mo_breach  (by omega) hI0 (Mdl_frc (FrC_scr a1) hM)  (fun h3 hM3 a3 => hh h3 (LW_fin (a1.2.2.2.2.2.1.trans hs) (by omega) (by omega) (by omega) (Cls_agr a1 hA) a3 hM3 hI0 hT))
theorem pr_21 : PairOK 126 253 [.int x1, .int x2] := fun d k h L xs Q hd hk hw hQ => by
  obtain ⟨hs, hn, hww, A, c, e, bk, m, hm, hA, hM, hI0, hT⟩ := hw
  have tp : ∀ k, k < 1600 → hI h 1 k = A.tp k := hA.2.2.2.2.2.2.2.2.2.2.1
  have hWT := WT_mdl hM
  refine C_bliss (by omega) hA (fun h1 a1 => hQ _ h1 (a1.2.2.2.2.2.1.trans hs) (Cls_N (Cls_agr a1 hA)) (fun Q2 hh => ?_))
  have n1 := a1.1
  have w1 := a1.2.1
  exact Mo_bliss  (by omega) hI0 (Mdl_frc (FrC_scr a1) hM) (by omega) (fun h3 hM3 a3 => hh h3 (LW_fin (a1.2.2.2.2.2.1.trans hs) (by omega) (by omega) (by omega) (Cls_agr a1 hA) a3 hM3 hI0 hT))
theorem pr_22 : PairOK 127 254 [.int x1, .int x2, .int x3] := fun d k h L xs Q hd hk hw hQ => by
  obtain ⟨hs, hn, hww, A, c, e, bk, m, hm, hA, hM, hI0, hT⟩ := hw
  have tp : ∀ k, k < 1600 → hI h 1 k = A.tp k := hA.2.2.2.2.2.2.2.2.2.2.1
  have hWT := WT_mdl hM
  refine C_surprise (by omega) hA (fun h1 a1 => hQ _ h1 (a1.2.2.2.2.2.1.trans hs) (Cls_N (Cls_agr a1 hA)) (fun Q2 hh => ?_))
  have n1 := a1.1
  have w1 := a1.2.1
  exact Mo_surprise  (by omega) hI0 (Mdl_frc (FrC_scr a1) hM) (by omega) (fun h3 hM3 a3 => hh h3 (LW_fin (a1.2.2.2.2.2.1.trans hs) (by omega) (by omega) (by omega) (Cls_agr a1 hA) a3 hM3 hI0 hT))
theorem pr_23 : PairOK 128 256 [.int x1] := fun d k h L xs Q hd hk hw hQ => by
  obtain ⟨hs, hn, hww, A, c, e, bk, m, hm, hA, hM, hI0, hT⟩ := hw
  have tp : ∀ k, k < 1600 → hI h 1 k = A.tp k := hA.2.2.2.2.2.2.2.2.2.2.1
  have hWT := WT_mdl hM
  refine C_follows (by omega) hA (hQ _ h hs (Cls_N hA) (fun Q2 hh => ?_))
  exact Mo_follows (by omega) hM (fun h3 hM3 a3 => hh h3 (LW_fin hs (by omega) (by omega) (by omega) hA a3 hM3 hI0 hT))
theorem pr_24 : PairOK 129 257 [.int x1, .int x2, .int x3] := fun d k h L xs Q hd hk hw hQ => by
  obtain ⟨hs, hn, hww, A, c, e, bk, m, hm, hA, hM, hI0, hT⟩ := hw
  have tp : ∀ k, k < 1600 → hI h 1 k = A.tp k := hA.2.2.2.2.2.2.2.2.2.2.1
  have hWT := WT_mdl hM
  refine C_by (by omega) hA (fun h1 a1 => hQ _ h1 (a1.2.2.2.2.2.1.trans hs) (Cls_N (Cls_agr a1 hA)) (fun Q2 hh => ?_))
  have n1 := a1.1
  have w1 := a1.2.1
  exact Mo_by (pr := hI h 22) (by omega) (Mdl_frc (FrC_scr a1) hM)  (fun h3 hM3 a3 => hh h3 (LW_fin (a1.2.2.2.2.2.1.trans hs) (by omega) (by omega) (by omega) (Cls_agr a1 hA) a3 hM3 hI0 hT))
theorem pr_25 : PairOK 130 258 [.int x1, .int x2, .int x3] := fun d k h L xs Q hd hk hw hQ => by
  obtain ⟨hs, hn, hww, A, c, e, bk, m, hm, hA, hM, hI0, hT⟩ := hw
  have tp : ∀ k, k < 1600 → hI h 1 k = A.tp k := hA.2.2.2.2.2.2.2.2.2.2.1
  have hWT := WT_mdl hM
  refine C_barred (by omega) hA (fun h1 a1 => hQ _ h1 (a1.2.2.2.2.2.1.trans hs) (Cls_N (Cls_agr a1 hA)) (fun Q2 hh => ?_))
  have n1 := a1.1
  have w1 := a1.2.1
  exact Mo_barred  (by omega) hI0 (Mdl_frc (FrC_scr a1) hM)  (fun h3 hM3 a3 => hh h3 (LW_fin (a1.2.2.2.2.2.1.trans hs) (by omega) (by omega) (by omega) (Cls_agr a1 hA) a3 hM3 hI0 hT))
theorem pr_26 : PairOK 131 259 [.int x1, .int x2, .int x3, .int x4] := fun d k h L xs Q hd hk hw hQ => by
  obtain ⟨hs, hn, hww, A, c, e, bk, m, hm, hA, hM, hI0, hT⟩ := hw
  have tp : ∀ k, k < 1600 → hI h 1 k = A.tp k := hA.2.2.2.2.2.2.2.2.2.2.1
  have hWT := WT_mdl hM
  refine C_cheapest (by omega) hA (fun h1 a1 => hQ _ h1 (a1.2.2.2.2.2.1.trans hs) (Cls_N (Cls_agr a1 hA)) (fun Q2 hh => ?_))
  have n1 := a1.1
  have w1 := a1.2.1
  exact Mo_cheapest (w := hI h 23) (by omega) hI0 (Mdl_frc (FrC_scr a1) hM)  (fun h3 hM3 a3 => hh h3 (LW_fin (a1.2.2.2.2.2.1.trans hs) (by omega) (by omega) (by omega) (Cls_agr a1 hA) a3 hM3 hI0 hT))
theorem pr_27 : PairOK 132 262 [.int x1, .int x2] := fun d k h L xs Q hd hk hw hQ => by
  obtain ⟨hs, hn, hww, A, c, e, bk, m, hm, hA, hM, hI0, hT⟩ := hw
  have tp : ∀ k, k < 1600 → hI h 1 k = A.tp k := hA.2.2.2.2.2.2.2.2.2.2.1
  have hWT := WT_mdl hM
  refine C_seeded (by omega) hA (hQ _ h hs (Cls_N hA) (fun Q2 hh => ?_))
  exact Mo_seeded (by omega) hI0 hM (hh h (LW_fin hs (by omega) (by omega) (show m ≤ 280000 * (k + 1) by omega) hA Agm_refl hM hI0 hT))
theorem pr_28 : PairOK 133 263 [.int x1, .int x2] := fun d k h L xs Q hd hk hw hQ => by
  obtain ⟨hs, hn, hww, A, c, e, bk, m, hm, hA, hM, hI0, hT⟩ := hw
  have tp : ∀ k, k < 1600 → hI h 1 k = A.tp k := hA.2.2.2.2.2.2.2.2.2.2.1
  have hWT := WT_mdl hM
  refine C_face (by omega) hA (fun h1 a1 => hQ _ h1 (a1.2.2.2.2.2.1.trans hs) (Cls_N (Cls_agr a1 hA)) (fun Q2 hh => ?_))
  have n1 := a1.1
  have w1 := a1.2.1
  exact Mo_face  (by omega) (Mdl_frc (FrC_scr a1) hM)  (fun h3 hM3 a3 => hh h3 (LW_fin (a1.2.2.2.2.2.1.trans hs) (by omega) (by omega) (by omega) (Cls_agr a1 hA) a3 hM3 hI0 hT))
theorem pr_29 : PairOK 134 265 [.int x1] := fun d k h L xs Q hd hk hw hQ => by
  obtain ⟨hs, hn, hww, A, c, e, bk, m, hm, hA, hM, hI0, hT⟩ := hw
  have tp : ∀ k, k < 1600 → hI h 1 k = A.tp k := hA.2.2.2.2.2.2.2.2.2.2.1
  have hWT := WT_mdl hM
  refine C_rest (by omega) hA (fun h1 a1 => hQ _ h1 (a1.2.2.2.2.2.1.trans hs) (Cls_N (Cls_agr a1 hA)) (fun Q2 hh => ?_))
  have n1 := a1.1
  have w1 := a1.2.1
  exact Mo_rest  (by omega) hI0 (Mdl_frc (FrC_scr a1) hM)  (fun h3 hM3 a3 => hh h3 (LW_fin (a1.2.2.2.2.2.1.trans hs) (by omega) (by omega) (by omega) (Cls_agr a1 hA) a3 hM3 hI0 hT))
theorem pr_30 : PairOK 135 268 [] := fun d k h L xs Q hd hk hw hQ => by
  obtain ⟨hs, hn, hww, A, c, e, bk, m, hm, hA, hM, hI0, hT⟩ := hw
  have tp : ∀ k, k < 1600 → hI h 1 k = A.tp k := hA.2.2.2.2.2.2.2.2.2.2.1
  have hWT := WT_mdl hM
  refine C_image (by omega) hA (fun h1 hA1 a1 => hQ _ h1 (a1.2.2.2.2.2.1.trans hs) (Cls_N hA1) (fun Q2 hh => ?_))
  have n1 := a1.1
  have w1 := a1.2.1
  exact Mo_image (g := hI h 25) (by omega) hI0 (Mdl_frc (FrC_agr a1) hM)  (fun h3 hM3 a3 => hh h3 (LW_fin (a1.2.2.2.2.2.1.trans hs) (by omega) (by omega) (by omega) hA1 a3 hM3 (INV_img hI0) (Ty_img hT)))
theorem pr_31 : PairOK 136 269 [.int x1] := fun d k h L xs Q hd hk hw hQ => by
  obtain ⟨hs, hn, hww, A, c, e, bk, m, hm, hA, hM, hI0, hT⟩ := hw
  have tp : ∀ k, k < 1600 → hI h 1 k = A.tp k := hA.2.2.2.2.2.2.2.2.2.2.1
  have hWT := WT_mdl hM
  refine C_octet (by omega) hA (hQ _ h hs (Cls_N hA) (fun Q2 hh => ?_))
  exact Mo_octet (by omega) hM (hh h (LW_fin hs (by omega) (by omega) (show m ≤ 280000 * (k + 1) by omega) hA Agm_refl hM hI0 hT))
theorem pr_33 : PairOK 138 201 [.int x1] := fun d k h L xs Q hd hk hw hQ => by
  obtain ⟨hs, hn, hww, A, c, e, bk, m, hm, hA, hM, hI0, hT⟩ := hw
  have tp : ∀ k, k < 1600 → hI h 1 k = A.tp k := hA.2.2.2.2.2.2.2.2.2.2.1
  have hWT := WT_mdl hM
  refine C_status (by omega) hA (hQ _ h hs (Cls_N hA) (fun Q2 hh => ?_))
  exact Mo_status (by omega) hM (hh h (LW_fin hs (by omega) (by omega) (show m ≤ 280000 * (k + 1) by omega) hA Agm_refl hM hI0 hT))
theorem pr_32 : PairOK 137 272 [] := fun d k h L xs Q hd hk hw hQ => by
  obtain ⟨hs, hn, hww, A, c, e, bk, m, hm, hA, hM, hI0, hT⟩ := hw
  have tp : ∀ k, k < 1600 → hI h 1 k = A.tp k := hA.2.2.2.2.2.2.2.2.2.2.1
  have hdec : ∀ s, Decidable (okIm A.C (hI h 1) A.tn s) := fun s => Classical.propDecidable _
  refine C_on (by omega) hA hdec (fun h1 s ks hA1 a1 => hQ _ h1 (a1.2.2.2.2.2.1.trans hs) (Cls_N hA1) (fun Q2 hh => ?_))
  obtain ⟨-, s0, rfl⟩ := ks
  have n1 := a1.1
  have w1 := a1.2.1
  exact Mo_on (s0 := s0) (g := hI h 1) (by omega) hI0 (Mdl_frc (FrC_agr a1) hM) tp (fun h3 hM3 a3 => hh h3 (LW_fin (a1.2.2.2.2.2.1.trans hs) (by omega) (by omega) (by omega) hA1 a3 hM3 (INV_on hI0) (Ty_on hT tp)))
theorem up_w {k a z : Nat} (h1 : z ≤ a + 3200) (h0 : a ≤ 40000 + 3200 * k) : z ≤ 40000 + 3200 * (k + 1) := by
  rw [Nat.mul_add, Nat.mul_one, ← Nat.add_assoc]
  exact Nat.le_trans h1 (Nat.add_le_add_right h0 3200)
theorem up_n {k a z : Nat} (h1 : z ≤ a + 2) (h0 : a ≤ 220 + 2 * k) : z ≤ 220 + 2 * (k + 1) := by
  rw [Nat.mul_add, Nat.mul_one, ← Nat.add_assoc]
  exact Nat.le_trans h1 (Nat.add_le_add_right h0 2)
theorem m1_no {n : Nat} (hn : n ≤ 80) (z : nI n = -1) : False := by
  have := nm1_ne (a := n) (by omega)
  rw [z] at this
  exact this.mp rfl
theorem pr_2 : PairOK 107 198 [] := fun d k h L xs Q hd hk hw hQ => by
  obtain ⟨hs, hn, hww, A, c, e, bk, m, hm, hA, hM, hI0, hT⟩ := hw
  have tp : ∀ k, k < 1600 → hI h 1 k = A.tp k := hA.2.2.2.2.2.2.2.2.2.2.1
  refine C_capital (by omega) hA (by omega) (fun h1 K f g _ e1 hA1 f1 n1 w1 => ?_) (fun h1 K f g _ e1 hA1 f1 n1 w1 => ?_)
  · refine hQ _ h1 (f1.2.1.trans hs) (Cls_N hA1) (fun Q2 hh => ?_)
    refine Mo_capital (tw := hI h 1) (K := K) (f := f) (g := g) (by omega) (Mdl_frc f1 hM) hT tp (by omega) (fun _ h3 hM3 a3 => ?_) (fun n hn1 en h3 hM3 a3 => ?_)
    · exact hh h3 (LW_fin (f1.2.1.trans hs) (up_n n1 hn) (up_w w1 hww) (by omega) hA1 a3 hM3 (INV_capF hI0) (Ty_g hT tp rfl))
    · exact (m1_no hn1 (en.symm.trans e1)).elim
  · refine hQ _ h1 (f1.2.1.trans hs) (Cls_N hA1) (fun Q2 hh => ?_)
    refine Mo_capital (tw := hI h 1) (K := K) (f := f) (g := g) (by omega) (Mdl_frc f1 hM) hT tp (by omega) (fun e2 => absurd e2 e1) (fun n hn1 en h3 hM3 a3 => ?_)
    have z := hh h3 (LW_fin (f1.2.1.trans hs) (up_n n1 hn) (up_w w1 hww) (by omega) hA1 a3 hM3 (INV_capG WK_txR (WT_mdl hM3) hI0) (Ty_g hT tp rfl))
    rw [en] at z
    exact z
end PAIRB
