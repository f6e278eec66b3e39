/-! BlissMarket: capital -/
def LEh (h h' : AH) : Prop := hN h ≤ hN h' ∧ (∀ a, a < hN h → hLn h' a = hLn h a) ∧ ∀ a, a < hN h → hL h' a = hL h a
theorem IA_le {h h' : AH} {a n : Nat} (l : LEh h h') (haN : a < hN h) (ha : IA h a n) : IA h' a n := ⟨ha.1, (l.2.1 a haN).trans ha.2⟩
theorem St_le {h h' : AH} {p : Nat} (l : LEh h h') (r : ∀ i, i < 18 → hR h' p i = hR h p i) (hS : StAt h p) : StAt h' p := by
  obtain ⟨s0, sN, sT, ⟨s1, s2, s3, s4, s5⟩, i1, i2, i3, i4, i5⟩ := hS
  have := l.1
  exact ⟨s0, by omega, sT, ⟨(r 1 (by omega)).trans s1, (r 2 (by omega)).trans s2, (r 3 (by omega)).trans s3, (r 4 (by omega)).trans s4, (r 5 (by omega)).trans s5⟩, IA_le l (by omega) i1, IA_le l (by omega) i2, IA_le l (by omega) i3, IA_le l (by omega) i4, IA_le l (by omega) i5⟩
theorem Cap_le {h h' : AH} {c : Nat} (l : LEh h h') (r : ∀ i, i < 18 → hR h' c i = hR h c i) (hC : CapAt h c) : CapAt h' c := by
  obtain ⟨e0, eN, eT, ⟨q0, q1, q2, q3, q4, q5, q6, q7, q8, q9, q10, q11⟩, i0, i1, i2, i3, i4, i5, i6, i7, i8, i9, i10, i11⟩ := hC
  have := l.1
  exact ⟨e0, by omega, eT, ⟨(r _ (by omega)).trans q0, (r _ (by omega)).trans q1, (r _ (by omega)).trans q2, (r _ (by omega)).trans q3, (r _ (by omega)).trans q4, (r _ (by omega)).trans q5, (r _ (by omega)).trans q6, (r _ (by omega)).trans q7, (r _ (by omega)).trans q8, (r _ (by omega)).trans q9, (r _ (by omega)).trans q10, (r _ (by omega)).trans q11⟩, IA_le l (by omega) i0, IA_le l (by omega) i1, IA_le l (by omega) i2, IA_le l (by omega) i3, IA_le l (by omega) i4, IA_le l (by omega) i5, IA_le l (by omega) i6, IA_le l (by omega) i7, IA_le l (by omega) i8, IA_le l (by omega) i9, IA_le l (by omega) i10, IA_le l (by omega) i11⟩
theorem Pa_le {h h' : AH} (l : LEh h h') (r : ∀ a i, 20 < a → a ≤ 147 → hR h' a i = hR h a i) (hP : PaAt h) : PaAt h' := by
  obtain ⟨p0, p1, p2, p3, p4, p5, p6⟩ := hP
  have := l.1
  exact ⟨p0, by omega, (r _ _ (by omega) (by omega)).trans p2, p3, (l.2.1 27 (by omega)).trans p4, fun k hk => (r _ _ (by omega) (by omega)).trans (p5 k hk), fun k hk => St_le l (fun i hi => r _ _ (by omega) (by omega)) (p6 k hk)⟩
theorem Qu_le {h h' : AH} (l : LEh h h') (r : ∀ a i, 20 < a → a ≤ 147 → hR h' a i = hR h a i) (hU : QuAt h) : QuAt h' := by
  obtain ⟨q0, q1, q2, q3, q4, q5⟩ := hU
  have := l.1
  exact ⟨q0, by omega, (r _ _ (by omega) (by omega)).trans q2, (r _ _ (by omega) (by omega)).trans q3, IA_le l (by omega) q4, IA_le l (by omega) q5⟩
theorem Pi_le {h h' : AH} (l : LEh h h') (r : ∀ a i, 20 < a → a ≤ 147 → hR h' a i = hR h a i) (hP : PiAt h) : PiAt h' := by
  obtain ⟨p0, p1, p2, p3, p4⟩ := hP
  have := l.1
  exact ⟨p0, by omega, (r _ _ (by omega) (by omega)).trans p2, p3, (l.2.1 25 (by omega)).trans p4⟩
theorem Fa_le {h h' : AH} {c e p q c' e' : Nat} (hF : FaAt h c e p q) (l : LEh h h') (r0 : ∀ i, i < 9 → hR h' 0 i = hR h 0 i) (r9 : hR h' 0 9 = some e') (r2 : hR h' 2 13 = hR h 2 13 ∧ hR h' 2 15 = hR h 2 15) (r : ∀ a i, 20 < a → a ≤ 160 → hR h' a i = hR h a i) (hcap : CapAt h' e') (hce : (c' = 6 ∧ e' = 161) ∨ (c' = 161 ∧ e' = 6)) : FaAt h' c' e' p q := by
  obtain ⟨o0, oN, o1, o2, o3, o4, o5, o6, o7, o8, o9, oA, ⟨oB, oC, oD⟩, ⟨oE, oF⟩, oG, oH, oI, oJ, oK, oL, oM, oP, oQ, oR⟩ := hF
  have l1 := l.1
  exact ⟨o0, by omega, (r0 _ (by omega)).trans o1, (r0 _ (by omega)).trans o2, (r0 _ (by omega)).trans o3, (r0 _ (by omega)).trans o4, (r0 _ (by omega)).trans o5, (r0 _ (by omega)).trans o6, (r0 _ (by omega)).trans o7, (r0 _ (by omega)).trans o8, (r0 _ (by omega)).trans o9, r9, ⟨oB, (l.2.1 1 (by omega)).trans oC, by omega⟩, ⟨oE, (l.2.1 160 (by omega)).trans oF⟩, St_le l (fun i hi => r _ _ (by omega) (by omega)) oG, St_le l (fun i hi => r _ _ (by omega) (by omega)) oH, Pa_le l (fun a i h1 h2 => r _ _ h1 (by omega)) oI, Qu_le l (fun a i h1 h2 => r _ _ h1 (by omega)) oJ, Pi_le l (fun a i h1 h2 => r _ _ h1 (by omega)) oK, hcap, hce, oP, ⟨oQ.1, r2.1.trans oQ.2.1, oQ.2.2.1, (l.2.1 3 (by omega)).trans oQ.2.2.2⟩, r2.2.trans oR.1, oR.2.1, (l.2.1 4 (by omega)).trans oR.2.2.1, fun k hk => by rw [l.2.2 4 (by omega)]; exact oR.2.2.2 k hk⟩
theorem Cp_le {h h' : AH} {c : Nat} {C : PC} (l : LEh h h') (r5 : ∀ i, hR h' 5 i = hR h 5 i) (r19 : hR h' 19 8 = hR h 19 8) (rc : ∀ i, hR h' c i = hR h c i) (h1 : ∀ b, c ≤ b → b ≤ c + 12 → hI h' b = hI h b) (h2 : ∀ b, 219 < b → b < hN h → hI h' b = hI h b) (hC : CpAt h c C) : CpAt h' c C := by
  have l1 := l.1
  have cod : ∀ (r : Option Nat) (n : Nat) (V : (Nat → Int32) → Int32), CodAt h r n V → CodAt h' r n V := fun r n V z => by
    rcases z with z | ⟨z0, a, z1, z2, z3, z4, z5, z6, z7⟩
    · exact Or.inl z
    · refine Or.inr ⟨z0, a, z1, IA_le l z4 z2, z3, by omega, z5, z6, ?_⟩
      rw [h2 a z3 z4]
      exact z7
  obtain ⟨⟨k0, k1, k2, k3, k4, k5, k6, k7⟩, hn, e1, e2, e3, e4, e5, e6, e7, e8, e9, e10, e11, e12, e13, e14, e15⟩ := hC
  refine ⟨⟨k0, by omega, (r5 0).trans k2, (r5 1).trans k3, Cap_le l (fun i _ => rc i) k4, k5, r19.trans k6, IA_le l (by omega) k7⟩, ?_, ?_, ?_, ?_, ?_, e5, ?_, ?_, ?_, ?_, ?_, e11, e12, ?_, by rw [rc]; exact cod _ _ _ e14, by rw [rc]; exact cod _ _ _ e15⟩
  · unfold NmAt at *
    rw [h1 c (by omega) (by omega)]
    exact hn
  · rw [h1 (c + 2) (by omega) (by omega)]
    exact e1
  · rw [h1 (c + 3) (by omega) (by omega)]
    exact e2
  · rw [h1 (c + 4) (by omega) (by omega)]
    exact e3
  · rw [h1 (c + 5) (by omega) (by omega)]
    exact e4
  · rw [h1 (c + 7) (by omega) (by omega)]
    exact e6
  · rw [h1 (c + 8) (by omega) (by omega)]
    exact e7
  · rw [h1 (c + 9) (by omega) (by omega)]
    exact e8
  · rw [h1 (c + 10) (by omega) (by omega)]
    exact e9
  · rw [h1 (c + 11) (by omega) (by omega)]
    exact e10
  · rw [h1 (c + 12) (by omega) (by omega)]
    exact e13
/-! what a text tells is within its bounds -/
theorem sml_n {k n : Nat} (h : k < n) (hn : n ≤ 1000) : sml (nI k) n := ⟨by rw [nI_clamp (by omega)]; exact h, by rw [nI_clamp (by omega)]⟩
theorem sml_le {x : Int32} {m n : Nat} (h : sml x m) (hmn : m ≤ n) : sml x n := ⟨Nat.lt_of_lt_of_le h.1 hmn, h.2⟩
def KW (K : KK) : Prop := KI K ∧ (∀ i, i < cU K → sml (K 4 i) 12) ∧ (∀ i, i < cM K → sml (K 9 i) (cP K)) ∧ ∀ i, i < cM K → sml (K 10 i) (cP K)
theorem thI_P {P : SR → Prop} {r : Int32 × RS} {K : KK} {k : Int32 → RS → SR} (h0 : P (false, r.2, K)) (hk : ¬ r.1 = -1 → P (k r.1 r.2)) : P (thI r K k) := by
  unfold thI
  split
  · exact h0
  · rename_i z
    exact hk z
section KWS
variable {L : Nat} {b : Nat → Int32} {s : RS} {K : KK} {x : XK}
theorem cU_of {K' : KK} (h : K' 0 6 = K 0 6) : cU K' = cU K := by unfold cU; rw [h]
theorem cM_of {K' : KK} (h : K' 0 14 = K 0 14) : cM K' = cM K := by unfold cM; rw [h]
theorem cP_of {K' : KK} (h : K' 0 10 = K 0 10) : cP K' = cP K := by unfold cP; rw [h]
theorem KW_same {K' : KK} (hw : KW K) (hk : KI K') (e1 : K' 0 6 = K 0 6) (e2 : K' 0 14 = K 0 14) (e3 : cP K ≤ cP K') (f1 : K' 4 = K 4) (f2 : K' 9 = K 9) (f3 : K' 10 = K 10) : KW K' := by
  obtain ⟨-, w1, w2, w3⟩ := hw
  refine ⟨hk, ?_, ?_, ?_⟩
  · rw [cU_of e1, f1]
    exact w1
  · rw [cM_of e2, f2]
    exact fun i hi => sml_le (w2 i hi) e3
  · rw [cM_of e2, f3]
    exact fun i hi => sml_le (w3 i hi) e3
theorem KW_fact (hw : KW K) (h : cF K < 12) : KW (factS b L K s).2.2 := by
  have hk := KI_fact (b := b) (L := L) (s := s) hw.1 h
  have : (factS b L K s).2.2 = K ∨ ∃ x y z, (factS b L K s).2.2 = addF K x y z :=
    thI_K (P := fun K' => K' = K ∨ ∃ x y z, K' = addF K x y z) (Or.inl rfl) (fun _ _ => thB_K (P := fun K' => K' = K ∨ ∃ x y z, K' = addF K x y z) (Or.inl rfl) (fun _ => thI_K (P := fun K' => K' = K ∨ ∃ x y z, K' = addF K x y z) (Or.inl rfl) (fun _ _ => thB_K (P := fun K' => K' = K ∨ ∃ x y z, K' = addF K x y z) (Or.inl rfl) (fun _ => thI_K (P := fun K' => K' = K ∨ ∃ x y z, K' = addF K x y z) (Or.inl rfl) (fun _ _ => Or.inr ⟨_, _, _, rfl⟩)))))
  rcases this with e | ⟨x, y, z, e⟩
  · rw [e]
    exact hw
  · rw [e] at hk ⊢
    exact KW_same hw hk (by simp [addF, u2_a]) (by simp [addF, u2_a]) (Nat.le_of_eq (cP_of (by simp [addF, u2_a])).symm) (by funext j; simp [addF, u2_a]) (by funext j; simp [addF, u2_a]) (by funext j; simp [addF, u2_a])
theorem KW_pers (hw : KW K) (h : cP K < 8) : KW (persS b L K s).2.2 := by
  have hk := KI_pers (b := b) (L := L) (s := s) hw.1 h
  have : (persS b L K s).2.2 = K ∨ ∃ x y z, (persS b L K s).2.2 = addP K x y z :=
    thI_K (P := fun K' => K' = K ∨ ∃ x y z, K' = addP K x y z) (Or.inl rfl) (fun _ _ => thB_K (P := fun K' => K' = K ∨ ∃ x y z, K' = addP K x y z) (Or.inl rfl) (fun _ => thI_K (P := fun K' => K' = K ∨ ∃ x y z, K' = addP K x y z) (Or.inl rfl) (fun _ _ => thB_K (P := fun K' => K' = K ∨ ∃ x y z, K' = addP K x y z) (Or.inl rfl) (fun _ => thI_K (P := fun K' => K' = K ∨ ∃ x y z, K' = addP K x y z) (Or.inl rfl) (fun _ _ => Or.inr ⟨_, _, _, rfl⟩)))))
  rcases this with e | ⟨x, y, z, e⟩
  · rw [e]
    exact hw
  · rw [e] at hk ⊢
    have e10 : cP (addP K x y z) = cP K + 1 := by
      unfold cP addP
      rw [u2_a, if_pos ⟨rfl, rfl⟩]
      exact nI_clamp (by omega)
    exact KW_same hw hk (by simp [addP, u2_a]) (by simp [addP, u2_a]) (by omega) (by funext j; simp [addP, u2_a]) (by funext j; simp [addP, u2_a]) (by funext j; simp [addP, u2_a])
theorem KW_sto (hw : KW K) : KW (stoS b L K s).2.2 := by
  have hk := KI_sto (b := b) (L := L) (s := s) hw.1
  have : (stoS b L K s).2.2 = K ∨ ∃ x, (stoS b L K s).2.2 = u2 K 0 17 x := thI_K (P := fun K' => K' = K ∨ ∃ x, K' = u2 K 0 17 x) (Or.inl rfl) (fun _ _ => Or.inr ⟨_, rfl⟩)
  rcases this with e | ⟨x, e⟩
  · rw [e]
    exact hw
  · rw [e] at hk ⊢
    exact KW_same hw hk (by simp [u2_a]) (by simp [u2_a]) (Nat.le_of_eq (cP_of (by simp [u2_a])).symm) (by funext j; simp [u2_a]) (by funext j; simp [u2_a]) (by funext j; simp [u2_a])
theorem KW_lic (hw : KW K) : KW (licS b L K s).2.2 := by
  have hk := KI_lic (b := b) (L := L) (s := s) hw.1
  have : (licS b L K s).2.2 = K ∨ ∃ x y z, (licS b L K s).2.2 = addL K x y z :=
    thI_K (P := fun K' => K' = K ∨ ∃ x y z, K' = addL K x y z) (Or.inl rfl) (fun _ _ => thI_K (P := fun K' => K' = K ∨ ∃ x y z, K' = addL K x y z) (Or.inl rfl) (fun _ _ => thB_K (P := fun K' => K' = K ∨ ∃ x y z, K' = addL K x y z) (Or.inl rfl) (fun _ => thI_K (P := fun K' => K' = K ∨ ∃ x y z, K' = addL K x y z) (Or.inl rfl) (fun _ _ => Or.inr ⟨_, _, _, rfl⟩))))
  rcases this with e | ⟨x, y, z, e⟩
  · rw [e]
    exact hw
  · rw [e] at hk ⊢
    have g : ∀ k j, ¬ (k = 0 ∧ j = 16) → ¬ k = 12 → addL K x y z k j = K k j := fun k j h1 h2 => by
      unfold addL
      rw [u2_a, if_neg (fun w => h2 w.1)]
      split
      · rw [u2_a, if_neg h1]
      · rfl
    exact KW_same hw hk (g 0 6 (by omega) (by omega)) (g 0 14 (by omega) (by omega)) (Nat.le_of_eq (cP_of (g 0 10 (by omega) (by omega))).symm) (by funext j; exact g 4 j (by omega) (by omega)) (by funext j; exact g 9 j (by omega) (by omega)) (by funext j; exact g 10 j (by omega) (by omega))
theorem KW_meet (hw : KW K) (h : cM K < 16) : KW (meetS b L K s).2.2 := by
  have hk := KI_meet (b := b) (L := L) (s := s) hw.1 h
  have : (meetS b L K s).2.2 = K ∨ ∃ x y z, x < cP K ∧ y < cP K ∧ (meetS b L K s).2.2 = addM K (nI x) (nI y) z := by
    refine thI_P (P := fun r : SR => r.2.2 = K ∨ ∃ x y z, x < cP K ∧ y < cP K ∧ r.2.2 = addM K (nI x) (nI y) z) (Or.inl rfl) (fun h1 => ?_)
    obtain ⟨x, ex, hx⟩ := nam_lt h1
    refine thI_P (P := fun r : SR => r.2.2 = K ∨ ∃ x y z, x < cP K ∧ y < cP K ∧ r.2.2 = addM K (nI x) (nI y) z) (Or.inl rfl) (fun h2 => ?_)
    obtain ⟨y, ey, hy⟩ := nam_lt h2
    refine thB_K (P := fun K' => K' = K ∨ ∃ x y z, x < cP K ∧ y < cP K ∧ K' = addM K (nI x) (nI y) z) (Or.inl rfl) (fun _ => thI_K (P := fun K' => K' = K ∨ ∃ x y z, x < cP K ∧ y < cP K ∧ K' = addM K (nI x) (nI y) z) (Or.inl rfl) (fun z _ => Or.inr ⟨x, y, z, hx, hy, ?_⟩))
    show addM K _ _ _ = _
    rw [ey, ex]
  rcases this with e | ⟨x, y, z, hx, hy, e⟩
  · rw [e]
    exact hw
  · rw [e] at hk ⊢
    have e14 : cM (addM K (nI x) (nI y) z) = cM K + 1 := by
      unfold cM addM
      rw [u2_a, if_pos ⟨rfl, rfl⟩]
      exact nI_clamp (by omega)
    have e10 : cP (addM K (nI x) (nI y) z) = cP K := cP_of (by simp [addM, u2_a])
    have e6 : cU (addM K (nI x) (nI y) z) = cU K := cU_of (by simp [addM, u2_a])
    obtain ⟨⟨-, -, ⟨-, hp8⟩, -⟩, w1, w2, w3⟩ := hw
    refine ⟨hk, ?_, fun i hi => ?_, fun i hi => ?_⟩
    · rw [e6]
      intro i hi
      have := w1 i hi
      simpa [addM, u2_a] using this
    · rw [e14] at hi
      rw [e10]
      by_cases hi2 : i = cM K
      · subst hi2
        simp [addM, u2_a]
        exact sml_n hx (by omega)
      · have := w2 i (by omega)
        simpa [addM, u2_a, hi2] using this
    · rw [e14] at hi
      rw [e10]
      by_cases hi2 : i = cM K
      · subst hi2
        simp [addM, u2_a]
        exact sml_n hy (by omega)
      · have := w3 i (by omega)
        simpa [addM, u2_a, hi2] using this
theorem KW_rule (hw : KW K) (h : cU K < 16) : KW (ruleS b L K s).2.2 := by
  have hk := KI_rule (b := b) (L := L) (s := s) hw.1 h
  have hf12 : cF K ≤ 12 := hw.1.1.2
  have : (ruleS b L K s).2.2 = K ∨ ∃ x y, x < cF K ∧ (ruleS b L K s).2.2 = addU K (nI x) y := by
    refine thI_P (P := fun r : SR => r.2.2 = K ∨ ∃ x y, x < cF K ∧ r.2.2 = addU K (nI x) y) (Or.inl rfl) (fun h1 => ?_)
    obtain ⟨x, ex, hx⟩ := nam_lt h1
    refine thB_K (P := fun K' => K' = K ∨ ∃ x y, x < cF K ∧ K' = addU K (nI x) y) (Or.inl rfl) (fun t => ?_)
    unfold ruleE
    split
    · refine Or.inr ⟨x, (rulL b L K (namS b L (K 1) (cF K) (nI 0) s).1 12 0 (nI 0) t).2.1, hx, ?_⟩
      show addU K _ _ = _
      rw [ex]
    · exact Or.inl rfl
  rcases this with e | ⟨x, y, hx, e⟩
  · rw [e]
    exact hw
  · rw [e] at hk ⊢
    have e6 : cU (addU K (nI x) y) = cU K + 1 := by
      unfold cU addU
      rw [u2_a, if_pos ⟨rfl, rfl⟩]
      exact nI_clamp (by omega)
    have e10 : cP (addU K (nI x) y) = cP K := cP_of (by simp [addU, u2_a])
    have e14 : cM (addU K (nI x) y) = cM K := cM_of (by simp [addU, u2_a])
    obtain ⟨-, w1, w2, w3⟩ := hw
    refine ⟨hk, fun i hi => ?_, ?_, ?_⟩
    · rw [e6] at hi
      by_cases hi2 : i = cU K
      · subst hi2
        simp [addU, u2_a]
        exact sml_n (by omega) (by omega)
      · have := w1 i (by omega)
        simpa [addU, u2_a, hi2] using this
    · rw [e14, e10]
      intro i hi
      have := w2 i hi
      simpa [addU, u2_a] using this
    · rw [e14, e10]
      intro i hi
      have := w3 i hi
      simpa [addU, u2_a] using this
theorem KW_stm {k p : Int32} (hK : KW x.1) (htoo : tooB x.1 x.2.1.1 x.2.2.1 k = false) : KW (stmR b L k p s x).2.2.1 := by
  unfold stmR
  unfold tooB at htoo
  by_cases z0 : k.toInt = 0
  · rw [if_pos z0] at htoo ⊢
    exact KW_fact hK (by have := of_decide_eq_false htoo; omega)
  rw [if_neg z0] at htoo ⊢
  by_cases z3 : k.toInt = 3
  · rw [if_pos z3] at htoo ⊢
    exact KW_rule hK (by have := of_decide_eq_false htoo; omega)
  rw [if_neg z3] at htoo ⊢
  by_cases z5 : k.toInt = 5
  · rw [if_pos z5] at htoo ⊢
    exact KW_pers hK (by have := of_decide_eq_false htoo; omega)
  rw [if_neg z5] at htoo ⊢
  by_cases z8 : k.toInt = 8
  · rw [if_pos z8] at htoo ⊢
    exact KW_meet hK (by have := of_decide_eq_false htoo; omega)
  rw [if_neg z8] at htoo ⊢
  by_cases z10 : k.toInt = 10
  · rw [if_pos z10]
    exact KW_lic hK
  rw [if_neg z10]
  by_cases z12 : k.toInt = 12
  · rw [if_pos z12]
    unfold prcS
    dsimp only
    split
    · exact hK
    · exact hK
  rw [if_neg z12]
  by_cases z13 : k.toInt = 13
  · rw [if_pos z13]
    unfold telS
    dsimp only
    split
    · exact hK
    · exact hK
  rw [if_neg z13]
  by_cases z14 : k.toInt = 14
  · rw [if_pos z14]
    exact KW_sto hK
  rw [if_neg z14]
  exact hK
theorem KW_st (hK : KW x.1) : KW (stS b L s x).2.2.1 := by
  unfold stS
  cases htoo : tooB x.1 x.2.1.1 x.2.2.1 (s.1 6) with
  | true =>
    rw [if_pos rfl]
    exact hK
  | false =>
    rw [if_neg (by decide)]
    exact KW_stm hK htoo
theorem KW_tx : ∀ (q n : Nat) (s : RS) (x : XK), KW x.1 → KW (txL b L q n s x).2.2.1
  | 0, _, _, _, h => h
  | q + 1, n, s, x, h => by
    unfold txL
    split
    · exact h
    split
    · exact h
    split
    · split
      · exact KW_tx q (n + 1) _ _ (KW_st h)
      · exact KW_st h
    · exact KW_st h
theorem RI_tx (hLe : L ≤ 1600) : ∀ (q n : Nat) (s : RS) (x : XK), RI L s → RI L (txL b L q n s x).2.1
  | 0, _, _, _, h => h
  | q + 1, n, s, x, h => by
    unfold txL
    split
    · exact h
    split
    · exact RI_fl h
    split
    · split
      · exact RI_tx hLe q (n + 1) _ _ (RI_ps hLe (RI_st hLe h))
      · exact RI_ps hLe (RI_st hLe h)
    · exact RI_st hLe h
theorem KW_clr : KW (clrX K).1 := by
  have h0 : cU (clrK K) = 0 := by
    unfold cU
    rw [show clrK K 0 6 = nI 0 by simp [clrK, filK, u2_a]]
    exact nI_clamp (by omega)
  have h1 : cM (clrK K) = 0 := by
    unfold cM
    rw [show clrK K 0 14 = nI 0 by simp [clrK, filK, u2_a]]
    exact nI_clamp (by omega)
  refine ⟨KI_mk (i := 0) (j := 0) (k := 0) (l := 0) (by simp [clrX, clrK, filK, u2_a]) (by omega) (by simp [clrX, clrK, filK, u2_a]) (by omega) (by simp [clrX, clrK, filK, u2_a]) (by omega) (by simp [clrX, clrK, filK, u2_a]) (by omega), fun i hi => ?_, fun i hi => ?_, fun i hi => ?_⟩
  · exact absurd hi (by rw [show cU (clrX K).1 = 0 from h0]; omega)
  · exact absurd hi (by rw [show cM (clrX K).1 = 0 from h1]; omega)
  · exact absurd hi (by rw [show cM (clrX K).1 = 0 from h1]; omega)
end KWS
/-- the Capital that was read, as a value -/
def toPC (x : XK) : PC := (cF x.1, cU x.1, cP x.1, cM x.1, x.1 0 17, x.1 2, x.1 3, x.1 4, x.1 5, x.1 7, x.1 8, x.1 9, x.1 10, x.1 11, x.1 12, x.2.1.1, fun f => valM f x.2.1.2 x.2.1.1, x.2.2.1, fun f => valM f x.2.2.2 x.2.2.1)
theorem valM_cc {f code code' : Nat → Int32} {n : Nat} (h : ∀ j, j < n → code j = code' j) : valM f code n = valM f code' n := by
  unfold valM
  congr 1
  refine foN_congr n 0 _ (fun j b _ hj => ?_)
  unfold valF
  rw [h j (by omega)]
theorem Cod_X {h : AH} {r : Option Nat} {n : Nat} {cg : Nat → Int32} (hx : CodX h r n cg) : CodAt h r n (fun f => valM f cg n) := by
  rcases hx with z | ⟨z0, a, z1, z2, z3, z4, z5, z6, z7⟩
  · exact Or.inl z
  · exact Or.inr ⟨z0, a, z1, z2, z3, z4, z5, by omega, fun f => (valM_cc z7).symm⟩
