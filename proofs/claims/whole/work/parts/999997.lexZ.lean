/-! what the class's Capital keeps while a text is read: the bounds of what it tells -/
def NuI (s : RS) : Prop := s.1 6 = nI 27 → ∃ k, k < 10000 ∧ s.1 7 = nI k
/-- licences that are told among the first n -/
def ctT (v : Nat → Int32) : Nat → Nat
  | 0 => 0
  | n + 1 => ctT v n + (if v n = -1 then 0 else 1)
def WK (K : KK) : Prop := KW K ∧ KBd K ∧ (∀ i, i < cF K → ∃ k, k ≤ 99 ∧ K 3 i = nI k) ∧ (∀ i, i < cP K → ∃ k, k ≤ 9 ∧ K 7 i = nI k) ∧ ((∀ r, r < cU K → sml (K 4 r) (cF K)) ∧ ∀ r, r < cU K → ∃ k, 0 < k ∧ k < 2 ^ cF K ∧ K 5 r = nI k) ∧ ((∀ i f, i < 8 → f < 12 → (cP K ≤ i ∨ cF K ≤ f) → K 12 (i * 12 + f) = -1) ∧ ∀ j, j < 96 → K 12 j = -1 ∨ ∃ k, k ≤ 999 ∧ K 12 j = nI k) ∧ K 0 16 = nI (ctT (K 12) 96)
section ZPN
variable {L : Nat} {b : Nat → Int32} {s : RS} {K : KK} {x : XK}
theorem nu_nx : NuI (nxS b L s) := num_nx
theorem nm_k {m : Nat} (hm : m < 10000) (hr : NuI s) (h : ¬ (nmS b L (nI m) s).1 = -1) : ∃ k, k ≤ m ∧ (nmS b L (nI m) s).1 = nI k := nm_val hm (fun v e7 e6 => by
  obtain ⟨k, hk, e⟩ := hr e6
  exact ⟨k, hk, e7.symm.trans e⟩) h
theorem ps_nu {w : Int32} (h : (psS b L w s).1 = true) : NuI (psS b L w s).2 := by
  unfold psS passR at *
  split
  · exact nu_nx
  · rename_i z
    rw [if_neg z] at h
    cases h
theorem thB_Q {P : SR → Prop} {r : Bool × RS} {k : RS → SR} (h0 : P (false, r.2, K)) (hk : r.1 = true → P (k r.2)) : P (thB r K k) := by
  unfold thB
  split
  · rename_i z
    exact hk z
  · exact h0
theorem fact_form : (factS b L K s).2.2 = K ∨ ∃ nm dy w, w ≤ 99 ∧ (factS b L K s).2.2 = addF K nm dy (nI w) := by
  unfold factS
  refine thI_P (P := fun r : SR => r.2.2 = K ∨ ∃ nm dy w, w ≤ 99 ∧ r.2.2 = addF K nm dy (nI w)) (Or.inl rfl) (fun _ => ?_)
  refine thB_Q (P := fun r : SR => r.2.2 = K ∨ ∃ nm dy w, w ≤ 99 ∧ r.2.2 = addF K nm dy (nI w)) (Or.inl rfl) (fun _ => ?_)
  refine thI_P (P := fun r : SR => r.2.2 = K ∨ ∃ nm dy w, w ≤ 99 ∧ r.2.2 = addF K nm dy (nI w)) (Or.inl rfl) (fun _ => ?_)
  refine thB_Q (P := fun r : SR => r.2.2 = K ∨ ∃ nm dy w, w ≤ 99 ∧ r.2.2 = addF K nm dy (nI w)) (Or.inl rfl) (fun t => ?_)
  refine thI_P (P := fun r : SR => r.2.2 = K ∨ ∃ nm dy w, w ≤ 99 ∧ r.2.2 = addF K nm dy (nI w)) (Or.inl rfl) (fun h => ?_)
  obtain ⟨w, hw, e⟩ := nm_k (by omega) (ps_nu t) h
  exact Or.inr ⟨_, _, w, hw, congrArg (addF K _ _) e⟩
theorem pers_form : (persS b L K s).2.2 = K ∨ ∃ nm dy w, dy ≤ 9 ∧ (persS b L K s).2.2 = addP K nm (nI dy) w := by
  unfold persS
  refine thI_P (P := fun r : SR => r.2.2 = K ∨ ∃ nm dy w, dy ≤ 9 ∧ r.2.2 = addP K nm (nI dy) w) (Or.inl rfl) (fun _ => ?_)
  refine thB_Q (P := fun r : SR => r.2.2 = K ∨ ∃ nm dy w, dy ≤ 9 ∧ r.2.2 = addP K nm (nI dy) w) (Or.inl rfl) (fun t => ?_)
  refine thI_P (P := fun r : SR => r.2.2 = K ∨ ∃ nm dy w, dy ≤ 9 ∧ r.2.2 = addP K nm (nI dy) w) (Or.inl rfl) (fun h => ?_)
  obtain ⟨w, hw, e⟩ := nm_k (by omega) (ps_nu t) h
  refine thB_Q (P := fun r : SR => r.2.2 = K ∨ ∃ nm dy w, dy ≤ 9 ∧ r.2.2 = addP K nm (nI dy) w) (Or.inl rfl) (fun _ => ?_)
  refine thI_P (P := fun r : SR => r.2.2 = K ∨ ∃ nm dy w, dy ≤ 9 ∧ r.2.2 = addP K nm (nI dy) w) (Or.inl rfl) (fun _ => ?_)
  exact Or.inr ⟨_, w, _, hw, congrArg (fun z => addP K _ z _) e⟩
theorem meet_form : (meetS b L K s).2.2 = K ∨ ∃ x y z, (meetS b L K s).2.2 = addM K x y z := by
  unfold meetS
  refine thI_P (P := fun r : SR => r.2.2 = K ∨ ∃ x y z, r.2.2 = addM K x y z) (Or.inl rfl) (fun _ => ?_)
  refine thI_P (P := fun r : SR => r.2.2 = K ∨ ∃ x y z, r.2.2 = addM K x y z) (Or.inl rfl) (fun _ => ?_)
  refine thB_Q (P := fun r : SR => r.2.2 = K ∨ ∃ x y z, r.2.2 = addM K x y z) (Or.inl rfl) (fun _ => ?_)
  refine thI_P (P := fun r : SR => r.2.2 = K ∨ ∃ x y z, r.2.2 = addM K x y z) (Or.inl rfl) (fun _ => ?_)
  exact Or.inr ⟨_, _, _, rfl⟩
theorem rul_val {y : Int32} (hf : cF K ≤ 12) : ∀ (q k : Nat) (fr : Int32) (s : RS), Kn (cF K) fr → (¬ k = 0 → ∃ g, g < 12 ∧ hasB fr (nI g)) → (k = 0 → 1 ≤ q) → (rulL b L K y q k fr s).1 = true → Kn (cF K) (rulL b L K y q k fr s).2.1 ∧ ∃ g, g < 12 ∧ hasB (rulL b L K y q k fr s).2.1 (nI g)
  | 0, k, fr, s, h1, h2, h3, _ => ⟨h1, h2 (fun z => by have := h3 z; omega)⟩
  | q + 1, k, fr, s, h1, h2, h3, ht => by
    unfold rulL at ht ⊢
    by_cases c : k = 0 ∨ s.1 6 = nI 26
    · rw [if_pos c] at ht ⊢
      by_cases c2 : (namS b L (K 1) (cF K) (fr ||| bt y) s).1 = -1
      · rw [if_pos c2] at ht
        cases ht
      · rw [if_neg c2] at ht ⊢
        obtain ⟨g, eg, hg⟩ := nam_lt c2
        rw [eg] at ht ⊢
        exact rul_val hf q (k + 1) _ _ (Kn_or h1 (Kn_bt hg hf)) (fun _ => ⟨g, by omega, (hasB_or (by omega) (by omega)).mpr (Or.inr rfl)⟩) (fun z => by omega) ht
    · rw [if_neg c] at ht ⊢
      exact ⟨h1, h2 (fun z => c (Or.inl z))⟩
theorem rule_form (hf : cF K ≤ 12) : (ruleS b L K s).2.2 = K ∨ ∃ x y, x < cF K ∧ 0 < y ∧ y < 2 ^ cF K ∧ (ruleS b L K s).2.2 = addU K (nI x) (nI y) := by
  unfold ruleS
  refine thI_P (P := fun r : SR => r.2.2 = K ∨ ∃ x y, x < cF K ∧ 0 < y ∧ y < 2 ^ cF K ∧ r.2.2 = addU K (nI x) (nI y)) (Or.inl rfl) (fun h1 => ?_)
  obtain ⟨x, ex, hx⟩ := nam_lt h1
  refine thB_Q (P := fun r : SR => r.2.2 = K ∨ ∃ x y, x < cF K ∧ 0 < y ∧ y < 2 ^ cF K ∧ r.2.2 = addU K (nI x) (nI y)) (Or.inl rfl) (fun _ => ?_)
  unfold ruleE
  split
  · rename_i z
    obtain ⟨⟨y, hy, ey⟩, g, hg, hb⟩ := rul_val hf 12 0 (nI 0) _ Kn_0 (fun z => absurd rfl z) (fun _ => by omega) z
    refine Or.inr ⟨x, y, hx, ?_, hy, ?_⟩
    · rcases Nat.eq_zero_or_pos y with c | c
      · rw [ey, c] at hb
        exact absurd hb (hasB_0 hg)
      · exact c
    · show addU K _ _ = _
      rw [ey, ex]
  · exact Or.inl rfl
theorem lic_form (hf : cF K ≤ 12) (hp8 : cP K ≤ 8) : (licS b L K s).2.2 = K ∨ ∃ p f t, p < cP K ∧ f < cF K ∧ t ≤ 999 ∧ (licS b L K s).2.2 = addL K p f (nI t) := by
  unfold licS
  refine thI_P (P := fun r : SR => r.2.2 = K ∨ ∃ p f t, p < cP K ∧ f < cF K ∧ t ≤ 999 ∧ r.2.2 = addL K p f (nI t)) (Or.inl rfl) (fun h1 => ?_)
  obtain ⟨x, ex, hx⟩ := nam_lt h1
  refine thI_P (P := fun r : SR => r.2.2 = K ∨ ∃ p f t, p < cP K ∧ f < cF K ∧ t ≤ 999 ∧ r.2.2 = addL K p f (nI t)) (Or.inl rfl) (fun h2 => ?_)
  have hkn : ∃ f, f < cF K ∧ (knS b L K (namS b L (K 6) (cP K) (nI 0) s).1.toNatClampNeg (namS b L (K 6) (cP K) (nI 0) s).2).1 = nI f := by
    generalize (namS b L (K 6) (cP K) (nI 0) s).1.toNatClampNeg = p at *
    generalize (namS b L (K 6) (cP K) (nI 0) s).2 = t at *
    unfold knS at h2 ⊢
    by_cases c : t.1 6 = nI 26 ∧ fullL K p (findM (K 1) (t.1 7) (cF K) 0)
    · rw [if_pos c] at h2
      exact absurd rfl h2
    · rw [if_neg c] at h2 ⊢
      obtain ⟨f, ef, hf⟩ := nam_lt h2
      exact ⟨f, hf, ef⟩
  obtain ⟨f, hff, ef⟩ := hkn
  refine thB_Q (P := fun r : SR => r.2.2 = K ∨ ∃ p f t, p < cP K ∧ f < cF K ∧ t ≤ 999 ∧ r.2.2 = addL K p f (nI t)) (Or.inl rfl) (fun t => ?_)
  refine thI_P (P := fun r : SR => r.2.2 = K ∨ ∃ p f t, p < cP K ∧ f < cF K ∧ t ≤ 999 ∧ r.2.2 = addL K p f (nI t)) (Or.inl rfl) (fun h => ?_)
  obtain ⟨w, hw, e⟩ := nm_k (by omega) (ps_nu t) h
  refine Or.inr ⟨x, f, w, hx, hff, hw, ?_⟩
  show addL K _ _ _ = _
  rw [e, ef, ex, nI_clamp (by omega), nI_clamp (by omega)]
theorem sto_form : (stoS b L K s).2.2 = K ∨ ∃ y, (stoS b L K s).2.2 = u2 K 0 17 y := by
  unfold stoS
  refine thI_P (P := fun r : SR => r.2.2 = K ∨ ∃ y, r.2.2 = u2 K 0 17 y) (Or.inl rfl) (fun _ => ?_)
  exact Or.inr ⟨_, rfl⟩
theorem ct_congr {v w : Nat → Int32} : ∀ n, (∀ j, j < n → v j = w j) → ctT v n = ctT w n
  | 0, _ => rfl
  | n + 1, h => by
    unfold ctT
    rw [ct_congr n (fun j hj => h j (by omega)), h n (by omega)]
theorem ct_upd {v : Nat → Int32} {i : Nat} {t : Int32} (ht : ¬ t = -1) : ∀ n, i < n → ctT (upd v i t) n = ctT v n + (if v i = -1 then 1 else 0)
  | 0, h => by omega
  | n + 1, h => by
    unfold ctT
    by_cases c : i = n
    · subst c
      rw [ct_congr i (w := v) (fun j hj => upd_ne (by omega)), upd_same, if_neg ht]
      by_cases z : v i = -1
      · rw [if_pos z, if_pos z]
      · rw [if_neg z, if_neg z]
    · rw [ct_upd ht n (by omega), upd_ne (by omega)]
      omega
theorem cF_of' {K' : KK} {n : Nat} (h : K' 0 3 = nI n) (hn : n < 1000) : cF K' = n := by
  unfold cF
  rw [h]
  exact nI_clamp (by omega)
theorem cP_of' {K' : KK} {n : Nat} (h : K' 0 10 = nI n) (hn : n < 1000) : cP K' = n := by
  unfold cP
  rw [h]
  exact nI_clamp (by omega)
theorem cU_of' {K' : KK} {n : Nat} (h : K' 0 6 = nI n) (hn : n < 1000) : cU K' = n := by
  unfold cU
  rw [h]
  exact nI_clamp (by omega)
theorem WK_fact (h : WK K) (h12 : cF K < 12) : WK (factS b L K s).2.2 := by
  have kw := KW_fact (b := b) (L := L) (s := s) h.1 h12
  have kb := kb_fact (b := b) (L := L) (s := s) h.2.1
  rcases fact_form (b := b) (L := L) (s := s) (K := K) with e | ⟨nm, dy, w, hw, e⟩
  · rw [e]
    exact h
  · rw [e] at kw kb ⊢
    obtain ⟨-, -, w1, w2, ⟨w3, w4⟩, ⟨w5, w6⟩, w7⟩ := h
    have eF : cF (addF K nm dy (nI w)) = cF K + 1 := cF_of' (by simp [addF, u2_a]) (by omega)
    have eP : cP (addF K nm dy (nI w)) = cP K := cP_of (by simp [addF, u2_a])
    have eU : cU (addF K nm dy (nI w)) = cU K := cU_of (by simp [addF, u2_a])
    have e12 : addF K nm dy (nI w) 12 = K 12 := by funext j; simp [addF, u2_a]
    unfold WK
    rw [eF, eP, eU, e12]
    refine ⟨kw, kb, fun i hi => ?_, fun i hi => ?_, ⟨fun r hr => ?_, fun r hr => ?_⟩, ⟨fun i f hi hf hh => w5 i f hi hf (by omega), w6⟩, ?_⟩
    · by_cases c : i = cF K
      · subst c
        exact ⟨w, hw, by simp [addF, u2_a]⟩
      · obtain ⟨k, hk, ek⟩ := w1 i (by omega)
        exact ⟨k, hk, by simpa [addF, u2_a, c] using ek⟩
    · obtain ⟨k, hk, ek⟩ := w2 i hi
      exact ⟨k, hk, by simpa [addF, u2_a] using ek⟩
    · have := sml_le (w3 r hr) (Nat.le_succ _)
      simpa [addF, u2_a] using this
    · obtain ⟨k, k0, hk, ek⟩ := w4 r hr
      refine ⟨k, k0, ?_, by simpa [addF, u2_a] using ek⟩
      rw [Nat.pow_succ]
      omega
    · simpa [addF, u2_a] using w7
theorem WK_pers (h : WK K) (h8 : cP K < 8) : WK (persS b L K s).2.2 := by
  have kw := KW_pers (b := b) (L := L) (s := s) h.1 h8
  have kb := kb_pers (b := b) (L := L) (s := s) h.2.1
  rcases pers_form (b := b) (L := L) (s := s) (K := K) with e | ⟨nm, dy, w, hw, e⟩
  · rw [e]
    exact h
  · rw [e] at kw kb ⊢
    obtain ⟨-, -, w1, w2, ⟨w3, w4⟩, ⟨w5, w6⟩, w7⟩ := h
    have eF : cF (addP K nm (nI dy) w) = cF K := by unfold cF; simp [addP, u2_a]
    have eP : cP (addP K nm (nI dy) w) = cP K + 1 := cP_of' (by simp [addP, u2_a]) (by omega)
    have eU : cU (addP K nm (nI dy) w) = cU K := cU_of (by simp [addP, u2_a])
    have e12 : addP K nm (nI dy) w 12 = K 12 := by funext j; simp [addP, u2_a]
    unfold WK
    rw [eF, eP, eU, e12]
    refine ⟨kw, kb, fun i hi => ?_, fun i hi => ?_, ⟨fun r hr => ?_, fun r hr => ?_⟩, ⟨fun i f hi hf hh => w5 i f hi hf (by omega), w6⟩, ?_⟩
    · obtain ⟨k, hk, ek⟩ := w1 i hi
      exact ⟨k, hk, by simpa [addP, u2_a] using ek⟩
    · by_cases c : i = cP K
      · subst c
        exact ⟨dy, hw, by simp [addP, u2_a]⟩
      · obtain ⟨k, hk, ek⟩ := w2 i (by omega)
        exact ⟨k, hk, by simpa [addP, u2_a, c] using ek⟩
    · have := w3 r hr
      simpa [addP, u2_a] using this
    · obtain ⟨k, k0, hk, ek⟩ := w4 r hr
      exact ⟨k, k0, hk, by simpa [addP, u2_a] using ek⟩
    · simpa [addP, u2_a] using w7
theorem WK_meet (h : WK K) (h16 : cM K < 16) : WK (meetS b L K s).2.2 := by
  have kw := KW_meet (b := b) (L := L) (s := s) h.1 h16
  have kb := kb_meet (b := b) (L := L) (s := s) h.2.1
  rcases meet_form (b := b) (L := L) (s := s) (K := K) with e | ⟨x, y, z, e⟩
  · rw [e]
    exact h
  · rw [e] at kw kb ⊢
    obtain ⟨-, -, w1, w2, ⟨w3, w4⟩, ⟨w5, w6⟩, w7⟩ := h
    have eF : cF (addM K x y z) = cF K := by unfold cF; simp [addM, u2_a]
    have eP : cP (addM K x y z) = cP K := cP_of (by simp [addM, u2_a])
    have eU : cU (addM K x y z) = cU K := cU_of (by simp [addM, u2_a])
    have e12 : addM K x y z 12 = K 12 := by funext j; simp [addM, u2_a]
    unfold WK
    rw [eF, eP, eU, e12]
    refine ⟨kw, kb, fun i hi => ?_, fun i hi => ?_, ⟨fun r hr => ?_, fun r hr => ?_⟩, ⟨w5, w6⟩, ?_⟩
    · obtain ⟨k, hk, ek⟩ := w1 i hi
      exact ⟨k, hk, by simpa [addM, u2_a] using ek⟩
    · obtain ⟨k, hk, ek⟩ := w2 i hi
      exact ⟨k, hk, by simpa [addM, u2_a] using ek⟩
    · have := w3 r hr
      simpa [addM, u2_a] using this
    · obtain ⟨k, k0, hk, ek⟩ := w4 r hr
      exact ⟨k, k0, hk, by simpa [addM, u2_a] using ek⟩
    · simpa [addM, u2_a] using w7
theorem WK_rule (h : WK K) (h16 : cU K < 16) : WK (ruleS b L K s).2.2 := by
  have kw := KW_rule (b := b) (L := L) (s := s) h.1 h16
  have kb := kb_rule (b := b) (L := L) (s := s) h.2.1
  have hf := h.1.1.1.2
  rcases rule_form (b := b) (L := L) (s := s) (K := K) hf with e | ⟨x, y, hx, hy0, hy, e⟩
  · rw [e]
    exact h
  · rw [e] at kw kb ⊢
    obtain ⟨-, -, w1, w2, ⟨w3, w4⟩, ⟨w5, w6⟩, w7⟩ := h
    have eF : cF (addU K (nI x) (nI y)) = cF K := by unfold cF; simp [addU, u2_a]
    have eP : cP (addU K (nI x) (nI y)) = cP K := cP_of (by simp [addU, u2_a])
    have eU : cU (addU K (nI x) (nI y)) = cU K + 1 := cU_of' (by simp [addU, u2_a]) (by omega)
    have e12 : addU K (nI x) (nI y) 12 = K 12 := by funext j; simp [addU, u2_a]
    unfold WK
    rw [eF, eP, eU, e12]
    refine ⟨kw, kb, fun i hi => ?_, fun i hi => ?_, ⟨fun r hr => ?_, fun r hr => ?_⟩, ⟨w5, w6⟩, ?_⟩
    · obtain ⟨k, hk, ek⟩ := w1 i hi
      exact ⟨k, hk, by simpa [addU, u2_a] using ek⟩
    · obtain ⟨k, hk, ek⟩ := w2 i hi
      exact ⟨k, hk, by simpa [addU, u2_a] using ek⟩
    · by_cases c : r = cU K
      · subst c
        simp [addU, u2_a]
        exact sml_n hx (by omega)
      · have := w3 r (by omega)
        simpa [addU, u2_a, c] using this
    · by_cases c : r = cU K
      · subst c
        exact ⟨y, hy0, hy, by simp [addU, u2_a]⟩
      · obtain ⟨k, k0, hk, ek⟩ := w4 r (by omega)
        exact ⟨k, k0, hk, by simpa [addU, u2_a, c] using ek⟩
    · simpa [addU, u2_a] using w7
theorem WK_sto (h : WK K) (h0 : ¬ 0 < K 0 16) (hr : NuI s) : WK (stoS b L K s).2.2 := by
  have kw := KW_sto (b := b) (L := L) (s := s) h.1
  have kb := kb_sto (b := b) (L := L) (s := s) h.2.1 h0 (fun v e7 e6 => by
    obtain ⟨k, hk, e⟩ := hr e6
    exact ⟨k, hk, e7.symm.trans e⟩)
  rcases sto_form (b := b) (L := L) (s := s) (K := K) with e | ⟨y, e⟩
  · rw [e]
    exact h
  · rw [e] at kw kb ⊢
    obtain ⟨-, -, w1, w2, ⟨w3, w4⟩, ⟨w5, w6⟩, w7⟩ := h
    have eF : cF (u2 K 0 17 y) = cF K := by unfold cF; simp [u2_a]
    have eP : cP (u2 K 0 17 y) = cP K := cP_of (by simp [u2_a])
    have eU : cU (u2 K 0 17 y) = cU K := cU_of (by simp [u2_a])
    have e12 : u2 K 0 17 y 12 = K 12 := by funext j; simp [u2_a]
    unfold WK
    rw [eF, eP, eU, e12]
    refine ⟨kw, kb, fun i hi => ?_, fun i hi => ?_, ⟨fun r hr => ?_, fun r hr => ?_⟩, ⟨w5, w6⟩, ?_⟩
    · obtain ⟨k, hk, ek⟩ := w1 i hi
      exact ⟨k, hk, by simpa [u2_a] using ek⟩
    · obtain ⟨k, hk, ek⟩ := w2 i hi
      exact ⟨k, hk, by simpa [u2_a] using ek⟩
    · have := w3 r hr
      simpa [u2_a] using this
    · obtain ⟨k, k0, hk, ek⟩ := w4 r hr
      exact ⟨k, k0, hk, by simpa [u2_a] using ek⟩
    · simpa [u2_a] using w7
theorem WK_lic (h : WK K) : WK (licS b L K s).2.2 := by
  have kw := KW_lic (b := b) (L := L) (s := s) h.1
  have kb := kb_lic (b := b) (L := L) (s := s) h.2.1
  have hf := h.1.1.1.2
  have hp8 := h.1.1.2.2.1.2
  rcases lic_form (b := b) (L := L) (s := s) (K := K) hf hp8 with e | ⟨p, f, t, hp, hff, ht, e⟩
  · rw [e]
    exact h
  · rw [e] at kw kb ⊢
    obtain ⟨-, -, w1, w2, ⟨w3, w4⟩, ⟨w5, w6⟩, w7⟩ := h
    have g : ∀ k j, ¬ (k = 0 ∧ j = 16) → ¬ k = 12 → addL K p f (nI t) k j = K k j := fun k j h1 h2 => by
      unfold addL
      rw [u2_a, if_neg (fun w => h2 w.1)]
      split
      · rw [u2_a, if_neg h1]
      · rfl
    have eF : cF (addL K p f (nI t)) = cF K := by unfold cF; rw [g 0 3 (by omega) (by omega)]
    have eP : cP (addL K p f (nI t)) = cP K := cP_of (g 0 10 (by omega) (by omega))
    have eU : cU (addL K p f (nI t)) = cU K := cU_of (g 0 6 (by omega) (by omega))
    have e12 : addL K p f (nI t) 12 = upd (K 12) (p * 12 + f) (nI t) := by
      funext j
      unfold addL
      rw [u2_a, upd_a]
      by_cases c : j = p * 12 + f
      · rw [if_pos ⟨rfl, c⟩, if_pos c]
      · rw [if_neg (fun z => c z.2), if_neg c]
        split
        · rw [u2_a, if_neg (by omega)]
        · rfl
    have tm : ¬ nI t = -1 := fun z => by
      have := nm1_ne (a := t) (by omega)
      rw [z] at this
      exact this.mp rfl
    have e16 : addL K p f (nI t) 0 16 = nI (ctT (K 12) 96 + (if K 12 (p * 12 + f) = -1 then 1 else 0)) := by
      unfold addL
      rw [u2_a, if_neg (by omega)]
      by_cases c : K 12 (p * 12 + f) = -1
      · rw [if_pos c, if_pos c, u2_a, if_pos ⟨rfl, rfl⟩, w7, nI_add]
      · rw [if_neg c, if_neg c, w7, Nat.add_zero]
    unfold WK
    rw [eF, eP, eU, e12]
    refine ⟨kw, kb, fun i hi => ?_, fun i hi => ?_, ⟨fun r hr => ?_, fun r hr => ?_⟩, ⟨fun i f' hi hf' hh => ?_, fun j hj => ?_⟩, ?_⟩
    · obtain ⟨k, hk, ek⟩ := w1 i hi
      exact ⟨k, hk, (g 3 i (by omega) (by omega)).trans ek⟩
    · obtain ⟨k, hk, ek⟩ := w2 i hi
      exact ⟨k, hk, (g 7 i (by omega) (by omega)).trans ek⟩
    · rw [g 4 r (by omega) (by omega)]
      exact w3 r hr
    · obtain ⟨k, k0, hk, ek⟩ := w4 r hr
      exact ⟨k, k0, hk, (g 5 r (by omega) (by omega)).trans ek⟩
    · rw [upd_ne (by omega)]
      exact w5 i f' hi hf' hh
    · by_cases c : j = p * 12 + f
      · rw [c, upd_same]
        exact Or.inr ⟨t, ht, rfl⟩
      · rw [upd_ne c]
        exact w6 j hj
    · rw [e16, ct_upd tm 96 (by omega)]
theorem WK_st (h : WK x.1) : WK (stS b L s x).2.2.1 := by
  by_cases ht : tooB x.1 x.2.1.1 x.2.2.1 (s.1 6) = true
  · rw [(stS_too (b := b) (L := L) ht).2]
    exact h
  have hf : tooB x.1 x.2.1.1 x.2.2.1 (s.1 6) = false := by
    cases z : tooB x.1 x.2.1.1 x.2.2.1 (s.1 6) with
    | true => exact absurd z ht
    | false => rfl
  by_cases c0 : s.1 6 = nI 0
  · rw [stS_0 c0 hf]
    have := of_decide_eq_false ((too_0 (x := x) c0).symm.trans hf)
    exact WK_fact h (by omega)
  by_cases c3 : s.1 6 = nI 3
  · rw [stS_3 c3 hf]
    have := of_decide_eq_false ((too_3 (x := x) c3).symm.trans hf)
    exact WK_rule h (by omega)
  by_cases c5 : s.1 6 = nI 5
  · rw [stS_5 c5 hf]
    have := of_decide_eq_false ((too_5 (x := x) c5).symm.trans hf)
    exact WK_pers h (by omega)
  by_cases c8 : s.1 6 = nI 8
  · rw [stS_8 c8 hf]
    have := of_decide_eq_false ((too_8 (x := x) c8).symm.trans hf)
    exact WK_meet h (by omega)
  by_cases c10 : s.1 6 = nI 10
  · rw [stS_10 c10 hf]
    exact WK_lic h
  by_cases c12 : s.1 6 = nI 12
  · rw [stS_12 c12 hf]
    unfold prcS
    dsimp only
    split
    · exact h
    · exact h
  by_cases c13 : s.1 6 = nI 13
  · rw [stS_13 c13 hf]
    unfold telS
    dsimp only
    split
    · exact h
    · exact h
  by_cases c14 : s.1 6 = nI 14
  · rw [stS_14 c14 hf]
    have := of_decide_eq_false ((too_14 (x := x) c14).symm.trans hf)
    refine WK_sto h this (fun e6 => ?_)
    obtain ⟨k, hk, e⟩ := num_val (v := (ss1 b L s).1 7) rfl e6
    exact ⟨k, hk, e⟩
  have ne : ∀ (n : Nat) (m : Int), (n : Int) = m → n < 1000 → ¬ s.1 6 = nI n → ¬ (s.1 6).toInt = m := fun n m e hn z y => z (I_nat hn (y.trans e.symm))
  unfold stS
  rw [if_neg ht]
  unfold stmR
  rw [if_neg (ne 0 0 rfl (by omega) c0), if_neg (ne 3 3 rfl (by omega) c3), if_neg (ne 5 5 rfl (by omega) c5), if_neg (ne 8 8 rfl (by omega) c8), if_neg (ne 10 10 rfl (by omega) c10), if_neg (ne 12 12 rfl (by omega) c12), if_neg (ne 13 13 rfl (by omega) c13), if_neg (ne 14 14 rfl (by omega) c14)]
  exact h
theorem WK_tx : ∀ (q n : Nat) (s : RS) (x : XK), WK x.1 → WK (txL b L q n s x).2.2.1
  | 0, _, _, _, h => h
  | q + 1, n, s, x, h => by
    unfold txL
    split
    · exact h
    split
    · exact h
    split
    · split
      · exact WK_tx q (n + 1) _ _ (WK_st h)
      · exact WK_st h
    · exact WK_st h
theorem ct_0 {v : Nat → Int32} : ∀ n, (∀ j, j < n → v j = -1) → ctT v n = 0
  | 0, _ => rfl
  | n + 1, h => by
    unfold ctT
    rw [ct_0 n (fun j hj => h j (by omega)), if_pos (h n (by omega))]
theorem WK_clr : WK (clrX K).1 := by
  obtain ⟨c1, c2, c3, c4⟩ := clr_c (K := K)
  show WK (clrK K)
  unfold WK
  rw [c1, c2, c3]
  exact ⟨KW_clr, ⟨0, 20, by omega, by omega, clr_16.1, clr_16.2⟩, fun i hi => by omega, fun i hi => by omega, ⟨fun r hr => by omega, fun r hr => by omega⟩, ⟨fun i f hi hf _ => clr_12 (by omega), fun j hj => Or.inl (clr_12 hj)⟩, by
    rw [ct_0 96 (fun j hj => clr_12 hj)]
    exact clr_16.1⟩
theorem WK_txR {f g : Nat → Int32} : WK (txR b L K (f, g)).2.2.1 := WK_tx 81 0 _ _ WK_clr
/-- what a text tells keeps the bounds of a Capital -/
theorem WC_of (h : WK x.1) : WC (toPC x) := by
  obtain ⟨⟨⟨⟨-, k1⟩, ⟨-, k2⟩, ⟨-, k3⟩, ⟨-, k4⟩⟩, k5, k6, k7⟩, ⟨n, m, kb1, kb2, kb3, kb4⟩, w1, w2, ⟨w3, w4⟩, -, -⟩ := h
  exact ⟨⟨k1, k2, k3, k4⟩, w1, w2, ⟨m, kb2, kb4⟩, w3, w4, k6, k7⟩
end ZPN
