/-! the reference's reader: FACTS, PEOPLE, STOCK -/
def bwN (b : Nat) : Nat := if 192 ≤ b ∧ b ≤ 197 then 0 else if b = 177 ∨ b = 178 ∨ b = 198 then 12 else if b = 180 ∨ b = 181 ∨ (186 ≤ b ∧ b ≤ 188) then 16 else if b = 183 ∨ b = 184 ∨ b = 199 then 8 else if b = 190 then 96 else if b = 196 ∨ b = 197 then 1600 else 1
/-- what reading changes: the bank that is read into -/
def stX (ik b j : Nat) : Prop := pxX b j ∨ (b = 174 ∧ 38 ≤ j ∧ j ≤ 37 ∧ ¬ j = 39) ∨ (200 ≤ b ∧ b ≤ 199) ∨ (176 ≤ b ∧ b ≤ 199 ∧ bwN b * ik ≤ j ∧ j < bwN b * ik + bwN b)
def KaAt (h : AH) (ik : Nat) (K : KK) : Prop := (hI h 179 ik = nI (cU K) ∧ cU K ≤ 16) ∧ (hI h 185 ik = nI (cM K) ∧ cM K ≤ 16) ∧ (hI h 189 ik = K 0 16 ∧ hI h 191 ik = K 0 17) ∧ ((∀ j, j < cF K → hI h 177 (12 * ik + j) = K 2 j) ∧ ∀ j, j < cF K → hI h 178 (12 * ik + j) = K 3 j) ∧ ((∀ j, j < cU K → hI h 180 (16 * ik + j) = K 4 j) ∧ ∀ j, j < cU K → hI h 181 (16 * ik + j) = K 5 j) ∧ ((∀ j, j < cP K → hI h 183 (8 * ik + j) = K 7 j) ∧ ∀ j, j < cP K → hI h 184 (8 * ik + j) = K 8 j) ∧ ((∀ j, j < cM K → hI h 186 (16 * ik + j) = K 9 j) ∧ (∀ j, j < cM K → hI h 187 (16 * ik + j) = K 10 j) ∧ ∀ j, j < cM K → hI h 188 (16 * ik + j) = K 11 j) ∧ ∀ j, j < 96 → hI h 190 (96 * ik + j) = K 12 j
def KxAt (h : AH) (ik : Nat) (K : KK) : Prop := NmK h ik K ∧ KaAt h ik K
section KXP
variable {h h' : AH} {b : Nat → Int32} {L ik : Nat} {s s' : RS} {r : Bool × RS} {K : KK} {X : Nat → Nat → Prop}
theorem px_st {b j : Nat} (z : pxX b j) : stX ik b j := Or.inl z
theorem Ka_agm (hX : ∀ b j, X b j → ¬ (176 ≤ b ∧ b ≤ 191)) (a : Agm X h h') (H : KaAt h ik K) : KaAt h' ik K := by
  have e : ∀ p, 176 ≤ p → p ≤ 191 → hI h' p = hI h p := fun p h1 h2 => by
    funext j
    exact Agm_I a (fun z => hX _ _ z ⟨h1, h2⟩)
  unfold KaAt at H ⊢
  rw [e 179 (by omega) (by omega), e 185 (by omega) (by omega), e 189 (by omega) (by omega), e 191 (by omega) (by omega), e 177 (by omega) (by omega), e 178 (by omega) (by omega), e 180 (by omega) (by omega), e 181 (by omega) (by omega), e 183 (by omega) (by omega), e 184 (by omega) (by omega), e 186 (by omega) (by omega), e 187 (by omega) (by omega), e 188 (by omega) (by omega), e 190 (by omega) (by omega)]
  exact H
theorem Kx_px (a : Agm pxX h h') (H : KxAt h ik K) : KxAt h' ik K := ⟨Nm_px a H.1, Ka_agm (fun _ _ z => by unfold pxX at z; omega) a H.2⟩
theorem Tok_agm {st : Nat} (hX : ∀ b j, X b j → ¬ (b = 174 ∧ 2 ≤ j ∧ j ≤ 12) ∧ ¬ b = 175) (a : Agm X h h') (H : TokAt h s st) : TokAt h' s st := by
  have e : ∀ j, 2 ≤ j → j ≤ 12 → hI h' 174 j = hI h 174 j := fun j h1 h2 => Agm_I a (fun z => (hX _ _ z).1 ⟨rfl, h1, h2⟩)
  have e7 : hL h' 174 7 = hL h 174 7 := Agm_L a (fun z => (hX _ _ z).1 ⟨rfl, by omega, by omega⟩)
  unfold TokAt at H ⊢
  rw [e 3 (by omega) (by omega), e 12 (by omega) (by omega), e 6 (by omega) (by omega), e7]
  exact H
theorem Px_agm (hX : ∀ b j, X b j → ¬ (b = 174 ∧ 2 ≤ j ∧ j ≤ 12) ∧ ¬ b = 175) (a : Agm X h h') (H : Px h b L r) : Px h' b L r := by
  have e : ∀ j, 2 ≤ j → j ≤ 12 → hI h' 174 j = hI h 174 j := fun j h1 h2 => Agm_I a (fun z => (hX _ _ z).1 ⟨rfl, h1, h2⟩)
  rcases H with ⟨h1, ⟨st, p, e3, e8, e4, q1, q2, g2, g4, g5, hT, ht⟩, h3⟩ | ⟨h1, h2, h3, h4⟩
  · refine Or.inl ⟨h1, ⟨st, p, e3, e8, e4, q1, q2, (e 2 (by omega) (by omega)).trans g2, (e 4 (by omega) (by omega)).trans g4, (e 5 (by omega) (by omega)).trans g5, Tok_agm hX a hT, fun z => ?_⟩, (e 8 (by omega) (by omega)).trans h3.1, (e 9 (by omega) (by omega)).trans h3.2⟩
    refine ⟨(ht z).1, (ht z).2.trans ?_⟩
    unfold AlnAt
    rw [Agm_I a (fun z => (hX _ _ z).2 rfl)]
  · exact Or.inr ⟨h1, (e 8 (by omega) (by omega)).trans h2, (e 9 (by omega) (by omega)).trans h3, h4⟩
theorem T_agm (hX : ∀ b j, X b j → ¬ b = 175) (a : Agm X h h') (H : TpB h b L) : TpB h' b L := fun j hj => by
  obtain ⟨k, hk, e1, e2⟩ := H j hj
  exact ⟨k, hk, e1, (Agm_I a (fun z => hX _ _ z rfl)).trans e2⟩
/-- the reader's other fields do not matter here -/
theorem Px_c (e : ∀ j, j ≤ 10 → s'.1 j = s.1 j) (H : Px h b L (true, s)) : Px h b L (true, s') := by
  rcases H with ⟨h1, ⟨st, p, e3, e8, e4, q1, q2, g2, g4, g5, hT, ht⟩, h3⟩ | ⟨h1, -⟩
  · refine Or.inl ⟨rfl, ⟨st, p, (e 3 (by omega)).trans e3, (e 8 (by omega)).trans e8, (e 4 (by omega)).trans e4, q1, q2, g2, g4, g5, ?_, ?_⟩, h3⟩
    · show TokAt h s' st
      unfold TokAt
      rw [e 6 (by omega), e 7 (by omega), e 9 (by omega)]
      exact hT
    · show ¬ s'.1 6 = nI 28 → st < p ∧ (¬ s'.1 10 = 0 ↔ AlnAt h p)
      rw [e 6 (by omega), e 10 (by omega)]
      exact ht
  · cases h1
theorem Px_8 (H : Px h b L r) : (r.1 = true → hI h 174 8 = nI 0) ∧ (r.1 = false → ∃ j, 0 < j ∧ j < 7 ∧ hI h 174 8 = nI j) := by
  rcases H with ⟨h1, -, h3⟩ | ⟨h1, h2, -, j, hj, hj7, ej⟩
  · exact ⟨fun _ => h3.1, fun z => absurd (h1.symm.trans z) (by decide)⟩
  · exact ⟨fun z => absurd (h1.symm.trans z) (by decide), fun _ => ⟨j, hj, hj7, h2.trans ej⟩⟩
end KXP
def bkX (b _ : Nat) : Prop := 176 ≤ b ∧ b ≤ 199
section KXQ
variable {h h' : AH} {b : Nat → Int32} {L ik : Nat} {s s' : RS} {r : Bool × RS} {K : KK}
theorem bk_px {b j : Nat} (z : bkX b j) : ¬ (b = 174 ∧ 2 ≤ j ∧ j ≤ 12) ∧ ¬ b = 175 := by
  unfold bkX at z
  omega
theorem Px_bk (a : Agm bkX h h') (H : Px h b L r) : Px h' b L r := Px_agm (fun _ _ => bk_px) a H
theorem T_bk (a : Agm bkX h h') (H : TpB h b L) : TpB h' b L := T_agm (fun _ _ z => (bk_px z).2) a H
theorem Bk_sI {a i : Nat} {x : Int32} (h1 : 176 ≤ a) (h2 : a ≤ 199) : Agm bkX h (sI h a i x) := Agm_sI ⟨h1, h2⟩
theorem Bk_sL {a i : Nat} {x : Int64} (h1 : 176 ≤ a) (h2 : a ≤ 199) : Agm bkX h (sL h a i x) := Agm_sL ⟨h1, h2⟩
end KXQ
section MO997
variable {d bk m L ik : Nat} {h : AH} {Q : Option Value → AH → Prop} {b : Nat → Int32} {s s1 : RS} {r : Bool × RS} {K : KK}
theorem Mo_mustWc {k c : Nat} (hd : 4 ≤ d) (hM : MoAt h) (hT : TpB h b L) (hLe : L ≤ 1600) (hk : k < 26) (e : pk8 (ownW k) = c) (hP : Px h b L r) (hQ : ∀ h', Agm pxX h h' → Px h' b L (sqP r (psS b L (nI k))) → Q none h') : CL d 184 [.ref 174, .long (lN c)] h Q := by
  rw [← e]
  exact Mo_mustW hd hM hT hLe hk hP hQ
theorem factS_chain (h1 : Bool × RS) : h1 = sqI (sqP (sqI (sqP (sqI (true, s1) (newS b L K)) (psS b L (nI 1))) (nmS b L (nI 999))) (psS b L (nI 2))) (nmS b L (nI 99)) → (h1.1 = (factS b L K s1).1 ∧ h1.2 = (factS b L K s1).2.1) ∧ (h1.1 = true → (sqI (true, s1) (newS b L K)).1 = true ∧ (sqI (sqP (sqI (true, s1) (newS b L K)) (psS b L (nI 1))) (nmS b L (nI 999))).1 = true ∧ (factS b L K s1).2.2 = addF K (newS b L K s1).1 (nmS b L (nI 999) (sqP (sqI (true, s1) (newS b L K)) (psS b L (nI 1))).2).1 (nmS b L (nI 99) (sqP (sqI (sqP (sqI (true, s1) (newS b L K)) (psS b L (nI 1))) (nmS b L (nI 999))) (psS b L (nI 2))).2).1) := by
  intro e
  subst e
  by_cases c1 : (newS b L K s1).1 = -1
  · simp [factS, thI, sqI, sqP, c1]
  cases c2 : (psS b L (nI 1) (newS b L K s1).2).1
  · simp [factS, thI, thB, sqI, sqP, c1, c2]
  by_cases c3 : (nmS b L (nI 999) (psS b L (nI 1) (newS b L K s1).2).2).1 = -1
  · simp [factS, thI, thB, sqI, sqP, c1, c2, c3]
  cases c4 : (psS b L (nI 2) (nmS b L (nI 999) (psS b L (nI 1) (newS b L K s1).2).2).2).1
  · simp [factS, thI, thB, sqI, sqP, c1, c2, c3, c4]
  by_cases c5 : (nmS b L (nI 99) (psS b L (nI 2) (nmS b L (nI 999) (psS b L (nI 1) (newS b L K s1).2).2).2).2).1 = -1
  · simp [factS, thI, thB, sqI, sqP, c1, c2, c3, c4, c5]
  · simp [factS, thI, thB, sqI, sqP, c1, c2, c3, c4, c5]
theorem persS_chain (h1 : Bool × RS) : h1 = sqI (sqP (sqI (sqP (sqI (true, s1) (newS b L K)) (psS b L (nI 6))) (nmS b L (nI 9))) (psS b L (nI 7))) (nmS b L (nI 999)) → (h1.1 = (persS b L K s1).1 ∧ h1.2 = (persS b L K s1).2.1) ∧ (h1.1 = true → (sqI (true, s1) (newS b L K)).1 = true ∧ (sqI (sqP (sqI (true, s1) (newS b L K)) (psS b L (nI 6))) (nmS b L (nI 9))).1 = true ∧ (persS b L K s1).2.2 = addP K (newS b L K s1).1 (nmS b L (nI 9) (sqP (sqI (true, s1) (newS b L K)) (psS b L (nI 6))).2).1 (nmS b L (nI 999) (sqP (sqI (sqP (sqI (true, s1) (newS b L K)) (psS b L (nI 6))) (nmS b L (nI 9))) (psS b L (nI 7))).2).1) := by
  intro e
  subst e
  by_cases c1 : (newS b L K s1).1 = -1
  · simp [persS, thI, sqI, sqP, c1]
  cases c2 : (psS b L (nI 6) (newS b L K s1).2).1
  · simp [persS, thI, thB, sqI, sqP, c1, c2]
  by_cases c3 : (nmS b L (nI 9) (psS b L (nI 6) (newS b L K s1).2).2).1 = -1
  · simp [persS, thI, thB, sqI, sqP, c1, c2, c3]
  cases c4 : (psS b L (nI 7) (nmS b L (nI 9) (psS b L (nI 6) (newS b L K s1).2).2).2).1
  · simp [persS, thI, thB, sqI, sqP, c1, c2, c3, c4]
  by_cases c5 : (nmS b L (nI 999) (psS b L (nI 7) (nmS b L (nI 9) (psS b L (nI 6) (newS b L K s1).2).2).2).2).1 = -1
  · simp [persS, thI, thB, sqI, sqP, c1, c2, c3, c4, c5]
  · simp [persS, thI, thB, sqI, sqP, c1, c2, c3, c4, c5]
end MO997
