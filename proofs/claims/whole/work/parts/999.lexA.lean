/-! the reference: statements of STOCK, MEETINGS, LICENCES -/
theorem Px_t {h : AH} {b : Nat → Int32} {L : Nat} {s : RS} (H : Px h b L (true, s)) : hI h 174 8 = nI 0 := (Px_8 H).1 rfl
theorem Px_f {h : AH} {b : Nat → Int32} {L : Nat} {s : RS} (H : Px h b L (false, s)) : ∃ j, 0 < j ∧ j < 7 ∧ hI h 174 8 = nI j := (Px_8 H).2 rfl
/-- the bounds that hold while a text is read -/
def KBd (K : KK) : Prop := ∃ n m, n ≤ m ∧ m ≤ 99 ∧ K 0 16 = nI n ∧ K 0 17 = nI m
/-- the bank as another one, told place by place -/
theorem Kx_make {h h' : AH} {ik : Nat} {K K' : KK} (hK : KxAt h ik K) (e39 : hI h' 174 39 = hI h 174 39) (hF : cF K' = cF K) (hPp : cP K' = cP K) (hU : hI h' 179 ik = nI (cU K') ∧ cU K' ≤ 16) (hMm : hI h' 185 ik = nI (cM K') ∧ cM K' ≤ 16) (e189 : hI h' 189 ik = K' 0 16) (e191 : hI h' 191 ik = K' 0 17) (c1 : ∀ j, K' 1 j = K 1 j) (c6 : ∀ j, K' 6 j = K 6 j) (c2 : ∀ j, K' 2 j = K 2 j) (c3 : ∀ j, K' 3 j = K 3 j) (c7 : ∀ j, K' 7 j = K 7 j) (c8 : ∀ j, K' 8 j = K 8 j) (eI : ∀ x j, (x = 176 ∨ x = 177 ∨ x = 178 ∨ x = 182 ∨ x = 183 ∨ x = 184) → hI h' x j = hI h x j) (eL : ∀ x j, (x = 198 ∨ x = 199) → hL h' x j = hL h x j) (cR : (∀ j, j < cU K' → hI h' 180 (16 * ik + j) = K' 4 j) ∧ ∀ j, j < cU K' → hI h' 181 (16 * ik + j) = K' 5 j) (cQ : (∀ j, j < cM K' → hI h' 186 (16 * ik + j) = K' 9 j) ∧ (∀ j, j < cM K' → hI h' 187 (16 * ik + j) = K' 10 j) ∧ ∀ j, j < cM K' → hI h' 188 (16 * ik + j) = K' 11 j) (cT : ∀ j, j < 96 → hI h' 190 (96 * ik + j) = K' 12 j) : KxAt h' ik K' := by
  obtain ⟨⟨n1, n2, ⟨n3, n4⟩, ⟨n5, n6⟩, n7, n8⟩, ⟨v1, v2⟩, ⟨m1, m2⟩, ⟨l1, l2⟩, ⟨f1, f2⟩, ⟨r1, r2⟩, ⟨p1, p2⟩, ⟨q1, q2, q3⟩, tl⟩ := hK
  unfold KxAt NmK KaAt
  rw [hF, hPp]
  refine ⟨⟨e39.trans n1, n2, ⟨(eI _ _ (by omega)).trans n3, n4⟩, ⟨(eI _ _ (by omega)).trans n5, n6⟩, fun j hj => ?_, fun j hj => ?_⟩, hU, hMm, ⟨e189, e191⟩, ⟨fun j hj => ?_, fun j hj => ?_⟩, cR, ⟨fun j hj => ?_, fun j hj => ?_⟩, cQ, cT⟩
  · rw [eL _ _ (by omega), c1]
    exact n7 j hj
  · rw [eL _ _ (by omega), c6]
    exact n8 j hj
  · rw [eI _ _ (by omega), c2]
    exact f1 j hj
  · rw [eI _ _ (by omega), c3]
    exact f2 j hj
  · rw [eI _ _ (by omega), c7]
    exact p1 j hj
  · rw [eI _ _ (by omega), c8]
    exact p2 j hj
def scX (ik b j : Nat) : Prop := pxX b j ∨ (b = 191 ∧ j = ik)
theorem Kx_stock {h h' : AH} {ik : Nat} {K : KK} {n : Int32} (hK : KxAt h ik K) (a : Agm (scX ik) h h') (e1 : hI h' 191 ik = n) : KxAt h' ik (u2 K 0 17 n) := by
  have hK' := hK
  obtain ⟨⟨n1, n2, ⟨n3, n4⟩, ⟨n5, n6⟩, n7, n8⟩, ⟨v1, v2⟩, ⟨m1, m2⟩, ⟨l1, l2⟩, ⟨f1, f2⟩, ⟨r1, r2⟩, ⟨p1, p2⟩, ⟨q1, q2, q3⟩, tl⟩ := hK
  have eI : ∀ x j, ¬ (x = 191 ∨ x = 174) → hI h' x j = hI h x j := fun x j z => Agm_I a (fun y => by
    unfold scX pxX at y
    omega)
  have k : ∀ c j, ¬ (c = 0 ∧ j = 17) → (u2 K 0 17 n) c j = K c j := fun c j z => by rw [u2_a, if_neg z]
  have d1 : cF (u2 K 0 17 n) = cF K := by
    unfold cF
    rw [k _ _ (by omega)]
  have d2 : cU (u2 K 0 17 n) = cU K := by
    unfold cU
    rw [k _ _ (by omega)]
  have d3 : cP (u2 K 0 17 n) = cP K := by
    unfold cP
    rw [k _ _ (by omega)]
  have d4 : cM (u2 K 0 17 n) = cM K := by
    unfold cM
    rw [k _ _ (by omega)]
  refine Kx_make hK' (Agm_I a (fun y => by unfold scX pxX at y; omega)) d1 d3 (by rw [d2]; exact ⟨(eI _ _ (by omega)).trans v1, v2⟩) (by rw [d4]; exact ⟨(eI _ _ (by omega)).trans m1, m2⟩) (by rw [k _ _ (by omega)]; exact (eI _ _ (by omega)).trans l1) (by rw [u2_a, if_pos ⟨rfl, rfl⟩]; exact e1) (fun j => k _ _ (by omega)) (fun j => k _ _ (by omega)) (fun j => k _ _ (by omega)) (fun j => k _ _ (by omega)) (fun j => k _ _ (by omega)) (fun j => k _ _ (by omega)) (fun x j z => eI x j (by omega)) (fun x j z => Agm_L a (fun y => by unfold scX pxX at y; omega)) ?_ ?_ ?_
  · rw [d2]
    exact ⟨fun j hj => by rw [eI _ _ (by omega), k _ _ (by omega)]; exact r1 j hj, fun j hj => by rw [eI _ _ (by omega), k _ _ (by omega)]; exact r2 j hj⟩
  · rw [d4]
    exact ⟨fun j hj => by rw [eI _ _ (by omega), k _ _ (by omega)]; exact q1 j hj, fun j hj => by rw [eI _ _ (by omega), k _ _ (by omega)]; exact q2 j hj, fun j hj => by rw [eI _ _ (by omega), k _ _ (by omega)]; exact q3 j hj⟩
  · exact fun j hj => by rw [eI _ _ (by omega), k _ _ (by omega)]; exact tl j hj
def mcX (ik c b j : Nat) : Prop := pxX b j ∨ ((b = 186 ∨ b = 187 ∨ b = 188) ∧ j = 16 * ik + c) ∨ (b = 185 ∧ j = ik)
theorem Kx_addM {h h' : AH} {ik : Nat} {K : KK} {x0 y0 dy : Int32} (hK : KxAt h ik K) (hc : cM K < 16) (a : Agm (mcX ik (cM K)) h h') (e1 : hI h' 185 ik = nI (cM K + 1)) (e2 : hI h' 186 (16 * ik + cM K) = x0) (e3 : hI h' 187 (16 * ik + cM K) = y0) (e4 : hI h' 188 (16 * ik + cM K) = dy) : KxAt h' ik (addM K x0 y0 dy) := by
  have hK' := hK
  obtain ⟨⟨n1, n2, ⟨n3, n4⟩, ⟨n5, n6⟩, n7, n8⟩, ⟨v1, v2⟩, ⟨m1, m2⟩, ⟨l1, l2⟩, ⟨f1, f2⟩, ⟨r1, r2⟩, ⟨p1, p2⟩, ⟨q1, q2, q3⟩, tl⟩ := hK
  have eI : ∀ x j, ¬ (x = 185 ∨ x = 186 ∨ x = 187 ∨ x = 188 ∨ x = 174) → hI h' x j = hI h x j := fun x j z => Agm_I a (fun y => by
    unfold mcX pxX at y
    omega)
  have eM : ∀ x j, (x = 186 ∨ x = 187 ∨ x = 188) → j < cM K → hI h' x (16 * ik + j) = hI h x (16 * ik + j) := fun x j z hj => Agm_I a (fun y => by
    unfold mcX pxX at y
    omega)
  have k : ∀ c j, ¬ (c = 9 ∨ c = 10 ∨ c = 11 ∨ (c = 0 ∧ j = 14)) → (addM K x0 y0 dy) c j = K c j := fun c j z => by
    unfold addM
    rw [u2_a, if_neg (by omega), u2_a, if_neg (by omega), u2_a, if_neg (by omega), u2_a, if_neg (by omega)]
  have k9 : ∀ j, (addM K x0 y0 dy) 9 j = if j = cM K then x0 else K 9 j := fun j => by simp [addM, u2_a]
  have k10 : ∀ j, (addM K x0 y0 dy) 10 j = if j = cM K then y0 else K 10 j := fun j => by simp [addM, u2_a]
  have k11 : ∀ j, (addM K x0 y0 dy) 11 j = if j = cM K then dy else K 11 j := fun j => by simp [addM, u2_a]
  have d1 : cF (addM K x0 y0 dy) = cF K := by
    unfold cF
    rw [k _ _ (by omega)]
  have d2 : cU (addM K x0 y0 dy) = cU K := by
    unfold cU
    rw [k _ _ (by omega)]
  have d3 : cP (addM K x0 y0 dy) = cP K := by
    unfold cP
    rw [k _ _ (by omega)]
  have d4 : cM (addM K x0 y0 dy) = cM K + 1 := by
    show ((addM K x0 y0 dy) 0 14).toNatClampNeg = _
    rw [show (addM K x0 y0 dy) 0 14 = nI (cM K + 1) by simp [addM, u2_a]]
    exact nI_clamp (by omega)
  refine Kx_make hK' (Agm_I a (fun y => by unfold mcX pxX at y; omega)) d1 d3 (by rw [d2]; exact ⟨(eI _ _ (by omega)).trans v1, v2⟩) (by rw [d4]; exact ⟨e1, by omega⟩) (by rw [k _ _ (by omega)]; exact (eI _ _ (by omega)).trans l1) (by rw [k _ _ (by omega)]; exact (eI _ _ (by omega)).trans l2) (fun j => k _ _ (by omega)) (fun j => k _ _ (by omega)) (fun j => k _ _ (by omega)) (fun j => k _ _ (by omega)) (fun j => k _ _ (by omega)) (fun j => k _ _ (by omega)) (fun x j z => eI x j (by omega)) (fun x j z => Agm_L a (fun y => by unfold mcX pxX at y; omega)) ?_ ?_ ?_
  · rw [d2]
    exact ⟨fun j hj => by rw [eI _ _ (by omega), k _ _ (by omega)]; exact r1 j hj, fun j hj => by rw [eI _ _ (by omega), k _ _ (by omega)]; exact r2 j hj⟩
  · rw [d4]
    refine ⟨fun j hj => ?_, fun j hj => ?_, fun j hj => ?_⟩
    · rw [k9]
      by_cases z : j = cM K
      · rw [if_pos z, z]
        exact e2
      · rw [if_neg z, eM _ _ (by omega) (by omega)]
        exact q1 j (by omega)
    · rw [k10]
      by_cases z : j = cM K
      · rw [if_pos z, z]
        exact e3
      · rw [if_neg z, eM _ _ (by omega) (by omega)]
        exact q2 j (by omega)
    · rw [k11]
      by_cases z : j = cM K
      · rw [if_pos z, z]
        exact e4
      · rw [if_neg z, eM _ _ (by omega) (by omega)]
        exact q3 j (by omega)
  · exact fun j hj => by rw [eI _ _ (by omega), k _ _ (by omega)]; exact tl j hj
def ucX (ik c b j : Nat) : Prop := pxX b j ∨ ((b = 180 ∨ b = 181) ∧ j = 16 * ik + c) ∨ (b = 179 ∧ j = ik)
theorem Kx_addU {h h' : AH} {ik : Nat} {K : KK} {x0 y0 : Int32} (hK : KxAt h ik K) (hc : cU K < 16) (a : Agm (ucX ik (cU K)) h h') (e1 : hI h' 179 ik = nI (cU K + 1)) (e2 : hI h' 180 (16 * ik + cU K) = x0) (e3 : hI h' 181 (16 * ik + cU K) = y0) : KxAt h' ik (addU K x0 y0) := by
  have hK' := hK
  obtain ⟨⟨n1, n2, ⟨n3, n4⟩, ⟨n5, n6⟩, n7, n8⟩, ⟨v1, v2⟩, ⟨m1, m2⟩, ⟨l1, l2⟩, ⟨f1, f2⟩, ⟨r1, r2⟩, ⟨p1, p2⟩, ⟨q1, q2, q3⟩, tl⟩ := hK
  have eI : ∀ x j, ¬ (x = 179 ∨ x = 180 ∨ x = 181 ∨ x = 174) → hI h' x j = hI h x j := fun x j z => Agm_I a (fun y => by
    unfold ucX pxX at y
    omega)
  have eM : ∀ x j, (x = 180 ∨ x = 181) → j < cU K → hI h' x (16 * ik + j) = hI h x (16 * ik + j) := fun x j z hj => Agm_I a (fun y => by
    unfold ucX pxX at y
    omega)
  have k : ∀ c j, ¬ (c = 4 ∨ c = 5 ∨ (c = 0 ∧ j = 6)) → (addU K x0 y0) c j = K c j := fun c j z => by
    unfold addU
    rw [u2_a, if_neg (by omega), u2_a, if_neg (by omega), u2_a, if_neg (by omega)]
  have k4 : ∀ j, (addU K x0 y0) 4 j = if j = cU K then x0 else K 4 j := fun j => by simp [addU, u2_a]
  have k5 : ∀ j, (addU K x0 y0) 5 j = if j = cU K then y0 else K 5 j := fun j => by simp [addU, u2_a]
  have d1 : cF (addU K x0 y0) = cF K := by
    unfold cF
    rw [k _ _ (by omega)]
  have d4 : cM (addU K x0 y0) = cM K := by
    unfold cM
    rw [k _ _ (by omega)]
  have d3 : cP (addU K x0 y0) = cP K := by
    unfold cP
    rw [k _ _ (by omega)]
  have d2 : cU (addU K x0 y0) = cU K + 1 := by
    show ((addU K x0 y0) 0 6).toNatClampNeg = _
    rw [show (addU K x0 y0) 0 6 = nI (cU K + 1) by simp [addU, u2_a]]
    exact nI_clamp (by omega)
  refine Kx_make hK' (Agm_I a (fun y => by unfold ucX pxX at y; omega)) d1 d3 (by rw [d2]; exact ⟨e1, by omega⟩) (by rw [d4]; exact ⟨(eI _ _ (by omega)).trans m1, m2⟩) (by rw [k _ _ (by omega)]; exact (eI _ _ (by omega)).trans l1) (by rw [k _ _ (by omega)]; exact (eI _ _ (by omega)).trans l2) (fun j => k _ _ (by omega)) (fun j => k _ _ (by omega)) (fun j => k _ _ (by omega)) (fun j => k _ _ (by omega)) (fun j => k _ _ (by omega)) (fun j => k _ _ (by omega)) (fun x j z => eI x j (by omega)) (fun x j z => Agm_L a (fun y => by unfold ucX pxX at y; omega)) ?_ ?_ ?_
  · rw [d2]
    refine ⟨fun j hj => ?_, fun j hj => ?_⟩
    · rw [k4]
      by_cases z : j = cU K
      · rw [if_pos z, z]
        exact e2
      · rw [if_neg z, eM _ _ (by omega) (by omega)]
        exact r1 j (by omega)
    · rw [k5]
      by_cases z : j = cU K
      · rw [if_pos z, z]
        exact e3
      · rw [if_neg z, eM _ _ (by omega) (by omega)]
        exact r2 j (by omega)
  · rw [d4]
    exact ⟨fun j hj => by rw [eI _ _ (by omega), k _ _ (by omega)]; exact q1 j hj, fun j hj => by rw [eI _ _ (by omega), k _ _ (by omega)]; exact q2 j hj, fun j hj => by rw [eI _ _ (by omega), k _ _ (by omega)]; exact q3 j hj⟩
  · exact fun j hj => by rw [eI _ _ (by omega), k _ _ (by omega)]; exact tl j hj
def lcX (ik c b j : Nat) : Prop := pxX b j ∨ (b = 190 ∧ j = 96 * ik + c) ∨ (b = 189 ∧ j = ik)
theorem Kx_addL {h h' : AH} {ik p f : Nat} {K : KK} {t : Int32} (hK : KxAt h ik K) (hpf : p * 12 + f < 96) (a : Agm (lcX ik (p * 12 + f)) h h') (e1 : hI h' 189 ik = if K 12 (p * 12 + f) = -1 then K 0 16 + nI 1 else K 0 16) (e2 : hI h' 190 (96 * ik + (p * 12 + f)) = t) : KxAt h' ik (addL K p f t) := by
  have hK' := hK
  obtain ⟨⟨n1, n2, ⟨n3, n4⟩, ⟨n5, n6⟩, n7, n8⟩, ⟨v1, v2⟩, ⟨m1, m2⟩, ⟨l1, l2⟩, ⟨f1, f2⟩, ⟨r1, r2⟩, ⟨p1, p2⟩, ⟨q1, q2, q3⟩, tl⟩ := hK
  have eI : ∀ x j, ¬ (x = 189 ∨ x = 190 ∨ x = 174) → hI h' x j = hI h x j := fun x j z => Agm_I a (fun y => by
    unfold lcX pxX at y
    omega)
  have k : ∀ c j, ¬ (c = 12 ∨ (c = 0 ∧ j = 16)) → (addL K p f t) c j = K c j := fun c j z => by
    unfold addL
    rw [u2_a, if_neg (by omega)]
    split
    · rw [u2_a, if_neg (by omega)]
    · rfl
  have k12 : ∀ j, (addL K p f t) 12 j = if j = p * 12 + f then t else K 12 j := fun j => by
    unfold addL
    rw [u2_a]
    by_cases z : j = p * 12 + f
    · rw [if_pos ⟨rfl, z⟩, if_pos z]
    · rw [if_neg (fun y => z y.2), if_neg z]
      split
      · rw [u2_a, if_neg (by omega)]
      · rfl
  have k16 : (addL K p f t) 0 16 = if K 12 (p * 12 + f) = -1 then K 0 16 + nI 1 else K 0 16 := by
    unfold addL
    rw [u2_a, if_neg (by omega)]
    split
    · rw [u2_a, if_pos ⟨rfl, rfl⟩]
    · rfl
  have d1 : cF (addL K p f t) = cF K := by
    unfold cF
    rw [k _ _ (by omega)]
  have d2 : cU (addL K p f t) = cU K := by
    unfold cU
    rw [k _ _ (by omega)]
  have d3 : cP (addL K p f t) = cP K := by
    unfold cP
    rw [k _ _ (by omega)]
  have d4 : cM (addL K p f t) = cM K := by
    unfold cM
    rw [k _ _ (by omega)]
  refine Kx_make hK' (Agm_I a (fun y => by unfold lcX pxX at y; omega)) d1 d3 (by rw [d2]; exact ⟨(eI _ _ (by omega)).trans v1, v2⟩) (by rw [d4]; exact ⟨(eI _ _ (by omega)).trans m1, m2⟩) (by rw [k16]; exact e1) (by rw [k _ _ (by omega)]; exact (eI _ _ (by omega)).trans l2) (fun j => k _ _ (by omega)) (fun j => k _ _ (by omega)) (fun j => k _ _ (by omega)) (fun j => k _ _ (by omega)) (fun j => k _ _ (by omega)) (fun j => k _ _ (by omega)) (fun x j z => eI x j (by omega)) (fun x j z => Agm_L a (fun y => by unfold lcX pxX at y; omega)) ?_ ?_ ?_
  · rw [d2]
    exact ⟨fun j hj => by rw [eI _ _ (by omega), k _ _ (by omega)]; exact r1 j hj, fun j hj => by rw [eI _ _ (by omega), k _ _ (by omega)]; exact r2 j hj⟩
  · rw [d4]
    exact ⟨fun j hj => by rw [eI _ _ (by omega), k _ _ (by omega)]; exact q1 j hj, fun j hj => by rw [eI _ _ (by omega), k _ _ (by omega)]; exact q2 j hj, fun j hj => by rw [eI _ _ (by omega), k _ _ (by omega)]; exact q3 j hj⟩
  · intro j hj
    rw [k12]
    by_cases z : j = p * 12 + f
    · rw [if_pos z, z]
      exact e2
    · rw [if_neg z, Agm_I a (fun y => by unfold lcX pxX at y; omega)]
      exact tl j hj
section MO999
variable {d bk m L ik : Nat} {h : AH} {Q : Option Value → AH → Prop} {b : Nat → Int32} {s s1 : RS} {r : Bool × RS} {K : KK}
theorem sto_chain (r1 : Bool × RS) : r1 = sqI (true, s1) (nmS b L (nI 99)) → (r1.1 = (stoS b L K s1).1 ∧ r1.2 = (stoS b L K s1).2.1) ∧ (r1.1 = true → (stoS b L K s1).2.2 = u2 K 0 17 (nmS b L (nI 99) s1).1) := by
  intro e
  subst e
  by_cases c1 : (nmS b L (nI 99) s1).1 = -1
  · simp [stoS, thI, sqI, c1]
  · simp [stoS, thI, sqI, c1]
theorem st_191 {x j : Nat} (z : scX ik x j) : stX ik x j := by
  rcases z with z | ⟨rfl, rfl⟩
  · exact Or.inl z
  · exact Or.inr (Or.inr (Or.inr ⟨by omega, by omega, by show 1 * j ≤ j; omega, by show j < 1 * j + 1; omega⟩))
theorem Mo_stocking (hd : 5 ≤ d) (hM : MoAt h) (hT : TpB h b L) (hLe : L ≤ 1600) (hK : KxAt h ik K) (hB : KBd K) (hP : Px h b L (true, s)) (h28 : ¬ s.1 6 = nI 28) (hs1 : ∀ h', Px h' b L (true, nxS b L s) → Px h' b L (true, s1)) (hQ1 : 0 < K 0 16 → ∀ h', Agm (stX ik) h h' → Px h' b L (flS s (nI 6) (s.1 8)) → Q none h') (hQ2 : ¬ 0 < K 0 16 → ∀ h', Agm (stX ik) h h' → Px h' b L ((stoS b L K s1).1, (stoS b L K s1).2.1) → ((stoS b L K s1).1 = true → KxAt h' ik (stoS b L K s1).2.2) → Q none h') : CL d 195 [.ref 174] h Q := by
  have hM' := hM
  have k39 := hK.1.1
  have kik := hK.1.2.1
  obtain ⟨lc, mm, hlm, hm99, elc, -⟩ := hB
  have e189 : hI h 189 ik = nI lc := hK.2.2.2.1.1.trans elc
  have hlt : 0 < K 0 16 ↔ 0 < lc := by
    rw [elc]
    exact nI_ltI (a := 0) (by omega) (by omega)
  rw [hlt] at hQ1 hQ2
  obtain ⟨xN, ⟨ra0, ra1, ra2, ra3, ra4, ra5, ra6, ra7, ra8, ra9, ra10, ra11, ra12, ra13, ra14, ra15, ra16, ra17, ra18, ra19, ra20, ra21, ra22, ra23, ra24, ra25, ra26, ra27, ra28, ra29, ra30, ra31, ra32, ra33, ra34, ra35, ra36, ra37, ra38, ra39, ra40, ra41, ra42, ra43, ra44⟩, ⟨la0, la1, la2, la3, la4, la5, la6, la7, la8, la9, la10, la11, la12, la13, la14, la15, la16, la17, la18, la19, la20, la21, la22, la23, la24, la25, la26, la27, la28, la29, la30, la31, la32, la33, la34, la35, la36, la37, la38, la39, la40, la41, la42, la43, la44⟩⟩ := hM
  refine en195 (by omega) ?_
  by_cases c : 0 < lc
  · have cmp : (nI lc ≤ 0) = False := eq_false (fun z => by
      rw [Int32.le_iff_toInt_le, nI_toInt (by omega)] at z
      have z : (lc : Int) ≤ 0 := z
      omega)
    simp (disch := omega) only [g195_0, g195_1, g195_2, g195_5, g195_6, g195_9, g195_10, g195_13, g195_14, g195_17, g195_18, GN_nx, GN_rtn, GN_ck, GN_br, GN_cll, ldI_0, ldJ_0, ldR_0, ldI_s, ldJ_s, ldR_s, pI_c, pII_c, pJ_c, pJJ_c, pJI_c, pR_c, pRI_c, pRJ_c, pRR_c, pRII_c, pRIJ_c, pRIR_c, pCopy_c, pIe_c, pJe_c, pRe_c, pE_c, p1_i, p1_r, p11_ir, pA_0, pA_1, pA_2, pA_3, pA_4, pA_5, st1_0, st1_i, st1_r, st1_n, st1_u, st1_j, st1_s, st2_0, st2_i, st2_r, st2_n, st2_u, st2_j, st2_s, List.length_cons, List.length_nil, Nat.reduceAdd, Nat.reduceLT, Nat.reduceLeDiff, Nat.reduceEqDiff, Nat.zero_add, true_and, and_true, true_implies, not_true_eq_false, not_false_eq_true, false_implies, Option.toList_some, Option.toList_none, arr, inb, List.cons_append, List.nil_append, rv_some, rv_none, nlt_t, nlt_f, nle_t, nle_f, neq_f, ix_cl, ix_nn, ix_lt, cmp_le, cmp_lt, cmp_eq, cmp_lt0, cmp_ge0, cmp_eq0, cmp_gt0, cmp_le0, nI_mul, nI_add, nm1_ne, nm1_ne', one01, zero01, b2i_0, b2i_1, b2i_01, cmp_eq1, true_or, or_true, false_or, or_false, neq_t, hN_sI, hLn_sI, hR_sI, hL_sI, hI_sI, hN_sA, hLn_sA, hR_sA, hL_sA, hI_sA, hN_wI, hLn_wI, hR_wI, hL_wI, hI_wI, false_and, and_false, if_true, if_false, hN_fA, hLn_fA, hR_fA, hN_wrS, hLn_wrS, hR_wrS, hL_wrS, wS_day, wS_keeps, wS_brs, wS_first, wS_knows, wS_purse, wS_till, wS_valid, wS_kept, sS_day, sS_keeps, sS_brs, sS_first, sS_knows, sS_purse, sS_till, sS_valid, sS_kept, wrS_wrS, day_mk, knows_mk, purse_mk, till_mk, valid_mk, kept_mk, keeps_mk, brs_mk, first_mk, hN_wrU, hLn_wrU, hR_wrU, hL_wrU, wU_19, wU_20, sU_19, sU_20, upd_same, upd_upd, hN_wrR, hLn_wrR, hR_wrR, hL_wrR, bI_0, bI_01', bI_t1, eq_self, Bool.true_eq_false, Bool.false_eq_true, hN_wrC, hLn_wrC, hR_wrC, hL_wrC, lay_174, lay_175, lay_176, lay_177, lay_178, lay_179, lay_180, lay_181, lay_182, lay_183, lay_184, lay_185, lay_186, lay_187, lay_188, lay_189, lay_190, lay_191, lay_192, lay_193, lay_194, lay_195, lay_196, lay_197, lay_198, lay_199, lay_200, lay_201, lay_202, lay_203, lay_204, lay_205, lay_206, lay_207, lay_208, lay_209, lay_210, lay_211, lay_212, lay_213, lay_214, lay_215, lay_216, lay_217, lay_218, lay_219, hN_wrO, hLn_wrO, hR_wrO, hN_wrL, hLn_wrL, hR_wrL, hN_sL', hI_sL', hR_sL', hLn_sL', hN_wrF, hLn_wrF, hR_wrF,  ra0, ra1, ra2, ra3, ra4, ra5, ra6, ra7, ra8, ra9, ra10, ra11, ra12, ra13, ra14, ra15, ra16, ra17, ra18, ra19, ra20, ra21, ra22, ra23, ra24, ra25, ra26, ra27, ra28, ra29, ra30, ra31, ra32, ra33, ra34, ra35, ra36, ra37, ra38, ra39, ra40, ra41, ra42, ra43, ra44, la0, la1, la2, la3, la4, la5, la6, la7, la8, la9, la10, la11, la12, la13, la14, la15, la16, la17, la18, la19, la20, la21, la22, la23, la24, la25, la26, la27, la28, la29, la30, la31, la32, la33, la34, la35, la36, la37, la38, la39, la40, la41, la42, la43, la44, k39, e189, cmp]
    refine Mo_counts (full := true) (by omega) hM' hT hLe hP h28 (fun h1 a1 p1 => ?_)
    have hN1 := (Mo_agm a1 hM').1
    have fin := hQ1 c h1 (Agm_sub (fun _ _ => px_st) a1) p1
    simp (disch := omega) only [g195_21, g195_24, GN_nx, GN_rtn, GN_ck, GN_br, GN_cll, ldI_0, ldJ_0, ldR_0, ldI_s, ldJ_s, ldR_s, pI_c, pII_c, pJ_c, pJJ_c, pJI_c, pR_c, pRI_c, pRJ_c, pRR_c, pRII_c, pRIJ_c, pRIR_c, pCopy_c, pIe_c, pJe_c, pRe_c, pE_c, p1_i, p1_r, p11_ir, pA_0, pA_1, pA_2, pA_3, pA_4, pA_5, st1_0, st1_i, st1_r, st1_n, st1_u, st1_j, st1_s, st2_0, st2_i, st2_r, st2_n, st2_u, st2_j, st2_s, List.length_cons, List.length_nil, Nat.reduceAdd, Nat.reduceLT, Nat.reduceLeDiff, Nat.reduceEqDiff, Nat.zero_add, true_and, and_true, true_implies, not_true_eq_false, not_false_eq_true, false_implies, Option.toList_some, Option.toList_none, arr, inb, List.cons_append, List.nil_append, rv_some, rv_none, nlt_t, nlt_f, nle_t, nle_f, neq_f, ix_cl, ix_nn, ix_lt, cmp_le, cmp_lt, cmp_eq, cmp_lt0, cmp_ge0, cmp_eq0, cmp_gt0, cmp_le0, nI_mul, nI_add, nm1_ne, nm1_ne', one01, zero01, b2i_0, b2i_1, b2i_01, cmp_eq1, true_or, or_true, false_or, or_false, neq_t, hN_sI, hLn_sI, hR_sI, hL_sI, hI_sI, hN_sA, hLn_sA, hR_sA, hL_sA, hI_sA, hN_wI, hLn_wI, hR_wI, hL_wI, hI_wI, false_and, and_false, if_true, if_false, hN_fA, hLn_fA, hR_fA, hN_wrS, hLn_wrS, hR_wrS, hL_wrS, wS_day, wS_keeps, wS_brs, wS_first, wS_knows, wS_purse, wS_till, wS_valid, wS_kept, sS_day, sS_keeps, sS_brs, sS_first, sS_knows, sS_purse, sS_till, sS_valid, sS_kept, wrS_wrS, day_mk, knows_mk, purse_mk, till_mk, valid_mk, kept_mk, keeps_mk, brs_mk, first_mk, hN_wrU, hLn_wrU, hR_wrU, hL_wrU, wU_19, wU_20, sU_19, sU_20, upd_same, upd_upd, hN_wrR, hLn_wrR, hR_wrR, hL_wrR, bI_0, bI_01', bI_t1, eq_self, Bool.true_eq_false, Bool.false_eq_true, hN_wrC, hLn_wrC, hR_wrC, hL_wrC, lay_174, lay_175, lay_176, lay_177, lay_178, lay_179, lay_180, lay_181, lay_182, lay_183, lay_184, lay_185, lay_186, lay_187, lay_188, lay_189, lay_190, lay_191, lay_192, lay_193, lay_194, lay_195, lay_196, lay_197, lay_198, lay_199, lay_200, lay_201, lay_202, lay_203, lay_204, lay_205, lay_206, lay_207, lay_208, lay_209, lay_210, lay_211, lay_212, lay_213, lay_214, lay_215, lay_216, lay_217, lay_218, lay_219, hN_wrO, hLn_wrO, hR_wrO, hN_wrL, hLn_wrL, hR_wrL, hN_sL', hI_sL', hR_sL', hLn_sL', hN_wrF, hLn_wrF, hR_wrF,  show bI (!true) = nI 0 from rfl]
    exact fin
  · obtain rfl : lc = 0 := by omega
    simp (disch := omega) only [g195_0, g195_1, g195_2, g195_5, g195_6, g195_9, g195_10, g195_13, g195_14, g195_17, g195_18, GN_nx, GN_rtn, GN_ck, GN_br, GN_cll, ldI_0, ldJ_0, ldR_0, ldI_s, ldJ_s, ldR_s, pI_c, pII_c, pJ_c, pJJ_c, pJI_c, pR_c, pRI_c, pRJ_c, pRR_c, pRII_c, pRIJ_c, pRIR_c, pCopy_c, pIe_c, pJe_c, pRe_c, pE_c, p1_i, p1_r, p11_ir, pA_0, pA_1, pA_2, pA_3, pA_4, pA_5, st1_0, st1_i, st1_r, st1_n, st1_u, st1_j, st1_s, st2_0, st2_i, st2_r, st2_n, st2_u, st2_j, st2_s, List.length_cons, List.length_nil, Nat.reduceAdd, Nat.reduceLT, Nat.reduceLeDiff, Nat.reduceEqDiff, Nat.zero_add, true_and, and_true, true_implies, not_true_eq_false, not_false_eq_true, false_implies, Option.toList_some, Option.toList_none, arr, inb, List.cons_append, List.nil_append, rv_some, rv_none, nlt_t, nlt_f, nle_t, nle_f, neq_f, ix_cl, ix_nn, ix_lt, cmp_le, cmp_lt, cmp_eq, cmp_lt0, cmp_ge0, cmp_eq0, cmp_gt0, cmp_le0, nI_mul, nI_add, nm1_ne, nm1_ne', one01, zero01, b2i_0, b2i_1, b2i_01, cmp_eq1, true_or, or_true, false_or, or_false, neq_t, hN_sI, hLn_sI, hR_sI, hL_sI, hI_sI, hN_sA, hLn_sA, hR_sA, hL_sA, hI_sA, hN_wI, hLn_wI, hR_wI, hL_wI, hI_wI, false_and, and_false, if_true, if_false, hN_fA, hLn_fA, hR_fA, hN_wrS, hLn_wrS, hR_wrS, hL_wrS, wS_day, wS_keeps, wS_brs, wS_first, wS_knows, wS_purse, wS_till, wS_valid, wS_kept, sS_day, sS_keeps, sS_brs, sS_first, sS_knows, sS_purse, sS_till, sS_valid, sS_kept, wrS_wrS, day_mk, knows_mk, purse_mk, till_mk, valid_mk, kept_mk, keeps_mk, brs_mk, first_mk, hN_wrU, hLn_wrU, hR_wrU, hL_wrU, wU_19, wU_20, sU_19, sU_20, upd_same, upd_upd, hN_wrR, hLn_wrR, hR_wrR, hL_wrR, bI_0, bI_01', bI_t1, eq_self, Bool.true_eq_false, Bool.false_eq_true, hN_wrC, hLn_wrC, hR_wrC, hL_wrC, lay_174, lay_175, lay_176, lay_177, lay_178, lay_179, lay_180, lay_181, lay_182, lay_183, lay_184, lay_185, lay_186, lay_187, lay_188, lay_189, lay_190, lay_191, lay_192, lay_193, lay_194, lay_195, lay_196, lay_197, lay_198, lay_199, lay_200, lay_201, lay_202, lay_203, lay_204, lay_205, lay_206, lay_207, lay_208, lay_209, lay_210, lay_211, lay_212, lay_213, lay_214, lay_215, lay_216, lay_217, lay_218, lay_219, hN_wrO, hLn_wrO, hR_wrO, hN_wrL, hLn_wrL, hR_wrL, hN_sL', hI_sL', hR_sL', hLn_sL', hN_wrF, hLn_wrF, hR_wrF,  ra0, ra1, ra2, ra3, ra4, ra5, ra6, ra7, ra8, ra9, ra10, ra11, ra12, ra13, ra14, ra15, ra16, ra17, ra18, ra19, ra20, ra21, ra22, ra23, ra24, ra25, ra26, ra27, ra28, ra29, ra30, ra31, ra32, ra33, ra34, ra35, ra36, ra37, ra38, ra39, ra40, ra41, ra42, ra43, ra44, la0, la1, la2, la3, la4, la5, la6, la7, la8, la9, la10, la11, la12, la13, la14, la15, la16, la17, la18, la19, la20, la21, la22, la23, la24, la25, la26, la27, la28, la29, la30, la31, la32, la33, la34, la35, la36, la37, la38, la39, la40, la41, la42, la43, la44, k39, e189]
    refine Mo_counts (full := false) (by omega) hM' hT hLe hP h28 (fun h1 a1 p1 => ?_)
    have p1 := hs1 h1 p1
    have hM1 := Mo_agm a1 hM'
    have hM1' := hM1
    have hN1 := hM1.1
    have hT1 := px_T a1 hT
    have hK1 := Kx_px a1 hK
    have k39 := hK1.1.1
    simp (disch := omega) only [g195_21, g195_25, g195_26, g195_27, g195_29, GN_nx, GN_rtn, GN_ck, GN_br, GN_cll, ldI_0, ldJ_0, ldR_0, ldI_s, ldJ_s, ldR_s, pI_c, pII_c, pJ_c, pJJ_c, pJI_c, pR_c, pRI_c, pRJ_c, pRR_c, pRII_c, pRIJ_c, pRIR_c, pCopy_c, pIe_c, pJe_c, pRe_c, pE_c, p1_i, p1_r, p11_ir, pA_0, pA_1, pA_2, pA_3, pA_4, pA_5, st1_0, st1_i, st1_r, st1_n, st1_u, st1_j, st1_s, st2_0, st2_i, st2_r, st2_n, st2_u, st2_j, st2_s, List.length_cons, List.length_nil, Nat.reduceAdd, Nat.reduceLT, Nat.reduceLeDiff, Nat.reduceEqDiff, Nat.zero_add, true_and, and_true, true_implies, not_true_eq_false, not_false_eq_true, false_implies, Option.toList_some, Option.toList_none, arr, inb, List.cons_append, List.nil_append, rv_some, rv_none, nlt_t, nlt_f, nle_t, nle_f, neq_f, ix_cl, ix_nn, ix_lt, cmp_le, cmp_lt, cmp_eq, cmp_lt0, cmp_ge0, cmp_eq0, cmp_gt0, cmp_le0, nI_mul, nI_add, nm1_ne, nm1_ne', one01, zero01, b2i_0, b2i_1, b2i_01, cmp_eq1, true_or, or_true, false_or, or_false, neq_t, hN_sI, hLn_sI, hR_sI, hL_sI, hI_sI, hN_sA, hLn_sA, hR_sA, hL_sA, hI_sA, hN_wI, hLn_wI, hR_wI, hL_wI, hI_wI, false_and, and_false, if_true, if_false, hN_fA, hLn_fA, hR_fA, hN_wrS, hLn_wrS, hR_wrS, hL_wrS, wS_day, wS_keeps, wS_brs, wS_first, wS_knows, wS_purse, wS_till, wS_valid, wS_kept, sS_day, sS_keeps, sS_brs, sS_first, sS_knows, sS_purse, sS_till, sS_valid, sS_kept, wrS_wrS, day_mk, knows_mk, purse_mk, till_mk, valid_mk, kept_mk, keeps_mk, brs_mk, first_mk, hN_wrU, hLn_wrU, hR_wrU, hL_wrU, wU_19, wU_20, sU_19, sU_20, upd_same, upd_upd, hN_wrR, hLn_wrR, hR_wrR, hL_wrR, bI_0, bI_01', bI_t1, eq_self, Bool.true_eq_false, Bool.false_eq_true, hN_wrC, hLn_wrC, hR_wrC, hL_wrC, lay_174, lay_175, lay_176, lay_177, lay_178, lay_179, lay_180, lay_181, lay_182, lay_183, lay_184, lay_185, lay_186, lay_187, lay_188, lay_189, lay_190, lay_191, lay_192, lay_193, lay_194, lay_195, lay_196, lay_197, lay_198, lay_199, lay_200, lay_201, lay_202, lay_203, lay_204, lay_205, lay_206, lay_207, lay_208, lay_209, lay_210, lay_211, lay_212, lay_213, lay_214, lay_215, lay_216, lay_217, lay_218, lay_219, hN_wrO, hLn_wrO, hR_wrO, hN_wrL, hLn_wrL, hR_wrL, hN_sL', hI_sL', hR_sL', hLn_sL', hN_wrF, hLn_wrF, hR_wrF,  show bI (!false) = nI 1 from rfl]
    refine Mo_number (most := 99) (by omega) hM1' hT1 hLe (by omega) p1 (fun h2 v a2 p2 q2 => ?_)
    have hM2 := Mo_agm a2 hM1'
    have e39 : hI h2 174 39 = nI ik := (Agm_I a2 (by unfold pxX; omega)).trans k39
    obtain ⟨⟨ch1, ch2⟩, ch3⟩ := sto_chain (b := b) (L := L) (K := K) (s1 := s1) _ rfl
    have hq := fun h' ag px => hQ2 c h' (Agm_trans (Agm_sub (fun _ _ => px_st) a1) (Agm_sub (fun _ _ => st_191) ag)) (by rw [← ch1, ← ch2]; exact px)
    rw [← ch1] at hq
    generalize sqI (true, s1) (nmS b L (nI 99)) = r1 at *
    have h8 := Px_8 p2
    cases hb : r1.1 with
    | false =>
      obtain ⟨j, hj, hj7, e8⟩ := h8.2 hb
      have fin := hq _ (Agm_sub (fun _ _ z => Or.inl z) a2) p2 (fun z => by
        rw [hb] at z
        cases z)
      obtain ⟨xN, ⟨ra0, ra1, ra2, ra3, ra4, ra5, ra6, ra7, ra8, ra9, ra10, ra11, ra12, ra13, ra14, ra15, ra16, ra17, ra18, ra19, ra20, ra21, ra22, ra23, ra24, ra25, ra26, ra27, ra28, ra29, ra30, ra31, ra32, ra33, ra34, ra35, ra36, ra37, ra38, ra39, ra40, ra41, ra42, ra43, ra44⟩, ⟨la0, la1, la2, la3, la4, la5, la6, la7, la8, la9, la10, la11, la12, la13, la14, la15, la16, la17, la18, la19, la20, la21, la22, la23, la24, la25, la26, la27, la28, la29, la30, la31, la32, la33, la34, la35, la36, la37, la38, la39, la40, la41, la42, la43, la44⟩⟩ := hM2
      simp (disch := omega) only [g195_32, g195_33, g195_34, g195_37, g195_50, GN_nx, GN_rtn, GN_ck, GN_br, GN_cll, ldI_0, ldJ_0, ldR_0, ldI_s, ldJ_s, ldR_s, pI_c, pII_c, pJ_c, pJJ_c, pJI_c, pR_c, pRI_c, pRJ_c, pRR_c, pRII_c, pRIJ_c, pRIR_c, pCopy_c, pIe_c, pJe_c, pRe_c, pE_c, p1_i, p1_r, p11_ir, pA_0, pA_1, pA_2, pA_3, pA_4, pA_5, st1_0, st1_i, st1_r, st1_n, st1_u, st1_j, st1_s, st2_0, st2_i, st2_r, st2_n, st2_u, st2_j, st2_s, List.length_cons, List.length_nil, Nat.reduceAdd, Nat.reduceLT, Nat.reduceLeDiff, Nat.reduceEqDiff, Nat.zero_add, true_and, and_true, true_implies, not_true_eq_false, not_false_eq_true, false_implies, Option.toList_some, Option.toList_none, arr, inb, List.cons_append, List.nil_append, rv_some, rv_none, nlt_t, nlt_f, nle_t, nle_f, neq_f, ix_cl, ix_nn, ix_lt, cmp_le, cmp_lt, cmp_eq, cmp_lt0, cmp_ge0, cmp_eq0, cmp_gt0, cmp_le0, nI_mul, nI_add, nm1_ne, nm1_ne', one01, zero01, b2i_0, b2i_1, b2i_01, cmp_eq1, true_or, or_true, false_or, or_false, neq_t, hN_sI, hLn_sI, hR_sI, hL_sI, hI_sI, hN_sA, hLn_sA, hR_sA, hL_sA, hI_sA, hN_wI, hLn_wI, hR_wI, hL_wI, hI_wI, false_and, and_false, if_true, if_false, hN_fA, hLn_fA, hR_fA, hN_wrS, hLn_wrS, hR_wrS, hL_wrS, wS_day, wS_keeps, wS_brs, wS_first, wS_knows, wS_purse, wS_till, wS_valid, wS_kept, sS_day, sS_keeps, sS_brs, sS_first, sS_knows, sS_purse, sS_till, sS_valid, sS_kept, wrS_wrS, day_mk, knows_mk, purse_mk, till_mk, valid_mk, kept_mk, keeps_mk, brs_mk, first_mk, hN_wrU, hLn_wrU, hR_wrU, hL_wrU, wU_19, wU_20, sU_19, sU_20, upd_same, upd_upd, hN_wrR, hLn_wrR, hR_wrR, hL_wrR, bI_0, bI_01', bI_t1, eq_self, Bool.true_eq_false, Bool.false_eq_true, hN_wrC, hLn_wrC, hR_wrC, hL_wrC, lay_174, lay_175, lay_176, lay_177, lay_178, lay_179, lay_180, lay_181, lay_182, lay_183, lay_184, lay_185, lay_186, lay_187, lay_188, lay_189, lay_190, lay_191, lay_192, lay_193, lay_194, lay_195, lay_196, lay_197, lay_198, lay_199, lay_200, lay_201, lay_202, lay_203, lay_204, lay_205, lay_206, lay_207, lay_208, lay_209, lay_210, lay_211, lay_212, lay_213, lay_214, lay_215, lay_216, lay_217, lay_218, lay_219, hN_wrO, hLn_wrO, hR_wrO, hN_wrL, hLn_wrL, hR_wrL, hN_sL', hI_sL', hR_sL', hLn_sL', hN_wrF, hLn_wrF, hR_wrF,  ra0, ra1, ra2, ra3, ra4, ra5, ra6, ra7, ra8, ra9, ra10, ra11, ra12, ra13, ra14, ra15, ra16, ra17, ra18, ra19, ra20, ra21, ra22, ra23, ra24, ra25, ra26, ra27, ra28, ra29, ra30, ra31, ra32, ra33, ra34, ra35, ra36, ra37, ra38, ra39, ra40, ra41, ra42, ra43, ra44, la0, la1, la2, la3, la4, la5, la6, la7, la8, la9, la10, la11, la12, la13, la14, la15, la16, la17, la18, la19, la20, la21, la22, la23, la24, la25, la26, la27, la28, la29, la30, la31, la32, la33, la34, la35, la36, la37, la38, la39, la40, la41, la42, la43, la44, e8]
      exact fin
    | true =>
      have e8 := h8.1 hb
      have g2 : Agm bkX h2 (sI h2 191 ik v) := Bk_sI (by omega) (by omega)
      have ag : Agm (scX ik) h1 (sI h2 191 ik v) := Agm_trans (Agm_sub (fun _ _ z => Or.inl z) a2) (Agm_sI (Or.inr ⟨rfl, rfl⟩))
      have fin := hq _ ag (Px_bk g2 p2) (fun _ => by
        rw [ch3 hb, ← q2 hb]
        exact Kx_stock hK1 ag (by rw [hI_sI, if_pos ⟨rfl, rfl⟩]))
      obtain ⟨xN, ⟨ra0, ra1, ra2, ra3, ra4, ra5, ra6, ra7, ra8, ra9, ra10, ra11, ra12, ra13, ra14, ra15, ra16, ra17, ra18, ra19, ra20, ra21, ra22, ra23, ra24, ra25, ra26, ra27, ra28, ra29, ra30, ra31, ra32, ra33, ra34, ra35, ra36, ra37, ra38, ra39, ra40, ra41, ra42, ra43, ra44⟩, ⟨la0, la1, la2, la3, la4, la5, la6, la7, la8, la9, la10, la11, la12, la13, la14, la15, la16, la17, la18, la19, la20, la21, la22, la23, la24, la25, la26, la27, la28, la29, la30, la31, la32, la33, la34, la35, la36, la37, la38, la39, la40, la41, la42, la43, la44⟩⟩ := hM2
      simp (disch := omega) only [g195_32, g195_33, g195_34, g195_37, g195_40, g195_41, g195_44, g195_45, g195_48, g195_49, g195_50, GN_nx, GN_rtn, GN_ck, GN_br, GN_cll, ldI_0, ldJ_0, ldR_0, ldI_s, ldJ_s, ldR_s, pI_c, pII_c, pJ_c, pJJ_c, pJI_c, pR_c, pRI_c, pRJ_c, pRR_c, pRII_c, pRIJ_c, pRIR_c, pCopy_c, pIe_c, pJe_c, pRe_c, pE_c, p1_i, p1_r, p11_ir, pA_0, pA_1, pA_2, pA_3, pA_4, pA_5, st1_0, st1_i, st1_r, st1_n, st1_u, st1_j, st1_s, st2_0, st2_i, st2_r, st2_n, st2_u, st2_j, st2_s, List.length_cons, List.length_nil, Nat.reduceAdd, Nat.reduceLT, Nat.reduceLeDiff, Nat.reduceEqDiff, Nat.zero_add, true_and, and_true, true_implies, not_true_eq_false, not_false_eq_true, false_implies, Option.toList_some, Option.toList_none, arr, inb, List.cons_append, List.nil_append, rv_some, rv_none, nlt_t, nlt_f, nle_t, nle_f, neq_f, ix_cl, ix_nn, ix_lt, cmp_le, cmp_lt, cmp_eq, cmp_lt0, cmp_ge0, cmp_eq0, cmp_gt0, cmp_le0, nI_mul, nI_add, nm1_ne, nm1_ne', one01, zero01, b2i_0, b2i_1, b2i_01, cmp_eq1, true_or, or_true, false_or, or_false, neq_t, hN_sI, hLn_sI, hR_sI, hL_sI, hI_sI, hN_sA, hLn_sA, hR_sA, hL_sA, hI_sA, hN_wI, hLn_wI, hR_wI, hL_wI, hI_wI, false_and, and_false, if_true, if_false, hN_fA, hLn_fA, hR_fA, hN_wrS, hLn_wrS, hR_wrS, hL_wrS, wS_day, wS_keeps, wS_brs, wS_first, wS_knows, wS_purse, wS_till, wS_valid, wS_kept, sS_day, sS_keeps, sS_brs, sS_first, sS_knows, sS_purse, sS_till, sS_valid, sS_kept, wrS_wrS, day_mk, knows_mk, purse_mk, till_mk, valid_mk, kept_mk, keeps_mk, brs_mk, first_mk, hN_wrU, hLn_wrU, hR_wrU, hL_wrU, wU_19, wU_20, sU_19, sU_20, upd_same, upd_upd, hN_wrR, hLn_wrR, hR_wrR, hL_wrR, bI_0, bI_01', bI_t1, eq_self, Bool.true_eq_false, Bool.false_eq_true, hN_wrC, hLn_wrC, hR_wrC, hL_wrC, lay_174, lay_175, lay_176, lay_177, lay_178, lay_179, lay_180, lay_181, lay_182, lay_183, lay_184, lay_185, lay_186, lay_187, lay_188, lay_189, lay_190, lay_191, lay_192, lay_193, lay_194, lay_195, lay_196, lay_197, lay_198, lay_199, lay_200, lay_201, lay_202, lay_203, lay_204, lay_205, lay_206, lay_207, lay_208, lay_209, lay_210, lay_211, lay_212, lay_213, lay_214, lay_215, lay_216, lay_217, lay_218, lay_219, hN_wrO, hLn_wrO, hR_wrO, hN_wrL, hLn_wrL, hR_wrL, hN_sL', hI_sL', hR_sL', hLn_sL', hN_wrF, hLn_wrF, hR_wrF,  ra0, ra1, ra2, ra3, ra4, ra5, ra6, ra7, ra8, ra9, ra10, ra11, ra12, ra13, ra14, ra15, ra16, ra17, ra18, ra19, ra20, ra21, ra22, ra23, ra24, ra25, ra26, ra27, ra28, ra29, ra30, ra31, ra32, ra33, ra34, ra35, ra36, ra37, ra38, ra39, ra40, ra41, ra42, ra43, ra44, la0, la1, la2, la3, la4, la5, la6, la7, la8, la9, la10, la11, la12, la13, la14, la15, la16, la17, la18, la19, la20, la21, la22, la23, la24, la25, la26, la27, la28, la29, la30, la31, la32, la33, la34, la35, la36, la37, la38, la39, la40, la41, la42, la43, la44, e8, e39]
      exact fin
end MO999
