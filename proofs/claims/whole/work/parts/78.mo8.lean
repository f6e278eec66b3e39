/-! what stays true as days go by -/
/-- a set of the first n -/
def Kn (n : Nat) (x : Int32) : Prop := ∃ k, k < 2 ^ n ∧ x = nI k
theorem Kn_0 {n : Nat} : Kn n (nI 0) := ⟨0, Nat.two_pow_pos n, rfl⟩
theorem Kn_or {n : Nat} {x y : Int32} (hx : Kn n x) (hy : Kn n y) : Kn n (x ||| y) := by
  obtain ⟨a, ha, rfl⟩ := hx
  obtain ⟨b, hb, rfl⟩ := hy
  exact ⟨a ||| b, Nat.or_lt_two_pow ha hb, nI_or a b⟩
theorem Kn_and {n : Nat} {x y : Int32} (hx : Kn n x) : Kn n (x &&& y) := by
  obtain ⟨a, ha, rfl⟩ := hx
  refine ⟨a &&& y.toBitVec.toNat, Nat.lt_of_le_of_lt Nat.and_le_left ha, ?_⟩
  rw [← nI_and, ← nI_self]
theorem Kn_bt {n f : Nat} (hf : f < n) (hn : n ≤ 12) : Kn n (bt (nI f)) := ⟨2 ^ f, Nat.pow_lt_pow_of_lt (by omega) hf, bt_n (by omega)⟩
theorem Kn_Sm {n : Nat} {x : Int32} (hn : n ≤ 12) (hx : Kn n x) : Sm x := by
  obtain ⟨a, ha, rfl⟩ := hx
  exact ⟨a, Nat.lt_of_lt_of_le ha (Nat.pow_le_pow_right (n := 2) (by omega) hn : 2 ^ n ≤ 2 ^ 12), rfl⟩
theorem nI_bit {a f : Nat} (hf : f < 12) : hasB (nI a) (nI f) ↔ a.testBit f = true := by
  rw [hasB_bit (by omega)]
  show (BitVec.ofNat 32 a).getLsbD f = true ↔ _
  rw [BitVec.getLsbD_ofNat]
  simp
  omega
theorem Kn_bit {n f : Nat} {x : Int32} (hx : Kn n x) (hf : f < 12) (hn : n ≤ f) : ¬ hasB x (nI f) := by
  obtain ⟨a, ha, rfl⟩ := hx
  rw [nI_bit hf]
  have : a < 2 ^ f := Nat.lt_of_lt_of_le ha (Nat.pow_le_pow_right (by omega) hn)
  rw [Nat.testBit_lt_two_pow this]
  simp
theorem Kn_ext {n : Nat} {x y : Int32} (hn : n ≤ 12) (hx : Kn n x) (hy : Kn n y) (e : ∀ f, f < n → (hasB x (nI f) ↔ hasB y (nI f))) : x = y := by
  obtain ⟨a, ha, rfl⟩ := hx
  obtain ⟨b, hb, rfl⟩ := hy
  congr 1
  apply Nat.eq_of_testBit_eq
  intro j
  by_cases c : j < n
  · have := e j c
    rw [nI_bit (by omega), nI_bit (by omega)] at this
    cases h1 : a.testBit j <;> cases h2 : b.testBit j <;> simp_all
  · rw [Nat.testBit_lt_two_pow (Nat.lt_of_lt_of_le ha (Nat.pow_le_pow_right (by omega) (by omega))), Nat.testBit_lt_two_pow (Nat.lt_of_lt_of_le hb (Nat.pow_le_pow_right (by omega) (by omega)))]
theorem hasB_0 {f : Nat} (hf : f < 12) : ¬ hasB (nI 0) (nI f) := by
  rw [nI_bit hf]
  simp
theorem hasB_and {x y : Int32} {f : Nat} (hf : f < 12) : hasB (x &&& y) (nI f) ↔ hasB x (nI f) ∧ hasB y (nI f) := by
  rw [hasB_bit (by omega), hasB_bit (by omega), hasB_bit (by omega)]
  show (x.toBitVec &&& y.toBitVec).getLsbD f = true ↔ _
  rw [BitVec.getLsbD_and]
  simp
theorem fo_bits {P : Nat → Prop} [DecidablePred P] {f : Nat} (hf : f < 12) : ∀ (k r : Nat) (a : Int32), r + k ≤ 12 → (hasB (foN (fun j acc => acc ||| (if P j then bt (nI j) else nI 0)) r k a) (nI f) ↔ hasB a (nI f) ∨ (r ≤ f ∧ f < r + k ∧ P f))
  | 0, r, a, _ => ⟨fun z => Or.inl z, fun z => z.elim id (fun y => absurd y.2.1 (by omega))⟩
  | k + 1, r, a, hr => by
    have ih := fo_bits (P := P) hf k (r + 1) (a ||| (if P r then bt (nI r) else nI 0)) (by omega)
    refine ih.trans ?_
    by_cases c : P r
    · rw [if_pos c, hasB_or hf (by omega)]
      constructor
      · rintro ((z | rfl) | ⟨z1, z2, z3⟩)
        · exact Or.inl z
        · exact Or.inr ⟨by omega, by omega, c⟩
        · exact Or.inr ⟨by omega, by omega, z3⟩
      · rintro (z | ⟨z1, z2, z3⟩)
        · exact Or.inl (Or.inl z)
        · by_cases e : f = r
          · exact Or.inl (Or.inr e)
          · exact Or.inr ⟨by omega, by omega, z3⟩
    · rw [if_neg c, or_no]
      constructor
      · rintro (z | ⟨z1, z2, z3⟩)
        · exact Or.inl z
        · exact Or.inr ⟨by omega, by omega, z3⟩
      · rintro (z | ⟨z1, z2, z3⟩)
        · exact Or.inl z
        · have : r ≠ f := fun y => c (by rw [y]; exact z3)
          exact Or.inr ⟨by omega, by omega, z3⟩
theorem Kn_fo {P : Nat → Prop} [DecidablePred P] {n : Nat} (hn : n ≤ 12) : Kn n (foN (fun j acc => acc ||| (if P j then bt (nI j) else nI 0)) 0 n (nI 0)) := foN_lt (P := Kn n) (n := n) (fun f a hf ha => by
  show Kn n (a ||| (if P f then bt (nI f) else nI 0))
  split
  · exact Kn_or ha (Kn_bt hf hn)
  · exact Kn_or ha Kn_0) n 0 (nI 0) (by omega) Kn_0
theorem or_all {n : Nat} {x : Int32} (hn : n ≤ 12) (hx : Kn n x) : foN (fun j acc => acc ||| (if hasB x (nI j) then bt (nI j) else nI 0)) 0 n (nI 0) = x := by
  refine Kn_ext hn (Kn_fo (P := fun j => hasB x (nI j)) hn) hx (fun f hf => ?_)
  refine (fo_bits (P := fun j => hasB x (nI j)) (by omega) n 0 (nI 0) (by omega)).trans ?_
  constructor
  · rintro (z | z)
    · exact absurd z (hasB_0 (by omega))
    · exact z.2.2
  · exact fun z => Or.inr ⟨by omega, by omega, z⟩
/-- a Capital as it is told: its bounds -/
def WC (C : PC) : Prop := (C.nf ≤ 12 ∧ C.nr ≤ 16 ∧ C.np ≤ 8 ∧ C.nm ≤ 16) ∧ (∀ f, f < C.nf → ∃ k, k ≤ 99 ∧ C.w f = nI k) ∧ (∀ i, i < C.np → ∃ k, k ≤ 9 ∧ C.str i = nI k) ∧ (∃ k, k ≤ 99 ∧ C.stock = nI k) ∧ (∀ r, r < C.nr → sml (C.g r) C.nf) ∧ (∀ r, r < C.nr → ∃ k, 0 < k ∧ k < 2 ^ C.nf ∧ C.fr r = nI k) ∧ (∀ m, m < C.nm → sml (C.m1 m) C.np) ∧ ∀ m, m < C.nm → sml (C.m2 m) C.np
/-- no licence of those and for those that there are not -/
def TEA (C : PC) (s : PS) : Prop := ∀ i f, i < 8 → f < 12 → (C.np ≤ i ∨ C.nf ≤ f) → s.till (i * 12 + f) = -1
def SI (C : PC) (D m : Nat) (s : PS) : Prop := s.day = nI D ∧ D < 4096 ∧ KB s ∧ TEA C s ∧ (∀ i, i < 8 → s.valid i = fvM s.till s.day i) ∧ (∃ b, b ≤ m ∧ s.brs = nI b) ∧ (∀ i, i < 8 → Kn C.nf (s.knows i)) ∧ ∀ i, C.np ≤ i → i < 8 → s.knows i = nI 0
theorem m1_lt {D : Nat} (hD : D < 4096) : (-1 : Int32) < nI D := Int32.lt_iff_toInt_lt.mpr (by
  rw [nI_toInt (by omega), show (-1 : Int32).toInt = -1 by decide]
  omega)
theorem fv_none {till : Nat → Int32} {day : Int32} {i : Nat} (e : ∀ f, f < 12 → till (i * 12 + f) < day) : fvM till day i = nI 0 := fo_id 12 0 _ (fun j a _ hj => by
  unfold fvF
  exact if_pos (e j (by omega)))
section SIP
variable {C : PC} {s : PS} {D m : Nat}
theorem SI_VOK (hn : C.nf ≤ 12) (hp : C.np ≤ 8) (hs : SI C D m s) : VOK C s := by
  obtain ⟨h0, h1, h2, h3, h4, h5, h6⟩ := hs
  refine ⟨fun i hi => ?_, fun i hi1 hi2 => ?_⟩
  · rw [h4 i (by omega), mv_fv hn h0 h1 (fun f hf1 hf2 => h3 i f (by omega) hf2 (Or.inr hf1))]
  · rw [h4 i hi2]
    refine fv_none (fun f hf => ?_)
    rw [h3 i f hi2 hf (Or.inl hi1), h0]
    exact m1_lt h1
theorem SI_IV {i : Nat} (hi : i < 8) (hs : SI C D m s) : IV D i m s := by
  obtain ⟨h0, h1, h2, h3, h4, h5, h6⟩ := hs
  exact ⟨h0, h1, h2, VLa_fv (h4 i hi), h5⟩
theorem SI_up {m' : Nat} (h : m ≤ m') (hs : SI C D m s) : SI C D m' s := by
  obtain ⟨h0, h1, h2, h3, h4, ⟨b, hb, eb⟩, h6⟩ := hs
  exact ⟨h0, h1, h2, h3, h4, ⟨b, by omega, eb⟩, h6⟩
theorem SI_infer {i g r : Nat} (hn : C.nf ≤ 12) (hg : g < C.nf) (hi : i < C.np) (hs : SI C D m s) : SI C D (m + 1) (inferP s i g r) := by
  obtain ⟨i0, i1, i2, i3, i4, i5⟩ := infer_same (s := s) (i := i) (g := g) (r := r)
  obtain ⟨h0, h1, h2, h3, h4, ⟨b, hb, eb⟩, h6, h7⟩ := hs
  refine ⟨i0.trans h0, h1, KB_infer h2, ?_, ?_, ?_, fun j hj => ?_, fun j hj1 hj2 => ?_⟩
  · unfold TEA
    rw [i2]
    exact h3
  · rw [i0, i2, i3]
    exact h4
  · rcases i5 with z | z
    · exact ⟨b, by omega, z.trans eb⟩
    · exact ⟨b + 1, by omega, by rw [z, eb, nI_add]⟩
  · rw [i1, upd_a]
    split
    · rename_i c
      rw [← c]
      exact Kn_or (h6 j hj) (Kn_bt hg hn)
    · exact h6 j hj
  · rw [i1, upd_a, if_neg (by omega)]
    exact h7 j hj1 hj2
theorem SI_inrF {i r : Nat} (hn : C.nf ≤ 12) (hg : sml (C.g r) C.nf) (hi : i < C.np) (hs : SI C D m s) : SI C D (m + 1) (inrF C i r s) := by
  unfold inrF
  split
  · exact SI_infer hn hg.1 hi hs
  · exact SI_up (by omega) hs
theorem SI_foN {i : Nat} (hn : C.nf ≤ 12) (hg : ∀ r, r < C.nr → sml (C.g r) C.nf) (hi : i < C.np) : ∀ (k r m : Nat) (s : PS), r + k ≤ C.nr → SI C D m s → SI C D (m + k) (foN (inrF C i) r k s)
  | 0, _, _, _, _, h => h
  | k + 1, r, m, s, hr, h => by
    have := SI_foN hn hg hi k (r + 1) (m + 1) _ (by omega) (SI_inrF hn (hg r (by omega)) hi h)
    rw [show m + (k + 1) = m + 1 + k by omega]
    exact this
theorem SI_inf {i : Nat} (hW : WC C) (hi : i < C.np) : ∀ (q m : Nat) (s : PS), SI C D m s → SI C D (m + 16 * q) (infM C i q s)
  | 0, _, _, h => h
  | q + 1, m, s, h => by
    have h1 : SI C D (m + 16) (inrM C i s) := SI_up (by have := hW.1.2.1; omega) (SI_foN hW.1.1 hW.2.2.2.2.1 hi C.nr 0 m s (by omega) h)
    unfold infM
    split
    · exact SI_up (by omega) h1
    · exact SI_up (by omega) (SI_inf hW hi q _ _ h1)
theorem SI_setK {i : Nat} {x : Int32} (hi : i < C.np) (hx : Kn C.nf x) (hs : SI C D m s) : SI C D m (setKn s i x) := by
  obtain ⟨h0, h1, h2, h3, h4, h5, h6, h7⟩ := hs
  refine ⟨h0, h1, h2, h3, h4, h5, fun j hj => ?_, fun j hj1 hj2 => ?_⟩
  · show Kn C.nf (upd s.knows i x j)
    rw [upd_a]
    split
    · exact hx
    · exact h6 j hj
  · show upd s.knows i x j = nI 0
    rw [upd_a, if_neg (by omega)]
    exact h7 j hj1 hj2
/-- whom he hears at dawn -/
def hear1 (com : Int32) (p : Nat) (t : PS) : PS := setKn t p (t.knows p ||| (com &&& (t.valid p ^^^ -1)))
theorem hear_all {com : Int32} : ∀ (k i : Nat) (t : PS), foN (hear1 com) i k t = (mkS t.day (foN (fun q v => upd v q (v q ||| (com &&& (t.valid q ^^^ -1)))) i k t.knows) t.purse t.till t.valid t.kept t.keeps t.brs t.first)
  | 0, _, _ => rfl
  | k + 1, i, t => hear_all k (i + 1) (hear1 com i t)
theorem inf_oth {i q : Nat} (hq : ¬ q = i) : ∀ (n : Nat) (s : PS), (infM C i n s).knows q = s.knows q
  | 0, _ => rfl
  | n + 1, s => by
    have e1 : (inrM C i s).knows q = s.knows q := foN_pres (v := fun t : PS => t.knows q) (fun r t => by
      show (inrF C i r t).knows q = t.knows q
      unfold inrF
      split
      · rw [infer_same.2.1, upd_a, if_neg hq]
      · rfl) C.nr 0 s
    unfold infM
    split
    · exact e1
    · rw [inf_oth hq n, e1]
theorem inf_valid {i : Nat} : ∀ (n : Nat) (s : PS), (infM C i n s).valid = s.valid
  | 0, _ => rfl
  | n + 1, s => by
    have e1 : (inrM C i s).valid = s.valid := foN_pres (v := PS.valid) (fun r t => by
      show (inrF C i r t).valid = t.valid
      unfold inrF
      split
      · exact infer_same.2.2.2.1
      · rfl) C.nr 0 s
    unfold infM
    split
    · exact e1
    · rw [inf_valid n, e1]
theorem hear_inf {com : Int32} {q i n : Nat} (hq : ¬ q = i) (u : PS) : hear1 com q (infM C i n u) = infM C i n (hear1 com q u) := by
  unfold hear1
  rw [inf_oth hq, inf_valid, inf_set hq]
theorem hears_inf {com : Int32} {i n : Nat} : ∀ (k j : Nat) (u : PS), i < j → foN (hear1 com) j k (infM C i n u) = infM C i n (foN (hear1 com) j k u)
  | 0, _, _, _ => rfl
  | k + 1, j, u, hj => by
    show foN (hear1 com) (j + 1) k (hear1 com j (infM C i n u)) = infM C i n (foN (hear1 com) (j + 1) k (hear1 com j u))
    rw [hear_inf (by omega)]
    exact hears_inf k (j + 1) _ (by omega)
theorem dawn_all {com : Int32} : ∀ (k i : Nat) (t : PS), foN (fun p t => infM C p 12 (hear1 com p t)) i k t = foN (fun q t => infM C q 12 t) i k (foN (hear1 com) i k t)
  | 0, _, _ => rfl
  | k + 1, i, t => by
    show foN (fun p t => infM C p 12 (hear1 com p t)) (i + 1) k (infM C i 12 (hear1 com i t)) = foN (fun q t => infM C q 12 t) (i + 1) k (infM C i 12 (foN (hear1 com) (i + 1) k (hear1 com i t)))
    rw [dawn_all k (i + 1), hears_inf k (i + 1) _ (by omega)]
theorem dawn_eq : foN (fun p t => infM C p 12 (hear1 (comP C s) p t)) 0 C.np s = inferAllP C (hearAllP C s) := by
  rw [dawn_all, hear_all]
  rfl
theorem Kn_com {day : Int32} (hn : C.nf ≤ 12) : Kn C.nf (comM C.fd C.nf day) := foN_lt (P := Kn C.nf) (n := C.nf) (fun f a hf ha => by
  unfold comF
  split
  · exact Kn_or ha (Kn_bt hf hn)
  · exact ha) C.nf 0 (nI 0) (by omega) Kn_0
theorem SI_hear1 {i : Nat} {day : Int32} (hn : C.nf ≤ 12) (hp : C.np ≤ 8) (hi : i < C.np) (hs : SI C D m s) : SI C D m (hear1 (comM C.fd C.nf day) i s) := SI_setK hi (Kn_or (hs.2.2.2.2.2.2.1 i (by omega)) (Kn_and (Kn_com hn))) hs
theorem fo_updF {F : Nat → Int32} : ∀ (k i : Nat) (v : Nat → Int32) (j : Nat), foN (fun i v => upd v i (F i)) i k v j = if i ≤ j ∧ j < i + k then F j else v j
  | 0, i, v, j => by
    rw [if_neg (by omega)]
    rfl
  | k + 1, i, v, j => by
    show foN (fun i v => upd v i (F i)) (i + 1) k (upd v i (F i)) j = _
    rw [fo_updF k (i + 1), upd_a]
    by_cases c : j = i
    · subst c
      rw [if_neg (by omega), if_pos rfl, if_pos (by omega)]
    · rw [if_neg c]
      by_cases c2 : i + 1 ≤ j ∧ j < i + 1 + k
      · rw [if_pos c2, if_pos (by omega)]
      · rw [if_neg c2, if_neg (by omega)]
theorem SI_dawn (hs : SI C D m s) (hD : D + 1 < 4096) : SI C (D + 1) m (dawnP s) := by
  obtain ⟨h0, h1, h2, h3, h4, h5, h6⟩ := hs
  refine ⟨?_, hD, h2, h3, fun i hi => ?_, h5, h6⟩
  · show s.day + nI 1 = _
    rw [h0, nI_add]
  · show foN (fun i v => upd v i (fvM s.till (s.day + nI 1) i)) 0 8 s.valid i = fvM s.till (s.day + nI 1) i
    rw [fo_updF, if_pos (by omega)]
/-- whatever a fold does that keeps what must stay -/
theorem SI_folds {F : Nat → PS → PS} {n c : Nat} (hF : ∀ i m s, i < n → SI C D m s → SI C D (m + c) (F i s)) : ∀ (k i m : Nat) (s : PS), i + k ≤ n → SI C D m s → SI C D (m + c * k) (foN F i k s)
  | 0, _, _, _, _, h => h
  | k + 1, i, m, s, hi, h => by
    have := SI_folds hF k (i + 1) (m + c) _ (by omega) (hF i m s (by omega) h)
    rw [Nat.mul_succ, show m + (c * k + c) = m + c + c * k by omega]
    exact this
theorem SI_dawnAll (hW : WC C) (hs : SI C D m s) : SI C D (m + 192 * C.np) (inferAllP C (hearAllP C s)) := by
  rw [← dawn_eq]
  refine SI_folds (n := C.np) (c := 192) (fun i m t hi ht => ?_) C.np 0 m s (by omega) hs
  exact SI_inf hW hi 12 m _ (SI_hear1 (day := s.day) hW.1.1 hW.1.2.2.1 hi ht)
theorem Kn_told {fresh : Int32} {F : Nat → Int32} (hn : C.nf ≤ 12) (hV : ∀ k, k < C.nf → C.tV (upd F 0 (C.w k)) = nI 0 ∨ C.tV (upd F 0 (C.w k)) = nI 1) : Kn C.nf (foN (toldF C F fresh) 0 C.nf (nI 0)) := foN_lt (P := Kn C.nf) (n := C.nf) (fun f a hf ha => by
  unfold toldF
  split
  · rcases hV f hf with z | z
    · rw [z, show nI 0 <<< (nI f &&& 31) = nI 0 from Int32.zero_shiftLeft]
      exact Kn_or ha Kn_0
    · rw [z]
      exact Kn_or ha (Kn_bt hf hn)
  · exact ha) C.nf 0 (nI 0) (by omega) Kn_0
end SIP
