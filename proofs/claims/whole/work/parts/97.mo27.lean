/-! the reference: why something follows -/
section BYP
variable {C : PC}
/-- two tables of rules that fired agree as far as they go -/
def RwE (a b : Int32 × Nat × (Nat → Int32)) : Prop := a.1 = b.1 ∧ a.2.1 = b.2.1 ∧ ∀ i, i < a.2.1 → a.2.2 i = b.2.2 i
theorem Rw_F {r : Nat} {a b : Int32 × Nat × (Nat → Int32)} (h : RwE a b) : RwE (rowF C r a) (rowF C r b) := by
  obtain ⟨h1, h2, h3⟩ := h
  unfold rowF
  rw [← h1, ← h2]
  split
  · refine ⟨rfl, rfl, fun i hi => ?_⟩
    have hi : i < a.2.1 + 1 := hi
    show upd a.2.2 a.2.1 (nI r) i = upd b.2.2 a.2.1 (nI r) i
    rw [upd_a, upd_a]
    by_cases c : i = a.2.1
    · rw [if_pos c, if_pos c]
    · rw [if_neg c, if_neg c]
      exact h3 i (by omega)
  · exact ⟨h1, h2, h3⟩
theorem Rw_fo {F : Nat → Int32 × Nat × (Nat → Int32) → Int32 × Nat × (Nat → Int32)} (hF : ∀ i a b, RwE a b → RwE (F i a) (F i b)) : ∀ (q i : Nat) (a b : Int32 × Nat × (Nat → Int32)), RwE a b → RwE (foN F i q a) (foN F i q b)
  | 0, _, _, _, h => h
  | q + 1, i, a, b, h => Rw_fo hF q (i + 1) _ _ (hF i a b h)
theorem Rw_rows {k : Int32} {pr pr' : Nat → Int32} : RwE (rowsM C k pr) (rowsM C k pr') := by
  refine Rw_fo (F := rowM C) (fun i a b h => ?_) 12 0 _ _ ⟨rfl, rfl, fun i hi => absurd hi (Nat.not_lt_zero i)⟩
  exact Rw_fo (F := rowF C) (fun i a b h => Rw_F h) C.nr 0 a b h
/-- all that is known: what was told and what the rules gave -/
def GvI (set : Int32) (a : Int32 × Nat × (Nat → Int32)) : Prop := a.1 = set ||| foN (gbF C a.2.2) 0 a.2.1 (nI 0)
theorem Gv_F {set : Int32} {r : Nat} {a : Int32 × Nat × (Nat → Int32)} (hr : r < 2147483648) (h : GvI (C := C) set a) : GvI (C := C) set (rowF C r a) := by
  unfold rowF
  split
  · unfold GvI at h ⊢
    show a.1 ||| bt (C.g r) = set ||| foN (gbF C (upd a.2.2 a.2.1 (nI r))) 0 (a.2.1 + 1) (nI 0)
    rw [fo_snoc, Nat.zero_add]
    have e : foN (gbF C (upd a.2.2 a.2.1 (nI r))) 0 a.2.1 (nI 0) = foN (gbF C a.2.2) 0 a.2.1 (nI 0) := fo_same _ _ _ (fun j x _ hj => by
      unfold gbF
      rw [upd_a, if_neg (by omega)])
    rw [e]
    show _ = set ||| (foN (gbF C a.2.2) 0 a.2.1 (nI 0) ||| bt (C.g (upd a.2.2 a.2.1 (nI r) a.2.1).toNatClampNeg))
    rw [upd_a, if_pos rfl, nI_clamp hr, ← Int32.or_assoc, ← h]
  · exact h
theorem Gv_rows {set : Int32} {pr : Nat → Int32} (hr : C.nr ≤ 16) : GvI (C := C) set (rowsM C set pr) := foN_le (P := GvI (C := C) set) (fun _ s hs => foN_lt (P := GvI (C := C) set) (n := C.nr) (fun r a h ha => Gv_F (by omega) ha) C.nr 0 s (by omega) hs) _ _ _ (by
  show set = set ||| nI 0
  exact Int32.or_zero.symm)
theorem bt_bit32 {j g : Nat} (hj : j < 32) (hg : g < 12) : (bt (nI g)).toBitVec.getLsbD j = decide (j = g) :=
  (by decide +kernel : ∀ j : Fin 32, ∀ g : Fin 12, (bt (nI g.val)).toBitVec.getLsbD j.val = decide (j.val = g.val)) ⟨j, hj⟩ ⟨g, hg⟩
theorem and_bt0 {x : Int32} {k : Nat} (hk : k < 12) : x &&& bt (nI k) = 0 ↔ ¬ hasB x (nI k) := by
  rw [hasB_bit (by omega)]
  constructor
  · intro e z
    have e2 := congrArg (fun z : Int32 => z.toBitVec.getLsbD k) e
    have e3 : (x.toBitVec &&& (bt (nI k)).toBitVec).getLsbD k = (0#32).getLsbD k := e2
    rw [BitVec.getLsbD_and, z, bt_bit32 (by omega) hk] at e3
    simp at e3
  · intro z
    apply Int32.toBitVec_inj.mp
    show x.toBitVec &&& (bt (nI k)).toBitVec = 0#32
    apply BitVec.eq_of_getLsbD_eq
    intro j hj
    rw [BitVec.getLsbD_and, bt_bit32 hj hk]
    by_cases c : j = k
    · rw [c, Bool.eq_false_iff.mpr z]
      simp
    · simp [c]
/-- the rules that are needed, from the last one back -/
def rbF (C : PC) (P : Nat → Int32) (i : Nat) (a : Int32 × Nat) : Int32 × Nat := if hasB a.1 (C.g (P i).toNatClampNeg) then (a.1 ||| C.fr (P i).toNatClampNeg, a.2 ||| 2 ^ i) else a
def rbM (C : PC) (P : Nat → Int32) : Nat → Int32 × Nat → Int32 × Nat
  | 0, a => a
  | i + 1, a => rbM C P i (rbF C P i a)
theorem or_bit {row i j : Nat} : (row ||| 2 ^ i).testBit j = (row.testBit j || decide (i = j)) := by
  rw [Nat.testBit_or, Nat.testBit_two_pow]
theorem bak_rb {P : Nat → Int32} : ∀ (i : Nat) (a : Int32 × Nat) (b : Int32 × (Nat → Int32)), b.1 = a.1 → (∀ j, j < i → b.2 j = P j) → (∀ j, j < i → a.2.testBit j = false) → (∀ n, (∀ j, i ≤ j → j < n → b.2 j = if a.2.testBit j then P j else -1) → i ≤ n → ∀ j, j < n → (bakM C i b).2 j = if (rbM C P i a).2.testBit j then P j else -1)
  | 0, a, b, _, _, _, n, h, _, j, hj => h j (by omega) hj
  | i + 1, a, b, h1, h2, h3, n, h4, h5, j, hj => by
    unfold bakM rbM
    have e2 := h2 i (by omega)
    have hb : bakF C i b = if (b.1 >>> (C.g (b.2 i).toNatClampNeg &&& 31)) &&& nI 1 = 0 then (b.1, upd b.2 i (-1)) else (b.1 ||| C.fr (b.2 i).toNatClampNeg, b.2) := rfl
    rw [e2, h1] at hb
    by_cases c : hasB a.1 (C.g (P i).toNatClampNeg)
    · have c1 : ¬ (a.1 >>> (C.g (P i).toNatClampNeg &&& 31)) &&& nI 1 = 0 := fun z => and_zero.mp z c
      rw [if_neg c1] at hb
      have ha : rbF C P i a = (a.1 ||| C.fr (P i).toNatClampNeg, a.2 ||| 2 ^ i) := if_pos c
      rw [hb, ha]
      refine bak_rb i (a.1 ||| C.fr (P i).toNatClampNeg, a.2 ||| 2 ^ i) (a.1 ||| C.fr (P i).toNatClampNeg, b.2) rfl (fun j hj => h2 j (by omega)) (fun j hj => ?_) n (fun j hj1 hj2 => ?_) (by omega) j hj
      · show (a.2 ||| 2 ^ i).testBit j = false
        rw [or_bit, h3 j (by omega)]
        simp
        omega
      · show b.2 j = if (a.2 ||| 2 ^ i).testBit j then P j else -1
        rw [or_bit]
        by_cases y : i = j
        · rw [decide_eq_true y, Bool.or_true, if_pos rfl, ← y]
          exact e2
        · rw [decide_eq_false y, Bool.or_false]
          exact h4 j (by omega) hj2
    · have c1 : (a.1 >>> (C.g (P i).toNatClampNeg &&& 31)) &&& nI 1 = 0 := and_zero.mpr c
      rw [if_pos c1] at hb
      have ha : rbF C P i a = a := if_neg c
      rw [hb, ha]
      refine bak_rb i a (a.1, upd b.2 i (-1)) rfl (fun j hj => ?_) (fun j hj => h3 j (by omega)) n (fun j hj1 hj2 => ?_) (by omega) j hj
      · show upd b.2 i (-1) j = P j
        rw [upd_a, if_neg (by omega)]
        exact h2 j (by omega)
      · show upd b.2 i (-1) j = if a.2.testBit j then P j else -1
        rw [upd_a]
        by_cases y : j = i
        · rw [if_pos y, y, h3 i (by omega)]
          rfl
        · rw [if_neg y]
          exact h4 j (by omega) hj2
theorem rb_lt {P : Nat → Int32} {n : Nat} : ∀ (i : Nat) (a : Int32 × Nat), i ≤ n → a.2 < 2 ^ n → (rbM C P i a).2 < 2 ^ n
  | 0, _, _, h => h
  | i + 1, a, hi, h => by
    unfold rbM
    refine rb_lt i _ (by omega) ?_
    unfold rbF
    split
    · exact Nat.or_lt_two_pow h (Nat.pow_lt_pow_of_lt (by omega) (by omega))
    · exact h
/-- the k-th of the rules that are needed -/
def scM (P : Nat → Int32) (row : Nat) (k : Int32) : Nat → Nat → Nat → Int32
  | 0, _, _ => -1
  | q + 1, i, c => if row.testBit i then (if nI c = k then P i else scM P row k q (i + 1) (c + 1)) else scM P row k q (i + 1) c
def cnB (row : Nat) : Nat → Nat → Nat
  | 0, _ => 0
  | q + 1, i => (if row.testBit i then 1 else 0) + cnB row q (i + 1)
theorem sc_neg {P : Nat → Int32} {row : Nat} {k : Int32} (hk : k < 0) : ∀ (q i c : Nat), c + q < 100 → scM P row k q i c = -1
  | 0, _, _, _ => rfl
  | q + 1, i, c, h => by
    unfold scM
    have ne : ¬ nI c = k := fun z => by
      rw [← z] at hk
      exact nI_pos (by omega) hk
    rw [if_neg ne, sc_neg hk q _ _ (by omega), sc_neg hk q _ _ (by omega)]
    split <;> rfl
theorem gap_spec {P : Nat → Int32} {row : Nat} : ∀ (q i c : Nat) (arr : Nat → Int32), c ≤ i → i + q < 100 → (∀ j, i ≤ j → j < i + q → arr j = if row.testBit j then P j else -1) → (∀ j, i ≤ j → j < i + q → ¬ P j = -1) → (∀ j, j < c → (foN gapF i q (c, arr)).2 j = arr j) ∧ (foN gapF i q (c, arr)).1 = c + cnB row q i ∧ (∀ k, c ≤ k → k < c + cnB row q i → (foN gapF i q (c, arr)).2 k = scM P row (nI k) q i c) ∧ (∀ k, c + cnB row q i ≤ k → k < 2147483648 → scM P row (nI k) q i c = -1)
  | 0, i, c, arr, _, _, _, _ => ⟨fun _ _ => rfl, rfl, fun k h1 h2 => by
      have h2 : k < c + 0 := h2
      omega, fun _ _ _ => rfl⟩
  | q + 1, i, c, arr, hc, hq, ha, hP => by
    have e0 := ha i (by omega) (by omega)
    have p0 := hP i (by omega) (by omega)
    have hF : foN gapF i (q + 1) (c, arr) = foN gapF (i + 1) q (gapF i (c, arr)) := rfl
    by_cases b : row.testBit i
    · rw [if_pos b] at e0
      have hg : gapF i (c, arr) = (c + 1, upd arr c (arr i)) := if_neg (by
        show ¬ arr i = -1
        rw [e0]
        exact p0)
      rw [hF, hg]
      obtain ⟨g1, g2, g3, g4⟩ := gap_spec q (i + 1) (c + 1) (upd arr c (arr i)) (by omega) (by omega) (fun j h1 h2 => by
        rw [upd_a, if_neg (by omega)]
        exact ha j (by omega) (by omega)) (fun j h1 h2 => hP j (by omega) (by omega))
      have ecn : cnB row (q + 1) i = 1 + cnB row q (i + 1) := by
        rw [cnB, if_pos b]
      rw [ecn]
      refine ⟨fun j hj => ?_, by omega, fun k h1 h2 => ?_, fun k h1 h2 => ?_⟩
      · rw [g1 j (by omega), upd_a, if_neg (by omega)]
      · unfold scM
        rw [if_pos b]
        by_cases y : c = k
        · rw [if_pos (by rw [y]), ← y, g1 c (by omega), upd_a, if_pos rfl, e0]
        · rw [if_neg (fun z => y ((nI_eq (by omega) (by
            have : cnB row q (i + 1) ≤ q := by
              have : ∀ q i, cnB row q i ≤ q := by
                intro q
                induction q with
                | zero => exact fun _ => Nat.le_refl _
                | succ q ih =>
                  intro i
                  unfold cnB
                  have := ih (i + 1)
                  split <;> omega
              exact this q (i + 1)
            omega)).mp z))]
          exact g3 k (by omega) (by omega)
      · unfold scM
        rw [if_pos b, if_neg (fun z => by
          have := (nI_eq (by omega) h2).mp z
          omega)]
        exact g4 k (by omega) h2
    · rw [if_neg b] at e0
      have hg : gapF i (c, arr) = (c, arr) := if_pos e0
      rw [hF, hg]
      obtain ⟨g1, g2, g3, g4⟩ := gap_spec q (i + 1) c arr (by omega) (by omega) (fun j h1 h2 => ha j (by omega) (by omega)) (fun j h1 h2 => hP j (by omega) (by omega))
      have ecn : cnB row (q + 1) i = cnB row q (i + 1) := by
        rw [cnB, if_neg b, Nat.zero_add]
      rw [ecn]
      refine ⟨g1, g2, fun k h1 h2 => ?_, fun k h1 h2 => ?_⟩
      · unfold scM
        rw [if_neg b]
        exact g3 k h1 h2
      · unfold scM
        rw [if_neg b]
        exact g4 k h1 h2
theorem cn_add {row : Nat} : ∀ (q r i : Nat), cnB row (q + r) i = cnB row q i + cnB row r (i + q)
  | 0, r, i => by
    rw [Nat.zero_add]
    show _ = 0 + cnB row r i
    omega
  | q + 1, r, i => by
    have := cn_add (row := row) q r (i + 1)
    rw [show q + 1 + r = (q + r) + 1 by omega, cnB, cnB, this, show i + (q + 1) = i + 1 + q by omega]
    omega
theorem cn_zero {row n : Nat} (h : row < 2 ^ n) : ∀ (q i : Nat), n ≤ i → cnB row q i = 0
  | 0, _, _ => rfl
  | q + 1, i, hi => by
    rw [cnB, cn_zero h q (i + 1) (by omega), Nat.testBit_lt_two_pow (Nat.lt_of_lt_of_le h (Nat.pow_le_pow_right (by omega) hi))]
    rfl
theorem cn_12 {row : Nat} (h : row < 4096) : cnB row 12 0 = bitN 13 row :=
  f4096 (P := fun row => cnB row 12 0 = bitN 13 row) (by decide +kernel) h
theorem cn_bits {row n : Nat} (hn : n ≤ 12) (h : row < 2 ^ n) : cnB row n 0 = bitN 13 row := by
  have h12 : 2 ^ n ≤ 2 ^ 12 := Nat.pow_le_pow_right (by omega) hn
  rw [← cn_12 (by omega), show (12 : Nat) = n + (12 - n) by omega, cn_add n (12 - n) 0, cn_zero h (12 - n) (0 + n) (by omega)]
  rfl
/-- what the class answers, told by the rules that are needed -/
def byR (C : PC) (a : Int32 × Nat × (Nat → Int32)) (f : Nat) (k : Int32) : Int32 :=
  if hasB a.1 (nI f) then (if k = -1 then nI (bitN 13 (rbM C a.2.2 a.2.1 (bt (nI f), 0)).2) else scM a.2.2 (rbM C a.2.2 a.2.1 (bt (nI f), 0)).2 k a.2.1 0 0) else -1
theorem by_eq {set k : Int32} {f : Nat} {pr : Nat → Int32} (hr : C.nr ≤ 16) (hf : f < 12) (hk : -1 ≤ k) : (if k = -1 ∨ (proveM C set f pr).1 = -1 then (proveM C set f pr).1 else if (proveM C set f pr).1 ≤ k then -1 else (proveM C set f pr).2 k.toNatClampNeg) = byR C (rowsM C set pr) f k := by
  have hsm : SmP C.nr 0 (rowsM C set pr) := SmP_rows hr
  have hgv : GvI (C := C) set (rowsM C set pr) := Gv_rows hr
  unfold GvI at hgv
  have hcond : (set ||| foN (gbF C (rowsM C set pr).2.2) 0 (rowsM C set pr).2.1 (nI 0)) &&& bt (nI f) = 0 ↔ ¬ hasB (rowsM C set pr).1 (nI f) := by
    rw [← hgv]
    exact and_bt0 hf
  unfold proveM byR
  dsimp only
  clear hgv
  generalize rowsM C set pr = a at *
  obtain ⟨ak, n, P⟩ := a
  obtain ⟨hn, hp⟩ := hsm
  dsimp only at hn hp hcond ⊢
  have hn : n ≤ 12 := hn
  have hP : ∀ j, j < n → ¬ P j = -1 := fun j hj z => by
    obtain ⟨p1, p2⟩ := hp j hj
    rw [p2] at z
    have := nm1_ne (a := (P j).toNatClampNeg) (by omega)
    rw [this] at z
    exact z
  by_cases c : hasB ak (nI f)
  · rw [if_pos c, if_neg (fun z => hcond.mp z c)]
    have hbk := bak_rb (C := C) (P := P) n (bt (nI f), 0) (bt (nI f), P) rfl (fun _ _ => rfl) (fun j _ => Nat.zero_testBit j) n (fun j h1 h2 => absurd h1 (by omega)) (Nat.le_refl n)
    have hrow := rb_lt (C := C) (P := P) (n := n) n (bt (nI f), 0) (Nat.le_refl n) (Nat.two_pow_pos n)
    generalize (rbM C P n (bt (nI f), 0)).2 = row at *
    generalize (bakM C n (bt (nI f), P)).2 = arr at *
    obtain ⟨g1, g2, g3, g4⟩ := gap_spec (P := P) (row := row) n 0 0 arr (Nat.le_refl 0) (by omega) (fun j _ h2 => hbk j (by omega)) (fun j _ h2 => hP j (by omega))
    rw [Nat.zero_add, cn_bits hn hrow] at g2 g3 g4
    generalize foN gapF 0 n (0, arr) = e at *
    have hb := bitN_le 13 row
    rw [g2]
    have ne : ¬ nI (bitN 13 row) = -1 := fun z => by
      have := nm1_ne (a := bitN 13 row) (by omega)
      rw [this] at z
      exact z
    by_cases ck : k = -1
    · rw [if_pos (Or.inl ck), if_pos ck]
    · rw [if_neg (fun z => z.elim ck ne), if_neg ck]
      obtain ⟨kk, hkk, rfl⟩ : ∃ kk, kk < 2147483648 ∧ k = nI kk := by
        rw [Int32.le_iff_toInt_le, show (-1 : Int32).toInt = -1 by decide] at hk
        have h0 : 0 ≤ k.toInt := by
          rcases (show k.toInt < 0 ∨ 0 ≤ k.toInt by omega) with z | z
          · exact absurd (Int32.toInt_inj.mp (show k.toInt = (-1 : Int32).toInt by rw [show (-1 : Int32).toInt = -1 by decide]; omega)) ck
          · exact z
        have hlt := Int32.toInt_lt k
        refine ⟨k.toInt.toNat, by omega, ?_⟩
        apply Int32.toInt_inj.mp
        rw [nI_toInt (by omega)]
        omega
      rw [nI_clamp hkk]
      by_cases cl : nI (bitN 13 row) ≤ nI kk
      · rw [if_pos cl]
        rw [Int32.le_iff_toInt_le, nI_toInt (by omega), nI_toInt hkk] at cl
        exact (g4 kk (by omega) hkk).symm
      · rw [if_neg cl]
        rw [Int32.le_iff_toInt_le, nI_toInt (by omega), nI_toInt hkk] at cl
        exact g3 kk (by omega) (by omega)
  · rw [if_neg c, if_pos (hcond.mpr c)]
    by_cases ck : k = -1
    · rw [if_pos (Or.inl ck)]
    · rw [if_pos (Or.inr rfl)]
theorem rb_c {P P' : Nat → Int32} : ∀ (i : Nat) (a : Int32 × Nat), (∀ j, j < i → P j = P' j) → rbM C P i a = rbM C P' i a
  | 0, _, _ => rfl
  | i + 1, a, h => by
    unfold rbM
    rw [show rbF C P i a = rbF C P' i a by unfold rbF; rw [h i (by omega)]]
    exact rb_c i _ (fun j hj => h j (by omega))
theorem sc_c {P P' : Nat → Int32} {row : Nat} {k : Int32} : ∀ (q i c : Nat), (∀ j, i ≤ j → j < i + q → P j = P' j) → scM P row k q i c = scM P' row k q i c
  | 0, _, _, _ => rfl
  | q + 1, i, c, h => by
    unfold scM
    rw [sc_c q (i + 1) (c + 1) (fun j h1 h2 => h j (by omega) (by omega)), sc_c q (i + 1) c (fun j h1 h2 => h j (by omega) (by omega)), h i (by omega) (by omega)]
theorem byR_c {a b : Int32 × Nat × (Nat → Int32)} {f : Nat} {k : Int32} (h : RwE a b) : byR C a f k = byR C b f k := by
  obtain ⟨h1, h2, h3⟩ := h
  unfold byR
  rw [← h1, ← h2, rb_c (P' := b.2.2) a.2.1 _ h3, sc_c (P' := b.2.2) a.2.1 0 0 (fun j _ hj => h3 j (by omega))]
end BYP
section MO27
variable {d v bk m : Nat} {C : PC} {h : AH} {Q : Option Value → AH → Prop} {s : PS} {A : AS}
theorem by_scan {x f k : Int32} {n row : Nat} {P : Nat → Int32} {nd : Int32} (hd : 1 ≤ d) (hM : MoAt h) (hn : n ≤ 12) (hrow : row < 4096) (hQ : Q (some (.int (scM P row k n 0 0))) (wrF h (nI n) P)) : ∀ y : Value, (y = uu ∨ ∃ z, y = .int z) → G d 257 133 [.ref 174, .int x, .int f, .int k, .int nd, .int (nI row), .int (nI 0 - nI 1), y] [] (wrF h (nI n) P) Q := by
  obtain ⟨xN, ⟨ra0, ra1, ra2, ra3, ra4, ra5, ra6, ra7, ra8, ra9, ra10, ra11, ra12, ra13, ra14, ra15, ra16, ra17, ra18, ra19, ra20, ra21, ra22, ra23, ra24, ra25, ra26, ra27, ra28, ra29, ra30, ra31, ra32, ra33, ra34, ra35, ra36, ra37, ra38, ra39, ra40, ra41, ra42, ra43, ra44⟩, ⟨la0, la1, la2, la3, la4, la5, la6, la7, la8, la9, la10, la11, la12, la13, la14, la15, la16, la17, la18, la19, la20, la21, la22, la23, la24, la25, la26, la27, la28, la29, la30, la31, la32, la33, la34, la35, la36, la37, la38, la39, la40, la41, la42, la43, la44⟩⟩ := hM
  have key : ∀ (q i c : Nat), i + q = n → c ≤ i → Q (some (.int (scM P row k q i c))) (wrF h (nI n) P) → G d 257 139 [.ref 174, .int x, .int f, .int k, .int nd, .int (nI row), .int (k - nI c), .int (nI i)] [] (wrF h (nI n) P) Q := by
    intro q
    induction q with
    | zero =>
      intro i c hi hc hq
      simp (disch := omega) only [g257_139, g257_141, g257_142, g257_145, g257_183, g257_184, GN_nx, GN_rtn, GN_ck, GN_br, GN_cll, ldI_0, ldJ_0, ldR_0, ldI_s, ldJ_s, ldR_s, pI_c, pII_c, pJ_c, pJJ_c, pJI_c, pR_c, pRI_c, pRJ_c, pRR_c, pRII_c, pRIJ_c, pRIR_c, pCopy_c, pIe_c, pJe_c, pRe_c, pE_c, p1_i, p1_r, p11_ir, pA_0, pA_1, pA_2, pA_3, pA_4, pA_5, st1_0, st1_i, st1_r, st1_n, st1_u, st1_j, st1_s, st2_0, st2_i, st2_r, st2_n, st2_u, st2_j, st2_s, List.length_cons, List.length_nil, Nat.reduceAdd, Nat.reduceLT, Nat.reduceLeDiff, Nat.reduceEqDiff, Nat.zero_add, true_and, and_true, true_implies, not_true_eq_false, not_false_eq_true, false_implies, Option.toList_some, Option.toList_none, arr, inb, List.cons_append, List.nil_append, rv_some, rv_none, nlt_t, nlt_f, nle_t, nle_f, neq_f, ix_cl, ix_nn, ix_lt, cmp_le, cmp_lt, cmp_eq, cmp_lt0, cmp_ge0, cmp_eq0, cmp_gt0, cmp_le0, nI_mul, nI_add, nm1_ne, nm1_ne', one01, zero01, b2i_0, b2i_1, b2i_01, cmp_eq1, true_or, or_true, false_or, or_false, neq_t, hN_sI, hLn_sI, hR_sI, hL_sI, hI_sI, hN_sA, hLn_sA, hR_sA, hL_sA, hI_sA, hN_wI, hLn_wI, hR_wI, hL_wI, hI_wI, false_and, and_false, if_true, if_false, hN_fA, hLn_fA, hR_fA, hN_wrS, hLn_wrS, hR_wrS, hL_wrS, wS_day, wS_keeps, wS_brs, wS_first, wS_knows, wS_purse, wS_till, wS_valid, wS_kept, sS_day, sS_keeps, sS_brs, sS_first, sS_knows, sS_purse, sS_till, sS_valid, sS_kept, wrS_wrS, day_mk, knows_mk, purse_mk, till_mk, valid_mk, kept_mk, keeps_mk, brs_mk, first_mk, hN_wrU, hLn_wrU, hR_wrU, hL_wrU, wU_19, wU_20, sU_19, sU_20, upd_same, upd_upd, hN_wrR, hLn_wrR, hR_wrR, hL_wrR, bI_0, bI_01', bI_t1, eq_self, Bool.true_eq_false, Bool.false_eq_true, hN_wrC, hLn_wrC, hR_wrC, hL_wrC, lay_174, lay_175, lay_176, lay_177, lay_178, lay_179, lay_180, lay_181, lay_182, lay_183, lay_184, lay_185, lay_186, lay_187, lay_188, lay_189, lay_190, lay_191, lay_192, lay_193, lay_194, lay_195, lay_196, lay_197, lay_198, lay_199, lay_200, lay_201, lay_202, lay_203, lay_204, lay_205, lay_206, lay_207, lay_208, lay_209, lay_210, lay_211, lay_212, lay_213, lay_214, lay_215, lay_216, lay_217, lay_218, lay_219, hN_wrO, hLn_wrO, hR_wrO, hN_wrL, hLn_wrL, hR_wrL, hN_wrF, hLn_wrF, hR_wrF,  ra0, ra1, ra2, ra3, ra4, ra5, ra6, ra7, ra8, ra9, ra10, ra11, ra12, ra13, ra14, ra15, ra16, ra17, ra18, ra19, ra20, ra21, ra22, ra23, ra24, ra25, ra26, ra27, ra28, ra29, ra30, ra31, ra32, ra33, ra34, ra35, ra36, ra37, ra38, ra39, ra40, ra41, ra42, ra43, ra44, la0, la1, la2, la3, la4, la5, la6, la7, la8, la9, la10, la11, la12, la13, la14, la15, la16, la17, la18, la19, la20, la21, la22, la23, la24, la25, la26, la27, la28, la29, la30, la31, la32, la33, la34, la35, la36, la37, la38, la39, la40, la41, la42, la43, la44, wF_75]
      exact hq
    | succ q ih =>
      intro i c hi hc hq
      unfold scM at hq
      have e : hasB (nI row) (nI i) ↔ row.testBit i = true := nI_bit (by omega)
      simp (disch := omega) only [g257_139, g257_141, g257_142, g257_145, GN_nx, GN_rtn, GN_ck, GN_br, GN_cll, ldI_0, ldJ_0, ldR_0, ldI_s, ldJ_s, ldR_s, pI_c, pII_c, pJ_c, pJJ_c, pJI_c, pR_c, pRI_c, pRJ_c, pRR_c, pRII_c, pRIJ_c, pRIR_c, pCopy_c, pIe_c, pJe_c, pRe_c, pE_c, p1_i, p1_r, p11_ir, pA_0, pA_1, pA_2, pA_3, pA_4, pA_5, st1_0, st1_i, st1_r, st1_n, st1_u, st1_j, st1_s, st2_0, st2_i, st2_r, st2_n, st2_u, st2_j, st2_s, List.length_cons, List.length_nil, Nat.reduceAdd, Nat.reduceLT, Nat.reduceLeDiff, Nat.reduceEqDiff, Nat.zero_add, true_and, and_true, true_implies, not_true_eq_false, not_false_eq_true, false_implies, Option.toList_some, Option.toList_none, arr, inb, List.cons_append, List.nil_append, rv_some, rv_none, nlt_t, nlt_f, nle_t, nle_f, neq_f, ix_cl, ix_nn, ix_lt, cmp_le, cmp_lt, cmp_eq, cmp_lt0, cmp_ge0, cmp_eq0, cmp_gt0, cmp_le0, nI_mul, nI_add, nm1_ne, nm1_ne', one01, zero01, b2i_0, b2i_1, b2i_01, cmp_eq1, true_or, or_true, false_or, or_false, neq_t, hN_sI, hLn_sI, hR_sI, hL_sI, hI_sI, hN_sA, hLn_sA, hR_sA, hL_sA, hI_sA, hN_wI, hLn_wI, hR_wI, hL_wI, hI_wI, false_and, and_false, if_true, if_false, hN_fA, hLn_fA, hR_fA, hN_wrS, hLn_wrS, hR_wrS, hL_wrS, wS_day, wS_keeps, wS_brs, wS_first, wS_knows, wS_purse, wS_till, wS_valid, wS_kept, sS_day, sS_keeps, sS_brs, sS_first, sS_knows, sS_purse, sS_till, sS_valid, sS_kept, wrS_wrS, day_mk, knows_mk, purse_mk, till_mk, valid_mk, kept_mk, keeps_mk, brs_mk, first_mk, hN_wrU, hLn_wrU, hR_wrU, hL_wrU, wU_19, wU_20, sU_19, sU_20, upd_same, upd_upd, hN_wrR, hLn_wrR, hR_wrR, hL_wrR, bI_0, bI_01', bI_t1, eq_self, Bool.true_eq_false, Bool.false_eq_true, hN_wrC, hLn_wrC, hR_wrC, hL_wrC, lay_174, lay_175, lay_176, lay_177, lay_178, lay_179, lay_180, lay_181, lay_182, lay_183, lay_184, lay_185, lay_186, lay_187, lay_188, lay_189, lay_190, lay_191, lay_192, lay_193, lay_194, lay_195, lay_196, lay_197, lay_198, lay_199, lay_200, lay_201, lay_202, lay_203, lay_204, lay_205, lay_206, lay_207, lay_208, lay_209, lay_210, lay_211, lay_212, lay_213, lay_214, lay_215, lay_216, lay_217, lay_218, lay_219, hN_wrO, hLn_wrO, hR_wrO, hN_wrL, hLn_wrL, hR_wrL, hN_wrF, hLn_wrF, hR_wrF,  ra0, ra1, ra2, ra3, ra4, ra5, ra6, ra7, ra8, ra9, ra10, ra11, ra12, ra13, ra14, ra15, ra16, ra17, ra18, ra19, ra20, ra21, ra22, ra23, ra24, ra25, ra26, ra27, ra28, ra29, ra30, ra31, ra32, ra33, ra34, ra35, ra36, ra37, ra38, ra39, ra40, ra41, ra42, ra43, ra44, la0, la1, la2, la3, la4, la5, la6, la7, la8, la9, la10, la11, la12, la13, la14, la15, la16, la17, la18, la19, la20, la21, la22, la23, la24, la25, la26, la27, la28, la29, la30, la31, la32, la33, la34, la35, la36, la37, la38, la39, la40, la41, la42, la43, la44, wF_75]
      simp (disch := omega) only [g257_148, g257_150, g257_152, GN_nx, GN_rtn, GN_ck, GN_br, GN_cll, ldI_0, ldJ_0, ldR_0, ldI_s, ldJ_s, ldR_s, pI_c, pII_c, pJ_c, pJJ_c, pJI_c, pR_c, pRI_c, pRJ_c, pRR_c, pRII_c, pRIJ_c, pRIR_c, pCopy_c, pIe_c, pJe_c, pRe_c, pE_c, p1_i, p1_r, p11_ir, pA_0, pA_1, pA_2, pA_3, pA_4, pA_5, st1_0, st1_i, st1_r, st1_n, st1_u, st1_j, st1_s, st2_0, st2_i, st2_r, st2_n, st2_u, st2_j, st2_s, List.length_cons, List.length_nil, Nat.reduceAdd, Nat.reduceLT, Nat.reduceLeDiff, Nat.reduceEqDiff, Nat.zero_add, true_and, and_true, true_implies, not_true_eq_false, not_false_eq_true, false_implies, Option.toList_some, Option.toList_none, arr, inb, List.cons_append, List.nil_append, rv_some, rv_none, nlt_t, nlt_f, nle_t, nle_f, neq_f, ix_cl, ix_nn, ix_lt, cmp_le, cmp_lt, cmp_eq, cmp_lt0, cmp_ge0, cmp_eq0, cmp_gt0, cmp_le0, nI_mul, nI_add, nm1_ne, nm1_ne', one01, zero01, b2i_0, b2i_1, b2i_01, cmp_eq1, true_or, or_true, false_or, or_false, neq_t, hN_sI, hLn_sI, hR_sI, hL_sI, hI_sI, hN_sA, hLn_sA, hR_sA, hL_sA, hI_sA, hN_wI, hLn_wI, hR_wI, hL_wI, hI_wI, false_and, and_false, if_true, if_false, hN_fA, hLn_fA, hR_fA, hN_wrS, hLn_wrS, hR_wrS, hL_wrS, wS_day, wS_keeps, wS_brs, wS_first, wS_knows, wS_purse, wS_till, wS_valid, wS_kept, sS_day, sS_keeps, sS_brs, sS_first, sS_knows, sS_purse, sS_till, sS_valid, sS_kept, wrS_wrS, day_mk, knows_mk, purse_mk, till_mk, valid_mk, kept_mk, keeps_mk, brs_mk, first_mk, hN_wrU, hLn_wrU, hR_wrU, hL_wrU, wU_19, wU_20, sU_19, sU_20, upd_same, upd_upd, hN_wrR, hLn_wrR, hR_wrR, hL_wrR, bI_0, bI_01', bI_t1, eq_self, Bool.true_eq_false, Bool.false_eq_true, hN_wrC, hLn_wrC, hR_wrC, hL_wrC, lay_174, lay_175, lay_176, lay_177, lay_178, lay_179, lay_180, lay_181, lay_182, lay_183, lay_184, lay_185, lay_186, lay_187, lay_188, lay_189, lay_190, lay_191, lay_192, lay_193, lay_194, lay_195, lay_196, lay_197, lay_198, lay_199, lay_200, lay_201, lay_202, lay_203, lay_204, lay_205, lay_206, lay_207, lay_208, lay_209, lay_210, lay_211, lay_212, lay_213, lay_214, lay_215, lay_216, lay_217, lay_218, lay_219, hN_wrO, hLn_wrO, hR_wrO, hN_wrL, hLn_wrL, hR_wrL, hN_wrF, hLn_wrF, hR_wrF]
      refine Mo_holds (by omega) ?_
      simp (disch := omega) only [g257_155, GN_nx, GN_rtn, GN_ck, GN_br, GN_cll, ldI_0, ldJ_0, ldR_0, ldI_s, ldJ_s, ldR_s, pI_c, pII_c, pJ_c, pJJ_c, pJI_c, pR_c, pRI_c, pRJ_c, pRR_c, pRII_c, pRIJ_c, pRIR_c, pCopy_c, pIe_c, pJe_c, pRe_c, pE_c, p1_i, p1_r, p11_ir, pA_0, pA_1, pA_2, pA_3, pA_4, pA_5, st1_0, st1_i, st1_r, st1_n, st1_u, st1_j, st1_s, st2_0, st2_i, st2_r, st2_n, st2_u, st2_j, st2_s, List.length_cons, List.length_nil, Nat.reduceAdd, Nat.reduceLT, Nat.reduceLeDiff, Nat.reduceEqDiff, Nat.zero_add, true_and, and_true, true_implies, not_true_eq_false, not_false_eq_true, false_implies, Option.toList_some, Option.toList_none, arr, inb, List.cons_append, List.nil_append, rv_some, rv_none, nlt_t, nlt_f, nle_t, nle_f, neq_f, ix_cl, ix_nn, ix_lt, cmp_le, cmp_lt, cmp_eq, cmp_lt0, cmp_ge0, cmp_eq0, cmp_gt0, cmp_le0, nI_mul, nI_add, nm1_ne, nm1_ne', one01, zero01, b2i_0, b2i_1, b2i_01, cmp_eq1, true_or, or_true, false_or, or_false, neq_t, hN_sI, hLn_sI, hR_sI, hL_sI, hI_sI, hN_sA, hLn_sA, hR_sA, hL_sA, hI_sA, hN_wI, hLn_wI, hR_wI, hL_wI, hI_wI, false_and, and_false, if_true, if_false, hN_fA, hLn_fA, hR_fA, hN_wrS, hLn_wrS, hR_wrS, hL_wrS, wS_day, wS_keeps, wS_brs, wS_first, wS_knows, wS_purse, wS_till, wS_valid, wS_kept, sS_day, sS_keeps, sS_brs, sS_first, sS_knows, sS_purse, sS_till, sS_valid, sS_kept, wrS_wrS, day_mk, knows_mk, purse_mk, till_mk, valid_mk, kept_mk, keeps_mk, brs_mk, first_mk, hN_wrU, hLn_wrU, hR_wrU, hL_wrU, wU_19, wU_20, sU_19, sU_20, upd_same, upd_upd, hN_wrR, hLn_wrR, hR_wrR, hL_wrR, bI_0, bI_01', bI_t1, eq_self, Bool.true_eq_false, Bool.false_eq_true, hN_wrC, hLn_wrC, hR_wrC, hL_wrC, lay_174, lay_175, lay_176, lay_177, lay_178, lay_179, lay_180, lay_181, lay_182, lay_183, lay_184, lay_185, lay_186, lay_187, lay_188, lay_189, lay_190, lay_191, lay_192, lay_193, lay_194, lay_195, lay_196, lay_197, lay_198, lay_199, lay_200, lay_201, lay_202, lay_203, lay_204, lay_205, lay_206, lay_207, lay_208, lay_209, lay_210, lay_211, lay_212, lay_213, lay_214, lay_215, lay_216, lay_217, lay_218, lay_219, hN_wrO, hLn_wrO, hR_wrO, hN_wrL, hLn_wrL, hR_wrL, hN_wrF, hLn_wrF, hR_wrF]
      refine And.intro (fun h1 => ?_) (fun h1 => ?_)
      · have h1 : hasB (nI row) (nI i) := by first | exact h1 | exact Classical.not_not.mp h1
        rw [if_pos (e.mp h1)] at hq
        simp (disch := omega) only [g257_161, g257_163, GN_nx, GN_rtn, GN_ck, GN_br, GN_cll, ldI_0, ldJ_0, ldR_0, ldI_s, ldJ_s, ldR_s, pI_c, pII_c, pJ_c, pJJ_c, pJI_c, pR_c, pRI_c, pRJ_c, pRR_c, pRII_c, pRIJ_c, pRIR_c, pCopy_c, pIe_c, pJe_c, pRe_c, pE_c, p1_i, p1_r, p11_ir, pA_0, pA_1, pA_2, pA_3, pA_4, pA_5, st1_0, st1_i, st1_r, st1_n, st1_u, st1_j, st1_s, st2_0, st2_i, st2_r, st2_n, st2_u, st2_j, st2_s, List.length_cons, List.length_nil, Nat.reduceAdd, Nat.reduceLT, Nat.reduceLeDiff, Nat.reduceEqDiff, Nat.zero_add, true_and, and_true, true_implies, not_true_eq_false, not_false_eq_true, false_implies, Option.toList_some, Option.toList_none, arr, inb, List.cons_append, List.nil_append, rv_some, rv_none, nlt_t, nlt_f, nle_t, nle_f, neq_f, ix_cl, ix_nn, ix_lt, cmp_le, cmp_lt, cmp_eq, cmp_lt0, cmp_ge0, cmp_eq0, cmp_gt0, cmp_le0, nI_mul, nI_add, nm1_ne, nm1_ne', one01, zero01, b2i_0, b2i_1, b2i_01, cmp_eq1, true_or, or_true, false_or, or_false, neq_t, hN_sI, hLn_sI, hR_sI, hL_sI, hI_sI, hN_sA, hLn_sA, hR_sA, hL_sA, hI_sA, hN_wI, hLn_wI, hR_wI, hL_wI, hI_wI, false_and, and_false, if_true, if_false, hN_fA, hLn_fA, hR_fA, hN_wrS, hLn_wrS, hR_wrS, hL_wrS, wS_day, wS_keeps, wS_brs, wS_first, wS_knows, wS_purse, wS_till, wS_valid, wS_kept, sS_day, sS_keeps, sS_brs, sS_first, sS_knows, sS_purse, sS_till, sS_valid, sS_kept, wrS_wrS, day_mk, knows_mk, purse_mk, till_mk, valid_mk, kept_mk, keeps_mk, brs_mk, first_mk, hN_wrU, hLn_wrU, hR_wrU, hL_wrU, wU_19, wU_20, sU_19, sU_20, upd_same, upd_upd, hN_wrR, hLn_wrR, hR_wrR, hL_wrR, bI_0, bI_01', bI_t1, eq_self, Bool.true_eq_false, Bool.false_eq_true, hN_wrC, hLn_wrC, hR_wrC, hL_wrC, lay_174, lay_175, lay_176, lay_177, lay_178, lay_179, lay_180, lay_181, lay_182, lay_183, lay_184, lay_185, lay_186, lay_187, lay_188, lay_189, lay_190, lay_191, lay_192, lay_193, lay_194, lay_195, lay_196, lay_197, lay_198, lay_199, lay_200, lay_201, lay_202, lay_203, lay_204, lay_205, lay_206, lay_207, lay_208, lay_209, lay_210, lay_211, lay_212, lay_213, lay_214, lay_215, lay_216, lay_217, lay_218, lay_219, hN_wrO, hLn_wrO, hR_wrO, hN_wrL, hLn_wrL, hR_wrL, hN_wrF, hLn_wrF, hR_wrF]
        refine And.intro (fun h2 => ?_) (fun h2 => ?_)
        · rw [if_neg (fun z => h2 (sub0.mpr z))] at hq
          simp (disch := omega) only [g257_174, g257_177, g257_180, GN_nx, GN_rtn, GN_ck, GN_br, GN_cll, ldI_0, ldJ_0, ldR_0, ldI_s, ldJ_s, ldR_s, pI_c, pII_c, pJ_c, pJJ_c, pJI_c, pR_c, pRI_c, pRJ_c, pRR_c, pRII_c, pRIJ_c, pRIR_c, pCopy_c, pIe_c, pJe_c, pRe_c, pE_c, p1_i, p1_r, p11_ir, pA_0, pA_1, pA_2, pA_3, pA_4, pA_5, st1_0, st1_i, st1_r, st1_n, st1_u, st1_j, st1_s, st2_0, st2_i, st2_r, st2_n, st2_u, st2_j, st2_s, List.length_cons, List.length_nil, Nat.reduceAdd, Nat.reduceLT, Nat.reduceLeDiff, Nat.reduceEqDiff, Nat.zero_add, true_and, and_true, true_implies, not_true_eq_false, not_false_eq_true, false_implies, Option.toList_some, Option.toList_none, arr, inb, List.cons_append, List.nil_append, rv_some, rv_none, nlt_t, nlt_f, nle_t, nle_f, neq_f, ix_cl, ix_nn, ix_lt, cmp_le, cmp_lt, cmp_eq, cmp_lt0, cmp_ge0, cmp_eq0, cmp_gt0, cmp_le0, nI_mul, nI_add, nm1_ne, nm1_ne', one01, zero01, b2i_0, b2i_1, b2i_01, cmp_eq1, true_or, or_true, false_or, or_false, neq_t, hN_sI, hLn_sI, hR_sI, hL_sI, hI_sI, hN_sA, hLn_sA, hR_sA, hL_sA, hI_sA, hN_wI, hLn_wI, hR_wI, hL_wI, hI_wI, false_and, and_false, if_true, if_false, hN_fA, hLn_fA, hR_fA, hN_wrS, hLn_wrS, hR_wrS, hL_wrS, wS_day, wS_keeps, wS_brs, wS_first, wS_knows, wS_purse, wS_till, wS_valid, wS_kept, sS_day, sS_keeps, sS_brs, sS_first, sS_knows, sS_purse, sS_till, sS_valid, sS_kept, wrS_wrS, day_mk, knows_mk, purse_mk, till_mk, valid_mk, kept_mk, keeps_mk, brs_mk, first_mk, hN_wrU, hLn_wrU, hR_wrU, hL_wrU, wU_19, wU_20, sU_19, sU_20, upd_same, upd_upd, hN_wrR, hLn_wrR, hR_wrR, hL_wrR, bI_0, bI_01', bI_t1, eq_self, Bool.true_eq_false, Bool.false_eq_true, hN_wrC, hLn_wrC, hR_wrC, hL_wrC, lay_174, lay_175, lay_176, lay_177, lay_178, lay_179, lay_180, lay_181, lay_182, lay_183, lay_184, lay_185, lay_186, lay_187, lay_188, lay_189, lay_190, lay_191, lay_192, lay_193, lay_194, lay_195, lay_196, lay_197, lay_198, lay_199, lay_200, lay_201, lay_202, lay_203, lay_204, lay_205, lay_206, lay_207, lay_208, lay_209, lay_210, lay_211, lay_212, lay_213, lay_214, lay_215, lay_216, lay_217, lay_218, lay_219, hN_wrO, hLn_wrO, hR_wrO, hN_wrL, hLn_wrL, hR_wrL, hN_wrF, hLn_wrF, hR_wrF,  sub1m]
          exact ih (i + 1) (c + 1) (by omega) (by omega) hq
        · have h2 : k - nI c = 0 := by first | exact h2 | exact Classical.not_not.mp h2
          rw [if_pos (sub0.mp h2)] at hq
          simp (disch := omega) only [g257_166, g257_167, g257_170, g257_172, g257_173, GN_nx, GN_rtn, GN_ck, GN_br, GN_cll, ldI_0, ldJ_0, ldR_0, ldI_s, ldJ_s, ldR_s, pI_c, pII_c, pJ_c, pJJ_c, pJI_c, pR_c, pRI_c, pRJ_c, pRR_c, pRII_c, pRIJ_c, pRIR_c, pCopy_c, pIe_c, pJe_c, pRe_c, pE_c, p1_i, p1_r, p11_ir, pA_0, pA_1, pA_2, pA_3, pA_4, pA_5, st1_0, st1_i, st1_r, st1_n, st1_u, st1_j, st1_s, st2_0, st2_i, st2_r, st2_n, st2_u, st2_j, st2_s, List.length_cons, List.length_nil, Nat.reduceAdd, Nat.reduceLT, Nat.reduceLeDiff, Nat.reduceEqDiff, Nat.zero_add, true_and, and_true, true_implies, not_true_eq_false, not_false_eq_true, false_implies, Option.toList_some, Option.toList_none, arr, inb, List.cons_append, List.nil_append, rv_some, rv_none, nlt_t, nlt_f, nle_t, nle_f, neq_f, ix_cl, ix_nn, ix_lt, cmp_le, cmp_lt, cmp_eq, cmp_lt0, cmp_ge0, cmp_eq0, cmp_gt0, cmp_le0, nI_mul, nI_add, nm1_ne, nm1_ne', one01, zero01, b2i_0, b2i_1, b2i_01, cmp_eq1, true_or, or_true, false_or, or_false, neq_t, hN_sI, hLn_sI, hR_sI, hL_sI, hI_sI, hN_sA, hLn_sA, hR_sA, hL_sA, hI_sA, hN_wI, hLn_wI, hR_wI, hL_wI, hI_wI, false_and, and_false, if_true, if_false, hN_fA, hLn_fA, hR_fA, hN_wrS, hLn_wrS, hR_wrS, hL_wrS, wS_day, wS_keeps, wS_brs, wS_first, wS_knows, wS_purse, wS_till, wS_valid, wS_kept, sS_day, sS_keeps, sS_brs, sS_first, sS_knows, sS_purse, sS_till, sS_valid, sS_kept, wrS_wrS, day_mk, knows_mk, purse_mk, till_mk, valid_mk, kept_mk, keeps_mk, brs_mk, first_mk, hN_wrU, hLn_wrU, hR_wrU, hL_wrU, wU_19, wU_20, sU_19, sU_20, upd_same, upd_upd, hN_wrR, hLn_wrR, hR_wrR, hL_wrR, bI_0, bI_01', bI_t1, eq_self, Bool.true_eq_false, Bool.false_eq_true, hN_wrC, hLn_wrC, hR_wrC, hL_wrC, lay_174, lay_175, lay_176, lay_177, lay_178, lay_179, lay_180, lay_181, lay_182, lay_183, lay_184, lay_185, lay_186, lay_187, lay_188, lay_189, lay_190, lay_191, lay_192, lay_193, lay_194, lay_195, lay_196, lay_197, lay_198, lay_199, lay_200, lay_201, lay_202, lay_203, lay_204, lay_205, lay_206, lay_207, lay_208, lay_209, lay_210, lay_211, lay_212, lay_213, lay_214, lay_215, lay_216, lay_217, lay_218, lay_219, hN_wrO, hLn_wrO, hR_wrO, hN_wrL, hLn_wrL, hR_wrL, hN_wrF, hLn_wrF, hR_wrF,  ra0, ra1, ra2, ra3, ra4, ra5, ra6, ra7, ra8, ra9, ra10, ra11, ra12, ra13, ra14, ra15, ra16, ra17, ra18, ra19, ra20, ra21, ra22, ra23, ra24, ra25, ra26, ra27, ra28, ra29, ra30, ra31, ra32, ra33, ra34, ra35, ra36, ra37, ra38, ra39, ra40, ra41, ra42, ra43, ra44, la0, la1, la2, la3, la4, la5, la6, la7, la8, la9, la10, la11, la12, la13, la14, la15, la16, la17, la18, la19, la20, la21, la22, la23, la24, la25, la26, la27, la28, la29, la30, la31, la32, la33, la34, la35, la36, la37, la38, la39, la40, la41, la42, la43, la44, wF_217]
          exact hq
      · rw [if_neg (fun z => h1 (by first | exact e.mpr z | exact fun y => y (e.mpr z)))] at hq
        simp (disch := omega) only [g257_158, g257_177, g257_180, GN_nx, GN_rtn, GN_ck, GN_br, GN_cll, ldI_0, ldJ_0, ldR_0, ldI_s, ldJ_s, ldR_s, pI_c, pII_c, pJ_c, pJJ_c, pJI_c, pR_c, pRI_c, pRJ_c, pRR_c, pRII_c, pRIJ_c, pRIR_c, pCopy_c, pIe_c, pJe_c, pRe_c, pE_c, p1_i, p1_r, p11_ir, pA_0, pA_1, pA_2, pA_3, pA_4, pA_5, st1_0, st1_i, st1_r, st1_n, st1_u, st1_j, st1_s, st2_0, st2_i, st2_r, st2_n, st2_u, st2_j, st2_s, List.length_cons, List.length_nil, Nat.reduceAdd, Nat.reduceLT, Nat.reduceLeDiff, Nat.reduceEqDiff, Nat.zero_add, true_and, and_true, true_implies, not_true_eq_false, not_false_eq_true, false_implies, Option.toList_some, Option.toList_none, arr, inb, List.cons_append, List.nil_append, rv_some, rv_none, nlt_t, nlt_f, nle_t, nle_f, neq_f, ix_cl, ix_nn, ix_lt, cmp_le, cmp_lt, cmp_eq, cmp_lt0, cmp_ge0, cmp_eq0, cmp_gt0, cmp_le0, nI_mul, nI_add, nm1_ne, nm1_ne', one01, zero01, b2i_0, b2i_1, b2i_01, cmp_eq1, true_or, or_true, false_or, or_false, neq_t, hN_sI, hLn_sI, hR_sI, hL_sI, hI_sI, hN_sA, hLn_sA, hR_sA, hL_sA, hI_sA, hN_wI, hLn_wI, hR_wI, hL_wI, hI_wI, false_and, and_false, if_true, if_false, hN_fA, hLn_fA, hR_fA, hN_wrS, hLn_wrS, hR_wrS, hL_wrS, wS_day, wS_keeps, wS_brs, wS_first, wS_knows, wS_purse, wS_till, wS_valid, wS_kept, sS_day, sS_keeps, sS_brs, sS_first, sS_knows, sS_purse, sS_till, sS_valid, sS_kept, wrS_wrS, day_mk, knows_mk, purse_mk, till_mk, valid_mk, kept_mk, keeps_mk, brs_mk, first_mk, hN_wrU, hLn_wrU, hR_wrU, hL_wrU, wU_19, wU_20, sU_19, sU_20, upd_same, upd_upd, hN_wrR, hLn_wrR, hR_wrR, hL_wrR, bI_0, bI_01', bI_t1, eq_self, Bool.true_eq_false, Bool.false_eq_true, hN_wrC, hLn_wrC, hR_wrC, hL_wrC, lay_174, lay_175, lay_176, lay_177, lay_178, lay_179, lay_180, lay_181, lay_182, lay_183, lay_184, lay_185, lay_186, lay_187, lay_188, lay_189, lay_190, lay_191, lay_192, lay_193, lay_194, lay_195, lay_196, lay_197, lay_198, lay_199, lay_200, lay_201, lay_202, lay_203, lay_204, lay_205, lay_206, lay_207, lay_208, lay_209, lay_210, lay_211, lay_212, lay_213, lay_214, lay_215, lay_216, lay_217, lay_218, lay_219, hN_wrO, hLn_wrO, hR_wrO, hN_wrL, hLn_wrL, hR_wrL, hN_wrF, hLn_wrF, hR_wrF]
        exact ih (i + 1) c (by omega) (by omega) hq
  have k0 := key n 0 0 (by omega) (by omega) hQ
  rw [show k - nI 0 = k from Int32.sub_zero k] at k0
  rintro y (rfl | ⟨y, rfl⟩) <;>
  · simp (disch := omega) only [g257_133, g257_134, g257_136, g257_137, GN_nx, GN_rtn, GN_ck, GN_br, GN_cll, ldI_0, ldJ_0, ldR_0, ldI_s, ldJ_s, ldR_s, pI_c, pII_c, pJ_c, pJJ_c, pJI_c, pR_c, pRI_c, pRJ_c, pRR_c, pRII_c, pRIJ_c, pRIR_c, pCopy_c, pIe_c, pJe_c, pRe_c, pE_c, p1_i, p1_r, p11_ir, pA_0, pA_1, pA_2, pA_3, pA_4, pA_5, st1_0, st1_i, st1_r, st1_n, st1_u, st1_j, st1_s, st2_0, st2_i, st2_r, st2_n, st2_u, st2_j, st2_s, List.length_cons, List.length_nil, Nat.reduceAdd, Nat.reduceLT, Nat.reduceLeDiff, Nat.reduceEqDiff, Nat.zero_add, true_and, and_true, true_implies, not_true_eq_false, not_false_eq_true, false_implies, Option.toList_some, Option.toList_none, arr, inb, List.cons_append, List.nil_append, rv_some, rv_none, nlt_t, nlt_f, nle_t, nle_f, neq_f, ix_cl, ix_nn, ix_lt, cmp_le, cmp_lt, cmp_eq, cmp_lt0, cmp_ge0, cmp_eq0, cmp_gt0, cmp_le0, nI_mul, nI_add, nm1_ne, nm1_ne', one01, zero01, b2i_0, b2i_1, b2i_01, cmp_eq1, true_or, or_true, false_or, or_false, neq_t, hN_sI, hLn_sI, hR_sI, hL_sI, hI_sI, hN_sA, hLn_sA, hR_sA, hL_sA, hI_sA, hN_wI, hLn_wI, hR_wI, hL_wI, hI_wI, false_and, and_false, if_true, if_false, hN_fA, hLn_fA, hR_fA, hN_wrS, hLn_wrS, hR_wrS, hL_wrS, wS_day, wS_keeps, wS_brs, wS_first, wS_knows, wS_purse, wS_till, wS_valid, wS_kept, sS_day, sS_keeps, sS_brs, sS_first, sS_knows, sS_purse, sS_till, sS_valid, sS_kept, wrS_wrS, day_mk, knows_mk, purse_mk, till_mk, valid_mk, kept_mk, keeps_mk, brs_mk, first_mk, hN_wrU, hLn_wrU, hR_wrU, hL_wrU, wU_19, wU_20, sU_19, sU_20, upd_same, upd_upd, hN_wrR, hLn_wrR, hR_wrR, hL_wrR, bI_0, bI_01', bI_t1, eq_self, Bool.true_eq_false, Bool.false_eq_true, hN_wrC, hLn_wrC, hR_wrC, hL_wrC, lay_174, lay_175, lay_176, lay_177, lay_178, lay_179, lay_180, lay_181, lay_182, lay_183, lay_184, lay_185, lay_186, lay_187, lay_188, lay_189, lay_190, lay_191, lay_192, lay_193, lay_194, lay_195, lay_196, lay_197, lay_198, lay_199, lay_200, lay_201, lay_202, lay_203, lay_204, lay_205, lay_206, lay_207, lay_208, lay_209, lay_210, lay_211, lay_212, lay_213, lay_214, lay_215, lay_216, lay_217, lay_218, lay_219, hN_wrO, hLn_wrO, hR_wrO, hN_wrL, hLn_wrL, hR_wrL, hN_wrF, hLn_wrF, hR_wrF]
    exact k0
theorem Mo_by {r f k : Int32} {pr : Nat → Int32} (hd : 6 ≤ d) (hA : MdlAt h bk m A) (hQ : ∀ h', MdlAt h' bk m A → Agm mdX h h' → Q (some (.int (byA A pr r f k))) h') : CL d 257 [.ref 174, .int r, .int f, .int k] h Q := by
  have hA' := hA
  obtain ⟨t, b, x0, f0, zM, zC, zS, zT, zN, ⟨zB, zb⟩, zL, zE, zA, ⟨zf, zf20, zu, zu20, zP⟩, zs, zr, ⟨ztn, ztn6, ztp⟩, ⟨zfk, zfp⟩, ⟨zo, zo7, zob⟩⟩ := hA
  have zM' := zM
  have zC' := zC
  obtain ⟨xN, ⟨ra0, ra1, ra2, ra3, ra4, ra5, ra6, ra7, ra8, ra9, ra10, ra11, ra12, ra13, ra14, ra15, ra16, ra17, ra18, ra19, ra20, ra21, ra22, ra23, ra24, ra25, ra26, ra27, ra28, ra29, ra30, ra31, ra32, ra33, ra34, ra35, ra36, ra37, ra38, ra39, ra40, ra41, ra42, ra43, ra44⟩, ⟨la0, la1, la2, la3, la4, la5, la6, la7, la8, la9, la10, la11, la12, la13, la14, la15, la16, la17, la18, la19, la20, la21, la22, la23, la24, la25, la26, la27, la28, la29, la30, la31, la32, la33, la34, la35, la36, la37, la38, la39, la40, la41, la42, la43, la44⟩⟩ := zM
  obtain ⟨mb, mb1, ⟨mf, mf12⟩, ⟨mr, mr16⟩, ⟨mp, mp8⟩, ⟨mm, mm16⟩, ms, mfd, mw, mg, mfr, mgs, mstr, mpur, mm1, mm2, mmd, mm1s, mm2s⟩ := zC
  unfold byA at hQ
  refine en257 (by omega) ?_
  have bad : Q (some (.int (-1))) h → G (d - 1) 257 28 [.ref 174, .int r, .int f, .int k, uu, uu, uu, uu] [] h Q := fun hq => by
    simp (disch := omega) only [g257_28, g257_29, GN_nx, GN_rtn, GN_ck, GN_br, GN_cll, ldI_0, ldJ_0, ldR_0, ldI_s, ldJ_s, ldR_s, pI_c, pII_c, pJ_c, pJJ_c, pJI_c, pR_c, pRI_c, pRJ_c, pRR_c, pRII_c, pRIJ_c, pRIR_c, pCopy_c, pIe_c, pJe_c, pRe_c, pE_c, p1_i, p1_r, p11_ir, pA_0, pA_1, pA_2, pA_3, pA_4, pA_5, st1_0, st1_i, st1_r, st1_n, st1_u, st1_j, st1_s, st2_0, st2_i, st2_r, st2_n, st2_u, st2_j, st2_s, List.length_cons, List.length_nil, Nat.reduceAdd, Nat.reduceLT, Nat.reduceLeDiff, Nat.reduceEqDiff, Nat.zero_add, true_and, and_true, true_implies, not_true_eq_false, not_false_eq_true, false_implies, Option.toList_some, Option.toList_none, arr, inb, List.cons_append, List.nil_append, rv_some, rv_none, nlt_t, nlt_f, nle_t, nle_f, neq_f, ix_cl, ix_nn, ix_lt, cmp_le, cmp_lt, cmp_eq, cmp_lt0, cmp_ge0, cmp_eq0, cmp_gt0, cmp_le0, nI_mul, nI_add, nm1_ne, nm1_ne', one01, zero01, b2i_0, b2i_1, b2i_01, cmp_eq1, true_or, or_true, false_or, or_false, neq_t, hN_sI, hLn_sI, hR_sI, hL_sI, hI_sI, hN_sA, hLn_sA, hR_sA, hL_sA, hI_sA, hN_wI, hLn_wI, hR_wI, hL_wI, hI_wI, false_and, and_false, if_true, if_false, hN_fA, hLn_fA, hR_fA, hN_wrS, hLn_wrS, hR_wrS, hL_wrS, wS_day, wS_keeps, wS_brs, wS_first, wS_knows, wS_purse, wS_till, wS_valid, wS_kept, sS_day, sS_keeps, sS_brs, sS_first, sS_knows, sS_purse, sS_till, sS_valid, sS_kept, wrS_wrS, day_mk, knows_mk, purse_mk, till_mk, valid_mk, kept_mk, keeps_mk, brs_mk, first_mk, hN_wrU, hLn_wrU, hR_wrU, hL_wrU, wU_19, wU_20, sU_19, sU_20, upd_same, upd_upd, hN_wrR, hLn_wrR, hR_wrR, hL_wrR, bI_0, bI_01', bI_t1, eq_self, Bool.true_eq_false, Bool.false_eq_true, hN_wrC, hLn_wrC, hR_wrC, hL_wrC, lay_174, lay_175, lay_176, lay_177, lay_178, lay_179, lay_180, lay_181, lay_182, lay_183, lay_184, lay_185, lay_186, lay_187, lay_188, lay_189, lay_190, lay_191, lay_192, lay_193, lay_194, lay_195, lay_196, lay_197, lay_198, lay_199, lay_200, lay_201, lay_202, lay_203, lay_204, lay_205, lay_206, lay_207, lay_208, lay_209, lay_210, lay_211, lay_212, lay_213, lay_214, lay_215, lay_216, lay_217, lay_218, lay_219, hN_wrO, hLn_wrO, hR_wrO, hN_wrL, hLn_wrL, hR_wrL, hN_wrF, hLn_wrF, hR_wrF]
    exact hq
  simp (disch := omega) only [g257_0, g257_1, g257_2, GN_nx, GN_rtn, GN_ck, GN_br, GN_cll, ldI_0, ldJ_0, ldR_0, ldI_s, ldJ_s, ldR_s, pI_c, pII_c, pJ_c, pJJ_c, pJI_c, pR_c, pRI_c, pRJ_c, pRR_c, pRII_c, pRIJ_c, pRIR_c, pCopy_c, pIe_c, pJe_c, pRe_c, pE_c, p1_i, p1_r, p11_ir, pA_0, pA_1, pA_2, pA_3, pA_4, pA_5, st1_0, st1_i, st1_r, st1_n, st1_u, st1_j, st1_s, st2_0, st2_i, st2_r, st2_n, st2_u, st2_j, st2_s, List.length_cons, List.length_nil, Nat.reduceAdd, Nat.reduceLT, Nat.reduceLeDiff, Nat.reduceEqDiff, Nat.zero_add, true_and, and_true, true_implies, not_true_eq_false, not_false_eq_true, false_implies, Option.toList_some, Option.toList_none, arr, inb, List.cons_append, List.nil_append, rv_some, rv_none, nlt_t, nlt_f, nle_t, nle_f, neq_f, ix_cl, ix_nn, ix_lt, cmp_le, cmp_lt, cmp_eq, cmp_lt0, cmp_ge0, cmp_eq0, cmp_gt0, cmp_le0, nI_mul, nI_add, nm1_ne, nm1_ne', one01, zero01, b2i_0, b2i_1, b2i_01, cmp_eq1, true_or, or_true, false_or, or_false, neq_t, hN_sI, hLn_sI, hR_sI, hL_sI, hI_sI, hN_sA, hLn_sA, hR_sA, hL_sA, hI_sA, hN_wI, hLn_wI, hR_wI, hL_wI, hI_wI, false_and, and_false, if_true, if_false, hN_fA, hLn_fA, hR_fA, hN_wrS, hLn_wrS, hR_wrS, hL_wrS, wS_day, wS_keeps, wS_brs, wS_first, wS_knows, wS_purse, wS_till, wS_valid, wS_kept, sS_day, sS_keeps, sS_brs, sS_first, sS_knows, sS_purse, sS_till, sS_valid, sS_kept, wrS_wrS, day_mk, knows_mk, purse_mk, till_mk, valid_mk, kept_mk, keeps_mk, brs_mk, first_mk, hN_wrU, hLn_wrU, hR_wrU, hL_wrU, wU_19, wU_20, sU_19, sU_20, upd_same, upd_upd, hN_wrR, hLn_wrR, hR_wrR, hL_wrR, bI_0, bI_01', bI_t1, eq_self, Bool.true_eq_false, Bool.false_eq_true, hN_wrC, hLn_wrC, hR_wrC, hL_wrC, lay_174, lay_175, lay_176, lay_177, lay_178, lay_179, lay_180, lay_181, lay_182, lay_183, lay_184, lay_185, lay_186, lay_187, lay_188, lay_189, lay_190, lay_191, lay_192, lay_193, lay_194, lay_195, lay_196, lay_197, lay_198, lay_199, lay_200, lay_201, lay_202, lay_203, lay_204, lay_205, lay_206, lay_207, lay_208, lay_209, lay_210, lay_211, lay_212, lay_213, lay_214, lay_215, lay_216, lay_217, lay_218, lay_219, hN_wrO, hLn_wrO, hR_wrO, hN_wrL, hLn_wrL, hR_wrL, hN_wrF, hLn_wrF, hR_wrF]
  refine Mo_isSet (by omega) zM' zC' ?_
  simp (disch := omega) only [g257_5, GN_nx, GN_rtn, GN_ck, GN_br, GN_cll, ldI_0, ldJ_0, ldR_0, ldI_s, ldJ_s, ldR_s, pI_c, pII_c, pJ_c, pJJ_c, pJI_c, pR_c, pRI_c, pRJ_c, pRR_c, pRII_c, pRIJ_c, pRIR_c, pCopy_c, pIe_c, pJe_c, pRe_c, pE_c, p1_i, p1_r, p11_ir, pA_0, pA_1, pA_2, pA_3, pA_4, pA_5, st1_0, st1_i, st1_r, st1_n, st1_u, st1_j, st1_s, st2_0, st2_i, st2_r, st2_n, st2_u, st2_j, st2_s, List.length_cons, List.length_nil, Nat.reduceAdd, Nat.reduceLT, Nat.reduceLeDiff, Nat.reduceEqDiff, Nat.zero_add, true_and, and_true, true_implies, not_true_eq_false, not_false_eq_true, false_implies, Option.toList_some, Option.toList_none, arr, inb, List.cons_append, List.nil_append, rv_some, rv_none, nlt_t, nlt_f, nle_t, nle_f, neq_f, ix_cl, ix_nn, ix_lt, cmp_le, cmp_lt, cmp_eq, cmp_lt0, cmp_ge0, cmp_eq0, cmp_gt0, cmp_le0, nI_mul, nI_add, nm1_ne, nm1_ne', one01, zero01, b2i_0, b2i_1, b2i_01, cmp_eq1, true_or, or_true, false_or, or_false, neq_t, hN_sI, hLn_sI, hR_sI, hL_sI, hI_sI, hN_sA, hLn_sA, hR_sA, hL_sA, hI_sA, hN_wI, hLn_wI, hR_wI, hL_wI, hI_wI, false_and, and_false, if_true, if_false, hN_fA, hLn_fA, hR_fA, hN_wrS, hLn_wrS, hR_wrS, hL_wrS, wS_day, wS_keeps, wS_brs, wS_first, wS_knows, wS_purse, wS_till, wS_valid, wS_kept, sS_day, sS_keeps, sS_brs, sS_first, sS_knows, sS_purse, sS_till, sS_valid, sS_kept, wrS_wrS, day_mk, knows_mk, purse_mk, till_mk, valid_mk, kept_mk, keeps_mk, brs_mk, first_mk, hN_wrU, hLn_wrU, hR_wrU, hL_wrU, wU_19, wU_20, sU_19, sU_20, upd_same, upd_upd, hN_wrR, hLn_wrR, hR_wrR, hL_wrR, bI_0, bI_01', bI_t1, eq_self, Bool.true_eq_false, Bool.false_eq_true, hN_wrC, hLn_wrC, hR_wrC, hL_wrC, lay_174, lay_175, lay_176, lay_177, lay_178, lay_179, lay_180, lay_181, lay_182, lay_183, lay_184, lay_185, lay_186, lay_187, lay_188, lay_189, lay_190, lay_191, lay_192, lay_193, lay_194, lay_195, lay_196, lay_197, lay_198, lay_199, lay_200, lay_201, lay_202, lay_203, lay_204, lay_205, lay_206, lay_207, lay_208, lay_209, lay_210, lay_211, lay_212, lay_213, lay_214, lay_215, lay_216, lay_217, lay_218, lay_219, hN_wrO, hLn_wrO, hR_wrO, hN_wrL, hLn_wrL, hR_wrL, hN_wrF, hLn_wrF, hR_wrF]
  refine And.intro (fun h1 => bad ?_) (fun h1 => ?_)
  · have := hQ h hA' Agm_refl
    rw [if_neg (fun z => h1 z.1)] at this
    exact this
  have h1 := Classical.not_not.mp h1
  simp (disch := omega) only [g257_8, g257_9, g257_10, GN_nx, GN_rtn, GN_ck, GN_br, GN_cll, ldI_0, ldJ_0, ldR_0, ldI_s, ldJ_s, ldR_s, pI_c, pII_c, pJ_c, pJJ_c, pJI_c, pR_c, pRI_c, pRJ_c, pRR_c, pRII_c, pRIJ_c, pRIR_c, pCopy_c, pIe_c, pJe_c, pRe_c, pE_c, p1_i, p1_r, p11_ir, pA_0, pA_1, pA_2, pA_3, pA_4, pA_5, st1_0, st1_i, st1_r, st1_n, st1_u, st1_j, st1_s, st2_0, st2_i, st2_r, st2_n, st2_u, st2_j, st2_s, List.length_cons, List.length_nil, Nat.reduceAdd, Nat.reduceLT, Nat.reduceLeDiff, Nat.reduceEqDiff, Nat.zero_add, true_and, and_true, true_implies, not_true_eq_false, not_false_eq_true, false_implies, Option.toList_some, Option.toList_none, arr, inb, List.cons_append, List.nil_append, rv_some, rv_none, nlt_t, nlt_f, nle_t, nle_f, neq_f, ix_cl, ix_nn, ix_lt, cmp_le, cmp_lt, cmp_eq, cmp_lt0, cmp_ge0, cmp_eq0, cmp_gt0, cmp_le0, nI_mul, nI_add, nm1_ne, nm1_ne', one01, zero01, b2i_0, b2i_1, b2i_01, cmp_eq1, true_or, or_true, false_or, or_false, neq_t, hN_sI, hLn_sI, hR_sI, hL_sI, hI_sI, hN_sA, hLn_sA, hR_sA, hL_sA, hI_sA, hN_wI, hLn_wI, hR_wI, hL_wI, hI_wI, false_and, and_false, if_true, if_false, hN_fA, hLn_fA, hR_fA, hN_wrS, hLn_wrS, hR_wrS, hL_wrS, wS_day, wS_keeps, wS_brs, wS_first, wS_knows, wS_purse, wS_till, wS_valid, wS_kept, sS_day, sS_keeps, sS_brs, sS_first, sS_knows, sS_purse, sS_till, sS_valid, sS_kept, wrS_wrS, day_mk, knows_mk, purse_mk, till_mk, valid_mk, kept_mk, keeps_mk, brs_mk, first_mk, hN_wrU, hLn_wrU, hR_wrU, hL_wrU, wU_19, wU_20, sU_19, sU_20, upd_same, upd_upd, hN_wrR, hLn_wrR, hR_wrR, hL_wrR, bI_0, bI_01', bI_t1, eq_self, Bool.true_eq_false, Bool.false_eq_true, hN_wrC, hLn_wrC, hR_wrC, hL_wrC, lay_174, lay_175, lay_176, lay_177, lay_178, lay_179, lay_180, lay_181, lay_182, lay_183, lay_184, lay_185, lay_186, lay_187, lay_188, lay_189, lay_190, lay_191, lay_192, lay_193, lay_194, lay_195, lay_196, lay_197, lay_198, lay_199, lay_200, lay_201, lay_202, lay_203, lay_204, lay_205, lay_206, lay_207, lay_208, lay_209, lay_210, lay_211, lay_212, lay_213, lay_214, lay_215, lay_216, lay_217, lay_218, lay_219, hN_wrO, hLn_wrO, hR_wrO, hN_wrL, hLn_wrL, hR_wrL, hN_wrF, hLn_wrF, hR_wrF]
  refine Mo_isFact (by omega) zM' zC' ?_
  simp (disch := omega) only [g257_13, GN_nx, GN_rtn, GN_ck, GN_br, GN_cll, ldI_0, ldJ_0, ldR_0, ldI_s, ldJ_s, ldR_s, pI_c, pII_c, pJ_c, pJJ_c, pJI_c, pR_c, pRI_c, pRJ_c, pRR_c, pRII_c, pRIJ_c, pRIR_c, pCopy_c, pIe_c, pJe_c, pRe_c, pE_c, p1_i, p1_r, p11_ir, pA_0, pA_1, pA_2, pA_3, pA_4, pA_5, st1_0, st1_i, st1_r, st1_n, st1_u, st1_j, st1_s, st2_0, st2_i, st2_r, st2_n, st2_u, st2_j, st2_s, List.length_cons, List.length_nil, Nat.reduceAdd, Nat.reduceLT, Nat.reduceLeDiff, Nat.reduceEqDiff, Nat.zero_add, true_and, and_true, true_implies, not_true_eq_false, not_false_eq_true, false_implies, Option.toList_some, Option.toList_none, arr, inb, List.cons_append, List.nil_append, rv_some, rv_none, nlt_t, nlt_f, nle_t, nle_f, neq_f, ix_cl, ix_nn, ix_lt, cmp_le, cmp_lt, cmp_eq, cmp_lt0, cmp_ge0, cmp_eq0, cmp_gt0, cmp_le0, nI_mul, nI_add, nm1_ne, nm1_ne', one01, zero01, b2i_0, b2i_1, b2i_01, cmp_eq1, true_or, or_true, false_or, or_false, neq_t, hN_sI, hLn_sI, hR_sI, hL_sI, hI_sI, hN_sA, hLn_sA, hR_sA, hL_sA, hI_sA, hN_wI, hLn_wI, hR_wI, hL_wI, hI_wI, false_and, and_false, if_true, if_false, hN_fA, hLn_fA, hR_fA, hN_wrS, hLn_wrS, hR_wrS, hL_wrS, wS_day, wS_keeps, wS_brs, wS_first, wS_knows, wS_purse, wS_till, wS_valid, wS_kept, sS_day, sS_keeps, sS_brs, sS_first, sS_knows, sS_purse, sS_till, sS_valid, sS_kept, wrS_wrS, day_mk, knows_mk, purse_mk, till_mk, valid_mk, kept_mk, keeps_mk, brs_mk, first_mk, hN_wrU, hLn_wrU, hR_wrU, hL_wrU, wU_19, wU_20, sU_19, sU_20, upd_same, upd_upd, hN_wrR, hLn_wrR, hR_wrR, hL_wrR, bI_0, bI_01', bI_t1, eq_self, Bool.true_eq_false, Bool.false_eq_true, hN_wrC, hLn_wrC, hR_wrC, hL_wrC, lay_174, lay_175, lay_176, lay_177, lay_178, lay_179, lay_180, lay_181, lay_182, lay_183, lay_184, lay_185, lay_186, lay_187, lay_188, lay_189, lay_190, lay_191, lay_192, lay_193, lay_194, lay_195, lay_196, lay_197, lay_198, lay_199, lay_200, lay_201, lay_202, lay_203, lay_204, lay_205, lay_206, lay_207, lay_208, lay_209, lay_210, lay_211, lay_212, lay_213, lay_214, lay_215, lay_216, lay_217, lay_218, lay_219, hN_wrO, hLn_wrO, hR_wrO, hN_wrL, hLn_wrL, hR_wrL, hN_wrF, hLn_wrF, hR_wrF]
  refine And.intro (fun h2 => bad ?_) (fun h2 => ?_)
  · have := hQ h hA' Agm_refl
    rw [if_neg (fun z => h2 z.2.1)] at this
    exact this
  have h2 := Classical.not_not.mp h2
  obtain ⟨g, hg, rfl⟩ := inR_n h2 (by omega)
  have hq : ∀ h', MdlAt h' bk m A → Agm mdX h h' → (byR A.C (rowsM A.C r (hI h 217)) g k = -1 ∨ -1 ≤ k) → Q (some (.int (byR A.C (rowsM A.C r (hI h 217)) g k))) h' := fun h' z1 z2 z3 => by
    have := hQ h' z1 z2
    rw [nI_clamp (show g < 2147483648 by omega)] at this
    by_cases c : -1 ≤ k
    · rw [if_pos ⟨h1, h2, c⟩, by_eq mr16 (by omega) c, byR_c (Rw_rows (pr' := hI h 217))] at this
      exact this
    · rw [if_neg (fun z => c z.2.2)] at this
      rcases z3 with z | z
      · rw [z]
        exact this
      · exact absurd z c
  have hsm : SmP A.C.nr 0 (rowsM A.C r (hI h 217)) := SmP_rows mr16
  simp (disch := omega) only [g257_16, g257_17, g257_18, GN_nx, GN_rtn, GN_ck, GN_br, GN_cll, ldI_0, ldJ_0, ldR_0, ldI_s, ldJ_s, ldR_s, pI_c, pII_c, pJ_c, pJJ_c, pJI_c, pR_c, pRI_c, pRJ_c, pRR_c, pRII_c, pRIJ_c, pRIR_c, pCopy_c, pIe_c, pJe_c, pRe_c, pE_c, p1_i, p1_r, p11_ir, pA_0, pA_1, pA_2, pA_3, pA_4, pA_5, st1_0, st1_i, st1_r, st1_n, st1_u, st1_j, st1_s, st2_0, st2_i, st2_r, st2_n, st2_u, st2_j, st2_s, List.length_cons, List.length_nil, Nat.reduceAdd, Nat.reduceLT, Nat.reduceLeDiff, Nat.reduceEqDiff, Nat.zero_add, true_and, and_true, true_implies, not_true_eq_false, not_false_eq_true, false_implies, Option.toList_some, Option.toList_none, arr, inb, List.cons_append, List.nil_append, rv_some, rv_none, nlt_t, nlt_f, nle_t, nle_f, neq_f, ix_cl, ix_nn, ix_lt, cmp_le, cmp_lt, cmp_eq, cmp_lt0, cmp_ge0, cmp_eq0, cmp_gt0, cmp_le0, nI_mul, nI_add, nm1_ne, nm1_ne', one01, zero01, b2i_0, b2i_1, b2i_01, cmp_eq1, true_or, or_true, false_or, or_false, neq_t, hN_sI, hLn_sI, hR_sI, hL_sI, hI_sI, hN_sA, hLn_sA, hR_sA, hL_sA, hI_sA, hN_wI, hLn_wI, hR_wI, hL_wI, hI_wI, false_and, and_false, if_true, if_false, hN_fA, hLn_fA, hR_fA, hN_wrS, hLn_wrS, hR_wrS, hL_wrS, wS_day, wS_keeps, wS_brs, wS_first, wS_knows, wS_purse, wS_till, wS_valid, wS_kept, sS_day, sS_keeps, sS_brs, sS_first, sS_knows, sS_purse, sS_till, sS_valid, sS_kept, wrS_wrS, day_mk, knows_mk, purse_mk, till_mk, valid_mk, kept_mk, keeps_mk, brs_mk, first_mk, hN_wrU, hLn_wrU, hR_wrU, hL_wrU, wU_19, wU_20, sU_19, sU_20, upd_same, upd_upd, hN_wrR, hLn_wrR, hR_wrR, hL_wrR, bI_0, bI_01', bI_t1, eq_self, Bool.true_eq_false, Bool.false_eq_true, hN_wrC, hLn_wrC, hR_wrC, hL_wrC, lay_174, lay_175, lay_176, lay_177, lay_178, lay_179, lay_180, lay_181, lay_182, lay_183, lay_184, lay_185, lay_186, lay_187, lay_188, lay_189, lay_190, lay_191, lay_192, lay_193, lay_194, lay_195, lay_196, lay_197, lay_198, lay_199, lay_200, lay_201, lay_202, lay_203, lay_204, lay_205, lay_206, lay_207, lay_208, lay_209, lay_210, lay_211, lay_212, lay_213, lay_214, lay_215, lay_216, lay_217, lay_218, lay_219, hN_wrO, hLn_wrO, hR_wrO, hN_wrL, hLn_wrL, hR_wrL, hN_wrF, hLn_wrF, hR_wrF]
  refine Mo_closed (by omega) zM' zC' ?_
  have ag : Agm clX h (wrF h (nI (rowsM A.C r (hI h 217)).2.1) (rowsM A.C r (hI h 217)).2.2) := Ag_wrF
  have hq1 := hq _ (Mdl_sk hA' (Agm_sub (fun _ _ => cl_sk) ag)) (Agm_sub (fun _ _ z => md_sk (cl_sk z)) ag)
  clear hq hQ
  unfold byR at hq1
  generalize rowsM A.C r (hI h 217) = a at *
  obtain ⟨ak, n, P⟩ := a
  obtain ⟨hn, hp⟩ := hsm
  dsimp only at hn hp hq1 ag ⊢
  have hn : n ≤ 12 := hn
  simp (disch := omega) only [g257_21, g257_22, GN_nx, GN_rtn, GN_ck, GN_br, GN_cll, ldI_0, ldJ_0, ldR_0, ldI_s, ldJ_s, ldR_s, pI_c, pII_c, pJ_c, pJJ_c, pJI_c, pR_c, pRI_c, pRJ_c, pRR_c, pRII_c, pRIJ_c, pRIR_c, pCopy_c, pIe_c, pJe_c, pRe_c, pE_c, p1_i, p1_r, p11_ir, pA_0, pA_1, pA_2, pA_3, pA_4, pA_5, st1_0, st1_i, st1_r, st1_n, st1_u, st1_j, st1_s, st2_0, st2_i, st2_r, st2_n, st2_u, st2_j, st2_s, List.length_cons, List.length_nil, Nat.reduceAdd, Nat.reduceLT, Nat.reduceLeDiff, Nat.reduceEqDiff, Nat.zero_add, true_and, and_true, true_implies, not_true_eq_false, not_false_eq_true, false_implies, Option.toList_some, Option.toList_none, arr, inb, List.cons_append, List.nil_append, rv_some, rv_none, nlt_t, nlt_f, nle_t, nle_f, neq_f, ix_cl, ix_nn, ix_lt, cmp_le, cmp_lt, cmp_eq, cmp_lt0, cmp_ge0, cmp_eq0, cmp_gt0, cmp_le0, nI_mul, nI_add, nm1_ne, nm1_ne', one01, zero01, b2i_0, b2i_1, b2i_01, cmp_eq1, true_or, or_true, false_or, or_false, neq_t, hN_sI, hLn_sI, hR_sI, hL_sI, hI_sI, hN_sA, hLn_sA, hR_sA, hL_sA, hI_sA, hN_wI, hLn_wI, hR_wI, hL_wI, hI_wI, false_and, and_false, if_true, if_false, hN_fA, hLn_fA, hR_fA, hN_wrS, hLn_wrS, hR_wrS, hL_wrS, wS_day, wS_keeps, wS_brs, wS_first, wS_knows, wS_purse, wS_till, wS_valid, wS_kept, sS_day, sS_keeps, sS_brs, sS_first, sS_knows, sS_purse, sS_till, sS_valid, sS_kept, wrS_wrS, day_mk, knows_mk, purse_mk, till_mk, valid_mk, kept_mk, keeps_mk, brs_mk, first_mk, hN_wrU, hLn_wrU, hR_wrU, hL_wrU, wU_19, wU_20, sU_19, sU_20, upd_same, upd_upd, hN_wrR, hLn_wrR, hR_wrR, hL_wrR, bI_0, bI_01', bI_t1, eq_self, Bool.true_eq_false, Bool.false_eq_true, hN_wrC, hLn_wrC, hR_wrC, hL_wrC, lay_174, lay_175, lay_176, lay_177, lay_178, lay_179, lay_180, lay_181, lay_182, lay_183, lay_184, lay_185, lay_186, lay_187, lay_188, lay_189, lay_190, lay_191, lay_192, lay_193, lay_194, lay_195, lay_196, lay_197, lay_198, lay_199, lay_200, lay_201, lay_202, lay_203, lay_204, lay_205, lay_206, lay_207, lay_208, lay_209, lay_210, lay_211, lay_212, lay_213, lay_214, lay_215, lay_216, lay_217, lay_218, lay_219, hN_wrO, hLn_wrO, hR_wrO, hN_wrL, hLn_wrL, hR_wrL, hN_wrF, hLn_wrF, hR_wrF]
  refine Mo_holds (by omega) ?_
  simp (disch := omega) only [g257_25, GN_nx, GN_rtn, GN_ck, GN_br, GN_cll, ldI_0, ldJ_0, ldR_0, ldI_s, ldJ_s, ldR_s, pI_c, pII_c, pJ_c, pJJ_c, pJI_c, pR_c, pRI_c, pRJ_c, pRR_c, pRII_c, pRIJ_c, pRIR_c, pCopy_c, pIe_c, pJe_c, pRe_c, pE_c, p1_i, p1_r, p11_ir, pA_0, pA_1, pA_2, pA_3, pA_4, pA_5, st1_0, st1_i, st1_r, st1_n, st1_u, st1_j, st1_s, st2_0, st2_i, st2_r, st2_n, st2_u, st2_j, st2_s, List.length_cons, List.length_nil, Nat.reduceAdd, Nat.reduceLT, Nat.reduceLeDiff, Nat.reduceEqDiff, Nat.zero_add, true_and, and_true, true_implies, not_true_eq_false, not_false_eq_true, false_implies, Option.toList_some, Option.toList_none, arr, inb, List.cons_append, List.nil_append, rv_some, rv_none, nlt_t, nlt_f, nle_t, nle_f, neq_f, ix_cl, ix_nn, ix_lt, cmp_le, cmp_lt, cmp_eq, cmp_lt0, cmp_ge0, cmp_eq0, cmp_gt0, cmp_le0, nI_mul, nI_add, nm1_ne, nm1_ne', one01, zero01, b2i_0, b2i_1, b2i_01, cmp_eq1, true_or, or_true, false_or, or_false, neq_t, hN_sI, hLn_sI, hR_sI, hL_sI, hI_sI, hN_sA, hLn_sA, hR_sA, hL_sA, hI_sA, hN_wI, hLn_wI, hR_wI, hL_wI, hI_wI, false_and, and_false, if_true, if_false, hN_fA, hLn_fA, hR_fA, hN_wrS, hLn_wrS, hR_wrS, hL_wrS, wS_day, wS_keeps, wS_brs, wS_first, wS_knows, wS_purse, wS_till, wS_valid, wS_kept, sS_day, sS_keeps, sS_brs, sS_first, sS_knows, sS_purse, sS_till, sS_valid, sS_kept, wrS_wrS, day_mk, knows_mk, purse_mk, till_mk, valid_mk, kept_mk, keeps_mk, brs_mk, first_mk, hN_wrU, hLn_wrU, hR_wrU, hL_wrU, wU_19, wU_20, sU_19, sU_20, upd_same, upd_upd, hN_wrR, hLn_wrR, hR_wrR, hL_wrR, bI_0, bI_01', bI_t1, eq_self, Bool.true_eq_false, Bool.false_eq_true, hN_wrC, hLn_wrC, hR_wrC, hL_wrC, lay_174, lay_175, lay_176, lay_177, lay_178, lay_179, lay_180, lay_181, lay_182, lay_183, lay_184, lay_185, lay_186, lay_187, lay_188, lay_189, lay_190, lay_191, lay_192, lay_193, lay_194, lay_195, lay_196, lay_197, lay_198, lay_199, lay_200, lay_201, lay_202, lay_203, lay_204, lay_205, lay_206, lay_207, lay_208, lay_209, lay_210, lay_211, lay_212, lay_213, lay_214, lay_215, lay_216, lay_217, lay_218, lay_219, hN_wrO, hLn_wrO, hR_wrO, hN_wrL, hLn_wrL, hR_wrL, hN_wrF, hLn_wrF, hR_wrF]
  refine And.intro (fun h3 => ?_) (fun h3 => ?_)
  · have h3 : hasB ak (nI g) := by first | exact h3 | exact Classical.not_not.mp h3
    rw [if_pos h3] at hq1
    have hmc := Mc_agm (fun _ _ => sk_nc) (Ag_wrFs (h := h) (v := nI n) (g := P)) zC'
    have hrow := rb_lt (C := A.C) (P := P) (n := n) n (bt (nI g), 0) (Nat.le_refl n) (Nat.two_pow_pos n)
    have h12 : 2 ^ n ≤ 2 ^ 12 := Nat.pow_le_pow_right (by omega) hn
    have key : ∀ (i : Nat) (a : Int32 × Nat) (y : Value), i ≤ n → a.2 < 2 ^ n → rbM A.C P i a = rbM A.C P n (bt (nI g), 0) → (y = uu ∨ ∃ z, y = .int z) → G (d - 1) 257 46 [.ref 174, .int r, .int (nI g), .int k, .int a.1, .int (nI a.2), .int (nI i - nI 1), y] [] (wrF h (nI n) P) Q := by
      intro i
      induction i with
      | zero =>
        intro a y hi ha he hy
        have he : a = rbM A.C P n (bt (nI g), 0) := he
        rw [← he] at hq1 hrow
        have neg : (nI 0 - nI 1 < 0) = True := eq_true (by decide)
        by_cases ck : k = -1
        · subst ck
          rw [if_pos rfl, bit_bc (by omega)] at hq1
          have hq2 := hq1 (Or.inr (Int32.le_refl _))
          simp (disch := omega) only [g257_46, g257_48, g257_122, g257_123, g257_124, g257_127, g257_129, GN_nx, GN_rtn, GN_ck, GN_br, GN_cll, ldI_0, ldJ_0, ldR_0, ldI_s, ldJ_s, ldR_s, pI_c, pII_c, pJ_c, pJJ_c, pJI_c, pR_c, pRI_c, pRJ_c, pRR_c, pRII_c, pRIJ_c, pRIR_c, pCopy_c, pIe_c, pJe_c, pRe_c, pE_c, p1_i, p1_r, p11_ir, pA_0, pA_1, pA_2, pA_3, pA_4, pA_5, st1_0, st1_i, st1_r, st1_n, st1_u, st1_j, st1_s, st2_0, st2_i, st2_r, st2_n, st2_u, st2_j, st2_s, List.length_cons, List.length_nil, Nat.reduceAdd, Nat.reduceLT, Nat.reduceLeDiff, Nat.reduceEqDiff, Nat.zero_add, true_and, and_true, true_implies, not_true_eq_false, not_false_eq_true, false_implies, Option.toList_some, Option.toList_none, arr, inb, List.cons_append, List.nil_append, rv_some, rv_none, nlt_t, nlt_f, nle_t, nle_f, neq_f, ix_cl, ix_nn, ix_lt, cmp_le, cmp_lt, cmp_eq, cmp_lt0, cmp_ge0, cmp_eq0, cmp_gt0, cmp_le0, nI_mul, nI_add, nm1_ne, nm1_ne', one01, zero01, b2i_0, b2i_1, b2i_01, cmp_eq1, true_or, or_true, false_or, or_false, neq_t, hN_sI, hLn_sI, hR_sI, hL_sI, hI_sI, hN_sA, hLn_sA, hR_sA, hL_sA, hI_sA, hN_wI, hLn_wI, hR_wI, hL_wI, hI_wI, false_and, and_false, if_true, if_false, hN_fA, hLn_fA, hR_fA, hN_wrS, hLn_wrS, hR_wrS, hL_wrS, wS_day, wS_keeps, wS_brs, wS_first, wS_knows, wS_purse, wS_till, wS_valid, wS_kept, sS_day, sS_keeps, sS_brs, sS_first, sS_knows, sS_purse, sS_till, sS_valid, sS_kept, wrS_wrS, day_mk, knows_mk, purse_mk, till_mk, valid_mk, kept_mk, keeps_mk, brs_mk, first_mk, hN_wrU, hLn_wrU, hR_wrU, hL_wrU, wU_19, wU_20, sU_19, sU_20, upd_same, upd_upd, hN_wrR, hLn_wrR, hR_wrR, hL_wrR, bI_0, bI_01', bI_t1, eq_self, Bool.true_eq_false, Bool.false_eq_true, hN_wrC, hLn_wrC, hR_wrC, hL_wrC, lay_174, lay_175, lay_176, lay_177, lay_178, lay_179, lay_180, lay_181, lay_182, lay_183, lay_184, lay_185, lay_186, lay_187, lay_188, lay_189, lay_190, lay_191, lay_192, lay_193, lay_194, lay_195, lay_196, lay_197, lay_198, lay_199, lay_200, lay_201, lay_202, lay_203, lay_204, lay_205, lay_206, lay_207, lay_208, lay_209, lay_210, lay_211, lay_212, lay_213, lay_214, lay_215, lay_216, lay_217, lay_218, lay_219, hN_wrO, hLn_wrO, hR_wrO, hN_wrL, hLn_wrL, hR_wrL, hN_wrF, hLn_wrF, hR_wrF,  neg]
          refine Mo_bits (by omega) (by omega) ?_
          simp (disch := omega) only [g257_132, GN_nx, GN_rtn, GN_ck, GN_br, GN_cll, ldI_0, ldJ_0, ldR_0, ldI_s, ldJ_s, ldR_s, pI_c, pII_c, pJ_c, pJJ_c, pJI_c, pR_c, pRI_c, pRJ_c, pRR_c, pRII_c, pRIJ_c, pRIR_c, pCopy_c, pIe_c, pJe_c, pRe_c, pE_c, p1_i, p1_r, p11_ir, pA_0, pA_1, pA_2, pA_3, pA_4, pA_5, st1_0, st1_i, st1_r, st1_n, st1_u, st1_j, st1_s, st2_0, st2_i, st2_r, st2_n, st2_u, st2_j, st2_s, List.length_cons, List.length_nil, Nat.reduceAdd, Nat.reduceLT, Nat.reduceLeDiff, Nat.reduceEqDiff, Nat.zero_add, true_and, and_true, true_implies, not_true_eq_false, not_false_eq_true, false_implies, Option.toList_some, Option.toList_none, arr, inb, List.cons_append, List.nil_append, rv_some, rv_none, nlt_t, nlt_f, nle_t, nle_f, neq_f, ix_cl, ix_nn, ix_lt, cmp_le, cmp_lt, cmp_eq, cmp_lt0, cmp_ge0, cmp_eq0, cmp_gt0, cmp_le0, nI_mul, nI_add, nm1_ne, nm1_ne', one01, zero01, b2i_0, b2i_1, b2i_01, cmp_eq1, true_or, or_true, false_or, or_false, neq_t, hN_sI, hLn_sI, hR_sI, hL_sI, hI_sI, hN_sA, hLn_sA, hR_sA, hL_sA, hI_sA, hN_wI, hLn_wI, hR_wI, hL_wI, hI_wI, false_and, and_false, if_true, if_false, hN_fA, hLn_fA, hR_fA, hN_wrS, hLn_wrS, hR_wrS, hL_wrS, wS_day, wS_keeps, wS_brs, wS_first, wS_knows, wS_purse, wS_till, wS_valid, wS_kept, sS_day, sS_keeps, sS_brs, sS_first, sS_knows, sS_purse, sS_till, sS_valid, sS_kept, wrS_wrS, day_mk, knows_mk, purse_mk, till_mk, valid_mk, kept_mk, keeps_mk, brs_mk, first_mk, hN_wrU, hLn_wrU, hR_wrU, hL_wrU, wU_19, wU_20, sU_19, sU_20, upd_same, upd_upd, hN_wrR, hLn_wrR, hR_wrR, hL_wrR, bI_0, bI_01', bI_t1, eq_self, Bool.true_eq_false, Bool.false_eq_true, hN_wrC, hLn_wrC, hR_wrC, hL_wrC, lay_174, lay_175, lay_176, lay_177, lay_178, lay_179, lay_180, lay_181, lay_182, lay_183, lay_184, lay_185, lay_186, lay_187, lay_188, lay_189, lay_190, lay_191, lay_192, lay_193, lay_194, lay_195, lay_196, lay_197, lay_198, lay_199, lay_200, lay_201, lay_202, lay_203, lay_204, lay_205, lay_206, lay_207, lay_208, lay_209, lay_210, lay_211, lay_212, lay_213, lay_214, lay_215, lay_216, lay_217, lay_218, lay_219, hN_wrO, hLn_wrO, hR_wrO, hN_wrL, hLn_wrL, hR_wrL, hN_wrF, hLn_wrF, hR_wrF]
          exact hq2
        · rw [if_neg ck] at hq1
          have hq2 : Q (some (.int (scM P a.2 k n 0 0))) (wrF h (nI n) P) := by
            by_cases c1 : -1 ≤ k
            · exact hq1 (Or.inr c1)
            · have hk0 : k < 0 := by
                rw [Int32.le_iff_toInt_le, show (-1 : Int32).toInt = -1 by decide] at c1
                rw [Int32.lt_iff_toInt_lt, show (0 : Int32).toInt = 0 by decide]
                omega
              exact hq1 (Or.inl (sc_neg hk0 n 0 0 (by omega)))
          have st := by_scan (x := r) (f := nI g) (nd := a.1) (d := d - 1) (Q := Q) (by omega) zM' hn (show a.2 < 4096 by omega) hq2 y hy
          simp (disch := omega) only [g257_46, g257_48, g257_122, g257_123, g257_124, GN_nx, GN_rtn, GN_ck, GN_br, GN_cll, ldI_0, ldJ_0, ldR_0, ldI_s, ldJ_s, ldR_s, pI_c, pII_c, pJ_c, pJJ_c, pJI_c, pR_c, pRI_c, pRJ_c, pRR_c, pRII_c, pRIJ_c, pRIR_c, pCopy_c, pIe_c, pJe_c, pRe_c, pE_c, p1_i, p1_r, p11_ir, pA_0, pA_1, pA_2, pA_3, pA_4, pA_5, st1_0, st1_i, st1_r, st1_n, st1_u, st1_j, st1_s, st2_0, st2_i, st2_r, st2_n, st2_u, st2_j, st2_s, List.length_cons, List.length_nil, Nat.reduceAdd, Nat.reduceLT, Nat.reduceLeDiff, Nat.reduceEqDiff, Nat.zero_add, true_and, and_true, true_implies, not_true_eq_false, not_false_eq_true, false_implies, Option.toList_some, Option.toList_none, arr, inb, List.cons_append, List.nil_append, rv_some, rv_none, nlt_t, nlt_f, nle_t, nle_f, neq_f, ix_cl, ix_nn, ix_lt, cmp_le, cmp_lt, cmp_eq, cmp_lt0, cmp_ge0, cmp_eq0, cmp_gt0, cmp_le0, nI_mul, nI_add, nm1_ne, nm1_ne', one01, zero01, b2i_0, b2i_1, b2i_01, cmp_eq1, true_or, or_true, false_or, or_false, neq_t, hN_sI, hLn_sI, hR_sI, hL_sI, hI_sI, hN_sA, hLn_sA, hR_sA, hL_sA, hI_sA, hN_wI, hLn_wI, hR_wI, hL_wI, hI_wI, false_and, and_false, if_true, if_false, hN_fA, hLn_fA, hR_fA, hN_wrS, hLn_wrS, hR_wrS, hL_wrS, wS_day, wS_keeps, wS_brs, wS_first, wS_knows, wS_purse, wS_till, wS_valid, wS_kept, sS_day, sS_keeps, sS_brs, sS_first, sS_knows, sS_purse, sS_till, sS_valid, sS_kept, wrS_wrS, day_mk, knows_mk, purse_mk, till_mk, valid_mk, kept_mk, keeps_mk, brs_mk, first_mk, hN_wrU, hLn_wrU, hR_wrU, hL_wrU, wU_19, wU_20, sU_19, sU_20, upd_same, upd_upd, hN_wrR, hLn_wrR, hR_wrR, hL_wrR, bI_0, bI_01', bI_t1, eq_self, Bool.true_eq_false, Bool.false_eq_true, hN_wrC, hLn_wrC, hR_wrC, hL_wrC, lay_174, lay_175, lay_176, lay_177, lay_178, lay_179, lay_180, lay_181, lay_182, lay_183, lay_184, lay_185, lay_186, lay_187, lay_188, lay_189, lay_190, lay_191, lay_192, lay_193, lay_194, lay_195, lay_196, lay_197, lay_198, lay_199, lay_200, lay_201, lay_202, lay_203, lay_204, lay_205, lay_206, lay_207, lay_208, lay_209, lay_210, lay_211, lay_212, lay_213, lay_214, lay_215, lay_216, lay_217, lay_218, lay_219, hN_wrO, hLn_wrO, hR_wrO, hN_wrL, hLn_wrL, hR_wrL, hN_wrF, hLn_wrF, hR_wrF,  neg, ck]
          exact st
      | succ i ih =>
        intro a y hi ha he hy
        have he : rbM A.C P i (rbF A.C P i a) = rbM A.C P n (bt (nI g), 0) := he
        obtain ⟨p1, p2⟩ := hp i (by omega)
        have e1 := mg _ p1
        have e2 := mfr _ p1
        have st := fun b y' (hb : b.2 < 2 ^ n) (e : rbF A.C P i a = b) hy' => ih b y' (by omega) hb (by rw [← e]; exact he) hy'
        unfold rbF at st
        obtain ⟨mb, mb1, ⟨mf, mf12⟩, ⟨mr, mr16⟩, ⟨mp, mp8⟩, ⟨mm, mm16⟩, ms, mfd, mw, mg, mfr, mgs, mstr, mpur, mm1, mm2, mmd, mm1s, mm2s⟩ := hmc
        have ebt : nI 1 <<< (nI i &&& 31) = nI (2 ^ i) := bt_n (by omega)
        have em : nI i + -1 = nI i - nI 1 := by
          rw [Int32.sub_eq_add_neg]
          rfl
        generalize hrr : (P i).toNatClampNeg = rr at *
        simp (disch := omega) only [g257_46, g257_48, g257_51, g257_53, g257_54, g257_57, g257_59, g257_60, g257_63, g257_64, g257_65, g257_68, g257_70, g257_71, g257_72, g257_73, GN_nx, GN_rtn, GN_ck, GN_br, GN_cll, ldI_0, ldJ_0, ldR_0, ldI_s, ldJ_s, ldR_s, pI_c, pII_c, pJ_c, pJJ_c, pJI_c, pR_c, pRI_c, pRJ_c, pRR_c, pRII_c, pRIJ_c, pRIR_c, pCopy_c, pIe_c, pJe_c, pRe_c, pE_c, p1_i, p1_r, p11_ir, pA_0, pA_1, pA_2, pA_3, pA_4, pA_5, st1_0, st1_i, st1_r, st1_n, st1_u, st1_j, st1_s, st2_0, st2_i, st2_r, st2_n, st2_u, st2_j, st2_s, List.length_cons, List.length_nil, Nat.reduceAdd, Nat.reduceLT, Nat.reduceLeDiff, Nat.reduceEqDiff, Nat.zero_add, true_and, and_true, true_implies, not_true_eq_false, not_false_eq_true, false_implies, Option.toList_some, Option.toList_none, arr, inb, List.cons_append, List.nil_append, rv_some, rv_none, nlt_t, nlt_f, nle_t, nle_f, neq_f, ix_cl, ix_nn, ix_lt, cmp_le, cmp_lt, cmp_eq, cmp_lt0, cmp_ge0, cmp_eq0, cmp_gt0, cmp_le0, nI_mul, nI_add, nm1_ne, nm1_ne', one01, zero01, b2i_0, b2i_1, b2i_01, cmp_eq1, true_or, or_true, false_or, or_false, neq_t, hN_sI, hLn_sI, hR_sI, hL_sI, hI_sI, hN_sA, hLn_sA, hR_sA, hL_sA, hI_sA, hN_wI, hLn_wI, hR_wI, hL_wI, hI_wI, false_and, and_false, if_true, if_false, hN_fA, hLn_fA, hR_fA, hN_wrS, hLn_wrS, hR_wrS, hL_wrS, wS_day, wS_keeps, wS_brs, wS_first, wS_knows, wS_purse, wS_till, wS_valid, wS_kept, sS_day, sS_keeps, sS_brs, sS_first, sS_knows, sS_purse, sS_till, sS_valid, sS_kept, wrS_wrS, day_mk, knows_mk, purse_mk, till_mk, valid_mk, kept_mk, keeps_mk, brs_mk, first_mk, hN_wrU, hLn_wrU, hR_wrU, hL_wrU, wU_19, wU_20, sU_19, sU_20, upd_same, upd_upd, hN_wrR, hLn_wrR, hR_wrR, hL_wrR, bI_0, bI_01', bI_t1, eq_self, Bool.true_eq_false, Bool.false_eq_true, hN_wrC, hLn_wrC, hR_wrC, hL_wrC, lay_174, lay_175, lay_176, lay_177, lay_178, lay_179, lay_180, lay_181, lay_182, lay_183, lay_184, lay_185, lay_186, lay_187, lay_188, lay_189, lay_190, lay_191, lay_192, lay_193, lay_194, lay_195, lay_196, lay_197, lay_198, lay_199, lay_200, lay_201, lay_202, lay_203, lay_204, lay_205, lay_206, lay_207, lay_208, lay_209, lay_210, lay_211, lay_212, lay_213, lay_214, lay_215, lay_216, lay_217, lay_218, lay_219, hN_wrO, hLn_wrO, hR_wrO, hN_wrL, hLn_wrL, hR_wrL, hN_wrF, hLn_wrF, hR_wrF,  ra0, ra1, ra2, ra3, ra4, ra5, ra6, ra7, ra8, ra9, ra10, ra11, ra12, ra13, ra14, ra15, ra16, ra17, ra18, ra19, ra20, ra21, ra22, ra23, ra24, ra25, ra26, ra27, ra28, ra29, ra30, ra31, ra32, ra33, ra34, ra35, ra36, ra37, ra38, ra39, ra40, ra41, ra42, ra43, ra44, la0, la1, la2, la3, la4, la5, la6, la7, la8, la9, la10, la11, la12, la13, la14, la15, la16, la17, la18, la19, la20, la21, la22, la23, la24, la25, la26, la27, la28, la29, la30, la31, la32, la33, la34, la35, la36, la37, la38, la39, la40, la41, la42, la43, la44, mb, mf, mr, mp, mm, ms, wF_217, p2, wF_ne, e1, nI_subN, Nat.add_sub_cancel]
        refine Mo_holds (by omega) ?_
        simp (disch := omega) only [g257_76, GN_nx, GN_rtn, GN_ck, GN_br, GN_cll, ldI_0, ldJ_0, ldR_0, ldI_s, ldJ_s, ldR_s, pI_c, pII_c, pJ_c, pJJ_c, pJI_c, pR_c, pRI_c, pRJ_c, pRR_c, pRII_c, pRIJ_c, pRIR_c, pCopy_c, pIe_c, pJe_c, pRe_c, pE_c, p1_i, p1_r, p11_ir, pA_0, pA_1, pA_2, pA_3, pA_4, pA_5, st1_0, st1_i, st1_r, st1_n, st1_u, st1_j, st1_s, st2_0, st2_i, st2_r, st2_n, st2_u, st2_j, st2_s, List.length_cons, List.length_nil, Nat.reduceAdd, Nat.reduceLT, Nat.reduceLeDiff, Nat.reduceEqDiff, Nat.zero_add, true_and, and_true, true_implies, not_true_eq_false, not_false_eq_true, false_implies, Option.toList_some, Option.toList_none, arr, inb, List.cons_append, List.nil_append, rv_some, rv_none, nlt_t, nlt_f, nle_t, nle_f, neq_f, ix_cl, ix_nn, ix_lt, cmp_le, cmp_lt, cmp_eq, cmp_lt0, cmp_ge0, cmp_eq0, cmp_gt0, cmp_le0, nI_mul, nI_add, nm1_ne, nm1_ne', one01, zero01, b2i_0, b2i_1, b2i_01, cmp_eq1, true_or, or_true, false_or, or_false, neq_t, hN_sI, hLn_sI, hR_sI, hL_sI, hI_sI, hN_sA, hLn_sA, hR_sA, hL_sA, hI_sA, hN_wI, hLn_wI, hR_wI, hL_wI, hI_wI, false_and, and_false, if_true, if_false, hN_fA, hLn_fA, hR_fA, hN_wrS, hLn_wrS, hR_wrS, hL_wrS, wS_day, wS_keeps, wS_brs, wS_first, wS_knows, wS_purse, wS_till, wS_valid, wS_kept, sS_day, sS_keeps, sS_brs, sS_first, sS_knows, sS_purse, sS_till, sS_valid, sS_kept, wrS_wrS, day_mk, knows_mk, purse_mk, till_mk, valid_mk, kept_mk, keeps_mk, brs_mk, first_mk, hN_wrU, hLn_wrU, hR_wrU, hL_wrU, wU_19, wU_20, sU_19, sU_20, upd_same, upd_upd, hN_wrR, hLn_wrR, hR_wrR, hL_wrR, bI_0, bI_01', bI_t1, eq_self, Bool.true_eq_false, Bool.false_eq_true, hN_wrC, hLn_wrC, hR_wrC, hL_wrC, lay_174, lay_175, lay_176, lay_177, lay_178, lay_179, lay_180, lay_181, lay_182, lay_183, lay_184, lay_185, lay_186, lay_187, lay_188, lay_189, lay_190, lay_191, lay_192, lay_193, lay_194, lay_195, lay_196, lay_197, lay_198, lay_199, lay_200, lay_201, lay_202, lay_203, lay_204, lay_205, lay_206, lay_207, lay_208, lay_209, lay_210, lay_211, lay_212, lay_213, lay_214, lay_215, lay_216, lay_217, lay_218, lay_219, hN_wrO, hLn_wrO, hR_wrO, hN_wrL, hLn_wrL, hR_wrL, hN_wrF, hLn_wrF, hR_wrF]
        refine And.intro (fun h4 => ?_) (fun h4 => ?_)
        · have h4 : hasB a.1 (A.C.g rr) := by first | exact h4 | exact Classical.not_not.mp h4
          have go := st (a.1 ||| A.C.fr rr, a.2 ||| 2 ^ i) y (Nat.or_lt_two_pow ha (Nat.pow_lt_pow_of_lt (by omega) (by omega))) (if_pos h4) hy
          simp (disch := omega) only [g257_82, g257_84, g257_85, g257_87, g257_88, g257_89, g257_91, g257_93, g257_94, g257_97, g257_99, g257_100, g257_103, g257_104, g257_105, g257_108, g257_110, g257_111, g257_112, g257_113, g257_114, g257_116, g257_119, GN_nx, GN_rtn, GN_ck, GN_br, GN_cll, ldI_0, ldJ_0, ldR_0, ldI_s, ldJ_s, ldR_s, pI_c, pII_c, pJ_c, pJJ_c, pJI_c, pR_c, pRI_c, pRJ_c, pRR_c, pRII_c, pRIJ_c, pRIR_c, pCopy_c, pIe_c, pJe_c, pRe_c, pE_c, p1_i, p1_r, p11_ir, pA_0, pA_1, pA_2, pA_3, pA_4, pA_5, st1_0, st1_i, st1_r, st1_n, st1_u, st1_j, st1_s, st2_0, st2_i, st2_r, st2_n, st2_u, st2_j, st2_s, List.length_cons, List.length_nil, Nat.reduceAdd, Nat.reduceLT, Nat.reduceLeDiff, Nat.reduceEqDiff, Nat.zero_add, true_and, and_true, true_implies, not_true_eq_false, not_false_eq_true, false_implies, Option.toList_some, Option.toList_none, arr, inb, List.cons_append, List.nil_append, rv_some, rv_none, nlt_t, nlt_f, nle_t, nle_f, neq_f, ix_cl, ix_nn, ix_lt, cmp_le, cmp_lt, cmp_eq, cmp_lt0, cmp_ge0, cmp_eq0, cmp_gt0, cmp_le0, nI_mul, nI_add, nm1_ne, nm1_ne', one01, zero01, b2i_0, b2i_1, b2i_01, cmp_eq1, true_or, or_true, false_or, or_false, neq_t, hN_sI, hLn_sI, hR_sI, hL_sI, hI_sI, hN_sA, hLn_sA, hR_sA, hL_sA, hI_sA, hN_wI, hLn_wI, hR_wI, hL_wI, hI_wI, false_and, and_false, if_true, if_false, hN_fA, hLn_fA, hR_fA, hN_wrS, hLn_wrS, hR_wrS, hL_wrS, wS_day, wS_keeps, wS_brs, wS_first, wS_knows, wS_purse, wS_till, wS_valid, wS_kept, sS_day, sS_keeps, sS_brs, sS_first, sS_knows, sS_purse, sS_till, sS_valid, sS_kept, wrS_wrS, day_mk, knows_mk, purse_mk, till_mk, valid_mk, kept_mk, keeps_mk, brs_mk, first_mk, hN_wrU, hLn_wrU, hR_wrU, hL_wrU, wU_19, wU_20, sU_19, sU_20, upd_same, upd_upd, hN_wrR, hLn_wrR, hR_wrR, hL_wrR, bI_0, bI_01', bI_t1, eq_self, Bool.true_eq_false, Bool.false_eq_true, hN_wrC, hLn_wrC, hR_wrC, hL_wrC, lay_174, lay_175, lay_176, lay_177, lay_178, lay_179, lay_180, lay_181, lay_182, lay_183, lay_184, lay_185, lay_186, lay_187, lay_188, lay_189, lay_190, lay_191, lay_192, lay_193, lay_194, lay_195, lay_196, lay_197, lay_198, lay_199, lay_200, lay_201, lay_202, lay_203, lay_204, lay_205, lay_206, lay_207, lay_208, lay_209, lay_210, lay_211, lay_212, lay_213, lay_214, lay_215, lay_216, lay_217, lay_218, lay_219, hN_wrO, hLn_wrO, hR_wrO, hN_wrL, hLn_wrL, hR_wrL, hN_wrF, hLn_wrF, hR_wrF,  ra0, ra1, ra2, ra3, ra4, ra5, ra6, ra7, ra8, ra9, ra10, ra11, ra12, ra13, ra14, ra15, ra16, ra17, ra18, ra19, ra20, ra21, ra22, ra23, ra24, ra25, ra26, ra27, ra28, ra29, ra30, ra31, ra32, ra33, ra34, ra35, ra36, ra37, ra38, ra39, ra40, ra41, ra42, ra43, ra44, la0, la1, la2, la3, la4, la5, la6, la7, la8, la9, la10, la11, la12, la13, la14, la15, la16, la17, la18, la19, la20, la21, la22, la23, la24, la25, la26, la27, la28, la29, la30, la31, la32, la33, la34, la35, la36, la37, la38, la39, la40, la41, la42, la43, la44, mb, mf, mr, mp, mm, ms, wF_217, p2, wF_ne, e2, ebt, nI_or, nI_subN, Nat.add_sub_cancel, em]
          exact go
        · have go := st a y ha (if_neg (by first | exact Classical.not_not.mp h4 | exact h4)) hy
          simp (disch := omega) only [g257_79, g257_116, g257_119, GN_nx, GN_rtn, GN_ck, GN_br, GN_cll, ldI_0, ldJ_0, ldR_0, ldI_s, ldJ_s, ldR_s, pI_c, pII_c, pJ_c, pJJ_c, pJI_c, pR_c, pRI_c, pRJ_c, pRR_c, pRII_c, pRIJ_c, pRIR_c, pCopy_c, pIe_c, pJe_c, pRe_c, pE_c, p1_i, p1_r, p11_ir, pA_0, pA_1, pA_2, pA_3, pA_4, pA_5, st1_0, st1_i, st1_r, st1_n, st1_u, st1_j, st1_s, st2_0, st2_i, st2_r, st2_n, st2_u, st2_j, st2_s, List.length_cons, List.length_nil, Nat.reduceAdd, Nat.reduceLT, Nat.reduceLeDiff, Nat.reduceEqDiff, Nat.zero_add, true_and, and_true, true_implies, not_true_eq_false, not_false_eq_true, false_implies, Option.toList_some, Option.toList_none, arr, inb, List.cons_append, List.nil_append, rv_some, rv_none, nlt_t, nlt_f, nle_t, nle_f, neq_f, ix_cl, ix_nn, ix_lt, cmp_le, cmp_lt, cmp_eq, cmp_lt0, cmp_ge0, cmp_eq0, cmp_gt0, cmp_le0, nI_mul, nI_add, nm1_ne, nm1_ne', one01, zero01, b2i_0, b2i_1, b2i_01, cmp_eq1, true_or, or_true, false_or, or_false, neq_t, hN_sI, hLn_sI, hR_sI, hL_sI, hI_sI, hN_sA, hLn_sA, hR_sA, hL_sA, hI_sA, hN_wI, hLn_wI, hR_wI, hL_wI, hI_wI, false_and, and_false, if_true, if_false, hN_fA, hLn_fA, hR_fA, hN_wrS, hLn_wrS, hR_wrS, hL_wrS, wS_day, wS_keeps, wS_brs, wS_first, wS_knows, wS_purse, wS_till, wS_valid, wS_kept, sS_day, sS_keeps, sS_brs, sS_first, sS_knows, sS_purse, sS_till, sS_valid, sS_kept, wrS_wrS, day_mk, knows_mk, purse_mk, till_mk, valid_mk, kept_mk, keeps_mk, brs_mk, first_mk, hN_wrU, hLn_wrU, hR_wrU, hL_wrU, wU_19, wU_20, sU_19, sU_20, upd_same, upd_upd, hN_wrR, hLn_wrR, hR_wrR, hL_wrR, bI_0, bI_01', bI_t1, eq_self, Bool.true_eq_false, Bool.false_eq_true, hN_wrC, hLn_wrC, hR_wrC, hL_wrC, lay_174, lay_175, lay_176, lay_177, lay_178, lay_179, lay_180, lay_181, lay_182, lay_183, lay_184, lay_185, lay_186, lay_187, lay_188, lay_189, lay_190, lay_191, lay_192, lay_193, lay_194, lay_195, lay_196, lay_197, lay_198, lay_199, lay_200, lay_201, lay_202, lay_203, lay_204, lay_205, lay_206, lay_207, lay_208, lay_209, lay_210, lay_211, lay_212, lay_213, lay_214, lay_215, lay_216, lay_217, lay_218, lay_219, hN_wrO, hLn_wrO, hR_wrO, hN_wrL, hLn_wrL, hR_wrL, hN_wrF, hLn_wrF, hR_wrF,  nI_subN, Nat.add_sub_cancel, em]
          exact go
    simp (disch := omega) only [g257_30, g257_31, g257_32, g257_33, g257_35, g257_36, g257_38, g257_39, g257_42, g257_43, g257_44, GN_nx, GN_rtn, GN_ck, GN_br, GN_cll, ldI_0, ldJ_0, ldR_0, ldI_s, ldJ_s, ldR_s, pI_c, pII_c, pJ_c, pJJ_c, pJI_c, pR_c, pRI_c, pRJ_c, pRR_c, pRII_c, pRIJ_c, pRIR_c, pCopy_c, pIe_c, pJe_c, pRe_c, pE_c, p1_i, p1_r, p11_ir, pA_0, pA_1, pA_2, pA_3, pA_4, pA_5, st1_0, st1_i, st1_r, st1_n, st1_u, st1_j, st1_s, st2_0, st2_i, st2_r, st2_n, st2_u, st2_j, st2_s, List.length_cons, List.length_nil, Nat.reduceAdd, Nat.reduceLT, Nat.reduceLeDiff, Nat.reduceEqDiff, Nat.zero_add, true_and, and_true, true_implies, not_true_eq_false, not_false_eq_true, false_implies, Option.toList_some, Option.toList_none, arr, inb, List.cons_append, List.nil_append, rv_some, rv_none, nlt_t, nlt_f, nle_t, nle_f, neq_f, ix_cl, ix_nn, ix_lt, cmp_le, cmp_lt, cmp_eq, cmp_lt0, cmp_ge0, cmp_eq0, cmp_gt0, cmp_le0, nI_mul, nI_add, nm1_ne, nm1_ne', one01, zero01, b2i_0, b2i_1, b2i_01, cmp_eq1, true_or, or_true, false_or, or_false, neq_t, hN_sI, hLn_sI, hR_sI, hL_sI, hI_sI, hN_sA, hLn_sA, hR_sA, hL_sA, hI_sA, hN_wI, hLn_wI, hR_wI, hL_wI, hI_wI, false_and, and_false, if_true, if_false, hN_fA, hLn_fA, hR_fA, hN_wrS, hLn_wrS, hR_wrS, hL_wrS, wS_day, wS_keeps, wS_brs, wS_first, wS_knows, wS_purse, wS_till, wS_valid, wS_kept, sS_day, sS_keeps, sS_brs, sS_first, sS_knows, sS_purse, sS_till, sS_valid, sS_kept, wrS_wrS, day_mk, knows_mk, purse_mk, till_mk, valid_mk, kept_mk, keeps_mk, brs_mk, first_mk, hN_wrU, hLn_wrU, hR_wrU, hL_wrU, wU_19, wU_20, sU_19, sU_20, upd_same, upd_upd, hN_wrR, hLn_wrR, hR_wrR, hL_wrR, bI_0, bI_01', bI_t1, eq_self, Bool.true_eq_false, Bool.false_eq_true, hN_wrC, hLn_wrC, hR_wrC, hL_wrC, lay_174, lay_175, lay_176, lay_177, lay_178, lay_179, lay_180, lay_181, lay_182, lay_183, lay_184, lay_185, lay_186, lay_187, lay_188, lay_189, lay_190, lay_191, lay_192, lay_193, lay_194, lay_195, lay_196, lay_197, lay_198, lay_199, lay_200, lay_201, lay_202, lay_203, lay_204, lay_205, lay_206, lay_207, lay_208, lay_209, lay_210, lay_211, lay_212, lay_213, lay_214, lay_215, lay_216, lay_217, lay_218, lay_219, hN_wrO, hLn_wrO, hR_wrO, hN_wrL, hLn_wrL, hR_wrL, hN_wrF, hLn_wrF, hR_wrF,  ra0, ra1, ra2, ra3, ra4, ra5, ra6, ra7, ra8, ra9, ra10, ra11, ra12, ra13, ra14, ra15, ra16, ra17, ra18, ra19, ra20, ra21, ra22, ra23, ra24, ra25, ra26, ra27, ra28, ra29, ra30, ra31, ra32, ra33, ra34, ra35, ra36, ra37, ra38, ra39, ra40, ra41, ra42, ra43, ra44, la0, la1, la2, la3, la4, la5, la6, la7, la8, la9, la10, la11, la12, la13, la14, la15, la16, la17, la18, la19, la20, la21, la22, la23, la24, la25, la26, la27, la28, la29, la30, la31, la32, la33, la34, la35, la36, la37, la38, la39, la40, la41, la42, la43, la44, wF_75]
    exact key n (bt (nI g), 0) uu (Nat.le_refl n) (Nat.two_pow_pos n) rfl (Or.inl rfl)
  · rw [if_neg (by first | exact h3 | exact Classical.not_not.mp h3)] at hq1
    simp (disch := omega) only [g257_28, g257_29, GN_nx, GN_rtn, GN_ck, GN_br, GN_cll, ldI_0, ldJ_0, ldR_0, ldI_s, ldJ_s, ldR_s, pI_c, pII_c, pJ_c, pJJ_c, pJI_c, pR_c, pRI_c, pRJ_c, pRR_c, pRII_c, pRIJ_c, pRIR_c, pCopy_c, pIe_c, pJe_c, pRe_c, pE_c, p1_i, p1_r, p11_ir, pA_0, pA_1, pA_2, pA_3, pA_4, pA_5, st1_0, st1_i, st1_r, st1_n, st1_u, st1_j, st1_s, st2_0, st2_i, st2_r, st2_n, st2_u, st2_j, st2_s, List.length_cons, List.length_nil, Nat.reduceAdd, Nat.reduceLT, Nat.reduceLeDiff, Nat.reduceEqDiff, Nat.zero_add, true_and, and_true, true_implies, not_true_eq_false, not_false_eq_true, false_implies, Option.toList_some, Option.toList_none, arr, inb, List.cons_append, List.nil_append, rv_some, rv_none, nlt_t, nlt_f, nle_t, nle_f, neq_f, ix_cl, ix_nn, ix_lt, cmp_le, cmp_lt, cmp_eq, cmp_lt0, cmp_ge0, cmp_eq0, cmp_gt0, cmp_le0, nI_mul, nI_add, nm1_ne, nm1_ne', one01, zero01, b2i_0, b2i_1, b2i_01, cmp_eq1, true_or, or_true, false_or, or_false, neq_t, hN_sI, hLn_sI, hR_sI, hL_sI, hI_sI, hN_sA, hLn_sA, hR_sA, hL_sA, hI_sA, hN_wI, hLn_wI, hR_wI, hL_wI, hI_wI, false_and, and_false, if_true, if_false, hN_fA, hLn_fA, hR_fA, hN_wrS, hLn_wrS, hR_wrS, hL_wrS, wS_day, wS_keeps, wS_brs, wS_first, wS_knows, wS_purse, wS_till, wS_valid, wS_kept, sS_day, sS_keeps, sS_brs, sS_first, sS_knows, sS_purse, sS_till, sS_valid, sS_kept, wrS_wrS, day_mk, knows_mk, purse_mk, till_mk, valid_mk, kept_mk, keeps_mk, brs_mk, first_mk, hN_wrU, hLn_wrU, hR_wrU, hL_wrU, wU_19, wU_20, sU_19, sU_20, upd_same, upd_upd, hN_wrR, hLn_wrR, hR_wrR, hL_wrR, bI_0, bI_01', bI_t1, eq_self, Bool.true_eq_false, Bool.false_eq_true, hN_wrC, hLn_wrC, hR_wrC, hL_wrC, lay_174, lay_175, lay_176, lay_177, lay_178, lay_179, lay_180, lay_181, lay_182, lay_183, lay_184, lay_185, lay_186, lay_187, lay_188, lay_189, lay_190, lay_191, lay_192, lay_193, lay_194, lay_195, lay_196, lay_197, lay_198, lay_199, lay_200, lay_201, lay_202, lay_203, lay_204, lay_205, lay_206, lay_207, lay_208, lay_209, lay_210, lay_211, lay_212, lay_213, lay_214, lay_215, lay_216, lay_217, lay_218, lay_219, hN_wrO, hLn_wrO, hR_wrO, hN_wrL, hLn_wrL, hR_wrL, hN_wrF, hLn_wrF, hR_wrF]
    exact hq1 (Or.inl rfl)
end MO27
