/-! what codes compute: the class's and the reference's -/
def runCl (F : Nat → Int32) (lc : List Int32) (st : List Int32) : List Int32 := lc.foldl (fun st c => stepL F c st) st
def runJ (F : Nat → Int32) (lr : List (Nat × Int32)) (st : List Int64) : List Int64 := lr.foldl (fun st c => stpJ F (nI c.1) c.2 st) st
def okR (F : Nat → Int32) : List (Nat × Int32) → List Int64 → Prop
  | [], _ => True
  | c :: r, st => okJ (nI c.1) st.length ∧ okR F r (stpJ F (nI c.1) c.2 st)
def opK (o : Nat) : Nat := if o = 10 then 143 else if o = 11 then 145 else if o = 12 then 142 else if o = 13 then 147 else if o = 14 then 137 else if o = 15 then 24 else if o = 16 then 25 else if o = 17 then 160 else if o = 18 then 162 else if o = 19 then 161 else if o = 20 then 21 else 20
abbrev bd6 (v : Int32) : Prop := -1000000 ≤ v.toInt ∧ v.toInt ≤ 1000000
abbrev b01 (v : Int32) : Prop := v = nI 0 ∨ v = nI 1
/-- class codes and reference codes that push the same value; H: how high the pile grows -/
def SmV (t : Bool) (lc : List Int32) (lr : List (Nat × Int32)) (H : Nat) : Prop := ∀ F, FB F → ∃ v : Int32, bd6 v ∧ (t = true → b01 v) ∧ (∀ st : List Int32, st.length + H ≤ 64 → runCl F lc st = v :: st) ∧ (∀ st : List Int64, st.length + H ≤ 500 → okR F lr st ∧ runJ F lr st = v.toInt64 :: st)
section SEM1
theorem mm_held (x : Int64) : maxJ (-1000000) (minJ (1000000) x) = heldJ x := by
  have l1 : (-1000000 : Int64).toInt = -1000000 := by decide
  have l2 : (1000000 : Int64).toInt = 1000000 := by decide
  have l3 : (lN 1000000).toInt = 1000000 := by decide
  apply Int64.toInt_inj.mp
  unfold maxJ minJ heldJ
  by_cases c1 : x < 1000000
  · rw [if_pos c1]
    rw [Int64.lt_iff_toInt_lt] at c1
    rw [if_pos (show x ≤ lN 1000000 by rw [Int64.le_iff_toInt_le]; omega)]
    by_cases c2 : -1000000 < x
    · rw [if_pos c2]
      rw [Int64.lt_iff_toInt_lt] at c2
      rw [if_pos (by rw [Int64.le_iff_toInt_le]; omega)]
    · rw [if_neg c2]
      rw [Int64.lt_iff_toInt_lt] at c2
      split
      · rename_i z
        rw [Int64.le_iff_toInt_le] at z
        omega
      · rfl
  · rw [if_neg c1, if_pos (by decide)]
    rw [Int64.lt_iff_toInt_lt] at c1
    split
    · rename_i z
      rw [Int64.le_iff_toInt_le] at z
      rw [if_pos (by rw [Int64.le_iff_toInt_le]; omega)]
      omega
    · rw [l2, l3]
theorem held_bd (x : Int64) : -1000000 ≤ (heldJ x).toInt ∧ (heldJ x).toInt ≤ 1000000 := by
  have l1 : (-1000000 : Int64).toInt = -1000000 := by decide
  have l3 : (lN 1000000).toInt = 1000000 := by decide
  unfold heldJ
  split
  · rename_i z
    rw [Int64.le_iff_toInt_le] at z
    split
    · rename_i y
      rw [Int64.le_iff_toInt_le] at y
      omega
    · rw [l1]
      omega
  · rw [l3]
    omega
theorem bo_held (x : Int64) : (bounM x).toInt64 = heldJ x ∧ bd6 (bounM x) := by
  have hb := held_bd x
  unfold bounM
  rw [mm_held]
  generalize heldJ x = y at *
  have e : y.toInt32.toInt = y.toInt := by
    rw [Int64.toInt_toInt32]
    exact Int.bmod_eq_of_le_mul_two (by omega) (by omega)
  exact ⟨Int64.toInt_inj.mp (by rw [Int32.toInt_toInt64, e]), by rw [e]; exact hb.1, by rw [e]; exact hb.2⟩
theorem xor_sg (x y : Int64) : (lN 0 ≤ x ^^^ y) ↔ (lN 0 ≤ x ↔ lN 0 ≤ y) := by
  have h : ∀ z : Int64, lN 0 ≤ z ↔ z.toBitVec.msb = false := fun z => by
    rw [Int64.le_iff_toInt_le, BitVec.msb_eq_toInt, Int64.toInt_toBitVec]
    have l0 : (lN 0).toInt = 0 := by decide
    rw [l0, decide_eq_false_iff_not]
    omega
  rw [h, h, h, Int64.toBitVec_xor, BitVec.msb_xor]
  cases x.toBitVec.msb <;> cases y.toBitVec.msb <;> decide
theorem sb_0 {a b : Int64} : a - b = lN 0 ↔ b = a := by
  have z0 : lN 0 = 0 := by decide
  rw [z0, Int64.sub_eq_iff_eq_add, Int64.zero_add]
  exact ⟨Eq.symm, Eq.symm⟩
theorem flr_fd {a b : Int64} (hb : ¬ b = lN 0) : flrJ a b = fdJ a b := by
  have hx := xor_sg a b
  unfold flrJ fdJ
  rw [if_neg hb]
  by_cases e : a / b * b = a
  · rw [if_pos (sb_0.mpr e), if_pos e]
    split <;> rfl
  · rw [if_neg (fun z => e (sb_0.mp z)), if_neg e]
    by_cases c1 : lN 0 ≤ a
    · by_cases c2 : lN 0 ≤ b
      · rw [if_pos c1, if_pos c2, if_pos (hx.mpr ⟨fun _ => c2, fun _ => c1⟩)]
      · rw [if_pos c1, if_neg c2, if_neg (fun z => c2 ((hx.mp z).mp c1))]
    · by_cases c2 : lN 0 ≤ b
      · rw [if_neg c1, if_pos c2, if_neg (fun z => c1 ((hx.mp z).mpr c2))]
      · rw [if_neg c1, if_neg c2, if_pos (hx.mpr ⟨fun z => absurd z c1, fun z => absurd z c2⟩)]
theorem fm_flr {a b : Int64} (hb : ¬ b = lN 0) : fmJ a b = a - b * flrJ a b := by
  rw [flr_fd hb, Int64.mul_comm b]
  unfold fmJ fdJ
  split
  · rfl
  · by_cases e : a / b * b = a
    · rw [if_pos (sb_0.mpr e), if_pos e]
    · rw [if_neg (fun z => e (sb_0.mp z)), if_neg e]
      have z1 : lN 1 = 1 := by decide
      rw [z1, Int64.mul_comm (a / b - 1) b, Int64.mul_sub, Int64.mul_one, Int64.mul_comm b, Int64.sub_eq_add_neg (a := a) (b := a / b * b - b), Int64.neg_sub, Int64.sub_eq_add_neg (a := b), Int64.sub_eq_add_neg (a := a), Int64.add_assoc, Int64.add_comm b]
theorem held_id {x : Int32} (h : bd6 x) : heldJ x.toInt64 = x.toInt64 := by
  have l1 : (-1000000 : Int64).toInt = -1000000 := by decide
  have l3 : (lN 1000000).toInt = 1000000 := by decide
  unfold heldJ
  rw [if_pos (by rw [Int64.le_iff_toInt_le, Int32.toInt_toInt64, l3]; exact h.2), if_pos (by rw [Int64.le_iff_toInt_le, Int32.toInt_toInt64, l1]; exact h.1)]
theorem j_anti {a b : Int64} (h1 : a ≤ b) (h2 : b ≤ a) : a = b := by
  apply Int64.toInt_inj.mp
  rw [Int64.le_iff_toInt_le] at h1 h2
  omega
theorem j_nlt {a b : Int64} : ¬ a < b ↔ b ≤ a := by
  rw [Int64.le_iff_toInt_le, Int64.lt_iff_toInt_lt]
  omega
theorem min_tw (a b : Int64) : minJ a b = if b ≤ a then b else a := by
  unfold minJ
  by_cases c : b < a
  · rw [if_pos c, if_pos (by rw [Int64.le_iff_toInt_le]; rw [Int64.lt_iff_toInt_lt] at c; omega)]
  · rw [if_neg c]
    split
    · rename_i z
      exact j_anti (j_nlt.mp c) z
    · rfl
theorem max_tw (a b : Int64) : maxJ a b = if a ≤ b then b else a := by
  unfold maxJ
  by_cases c : a < b
  · rw [if_pos c, if_pos (by rw [Int64.le_iff_toInt_le]; rw [Int64.lt_iff_toInt_lt] at c; omega)]
  · rw [if_neg c]
    split
    · rename_i z
      exact j_anti z (j_nlt.mp c)
    · rfl
theorem bd_01 {x : Int32} (h : b01 x) : bd6 x := by
  rcases h with rfl | rfl <;> decide
theorem I_J {x y : Int32} (h : x.toInt64 = y.toInt64) : x = y := by
  apply Int32.toInt_inj.mp
  rw [← Int32.toInt_toInt64, h, Int32.toInt_toInt64]
theorem bo_J {x : Int64} {y : Int32} (hy : bd6 y) (e : x = y.toInt64) : bounM x = y := I_J ((bo_held x).1.trans (e ▸ held_id hy))
theorem tw_10 (a b : Int64) : twoJ (nI 10) a b = heldJ (a + b) := by
  unfold twoJ
  rw [if_pos (by decide)]
theorem tw_11 (a b : Int64) : twoJ (nI 11) a b = heldJ (a - b) := by
  unfold twoJ
  rw [if_neg (by decide), if_pos (by decide)]
theorem tw_12 (a b : Int64) : twoJ (nI 12) a b = heldJ (a * b) := by
  unfold twoJ
  rw [if_neg (by decide), if_neg (by decide), if_pos (by decide)]
theorem tw_13 (a b : Int64) : twoJ (nI 13) a b = heldJ (flrJ a b) := by
  unfold twoJ
  rw [if_neg (by decide), if_neg (by decide), if_neg (by decide), if_pos (by decide)]
theorem tw_14 (a b : Int64) : twoJ (nI 14) a b = if b = lN 0 then lN 0 else heldJ (a - b * flrJ a b) := by
  unfold twoJ
  rw [if_neg (by decide), if_neg (by decide), if_neg (by decide), if_neg (by decide), if_pos (by decide)]
theorem tw_15 (a b : Int64) : twoJ (nI 15) a b = if b ≤ a then b else a := by
  unfold twoJ
  rw [if_neg (by decide), if_neg (by decide), if_neg (by decide), if_neg (by decide), if_neg (by decide), if_pos (by decide)]
theorem tw_16 (a b : Int64) : twoJ (nI 16) a b = if a ≤ b then b else a := by
  unfold twoJ
  rw [if_neg (by decide), if_neg (by decide), if_neg (by decide), if_neg (by decide), if_neg (by decide), if_neg (by decide), if_pos (by decide)]
theorem tw_17 (a b : Int64) : twoJ (nI 17) a b = if b ≤ a then lN 0 else lN 1 := by
  unfold twoJ
  rw [if_neg (by decide), if_neg (by decide), if_neg (by decide), if_neg (by decide), if_neg (by decide), if_neg (by decide), if_neg (by decide), if_pos (by decide)]
theorem tw_18 (a b : Int64) : twoJ (nI 18) a b = if a ≤ b then lN 0 else lN 1 := by
  unfold twoJ
  rw [if_neg (by decide), if_neg (by decide), if_neg (by decide), if_neg (by decide), if_neg (by decide), if_neg (by decide), if_neg (by decide), if_neg (by decide), if_pos (by decide)]
theorem tw_19 (a b : Int64) : twoJ (nI 19) a b = if a = b then lN 1 else lN 0 := by
  unfold twoJ
  rw [if_neg (by decide), if_neg (by decide), if_neg (by decide), if_neg (by decide), if_neg (by decide), if_neg (by decide), if_neg (by decide), if_neg (by decide), if_neg (by decide), if_pos (by decide)]
theorem tw_20 (a b : Int64) : twoJ (nI 20) a b = a &&& b := by
  unfold twoJ
  rw [if_neg (by decide), if_neg (by decide), if_neg (by decide), if_neg (by decide), if_neg (by decide), if_neg (by decide), if_neg (by decide), if_neg (by decide), if_neg (by decide), if_neg (by decide), if_pos (by decide)]
theorem tw_21 (a b : Int64) : twoJ (nI 21) a b = a ||| b := by
  unfold twoJ
  rw [if_neg (by decide), if_neg (by decide), if_neg (by decide), if_neg (by decide), if_neg (by decide), if_neg (by decide), if_neg (by decide), if_neg (by decide), if_neg (by decide), if_neg (by decide), if_neg (by decide)]
theorem jo_143 (a b : Int64) : joinM (nI 143) a b = a + b := by
  unfold joinM
  rw [if_neg (by decide), if_neg (by decide), if_neg (by decide), if_neg (by decide), if_neg (by decide), if_pos (by decide)]
theorem jo_145 (a b : Int64) : joinM (nI 145) a b = a - b := by
  unfold joinM
  rw [if_neg (by decide), if_neg (by decide), if_neg (by decide), if_neg (by decide), if_neg (by decide), if_neg (by decide), if_pos (by decide)]
theorem jo_142 (a b : Int64) : joinM (nI 142) a b = a * b := by
  unfold joinM
  rw [if_neg (by decide), if_neg (by decide), if_neg (by decide), if_neg (by decide), if_pos (by decide)]
theorem jo_147 (a b : Int64) : joinM (nI 147) a b = if b = lN 0 then lN 0 else fdJ a b := by
  unfold joinM
  rw [if_neg (by decide), if_neg (by decide), if_neg (by decide), if_neg (by decide), if_neg (by decide), if_neg (by decide), if_neg (by decide), if_pos (by decide)]
theorem jo_137 (a b : Int64) : joinM (nI 137) a b = if b = lN 0 then lN 0 else fmJ a b := by
  unfold joinM
  rw [if_neg (by decide), if_neg (by decide), if_neg (by decide), if_pos (by decide)]
theorem jo_24 (a b : Int64) : joinM (nI 24) a b = minJ a b := by
  unfold joinM
  rw [if_neg (by decide), if_neg (by decide), if_pos (by decide)]
theorem jo_25 (a b : Int64) : joinM (nI 25) a b = maxJ a b := by
  unfold joinM
  rw [if_neg (by decide), if_neg (by decide), if_neg (by decide), if_neg (by decide), if_neg (by decide), if_neg (by decide), if_neg (by decide), if_neg (by decide), if_neg (by decide), if_neg (by decide), if_neg (by decide)]
theorem jo_160 (a b : Int64) : joinM (nI 160) a b = if b ≤ a then lN 0 else lN 1 := by
  unfold joinM
  rw [if_neg (by decide), if_neg (by decide), if_neg (by decide), if_neg (by decide), if_neg (by decide), if_neg (by decide), if_neg (by decide), if_neg (by decide), if_pos (by decide)]
theorem jo_162 (a b : Int64) : joinM (nI 162) a b = if a ≤ b then lN 0 else lN 1 := by
  unfold joinM
  rw [if_neg (by decide), if_neg (by decide), if_neg (by decide), if_neg (by decide), if_neg (by decide), if_neg (by decide), if_neg (by decide), if_neg (by decide), if_neg (by decide), if_neg (by decide), if_pos (by decide)]
theorem jo_161 (a b : Int64) : joinM (nI 161) a b = if a = b then lN 1 else lN 0 := by
  unfold joinM
  rw [if_neg (by decide), if_neg (by decide), if_neg (by decide), if_neg (by decide), if_neg (by decide), if_neg (by decide), if_neg (by decide), if_neg (by decide), if_neg (by decide), if_pos (by decide)]
theorem jo_21 (a b : Int64) : joinM (nI 21) a b = a &&& b := by
  unfold joinM
  rw [if_neg (by decide), if_pos (by decide)]
theorem jo_20 (a b : Int64) : joinM (nI 20) a b = a ||| b := by
  unfold joinM
  rw [if_pos (by decide)]
theorem two_join {o : Nat} {x y : Int32} (ho : 10 ≤ o ∧ o ≤ 21) (hx : bd6 x) (hy : bd6 y) (h01 : 20 ≤ o → b01 x ∧ b01 y) : twoJ (nI o) x.toInt64 y.toInt64 = (bounM (joinM (nI (opK o)) x.toInt64 y.toInt64)).toInt64 ∧ (17 ≤ o → b01 (bounM (joinM (nI (opK o)) x.toInt64 y.toInt64))) := by
  have b0 : bounM (lN 0) = nI 0 := by decide
  have b1 : bounM (lN 1) = nI 1 := by decide
  have i0 : (nI 0).toInt64 = lN 0 := by decide
  have i1 : (nI 1).toInt64 = lN 1 := by decide
  obtain c | c | c | c | c | c | c | c | c | c | c | c : o = 10 ∨ o = 11 ∨ o = 12 ∨ o = 13 ∨ o = 14 ∨ o = 15 ∨ o = 16 ∨ o = 17 ∨ o = 18 ∨ o = 19 ∨ o = 20 ∨ o = 21 := by omega
  all_goals subst c
  · refine ⟨?_, fun z => by omega⟩
    rw [(bo_held _).1, show opK 10 = 143 from rfl]
    rw [tw_10, jo_143]
  · refine ⟨?_, fun z => by omega⟩
    rw [(bo_held _).1, show opK 11 = 145 from rfl]
    rw [tw_11, jo_145]
  · refine ⟨?_, fun z => by omega⟩
    rw [(bo_held _).1, show opK 12 = 142 from rfl]
    rw [tw_12, jo_142]
  · refine ⟨?_, fun z => by omega⟩
    rw [(bo_held _).1, show opK 13 = 147 from rfl]
    rw [tw_13, jo_147]
    by_cases c : y.toInt64 = lN 0
    · rw [if_pos c, flrJ, if_pos c]
    · rw [if_neg c, flr_fd c]
  · refine ⟨?_, fun z => by omega⟩
    rw [(bo_held _).1, show opK 14 = 137 from rfl]
    rw [tw_14, jo_137]
    by_cases c : y.toInt64 = lN 0
    · rw [if_pos c, if_pos c]
      decide
    · rw [if_neg c, if_neg c, fm_flr c]
  · refine ⟨?_, fun z => by omega⟩
    rw [(bo_held _).1, show opK 15 = 24 from rfl]
    rw [tw_15, jo_24, min_tw]
    split
    · exact (held_id hy).symm
    · exact (held_id hx).symm
  · refine ⟨?_, fun z => by omega⟩
    rw [(bo_held _).1, show opK 16 = 25 from rfl]
    rw [tw_16, jo_25, max_tw]
    split
    · exact (held_id hy).symm
    · exact (held_id hx).symm
  · rw [show opK 17 = 160 from rfl]
    rw [tw_17, jo_160]
    split
    · first
        | exact ⟨by rw [b0, i0], fun _ => Or.inl b0⟩
        | exact ⟨by rw [b1, i1], fun _ => Or.inr b1⟩
    · first
        | exact ⟨by rw [b0, i0], fun _ => Or.inl b0⟩
        | exact ⟨by rw [b1, i1], fun _ => Or.inr b1⟩
  · rw [show opK 18 = 162 from rfl]
    rw [tw_18, jo_162]
    split
    · first
        | exact ⟨by rw [b0, i0], fun _ => Or.inl b0⟩
        | exact ⟨by rw [b1, i1], fun _ => Or.inr b1⟩
    · first
        | exact ⟨by rw [b0, i0], fun _ => Or.inl b0⟩
        | exact ⟨by rw [b1, i1], fun _ => Or.inr b1⟩
  · rw [show opK 19 = 161 from rfl]
    rw [tw_19, jo_161]
    split
    · first
        | exact ⟨by rw [b0, i0], fun _ => Or.inl b0⟩
        | exact ⟨by rw [b1, i1], fun _ => Or.inr b1⟩
    · first
        | exact ⟨by rw [b0, i0], fun _ => Or.inl b0⟩
        | exact ⟨by rw [b1, i1], fun _ => Or.inr b1⟩
  · rw [show opK 20 = 21 from rfl]
    rw [tw_20, jo_21]
    obtain ⟨rfl | rfl, rfl | rfl⟩ := h01 (by omega)
    all_goals exact ⟨by decide, fun _ => by decide⟩
  · rw [show opK 21 = 20 from rfl]
    rw [tw_21, jo_20]
    obtain ⟨rfl | rfl, rfl | rfl⟩ := h01 (by omega)
    all_goals exact ⟨by decide, fun _ => by decide⟩
theorem opK_b {o : Nat} : opK o = 20 ∨ opK o = 21 ∨ (24 ≤ opK o ∧ opK o < 200) := by
  unfold opK
  repeat' split
  all_goals omega
theorem nI_sub0 (k : Nat) : nI (10000 + k) - nI 10000 = nI k := by
  rw [nI_subN (by omega), Nat.add_sub_cancel_left]
theorem step_op {F : Nat → Int32} {k : Nat} {x y : Int32} {st : List Int32} (hk : k = 20 ∨ k = 21 ∨ (24 ≤ k ∧ k < 200)) : stepL F (nI (10000 + k)) (y :: x :: st) = bounM (joinM (nI k) x.toInt64 y.toInt64) :: st := by
  unfold stepL
  rw [nI_sub0, if_neg (nI_pos (by omega)), if_neg (fun z => z.elim (fun z => by
    have := (nI_ltI (by omega) (by omega)).mp z
    omega) (fun z => by
    have := (nI_eq (by omega) (by omega)).mp z
    omega)), if_neg (fun z => by
    have := (nI_eq (by omega) (by omega)).mp z
    omega)]
  rfl
theorem step_p {F : Nat → Int32} {k : Nat} {st : List Int32} (hk : k < 20 ∨ k = 23) : stepL F (nI (10000 + k)) st = pushL (sumM F (nI k)) st := by
  unfold stepL
  rw [nI_sub0, if_neg (nI_pos (by omega)), if_pos (hk.elim (fun z => Or.inl ((nI_ltI (by omega) (by omega)).mpr z)) (fun z => Or.inr (by rw [z])))]
theorem step_n {F : Nat → Int32} {v : Nat} {st : List Int32} (hv : v < 10000) : stepL F (nI v) st = pushL (nI v) st := by
  unfold stepL
  rw [if_pos]
  rw [Int32.lt_iff_toInt_lt, sub_int (by omega) (by omega)]
  show (v : Int) - 10000 < 0
  omega
theorem step_22 {F : Nat → Int32} {v : Int32} {st : List Int32} : stepL F (nI 10022) (v :: st) = (nI 1 - v) :: st := by
  unfold stepL
  rw [if_neg (by decide), if_neg (by decide), if_pos (by decide)]
  rfl
theorem okR_app {F : Nat → Int32} {q : List (Nat × Int32)} : ∀ {p : List (Nat × Int32)} {st : List Int64}, okR F (p ++ q) st ↔ okR F p st ∧ okR F q (runJ F p st)
  | [], st => ⟨fun h => ⟨trivial, h⟩, fun h => h.2⟩
  | c :: r, st => by
    show okJ _ _ ∧ okR F (r ++ q) _ ↔ (okJ _ _ ∧ okR F r _) ∧ okR F q _
    rw [okR_app (p := r), and_assoc]
    rfl
theorem runJ_app {F : Nat → Int32} {p q : List (Nat × Int32)} {st : List Int64} : runJ F (p ++ q) st = runJ F q (runJ F p st) := List.foldl_append
theorem runC_app {F : Nat → Int32} {p q : List Int32} {st : List Int32} : runCl F (p ++ q) st = runCl F q (runCl F p st) := List.foldl_append
theorem SmV_wk {t : Bool} {lc : List Int32} {lr : List (Nat × Int32)} {H H' : Nat} (h : H ≤ H') (hs : SmV t lc lr H) : SmV t lc lr H' := fun F hF => by
  obtain ⟨v, h1, h2, h3, h4⟩ := hs F hF
  exact ⟨v, h1, h2, fun st z => h3 st (by omega), fun st z => h4 st (by omega)⟩
theorem SmV_f {t : Bool} {lc : List Int32} {lr : List (Nat × Int32)} {H : Nat} (hs : SmV t lc lr H) : SmV false lc lr H := fun F hF => by
  obtain ⟨v, h1, h2, h3⟩ := hs F hF
  exact ⟨v, h1, (fun z => by cases z), h3⟩
theorem nI_gt9 {o : Nat} (h : 10 ≤ o) (h2 : o < 100) : nI 9 < nI o := (nI_ltI (by omega) (by omega)).mpr (by omega)
theorem SmV_op {t1 : Bool} {lc1 lc2 : List Int32} {lr1 lr2 : List (Nat × Int32)} {o H1 H2 H : Nat} {va : Int32} (ho : 10 ≤ o ∧ o ≤ 21) (ht : 20 ≤ o → t1 = true) (h1 : SmV t1 lc1 lr1 H1) (h2 : SmV t1 lc2 lr2 H2) (hH1 : H1 ≤ H) (hH2 : H2 + 1 ≤ H) : SmV (decide (17 ≤ o)) (lc1 ++ lc2 ++ [nI (10000 + opK o)]) (lr1 ++ lr2 ++ [(o, va)]) H := fun F hF => by
  obtain ⟨x, bx, tx, cx, rx⟩ := h1 F hF
  obtain ⟨y, b_y, ty, cy, ry⟩ := h2 F hF
  obtain ⟨e1, e3⟩ := two_join (x := x) (y := y) ho bx b_y (fun z => ⟨tx (ht z), ty (ht z)⟩)
  refine ⟨_, (bo_held _).2, fun z => e3 (of_decide_eq_true z), fun st hst => ?_, fun st hst => ?_⟩
  · rw [runC_app, runC_app, cx st (by omega), cy (x :: st) (by rw [List.length_cons]; omega)]
    exact step_op opK_b
  · obtain ⟨r1, r2⟩ := rx st (by omega)
    obtain ⟨r3, r4⟩ := ry (x.toInt64 :: st) (by rw [List.length_cons]; omega)
    simp only [okR_app, runJ_app, r2, r4]
    have g9 := nI_gt9 ho.1 (by omega)
    have n22 : ¬ nI o = nI 22 := fun z => by
      have := (nI_eq (by omega) (by omega)).mp z
      omega
    refine ⟨⟨⟨r1, r3⟩, ⟨?_, trivial⟩⟩, ?_⟩
    · show okJ (nI o) (y.toInt64 :: x.toInt64 :: st).length
      unfold okJ
      rw [if_pos g9, if_neg n22, List.length_cons, List.length_cons]
      omega
    · show stpJ F (nI o) va (y.toInt64 :: x.toInt64 :: st) = _
      unfold stpJ
      rw [if_pos g9, if_neg n22]
      show twoJ (nI o) x.toInt64 y.toInt64 :: st = _
      rw [e1]
theorem SmV_leaf {t : Bool} {c : Int32} {so : Nat} {va : Int32} (hso : so ≤ 9) (h : ∀ F, FB F → ∃ v : Int32, bd6 v ∧ (t = true → b01 v) ∧ (∀ st, stepL F c st = pushL v st) ∧ partV F (nI so) va = v.toInt64) : SmV t [c] [(so, va)] 1 := fun F hF => by
  obtain ⟨v, h1, h2, h3, h4⟩ := h F hF
  have g9 : ¬ nI 9 < nI so := fun z => by
    have := (nI_ltI (by omega) (by omega)).mp z
    omega
  refine ⟨v, h1, h2, fun st hst => ?_, fun st hst => ⟨⟨?_, trivial⟩, ?_⟩⟩
  · show stepL F c st = _
    rw [h3, pushL, if_pos (by omega)]
  · show okJ (nI so) st.length
    unfold okJ
    rw [if_neg g9]
    omega
  · show stpJ F (nI so) va st = _
    unfold stpJ
    rw [if_neg g9, h4]
theorem SmV_num {v : Nat} (hv : v < 10000) : SmV false [nI v] [(0, nI v)] 1 := SmV_leaf (by omega) (fun F hF => ⟨nI v, ⟨by rw [nI_toInt (by omega)]; omega, by rw [nI_toInt (by omega)]; omega⟩, (fun z => by cases z), fun st => step_n hv, rfl⟩)
theorem SmV_all {va : Int32} : SmV true [nI 10023] [(9, va)] 1 := SmV_leaf (by omega) (fun F hF => ⟨nI 1, by decide, fun _ => Or.inr rfl, fun st => step_p (k := 23) (Or.inr rfl), by
  unfold partV
  rw [if_neg (by decide), if_neg (by decide), if_neg (by decide), if_neg (by decide), if_neg (by decide), if_neg (by decide), if_neg (by decide), if_neg (by decide), if_neg (by decide)]
  decide⟩)
def srt (kd : Nat) : Nat := if kd = 2 then 1 else if kd = 1 then 2 else if kd = 6 then 3 else kd - 11
theorem SmV_word {kd : Nat} {va : Int32} (hk : kd = 1 ∨ kd = 2 ∨ kd = 6 ∨ (15 ≤ kd ∧ kd ≤ 19)) : SmV false [nI (10000 + kd)] [(srt kd, va)] 1 := by
  obtain c | c | c | c | c | c | c | c : kd = 1 ∨ kd = 2 ∨ kd = 6 ∨ kd = 15 ∨ kd = 16 ∨ kd = 17 ∨ kd = 18 ∨ kd = 19 := by omega
  all_goals subst c
  · refine SmV_leaf (by decide) (fun F hF => ⟨F 1, hF 1 (by omega), (fun z => by cases z), fun st => (step_p (k := 1) (Or.inl (by omega))).trans ?_, ?_⟩)
    · unfold sumM
      rw [if_pos (by decide)]
    · show partV F (nI 2) va = _
      unfold partV
      rw [if_neg (by decide), if_neg (by decide), if_pos (by decide)]
  · refine SmV_leaf (by decide) (fun F hF => ⟨F 0, hF 0 (by omega), (fun z => by cases z), fun st => (step_p (k := 2) (Or.inl (by omega))).trans ?_, ?_⟩)
    · unfold sumM
      rw [if_neg (by decide), if_pos (by decide)]
    · show partV F (nI 1) va = _
      unfold partV
      rw [if_neg (by decide), if_pos (by decide)]
  · refine SmV_leaf (by decide) (fun F hF => ⟨F 2, hF 2 (by omega), (fun z => by cases z), fun st => (step_p (k := 6) (Or.inl (by omega))).trans ?_, ?_⟩)
    · unfold sumM
      rw [if_neg (by decide), if_neg (by decide), if_pos (by decide)]
    · show partV F (nI 3) va = _
      unfold partV
      rw [if_neg (by decide), if_neg (by decide), if_neg (by decide), if_pos (by decide)]
  · refine SmV_leaf (by decide) (fun F hF => ⟨F 3, hF 3 (by omega), (fun z => by cases z), fun st => (step_p (k := 15) (Or.inl (by omega))).trans ?_, ?_⟩)
    · unfold sumM
      rw [if_neg (by decide), if_neg (by decide), if_neg (by decide), if_pos (by decide)]
    · show partV F (nI 4) va = _
      unfold partV
      rw [if_neg (by decide), if_neg (by decide), if_neg (by decide), if_neg (by decide), if_pos (by decide)]
  · refine SmV_leaf (by decide) (fun F hF => ⟨F 4, hF 4 (by omega), (fun z => by cases z), fun st => (step_p (k := 16) (Or.inl (by omega))).trans ?_, ?_⟩)
    · unfold sumM
      rw [if_neg (by decide), if_neg (by decide), if_neg (by decide), if_neg (by decide), if_pos (by decide)]
    · show partV F (nI 5) va = _
      unfold partV
      rw [if_neg (by decide), if_neg (by decide), if_neg (by decide), if_neg (by decide), if_neg (by decide), if_pos (by decide)]
  · refine SmV_leaf (by decide) (fun F hF => ⟨F 5, hF 5 (by omega), (fun z => by cases z), fun st => (step_p (k := 17) (Or.inl (by omega))).trans ?_, ?_⟩)
    · unfold sumM
      rw [if_neg (by decide), if_neg (by decide), if_neg (by decide), if_neg (by decide), if_neg (by decide), if_pos (by decide)]
    · show partV F (nI 6) va = _
      unfold partV
      rw [if_neg (by decide), if_neg (by decide), if_neg (by decide), if_neg (by decide), if_neg (by decide), if_neg (by decide), if_pos (by decide)]
  · refine SmV_leaf (by decide) (fun F hF => ⟨F 6, hF 6 (by omega), (fun z => by cases z), fun st => (step_p (k := 18) (Or.inl (by omega))).trans ?_, ?_⟩)
    · unfold sumM
      rw [if_neg (by decide), if_neg (by decide), if_neg (by decide), if_neg (by decide), if_neg (by decide), if_neg (by decide), if_pos (by decide)]
    · show partV F (nI 7) va = _
      unfold partV
      rw [if_neg (by decide), if_neg (by decide), if_neg (by decide), if_neg (by decide), if_neg (by decide), if_neg (by decide), if_neg (by decide), if_pos (by decide)]
  · refine SmV_leaf (by decide) (fun F hF => ⟨F 7, hF 7 (by omega), (fun z => by cases z), fun st => (step_p (k := 19) (Or.inl (by omega))).trans ?_, ?_⟩)
    · unfold sumM
      rw [if_neg (by decide), if_neg (by decide), if_neg (by decide), if_neg (by decide), if_neg (by decide), if_neg (by decide), if_neg (by decide), if_pos (by decide)]
    · show partV F (nI 8) va = _
      unfold partV
      rw [if_neg (by decide), if_neg (by decide), if_neg (by decide), if_neg (by decide), if_neg (by decide), if_neg (by decide), if_neg (by decide), if_neg (by decide), if_pos (by decide)]
theorem nots_run {F : Nat → Int32} : ∀ (n : Nat) {v : Int32} {st : List Int64}, b01 v → okR F (List.replicate n (22, nI 0)) (v.toInt64 :: st) ∧ runJ F (List.replicate n (22, nI 0)) (v.toInt64 :: st) = (if n % 2 = 1 then nI 1 - v else v).toInt64 :: st
  | 0, v, st, _ => ⟨trivial, rfl⟩
  | n + 1, v, st, hv => by
    have e : stpJ F (nI 22) (nI 0) (v.toInt64 :: st) = (nI 1 - v).toInt64 :: st := by
      unfold stpJ
      rw [if_pos (by decide), if_pos rfl]
      show (lN 1 - v.toInt64) :: st = _
      rcases hv with rfl | rfl
      · rw [show lN 1 - (nI 0).toInt64 = (nI 1 - nI 0).toInt64 by decide]
      · rw [show lN 1 - (nI 1).toInt64 = (nI 1 - nI 1).toInt64 by decide]
    have h1 : b01 (nI 1 - v) := by
      rcases hv with rfl | rfl
      · exact Or.inr (by decide)
      · exact Or.inl (by decide)
    obtain ⟨i1, i2⟩ := nots_run (F := F) n (v := nI 1 - v) (st := st) h1
    rw [List.replicate_succ]
    refine ⟨⟨?_, ?_⟩, ?_⟩
    · show okJ (nI 22) (v.toInt64 :: st).length
      unfold okJ
      rw [if_pos (by decide), if_pos rfl, List.length_cons]
      omega
    · show okR F _ (stpJ F (nI 22) (nI 0) (v.toInt64 :: st))
      rw [e]
      exact i1
    · show runJ F _ (stpJ F (nI 22) (nI 0) (v.toInt64 :: st)) = _
      rw [e, i2]
      have e2 : nI 1 - (nI 1 - v) = v := by
        rcases hv with rfl | rfl <;> decide
      by_cases c : n % 2 = 1
      · rw [if_pos c, if_neg (by omega), e2]
      · rw [if_neg c, if_pos (by omega)]
theorem SmV_not {n H : Nat} {lc : List Int32} {lr : List (Nat × Int32)} (hs : SmV true lc lr H) (hH : 1 ≤ H) : SmV true (if n % 2 = 1 then lc ++ [nI 10022] else lc) (lr ++ List.replicate n (22, nI 0)) H := fun F hF => by
  obtain ⟨v, h1, h2, h3, h4⟩ := hs F hF
  have h01 := h2 rfl
  have n01 : b01 (if n % 2 = 1 then nI 1 - v else v) := by
    split
    · rcases h01 with rfl | rfl
      · exact Or.inr (by decide)
      · exact Or.inl (by decide)
    · exact h01
  refine ⟨if n % 2 = 1 then nI 1 - v else v, bd_01 n01, fun _ => n01, fun st hst => ?_, fun st hst => ?_⟩
  · by_cases c : n % 2 = 1
    · rw [if_pos c, if_pos c, runC_app, h3 st hst]
      exact step_22 (F := F)
    · rw [if_neg c, if_neg c, h3 st hst]
  · obtain ⟨r1, r2⟩ := h4 st hst
    obtain ⟨i1, i2⟩ := nots_run (F := F) n (v := v) (st := st) h01
    rw [okR_app, runJ_app, r2]
    exact ⟨⟨r1, i1⟩, i2⟩
end SEM1
