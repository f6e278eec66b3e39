/-! the reference: a layer as one value; breaches -/
def brF (s : PS) (k : Nat) : Int32 := match k with
  | 0 => s.brs
  | 1 => partM s.first 0
  | 2 => partM s.first 1
  | 3 => partM s.first 2
  | _ => partM s.first 3
def wrL (h : AH) (v : Nat) (s : PS) : AH := wI h (fun b j => if 207 ≤ b ∧ b ≤ 215 then rowL s v (b - 207) (hI h b) j else if b = 174 ∧ 69 ≤ j ∧ j ≤ 73 then brF s (j - 69) else hI h b j)
theorem k9 {P : Nat → Prop} (h0 : P 0) (h1 : P 1) (h2 : P 2) (h3 : P 3) (h4 : P 4) (h5 : P 5) (h6 : P 6) (h7 : P 7) (h8 : P 8) : ∀ k, k ≤ 8 → P k
  | 0, _ => h0
  | 1, _ => h1
  | 2, _ => h2
  | 3, _ => h3
  | 4, _ => h4
  | 5, _ => h5
  | 6, _ => h6
  | 7, _ => h7
  | 8, _ => h8
  | k + 9, h => absurd h (by omega)
section WL
variable {h : AH} {v i k : Nat} {s s' : PS} {x : Int32}
theorem hN_wrL : hN (wrL h v s) = hN h := rfl
theorem hLn_wrL : hLn (wrL h v s) = hLn h := rfl
theorem hR_wrL : hR (wrL h v s) = hR h := rfl
theorem hL_wrL : hL (wrL h v s) = hL h := rfl
theorem hI_wrL {b j : Nat} : hI (wrL h v s) b j = if 207 ≤ b ∧ b ≤ 215 then rowL s v (b - 207) (hI h b) j else if b = 174 ∧ 69 ≤ j ∧ j ≤ 73 then brF s (j - 69) else hI h b j := rfl
theorem wL_ne {b : Nat} (hb : b < 207 ∨ 215 < b) (hb2 : ¬ b = 174) : hI (wrL h v s) b = hI h b := by
  funext j
  rw [hI_wrL, if_neg (by omega), if_neg (by omega)]
theorem wL_174 {j : Nat} (hj : j < 69 ∨ 73 < j) : hI (wrL h v s) 174 j = hI h 174 j := by
  rw [hI_wrL, if_neg (by omega), if_neg (by omega)]
theorem wL_br {j : Nat} (hj : j ≤ 4) : hI (wrL h v s) 174 (69 + j) = brF s j := by
  rw [hI_wrL, if_neg (by omega), if_pos (by omega), Nat.add_sub_cancel_left]
theorem wL_brs : hI (wrL h v s) 174 69 = s.brs := wL_br (j := 0) (by omega)
theorem wL_row {a j : Nat} (ha : a ≤ 8) : hI (wrL h v s) (207 + a) j = rowL s v a (hI h (207 + a)) j := by
  rw [hI_wrL, if_pos (by omega), Nat.add_sub_cancel_left]
theorem row_row {a j : Nat} {old old' : Nat → Int32} (e : ∀ j, old' j = rowL s v a old j) (ha : a ≤ 8) : rowL s v a old' j = old' j := by
  rw [e]
  refine k9 (P := fun a => (∀ j, old' j = rowL s v a old j) → rowL s v a old' j = rowL s v a old j) ?_ ?_ ?_ ?_ ?_ ?_ ?_ ?_ ?_ a ha e
  all_goals
    intro e
    simp only [rowL, e]
    split <;> simp_all
theorem Lay_wrL : Lay (wrL h v s) v s := fun a j ha => (row_row (old := hI h (207 + a)) (fun j => wL_row ha) ha).symm
theorem wrL_ext {f : Nat → Nat → Int32} (h0 : ∀ b, b < 207 ∨ 215 < b → ¬ b = 174 → f b = hI h b) (h1 : ∀ a j, a ≤ 8 → f (207 + a) j = rowL s v a (hI h (207 + a)) j) (h2 : ∀ j, f 174 j = if 69 ≤ j ∧ j ≤ 73 then brF s (j - 69) else hI h 174 j) : wI h f = wrL h v s := by
  refine ah_ext rfl rfl rfl ?_ rfl
  funext b j
  show f b j = if 207 ≤ b ∧ b ≤ 215 then rowL s v (b - 207) (hI h b) j else if b = 174 ∧ 69 ≤ j ∧ j ≤ 73 then brF s (j - 69) else hI h b j
  by_cases c1 : 207 ≤ b ∧ b ≤ 215
  · rw [if_pos c1]
    obtain ⟨a, rfl, ha⟩ : ∃ a, b = 207 + a ∧ a ≤ 8 := ⟨b - 207, by omega, by omega⟩
    rw [Nat.add_sub_cancel_left]
    exact h1 a j ha
  · rw [if_neg c1]
    by_cases c2 : b = 174
    · subst c2
      rw [h2]
      by_cases c3 : 69 ≤ j ∧ j ≤ 73
      · rw [if_pos c3, if_pos ⟨rfl, c3⟩]
      · rw [if_neg c3, if_neg (fun z => c3 z.2)]
    · rw [if_neg (fun z => c2 z.1), h0 b (by omega) c2]
theorem sL_gen {a : Nat} (ha : a ≤ 8) (e : ∀ a' j old, a' ≤ 8 → rowL s' v a' old j = if a' = a ∧ j = i then x else rowL s v a' old j) (eb : ∀ k, brF s' k = brF s k) : sI (wrL h v s) (207 + a) i x = wrL h v s' := by
  refine (show sI (wrL h v s) (207 + a) i x = wI h (hI (sI (wrL h v s) (207 + a) i x)) from rfl).trans (wrL_ext (fun b c1 c2 => ?_) (fun a' j ha' => ?_) (fun j => ?_))
  · rw [hI_sI_ne (by omega), wL_ne c1 c2]
  · rw [hI_sI, wL_row ha', e a' j _ ha']
    by_cases c : a' = a ∧ j = i
    · rw [if_pos c, if_pos ⟨by omega, c.2⟩]
    · rw [if_neg c, if_neg (fun z => c ⟨by omega, z.2⟩)]
  · rw [hI_sI, if_neg (by omega)]
    by_cases c : 69 ≤ j ∧ j ≤ 73
    · rw [if_pos c, eb]
      have := wL_br (h := h) (v := v) (s := s) (j := j - 69) (by omega)
      rw [show 69 + (j - 69) = j by omega] at this
      exact this
    · rw [if_neg c, wL_174 (by omega)]
theorem sL_day : sI (wrL h v s) 207 v x = wrL h v (mkS (x) s.knows s.purse s.till s.valid s.kept s.keeps s.brs s.first) := sL_gen (a := 0) (by omega) (fun a' j old ha => by
  refine k9 (P := fun a' => rowL (mkS (x) s.knows s.purse s.till s.valid s.kept s.keeps s.brs s.first) v a' old j = if a' = 0 ∧ j = v then x else rowL s v a' old j) ?_ ?_ ?_ ?_ ?_ ?_ ?_ ?_ ?_ a' ha
  all_goals
    simp only [rowL, day_mk, knows_mk, purse_mk, till_mk, valid_mk, kept_mk, keeps_mk, brs_mk, first_mk, true_and, false_and, if_false, Nat.reduceEqDiff]
    try (repeat' split)
    all_goals first | rfl | omega) (fun _ => rfl)
theorem sL_keeps : sI (wrL h v s) 211 v x = wrL h v (mkS s.day s.knows s.purse s.till s.valid s.kept (x) s.brs s.first) := sL_gen (a := 4) (by omega) (fun a' j old ha => by
  refine k9 (P := fun a' => rowL (mkS s.day s.knows s.purse s.till s.valid s.kept (x) s.brs s.first) v a' old j = if a' = 4 ∧ j = v then x else rowL s v a' old j) ?_ ?_ ?_ ?_ ?_ ?_ ?_ ?_ ?_ a' ha
  all_goals
    simp only [rowL, day_mk, knows_mk, purse_mk, till_mk, valid_mk, kept_mk, keeps_mk, brs_mk, first_mk, true_and, false_and, if_false, Nat.reduceEqDiff]
    try (repeat' split)
    all_goals first | rfl | omega) (fun _ => rfl)
theorem sL_knows (hi : i < 8) : sI (wrL h v s) 208 (8 * v + i) x = wrL h v (mkS s.day (upd s.knows i x) s.purse s.till s.valid s.kept s.keeps s.brs s.first) := sL_gen (a := 1) (by omega) (fun a' j old ha => by
  refine k9 (P := fun a' => rowL (mkS s.day (upd s.knows i x) s.purse s.till s.valid s.kept s.keeps s.brs s.first) v a' old j = if a' = 1 ∧ j = 8 * v + i then x else rowL s v a' old j) ?_ ?_ ?_ ?_ ?_ ?_ ?_ ?_ ?_ a' ha
  all_goals
    simp only [rowL, day_mk, knows_mk, purse_mk, till_mk, valid_mk, kept_mk, keeps_mk, brs_mk, first_mk, upd_a, true_and, false_and, if_false, Nat.reduceEqDiff]
    try (repeat' split)
    all_goals first | rfl | omega) (fun _ => rfl)
theorem sL_purse (hi : i < 8) : sI (wrL h v s) 209 (8 * v + i) x = wrL h v (mkS s.day s.knows (upd s.purse i x) s.till s.valid s.kept s.keeps s.brs s.first) := sL_gen (a := 2) (by omega) (fun a' j old ha => by
  refine k9 (P := fun a' => rowL (mkS s.day s.knows (upd s.purse i x) s.till s.valid s.kept s.keeps s.brs s.first) v a' old j = if a' = 2 ∧ j = 8 * v + i then x else rowL s v a' old j) ?_ ?_ ?_ ?_ ?_ ?_ ?_ ?_ ?_ a' ha
  all_goals
    simp only [rowL, day_mk, knows_mk, purse_mk, till_mk, valid_mk, kept_mk, keeps_mk, brs_mk, first_mk, upd_a, true_and, false_and, if_false, Nat.reduceEqDiff]
    try (repeat' split)
    all_goals first | rfl | omega) (fun _ => rfl)
theorem sL_till (hi : i < 96) : sI (wrL h v s) 210 (96 * v + i) x = wrL h v (mkS s.day s.knows s.purse (upd s.till i x) s.valid s.kept s.keeps s.brs s.first) := sL_gen (a := 3) (by omega) (fun a' j old ha => by
  refine k9 (P := fun a' => rowL (mkS s.day s.knows s.purse (upd s.till i x) s.valid s.kept s.keeps s.brs s.first) v a' old j = if a' = 3 ∧ j = 96 * v + i then x else rowL s v a' old j) ?_ ?_ ?_ ?_ ?_ ?_ ?_ ?_ ?_ a' ha
  all_goals
    simp only [rowL, day_mk, knows_mk, purse_mk, till_mk, valid_mk, kept_mk, keeps_mk, brs_mk, first_mk, upd_a, true_and, false_and, if_false, Nat.reduceEqDiff]
    try (repeat' split)
    all_goals first | rfl | omega) (fun _ => rfl)
theorem sL_brG {j : Nat} (hj : j ≤ 4) (e : ∀ a old j', rowL s' v a old j' = rowL s v a old j') (eb : ∀ k, k ≤ 4 → brF s' k = if k = j then x else brF s k) : sI (wrL h v s) 174 (69 + j) x = wrL h v s' := by
  refine (show sI (wrL h v s) 174 (69 + j) x = wI h (hI (sI (wrL h v s) 174 (69 + j) x)) from rfl).trans (wrL_ext (fun b c1 c2 => ?_) (fun a' j' ha' => ?_) (fun j' => ?_))
  · rw [hI_sI_ne c2, wL_ne c1 c2]
  · rw [hI_sI, if_neg (by omega), wL_row ha', e]
  · rw [hI_sI]
    by_cases c : 69 ≤ j' ∧ j' ≤ 73
    · rw [if_pos c, eb (j' - 69) (by omega)]
      by_cases c2 : j' = 69 + j
      · rw [if_pos ⟨rfl, c2⟩, if_pos (by omega)]
      · rw [if_neg (fun z => c2 z.2), if_neg (by omega)]
        have := wL_br (h := h) (v := v) (s := s) (j := j' - 69) (by omega)
        rw [show 69 + (j' - 69) = j' by omega] at this
        exact this
    · rw [if_neg c, if_neg (by omega), wL_174 (by omega)]
theorem k5' {P : Nat → Prop} (h0 : P 0) (h1 : P 1) (h2 : P 2) (h3 : P 3) (h4 : P 4) : ∀ k, k ≤ 4 → P k
  | 0, _ => h0
  | 1, _ => h1
  | 2, _ => h2
  | 3, _ => h3
  | 4, _ => h4
  | k + 5, h => absurd h (by omega)
theorem sL_brs : sI (wrL h v s) 174 69 x = wrL h v (mkS s.day s.knows s.purse s.till s.valid s.kept s.keeps (x) s.first) := sL_brG (j := 0) (by omega) (fun a old j' => by
  unfold rowL
  rfl) (fun k hk => by
  refine k5' (P := fun k => brF (mkS s.day s.knows s.purse s.till s.valid s.kept s.keeps (x) s.first) k = if k = 0 then x else brF s k) ?_ ?_ ?_ ?_ ?_ k hk
  all_goals rfl)
/-- the four pieces of a breach, written -/
theorem sL_four {b : Int32} (hk : k < 40) : sI (sI (sI (sI (wrL h v s) 212 (40 * v + k) (partM b 0)) 213 (40 * v + k) (partM b 1)) 214 (40 * v + k) (partM b 2)) 215 (40 * v + k) (partM b 3) = wrL h v (mkS s.day s.knows s.purse s.till s.valid (upd s.kept k b) s.keeps s.brs s.first) := by
  refine (show sI (sI (sI (sI (wrL h v s) 212 (40 * v + k) (partM b 0)) 213 (40 * v + k) (partM b 1)) 214 (40 * v + k) (partM b 2)) 215 (40 * v + k) (partM b 3) = wI h (hI (sI (sI (sI (sI (wrL h v s) 212 (40 * v + k) (partM b 0)) 213 (40 * v + k) (partM b 1)) 214 (40 * v + k) (partM b 2)) 215 (40 * v + k) (partM b 3))) from rfl).trans (wrL_ext (fun b c1 c2 => ?_) (fun a' j ha' => ?_) (fun j => ?_))
  · rw [hI_sI_ne (by omega), hI_sI_ne (by omega), hI_sI_ne (by omega), hI_sI_ne (by omega), wL_ne c1 c2]
  · rw [hI_sI, hI_sI, hI_sI, hI_sI, wL_row ha']
    refine k9 (P := fun a' => (if 207 + a' = 215 ∧ j = 40 * v + k then partM b 3 else if 207 + a' = 214 ∧ j = 40 * v + k then partM b 2 else if 207 + a' = 213 ∧ j = 40 * v + k then partM b 1 else if 207 + a' = 212 ∧ j = 40 * v + k then partM b 0 else rowL s v a' (hI h (207 + a')) j) = rowL (mkS s.day s.knows s.purse s.till s.valid (upd s.kept k b) s.keeps s.brs s.first) v a' (hI h (207 + a')) j) ?_ ?_ ?_ ?_ ?_ ?_ ?_ ?_ ?_ a' ha'
    all_goals
      simp only [rowL, day_mk, knows_mk, purse_mk, till_mk, valid_mk, kept_mk, keeps_mk, brs_mk, first_mk, upd_a, true_and, false_and, if_false, Nat.reduceEqDiff]
      try (repeat' split)
      all_goals first | rfl | omega
  · rw [hI_sI, if_neg (by omega), hI_sI, if_neg (by omega), hI_sI, if_neg (by omega), hI_sI, if_neg (by omega)]
    by_cases c : 69 ≤ j ∧ j ≤ 73
    · rw [if_pos c]
      have := wL_br (h := h) (v := v) (s := s) (j := j - 69) (by omega)
      rw [show 69 + (j - 69) = j by omega] at this
      exact this
    · rw [if_neg c, wL_174 (by omega)]
theorem sL_fst {b : Int32} : sI (sI (sI (sI (wrL h v s) 174 70 (partM b 0)) 174 71 (partM b 1)) 174 72 (partM b 2)) 174 73 (partM b 3) = wrL h v (mkS s.day s.knows s.purse s.till s.valid s.kept s.keeps s.brs (b)) := by
  refine (show sI (sI (sI (sI (wrL h v s) 174 70 (partM b 0)) 174 71 (partM b 1)) 174 72 (partM b 2)) 174 73 (partM b 3) = wI h (hI (sI (sI (sI (sI (wrL h v s) 174 70 (partM b 0)) 174 71 (partM b 1)) 174 72 (partM b 2)) 174 73 (partM b 3))) from rfl).trans (wrL_ext (fun b c1 c2 => ?_) (fun a' j ha' => ?_) (fun j => ?_))
  · rw [hI_sI_ne c2, hI_sI_ne c2, hI_sI_ne c2, hI_sI_ne c2, wL_ne c1 c2]
  · rw [hI_sI, if_neg (by omega), hI_sI, if_neg (by omega), hI_sI, if_neg (by omega), hI_sI, if_neg (by omega), wL_row ha']
    rfl
  · rw [hI_sI, hI_sI, hI_sI, hI_sI]
    by_cases c : 69 ≤ j ∧ j ≤ 73
    · rw [if_pos c]
      obtain ⟨k, rfl, hk⟩ : ∃ k, j = 69 + k ∧ k ≤ 4 := ⟨j - 69, by omega, by omega⟩
      rw [wL_br hk, Nat.add_sub_cancel_left]
      refine k5' (P := fun k => (if 174 = 174 ∧ 69 + k = 73 then partM b 3 else if 174 = 174 ∧ 69 + k = 72 then partM b 2 else if 174 = 174 ∧ 69 + k = 71 then partM b 1 else if 174 = 174 ∧ 69 + k = 70 then partM b 0 else brF s k) = brF (mkS s.day s.knows s.purse s.till s.valid s.kept s.keeps s.brs (b)) k) ?_ ?_ ?_ ?_ ?_ k hk
      all_goals rfl
    · rw [if_neg c, if_neg (by omega), if_neg (by omega), if_neg (by omega), if_neg (by omega), wL_174 (by omega)]
end WL
