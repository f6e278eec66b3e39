/-! a State as one value -/
def PS : Type := Int32 × (Nat → Int32) × (Nat → Int32) × (Nat → Int32) × (Nat → Int32) × (Nat → Int32) × Int32 × Int32 × Int32
def PS.day (s : PS) : Int32 := s.1
def PS.knows (s : PS) : Nat → Int32 := s.2.1
def PS.purse (s : PS) : Nat → Int32 := s.2.2.1
def PS.till (s : PS) : Nat → Int32 := s.2.2.2.1
def PS.valid (s : PS) : Nat → Int32 := s.2.2.2.2.1
def PS.kept (s : PS) : Nat → Int32 := s.2.2.2.2.2.1
def PS.keeps (s : PS) : Int32 := s.2.2.2.2.2.2.1
def PS.brs (s : PS) : Int32 := s.2.2.2.2.2.2.2.1
def PS.first (s : PS) : Int32 := s.2.2.2.2.2.2.2.2
def mkS (a : Int32) (b : Nat → Int32) (c : Nat → Int32) (d : Nat → Int32) (e : Nat → Int32) (f : Nat → Int32) (g : Int32) (i : Int32) (j : Int32) : PS := (a, b, c, d, e, f, g, i, j)
theorem day_mk {a : Int32} {b : Nat → Int32} {c : Nat → Int32} {d : Nat → Int32} {e : Nat → Int32} {f : Nat → Int32} {g : Int32} {i : Int32} {j : Int32} : (mkS a b c d e f g i j).day = a := rfl
theorem knows_mk {a : Int32} {b : Nat → Int32} {c : Nat → Int32} {d : Nat → Int32} {e : Nat → Int32} {f : Nat → Int32} {g : Int32} {i : Int32} {j : Int32} : (mkS a b c d e f g i j).knows = b := rfl
theorem purse_mk {a : Int32} {b : Nat → Int32} {c : Nat → Int32} {d : Nat → Int32} {e : Nat → Int32} {f : Nat → Int32} {g : Int32} {i : Int32} {j : Int32} : (mkS a b c d e f g i j).purse = c := rfl
theorem till_mk {a : Int32} {b : Nat → Int32} {c : Nat → Int32} {d : Nat → Int32} {e : Nat → Int32} {f : Nat → Int32} {g : Int32} {i : Int32} {j : Int32} : (mkS a b c d e f g i j).till = d := rfl
theorem valid_mk {a : Int32} {b : Nat → Int32} {c : Nat → Int32} {d : Nat → Int32} {e : Nat → Int32} {f : Nat → Int32} {g : Int32} {i : Int32} {j : Int32} : (mkS a b c d e f g i j).valid = e := rfl
theorem kept_mk {a : Int32} {b : Nat → Int32} {c : Nat → Int32} {d : Nat → Int32} {e : Nat → Int32} {f : Nat → Int32} {g : Int32} {i : Int32} {j : Int32} : (mkS a b c d e f g i j).kept = f := rfl
theorem keeps_mk {a : Int32} {b : Nat → Int32} {c : Nat → Int32} {d : Nat → Int32} {e : Nat → Int32} {f : Nat → Int32} {g : Int32} {i : Int32} {j : Int32} : (mkS a b c d e f g i j).keeps = g := rfl
theorem brs_mk {a : Int32} {b : Nat → Int32} {c : Nat → Int32} {d : Nat → Int32} {e : Nat → Int32} {f : Nat → Int32} {g : Int32} {i : Int32} {j : Int32} : (mkS a b c d e f g i j).brs = i := rfl
theorem first_mk {a : Int32} {b : Nat → Int32} {c : Nat → Int32} {d : Nat → Int32} {e : Nat → Int32} {f : Nat → Int32} {g : Int32} {i : Int32} {j : Int32} : (mkS a b c d e f g i j).first = j := rfl
def msk (n : Nat) (f : Nat → Int32) : Nat → Int32 := fun j => if j < n then f j else 0
/-- what lies at p; the arrays beyond their lengths are 0 -/
def rdS (h : AH) (p : Nat) : PS := mkS (hI h p 0) (msk 8 (hI h (p + 1))) (msk 8 (hI h (p + 2))) (msk 96 (hI h (p + 3))) (msk 8 (hI h (p + 4))) (msk 40 (hI h (p + 5))) (hI h p 6) (hI h p 7) (hI h p 8)
def mskS (s : PS) : PS := mkS s.day (msk 8 s.knows) (msk 8 s.purse) (msk 96 s.till) (msk 8 s.valid) (msk 40 s.kept) s.keeps s.brs s.first
/-- the row of the cell b, if s lies at p -/
def rowS (s : PS) (k : Nat) (old : Nat → Int32) (j : Nat) : Int32 :=
  match k with
  | 0 => if j = 0 then s.day else if j = 6 then s.keeps else if j = 7 then s.brs else if j = 8 then s.first else old j
  | 1 => if j < 8 then s.knows j else old j
  | 2 => if j < 8 then s.purse j else old j
  | 3 => if j < 96 then s.till j else old j
  | 4 => if j < 8 then s.valid j else old j
  | 5 => if j < 40 then s.kept j else old j
  | _ => old j
def wrS (h : AH) (p : Nat) (s : PS) : AH := wI h (fun b j => if p ≤ b then rowS s (b - p) (hI h b) j else hI h b j)
theorem hN_wrS {h : AH} {p : Nat} {s : PS} : hN (wrS h p s) = hN h := rfl
theorem hLn_wrS {h : AH} {p : Nat} {s : PS} : hLn (wrS h p s) = hLn h := rfl
theorem hR_wrS {h : AH} {p : Nat} {s : PS} : hR (wrS h p s) = hR h := rfl
theorem hL_wrS {h : AH} {p : Nat} {s : PS} : hL (wrS h p s) = hL h := rfl
theorem hS_wrS {h : AH} {p : Nat} {s : PS} : hS (wrS h p s) = hS h := rfl
theorem hI_wrS {h : AH} {p : Nat} {s : PS} {b j : Nat} : hI (wrS h p s) b j = if p ≤ b then rowS s (b - p) (hI h b) j else hI h b j := rfl
theorem wrS_k {h : AH} {p : Nat} {s : PS} (k j : Nat) : hI (wrS h p s) (p + k) j = rowS s k (hI h (p + k)) j := by
  rw [hI_wrS, if_pos (Nat.le_add_right p k), Nat.add_sub_cancel_left]
theorem wrS_0 {h : AH} {p : Nat} {s : PS} (j : Nat) : hI (wrS h p s) p j = rowS s 0 (hI h p) j := wrS_k 0 j
theorem wS_day {h : AH} {p : Nat} {s : PS} : hI (wrS h p s) p 0 = s.day := wrS_0 0
theorem wS_keeps {h : AH} {p : Nat} {s : PS} : hI (wrS h p s) p 6 = s.keeps := wrS_0 6
theorem wS_brs {h : AH} {p : Nat} {s : PS} : hI (wrS h p s) p 7 = s.brs := wrS_0 7
theorem wS_first {h : AH} {p : Nat} {s : PS} : hI (wrS h p s) p 8 = s.first := wrS_0 8
theorem wS_knows {h : AH} {p : Nat} {s : PS} {j : Nat} (hj : j < 8) : hI (wrS h p s) (p + 1) j = s.knows j := by
  rw [wrS_k]
  exact if_pos hj
theorem wS_purse {h : AH} {p : Nat} {s : PS} {j : Nat} (hj : j < 8) : hI (wrS h p s) (p + 2) j = s.purse j := by
  rw [wrS_k]
  exact if_pos hj
theorem wS_till {h : AH} {p : Nat} {s : PS} {j : Nat} (hj : j < 96) : hI (wrS h p s) (p + 3) j = s.till j := by
  rw [wrS_k]
  exact if_pos hj
theorem wS_valid {h : AH} {p : Nat} {s : PS} {j : Nat} (hj : j < 8) : hI (wrS h p s) (p + 4) j = s.valid j := by
  rw [wrS_k]
  exact if_pos hj
theorem wS_kept {h : AH} {p : Nat} {s : PS} {j : Nat} (hj : j < 40) : hI (wrS h p s) (p + 5) j = s.kept j := by
  rw [wrS_k]
  exact if_pos hj
theorem wS_ne {h : AH} {p : Nat} {s : PS} {b : Nat} (hb : b < p ∨ p + 5 < b) : hI (wrS h p s) b = hI h b := by
  funext j
  rw [hI_wrS]
  split
  · have : ∃ k, b - p = k + 6 := ⟨b - p - 6, by omega⟩
    obtain ⟨k, e⟩ := this
    rw [e]
    rfl
  · rfl
theorem wrS_ext {h : AH} {p : Nat} {s : PS} {f : Nat → Nat → Int32} (h0 : ∀ b, b < p ∨ p + 5 < b → f b = hI h b) (h1 : ∀ k j, k ≤ 5 → f (p + k) j = rowS s k (hI h (p + k)) j) : wI h f = wrS h p s := by
  refine ah_ext rfl rfl rfl ?_ rfl
  funext b j
  show f b j = hI (wrS h p s) b j
  by_cases hb : b < p ∨ p + 5 < b
  · rw [wS_ne hb, h0 b hb]
  · have : ∃ k, b = p + k ∧ k ≤ 5 := ⟨b - p, by omega, by omega⟩
    obtain ⟨k, rfl, hk⟩ := this
    rw [h1 k j hk, wrS_k]
theorem k6 {P : Nat → Prop} (h0 : P 0) (h1 : P 1) (h2 : P 2) (h3 : P 3) (h4 : P 4) (h5 : P 5) : ∀ k, k ≤ 5 → P k
  | 0, _ => h0
  | 1, _ => h1
  | 2, _ => h2
  | 3, _ => h3
  | 4, _ => h4
  | 5, _ => h5
  | k + 6, h => absurd h (by omega)
theorem wrS_self {h : AH} {p : Nat} : wrS h p (rdS h p) = h := by
  refine (wrS_ext (f := hI h) (fun _ _ => rfl) (fun k j hk => ?_)).symm
  revert k j
  refine fun k j hk => k6 (P := fun k => hI h (p + k) j = rowS (rdS h p) k (hI h (p + k)) j) ?_ ?_ ?_ ?_ ?_ ?_ k hk
  · show _ = if j = 0 then hI h p 0 else if j = 6 then hI h p 6 else if j = 7 then hI h p 7 else if j = 8 then hI h p 8 else hI h p j
    split
    · rename_i e; rw [e]; rfl
    split
    · rename_i e; rw [e]; rfl
    split
    · rename_i e; rw [e]; rfl
    split
    · rename_i e; rw [e]; rfl
    · rfl
  all_goals
    simp only [rowS, rdS, msk, knows_mk, purse_mk, till_mk, valid_mk, kept_mk]
    repeat' split
    all_goals first | rfl | omega
theorem wrS_wrS {h : AH} {p : Nat} {s t : PS} : wrS (wrS h p s) p t = wrS h p t := by
  refine (show wrS (wrS h p s) p t = wI h (hI (wrS (wrS h p s) p t)) from rfl).trans (wrS_ext (fun b hb => ?_) (fun k j hk => ?_))
  · rw [wS_ne hb, wS_ne hb]
  · rw [wrS_k]
    have e : ∀ j, hI (wrS h p s) (p + k) j = rowS s k (hI h (p + k)) j := fun j => wrS_k k j
    refine k6 (P := fun k => (∀ j, hI (wrS h p s) (p + k) j = rowS s k (hI h (p + k)) j) → rowS t k (hI (wrS h p s) (p + k)) j = rowS t k (hI h (p + k)) j) ?_ ?_ ?_ ?_ ?_ ?_ k hk e
    all_goals
      intro e
      simp only [rowS, e]
      repeat' split
      all_goals rfl
theorem rdS_wrS {h : AH} {p : Nat} {s : PS} : rdS (wrS h p s) p = mskS s := by
  have z : ∀ (n : Nat) (f g : Nat → Int32), (∀ j, j < n → f j = g j) → msk n f = msk n g := fun n f g e => by
    funext j
    simp only [msk]
    split
    · exact e j ‹_›
    · rfl
  simp only [rdS, mskS, wS_day, wS_keeps, wS_brs, wS_first]
  rw [z 8 _ _ (fun j hj => wS_knows (h := h) (p := p) (s := s) hj), z 8 _ _ (fun j hj => wS_purse (h := h) (p := p) (s := s) hj), z 96 _ _ (fun j hj => wS_till (h := h) (p := p) (s := s) hj), z 8 _ _ (fun j hj => wS_valid (h := h) (p := p) (s := s) hj), z 40 _ _ (fun j hj => wS_kept (h := h) (p := p) (s := s) hj)]
theorem rdS_ne {h : AH} {p q : Nat} {s : PS} (hpq : p + 5 < q ∨ q + 5 < p) : rdS (wrS h p s) q = rdS h q := by
  unfold rdS
  rw [wS_ne (b := q) (by omega), wS_ne (b := q + 1) (by omega), wS_ne (b := q + 2) (by omega), wS_ne (b := q + 3) (by omega), wS_ne (b := q + 4) (by omega), wS_ne (b := q + 5) (by omega)]
theorem upd_a {f : Nat → Int32} {i : Nat} {v : Int32} {j : Nat} : upd f i v j = if j = i then v else f j := rfl
theorem sS_gen {h : AH} {p : Nat} {s s' : PS} {k i : Nat} {v : Int32} (hk : k ≤ 5) (e : ∀ (k' j : Nat) (old : Nat → Int32), k' ≤ 5 → rowS s' k' old j = if k' = k ∧ j = i then v else rowS s k' old j) : sI (wrS h p s) (p + k) i v = wrS h p s' := by
  rw [sI_wI]
  refine wrS_ext (h := h) (fun b hb => ?_) (fun k' j hk' => ?_)
  · rw [show u2 (hI (wrS h p s)) (p + k) i v b = hI (wrS h p s) b from by
      funext j
      exact if_neg (fun z => by omega), wS_ne hb]
  · show (if p + k' = p + k ∧ j = i then v else hI (wrS h p s) (p + k') j) = _
    rw [wrS_k, e k' j _ hk']
    by_cases hkk : k' = k
    · rw [hkk]
      simp
    · rw [if_neg (fun z => hkk (by omega)), if_neg (fun z => hkk z.1)]
theorem sA_gen {h : AH} {p : Nat} {s s' : PS} {k : Nat} {f : Nat → Int32} (hk : k ≤ 5) (e1 : ∀ j, f j = rowS s' k (hI h (p + k)) j) (e2 : ∀ (k' j : Nat) (old : Nat → Int32), k' ≤ 5 → k' ≠ k → rowS s' k' old j = rowS s k' old j) : sA (wrS h p s) (p + k) f = wrS h p s' := by
  refine (show sA (wrS h p s) (p + k) f = wI h (hI (sA (wrS h p s) (p + k) f)) from rfl).trans (wrS_ext (h := h) (fun b hb => ?_) (fun k' j hk' => ?_))
  · rw [hI_sA_ne (by omega), wS_ne hb]
  · by_cases hkk : k' = k
    · rw [hkk, hI_sA', e1]
    · rw [hI_sA_ne (by omega), wrS_k, e2 k' j _ hk' hkk]
section SS
variable {h : AH} {p : Nat} {s : PS} {v : Int32} {i : Nat}
theorem sS_day : sI (wrS h p s) p 0 v = wrS h p (mkS (v) s.knows s.purse s.till s.valid s.kept s.keeps s.brs s.first) := sS_gen (k := 0) (by omega) (fun k' j old hk => by
  refine k6 (P := fun k' => rowS (mkS (v) s.knows s.purse s.till s.valid s.kept s.keeps s.brs s.first) k' old j = if k' = 0 ∧ j = 0 then v else rowS s k' old j) ?_ ?_ ?_ ?_ ?_ ?_ k' hk
  · simp only [rowS, true_and]
    repeat' split
    all_goals first | rfl | omega
  all_goals exact (if_neg (by omega)).symm)
theorem sS_keeps : sI (wrS h p s) p 6 v = wrS h p (mkS s.day s.knows s.purse s.till s.valid s.kept (v) s.brs s.first) := sS_gen (k := 0) (by omega) (fun k' j old hk => by
  refine k6 (P := fun k' => rowS (mkS s.day s.knows s.purse s.till s.valid s.kept (v) s.brs s.first) k' old j = if k' = 0 ∧ j = 6 then v else rowS s k' old j) ?_ ?_ ?_ ?_ ?_ ?_ k' hk
  · simp only [rowS, true_and]
    repeat' split
    all_goals first | rfl | omega
  all_goals exact (if_neg (by omega)).symm)
theorem sS_brs : sI (wrS h p s) p 7 v = wrS h p (mkS s.day s.knows s.purse s.till s.valid s.kept s.keeps (v) s.first) := sS_gen (k := 0) (by omega) (fun k' j old hk => by
  refine k6 (P := fun k' => rowS (mkS s.day s.knows s.purse s.till s.valid s.kept s.keeps (v) s.first) k' old j = if k' = 0 ∧ j = 7 then v else rowS s k' old j) ?_ ?_ ?_ ?_ ?_ ?_ k' hk
  · simp only [rowS, true_and]
    repeat' split
    all_goals first | rfl | omega
  all_goals exact (if_neg (by omega)).symm)
theorem sS_first : sI (wrS h p s) p 8 v = wrS h p (mkS s.day s.knows s.purse s.till s.valid s.kept s.keeps s.brs (v)) := sS_gen (k := 0) (by omega) (fun k' j old hk => by
  refine k6 (P := fun k' => rowS (mkS s.day s.knows s.purse s.till s.valid s.kept s.keeps s.brs (v)) k' old j = if k' = 0 ∧ j = 8 then v else rowS s k' old j) ?_ ?_ ?_ ?_ ?_ ?_ k' hk
  · simp only [rowS, true_and]
    repeat' split
    all_goals first | rfl | omega
  all_goals exact (if_neg (by omega)).symm)
theorem sS_knows (hi : i < 8) : sI (wrS h p s) (p + 1) i v = wrS h p (mkS s.day (upd s.knows i v) s.purse s.till s.valid s.kept s.keeps s.brs s.first) := sS_gen (k := 1) (by omega) (fun k' j old hk => by
  refine k6 (P := fun k' => rowS (mkS s.day (upd s.knows i v) s.purse s.till s.valid s.kept s.keeps s.brs s.first) k' old j = if k' = 1 ∧ j = i then v else rowS s k' old j) ?_ ?_ ?_ ?_ ?_ ?_ k' hk
  all_goals first
    | exact (if_neg (by omega)).symm
    | (simp only [rowS, true_and, knows_mk, purse_mk, till_mk, valid_mk, kept_mk, upd_a]
       repeat' split
       all_goals first | rfl | omega))
theorem sS_purse (hi : i < 8) : sI (wrS h p s) (p + 2) i v = wrS h p (mkS s.day s.knows (upd s.purse i v) s.till s.valid s.kept s.keeps s.brs s.first) := sS_gen (k := 2) (by omega) (fun k' j old hk => by
  refine k6 (P := fun k' => rowS (mkS s.day s.knows (upd s.purse i v) s.till s.valid s.kept s.keeps s.brs s.first) k' old j = if k' = 2 ∧ j = i then v else rowS s k' old j) ?_ ?_ ?_ ?_ ?_ ?_ k' hk
  all_goals first
    | exact (if_neg (by omega)).symm
    | (simp only [rowS, true_and, knows_mk, purse_mk, till_mk, valid_mk, kept_mk, upd_a]
       repeat' split
       all_goals first | rfl | omega))
theorem sS_till (hi : i < 96) : sI (wrS h p s) (p + 3) i v = wrS h p (mkS s.day s.knows s.purse (upd s.till i v) s.valid s.kept s.keeps s.brs s.first) := sS_gen (k := 3) (by omega) (fun k' j old hk => by
  refine k6 (P := fun k' => rowS (mkS s.day s.knows s.purse (upd s.till i v) s.valid s.kept s.keeps s.brs s.first) k' old j = if k' = 3 ∧ j = i then v else rowS s k' old j) ?_ ?_ ?_ ?_ ?_ ?_ k' hk
  all_goals first
    | exact (if_neg (by omega)).symm
    | (simp only [rowS, true_and, knows_mk, purse_mk, till_mk, valid_mk, kept_mk, upd_a]
       repeat' split
       all_goals first | rfl | omega))
theorem sS_valid (hi : i < 8) : sI (wrS h p s) (p + 4) i v = wrS h p (mkS s.day s.knows s.purse s.till (upd s.valid i v) s.kept s.keeps s.brs s.first) := sS_gen (k := 4) (by omega) (fun k' j old hk => by
  refine k6 (P := fun k' => rowS (mkS s.day s.knows s.purse s.till (upd s.valid i v) s.kept s.keeps s.brs s.first) k' old j = if k' = 4 ∧ j = i then v else rowS s k' old j) ?_ ?_ ?_ ?_ ?_ ?_ k' hk
  all_goals first
    | exact (if_neg (by omega)).symm
    | (simp only [rowS, true_and, knows_mk, purse_mk, till_mk, valid_mk, kept_mk, upd_a]
       repeat' split
       all_goals first | rfl | omega))
theorem sS_kept (hi : i < 40) : sI (wrS h p s) (p + 5) i v = wrS h p (mkS s.day s.knows s.purse s.till s.valid (upd s.kept i v) s.keeps s.brs s.first) := sS_gen (k := 5) (by omega) (fun k' j old hk => by
  refine k6 (P := fun k' => rowS (mkS s.day s.knows s.purse s.till s.valid (upd s.kept i v) s.keeps s.brs s.first) k' old j = if k' = 5 ∧ j = i then v else rowS s k' old j) ?_ ?_ ?_ ?_ ?_ ?_ k' hk
  all_goals first
    | exact (if_neg (by omega)).symm
    | (simp only [rowS, true_and, knows_mk, purse_mk, till_mk, valid_mk, kept_mk, upd_a]
       repeat' split
       all_goals first | rfl | omega))
theorem sA_knows {f : Nat → Int32} (hf : ∀ j, 8 ≤ j → f j = hI h (p + 1) j) : sA (wrS h p s) (p + 1) f = wrS h p (mkS s.day (f) s.purse s.till s.valid s.kept s.keeps s.brs s.first) := sA_gen (k := 1) (by omega) (fun j => by
  show f j = if j < 8 then f j else hI h (p + 1) j
  split
  · rfl
  · exact hf j (by omega)) (fun k' j old hk => by
  refine k6 (P := fun k' => k' ≠ 1 → rowS (mkS s.day (f) s.purse s.till s.valid s.kept s.keeps s.brs s.first) k' old j = rowS s k' old j) ?_ ?_ ?_ ?_ ?_ ?_ k' hk
  all_goals first
    | exact fun _ => rfl
    | exact fun z => absurd rfl z)
theorem fA_knows {n : Nat} (hn : n ≤ 8) : fillA (wrS h p s) (p + 1) n v = wrS h p (mkS s.day (fun j => if j < n then v else s.knows j) s.purse s.till s.valid s.kept s.keeps s.brs s.first) := by
  rw [fillA]
  refine sA_gen (k := 1) (by omega) (fun j => ?_) (fun k' j old hk => ?_)
  · show _ = if j < 8 then (if j < n then v else s.knows j) else hI h (p + 1) j
    rw [wrS_k]
    show (if j < n then v else if j < 8 then s.knows j else hI h (p + 1) j) = _
    repeat' split
    all_goals first | rfl | omega
  · refine k6 (P := fun k' => k' ≠ 1 → rowS (mkS s.day (fun j => if j < n then v else s.knows j) s.purse s.till s.valid s.kept s.keeps s.brs s.first) k' old j = rowS s k' old j) ?_ ?_ ?_ ?_ ?_ ?_ k' hk
    all_goals first
      | exact fun _ => rfl
      | exact fun z => absurd rfl z
theorem sA_purse {f : Nat → Int32} (hf : ∀ j, 8 ≤ j → f j = hI h (p + 2) j) : sA (wrS h p s) (p + 2) f = wrS h p (mkS s.day s.knows (f) s.till s.valid s.kept s.keeps s.brs s.first) := sA_gen (k := 2) (by omega) (fun j => by
  show f j = if j < 8 then f j else hI h (p + 2) j
  split
  · rfl
  · exact hf j (by omega)) (fun k' j old hk => by
  refine k6 (P := fun k' => k' ≠ 2 → rowS (mkS s.day s.knows (f) s.till s.valid s.kept s.keeps s.brs s.first) k' old j = rowS s k' old j) ?_ ?_ ?_ ?_ ?_ ?_ k' hk
  all_goals first
    | exact fun _ => rfl
    | exact fun z => absurd rfl z)
theorem fA_purse {n : Nat} (hn : n ≤ 8) : fillA (wrS h p s) (p + 2) n v = wrS h p (mkS s.day s.knows (fun j => if j < n then v else s.purse j) s.till s.valid s.kept s.keeps s.brs s.first) := by
  rw [fillA]
  refine sA_gen (k := 2) (by omega) (fun j => ?_) (fun k' j old hk => ?_)
  · show _ = if j < 8 then (if j < n then v else s.purse j) else hI h (p + 2) j
    rw [wrS_k]
    show (if j < n then v else if j < 8 then s.purse j else hI h (p + 2) j) = _
    repeat' split
    all_goals first | rfl | omega
  · refine k6 (P := fun k' => k' ≠ 2 → rowS (mkS s.day s.knows (fun j => if j < n then v else s.purse j) s.till s.valid s.kept s.keeps s.brs s.first) k' old j = rowS s k' old j) ?_ ?_ ?_ ?_ ?_ ?_ k' hk
    all_goals first
      | exact fun _ => rfl
      | exact fun z => absurd rfl z
theorem sA_till {f : Nat → Int32} (hf : ∀ j, 96 ≤ j → f j = hI h (p + 3) j) : sA (wrS h p s) (p + 3) f = wrS h p (mkS s.day s.knows s.purse (f) s.valid s.kept s.keeps s.brs s.first) := sA_gen (k := 3) (by omega) (fun j => by
  show f j = if j < 96 then f j else hI h (p + 3) j
  split
  · rfl
  · exact hf j (by omega)) (fun k' j old hk => by
  refine k6 (P := fun k' => k' ≠ 3 → rowS (mkS s.day s.knows s.purse (f) s.valid s.kept s.keeps s.brs s.first) k' old j = rowS s k' old j) ?_ ?_ ?_ ?_ ?_ ?_ k' hk
  all_goals first
    | exact fun _ => rfl
    | exact fun z => absurd rfl z)
theorem fA_till {n : Nat} (hn : n ≤ 96) : fillA (wrS h p s) (p + 3) n v = wrS h p (mkS s.day s.knows s.purse (fun j => if j < n then v else s.till j) s.valid s.kept s.keeps s.brs s.first) := by
  rw [fillA]
  refine sA_gen (k := 3) (by omega) (fun j => ?_) (fun k' j old hk => ?_)
  · show _ = if j < 96 then (if j < n then v else s.till j) else hI h (p + 3) j
    rw [wrS_k]
    show (if j < n then v else if j < 96 then s.till j else hI h (p + 3) j) = _
    repeat' split
    all_goals first | rfl | omega
  · refine k6 (P := fun k' => k' ≠ 3 → rowS (mkS s.day s.knows s.purse (fun j => if j < n then v else s.till j) s.valid s.kept s.keeps s.brs s.first) k' old j = rowS s k' old j) ?_ ?_ ?_ ?_ ?_ ?_ k' hk
    all_goals first
      | exact fun _ => rfl
      | exact fun z => absurd rfl z
theorem sA_valid {f : Nat → Int32} (hf : ∀ j, 8 ≤ j → f j = hI h (p + 4) j) : sA (wrS h p s) (p + 4) f = wrS h p (mkS s.day s.knows s.purse s.till (f) s.kept s.keeps s.brs s.first) := sA_gen (k := 4) (by omega) (fun j => by
  show f j = if j < 8 then f j else hI h (p + 4) j
  split
  · rfl
  · exact hf j (by omega)) (fun k' j old hk => by
  refine k6 (P := fun k' => k' ≠ 4 → rowS (mkS s.day s.knows s.purse s.till (f) s.kept s.keeps s.brs s.first) k' old j = rowS s k' old j) ?_ ?_ ?_ ?_ ?_ ?_ k' hk
  all_goals first
    | exact fun _ => rfl
    | exact fun z => absurd rfl z)
theorem fA_valid {n : Nat} (hn : n ≤ 8) : fillA (wrS h p s) (p + 4) n v = wrS h p (mkS s.day s.knows s.purse s.till (fun j => if j < n then v else s.valid j) s.kept s.keeps s.brs s.first) := by
  rw [fillA]
  refine sA_gen (k := 4) (by omega) (fun j => ?_) (fun k' j old hk => ?_)
  · show _ = if j < 8 then (if j < n then v else s.valid j) else hI h (p + 4) j
    rw [wrS_k]
    show (if j < n then v else if j < 8 then s.valid j else hI h (p + 4) j) = _
    repeat' split
    all_goals first | rfl | omega
  · refine k6 (P := fun k' => k' ≠ 4 → rowS (mkS s.day s.knows s.purse s.till (fun j => if j < n then v else s.valid j) s.kept s.keeps s.brs s.first) k' old j = rowS s k' old j) ?_ ?_ ?_ ?_ ?_ ?_ k' hk
    all_goals first
      | exact fun _ => rfl
      | exact fun z => absurd rfl z
theorem sA_kept {f : Nat → Int32} (hf : ∀ j, 40 ≤ j → f j = hI h (p + 5) j) : sA (wrS h p s) (p + 5) f = wrS h p (mkS s.day s.knows s.purse s.till s.valid (f) s.keeps s.brs s.first) := sA_gen (k := 5) (by omega) (fun j => by
  show f j = if j < 40 then f j else hI h (p + 5) j
  split
  · rfl
  · exact hf j (by omega)) (fun k' j old hk => by
  refine k6 (P := fun k' => k' ≠ 5 → rowS (mkS s.day s.knows s.purse s.till s.valid (f) s.keeps s.brs s.first) k' old j = rowS s k' old j) ?_ ?_ ?_ ?_ ?_ ?_ k' hk
  all_goals first
    | exact fun _ => rfl
    | exact fun z => absurd rfl z)
theorem fA_kept {n : Nat} (hn : n ≤ 40) : fillA (wrS h p s) (p + 5) n v = wrS h p (mkS s.day s.knows s.purse s.till s.valid (fun j => if j < n then v else s.kept j) s.keeps s.brs s.first) := by
  rw [fillA]
  refine sA_gen (k := 5) (by omega) (fun j => ?_) (fun k' j old hk => ?_)
  · show _ = if j < 40 then (if j < n then v else s.kept j) else hI h (p + 5) j
    rw [wrS_k]
    show (if j < n then v else if j < 40 then s.kept j else hI h (p + 5) j) = _
    repeat' split
    all_goals first | rfl | omega
  · refine k6 (P := fun k' => k' ≠ 5 → rowS (mkS s.day s.knows s.purse s.till s.valid (fun j => if j < n then v else s.kept j) s.keeps s.brs s.first) k' old j = rowS s k' old j) ?_ ?_ ?_ ?_ ?_ ?_ k' hk
    all_goals first
      | exact fun _ => rfl
      | exact fun z => absurd rfl z
end SS
