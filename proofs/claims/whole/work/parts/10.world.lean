/-! the plain heap as the machine holds it -/
abbrev XT : Type := Nat × (Nat → Nat) × Option Nat × (Nat × (Nat → Int32))
def adr (X : XT) (q : Nat) : Nat := if q < 1000000 then X.1 + q else X.2.1 (q - 1000000)
def cv (X : XT) (v : Value) : Value := match v with
  | .ref q => .ref (adr X q)
  | .int x => .int x
  | .long x => .long x
  | .float _ => va_rf X.2.2.1
  | .double x => .double x
  | .null => .null
  | .retAddr x => .retAddr x
theorem cv_ref {X : XT} {a : Nat} (h : a < 1000000) : cv X (.ref a) = .ref (X.1 + a) := by
  show Value.ref (adr X a) = _
  rw [adr, if_pos h]
theorem cv_cat (X : XT) (v : Value) : (cv X v).category = v.category := by
  cases v <;> first | rfl | (show (va_rf X.2.2.1).category = _; cases X.2.2.1 <;> rfl)
def cel (X : XT) (dA : Nat → ClassId) (h : AH) (a : Nat) : va_E :=
  if lay a < 10 then .inr (lay a, (List.range (nfl (lay a))).map fun k => cv X (fv h a (lay a) k))
  else if lay a = 13 then .inl (dA 13, hLn h a, .inr (.inl (hL h a)))
  else if lay a = 14 then .inl (dA 14, hLn h a, .inr (.inr (.inr (.inr fun j => (hR h a j).map (adr X)))))
  else .inl (dA (lay a), hLn h a, .inl (hI h a))
theorem cel_obj {X : XT} {dA : Nat → ClassId} {h : AH} {a ci : Nat} (e : lay a = ci) (hc : ci < 10) : cel X dA h a = .inr (ci, (List.range (nfl ci)).map fun k => cv X (fv h a ci k)) := by
  subst e
  rw [cel, if_pos hc]
theorem cel_ints {X : XT} {dA : Nat → ClassId} {h : AH} {a t : Nat} (e : lay a = t) (hc : t = 10 ∨ t = 11 ∨ t = 12) : cel X dA h a = .inl (dA t, hLn h a, .inl (hI h a)) := by
  subst e
  rw [cel, if_neg (by omega), if_neg (by omega), if_neg (by omega)]
theorem cel_long {X : XT} {dA : Nat → ClassId} {h : AH} {a : Nat} (e : lay a = 13) : cel X dA h a = .inl (dA 13, hLn h a, .inr (.inl (hL h a))) := by
  rw [cel, if_neg (by omega), if_pos e]
theorem cel_refs {X : XT} {dA : Nat → ClassId} {h : AH} {a : Nat} (e : lay a = 14) : cel X dA h a = .inl (dA 14, hLn h a, .inr (.inr (.inr (.inr fun j => (hR h a j).map (adr X))))) := by
  rw [cel, if_neg (by omega), if_neg (by omega), if_pos e]
theorem fv_congr {h h' : AH} {b : Nat} (e1 : hI h' b = hI h b) (e2 : hL h' b = hL h b) (e3 : hR h' b = hR h b) (ci k : Nat) : fv h' b ci k = fv h b ci k := by
  unfold fv
  rw [e1, e2, e3]
theorem cel_congr {X : XT} {dA : Nat → ClassId} {h h' : AH} {b : Nat} (e0 : hLn h' b = hLn h b) (e1 : hI h' b = hI h b) (e2 : hL h' b = hL h b) (e3 : hR h' b = hR h b) : cel X dA h' b = cel X dA h b := by
  unfold cel
  simp only [e0, e1, e2, e3, fv_congr e1 e2 e3]
def wl (X : XT) (dA : Nat → ClassId) (h : AH) : va_W := (List.range (hN h)).map fun a => (X.1 + a, cel X dA h a)
theorem wl_get {X : XT} {dA : Nat → ClassId} {h : AH} {a : Nat} (ha : a < hN h) : (wl X dA h)[a]? = some (X.1 + a, cel X dA h a) := by
  simp [wl, ha]
theorem wl_none {X : XT} {dA : Nat → ClassId} {h : AH} {a : Nat} (ha : hN h ≤ a) : (wl X dA h)[a]? = none := by
  simp [wl, ha]
theorem wl_set {X : XT} {dA : Nat → ClassId} {h h' : AH} {a : Nat} {e : va_E} (ha : a < hN h) (hn : hN h' = hN h) (he : cel X dA h' a = e) (ho : ∀ b, b ≠ a → cel X dA h' b = cel X dA h b) : (wl X dA h).set a (X.1 + a, e) = wl X dA h' := by
  apply List.ext_getElem?
  intro i
  rw [List.getElem?_set]
  by_cases hi : a = i
  · subst hi
    rw [if_pos rfl, if_pos (by simpa [wl] using ha), wl_get (by rw [hn]; exact ha), he]
  · rw [if_neg hi]
    by_cases h2 : i < hN h
    · rw [wl_get h2, wl_get (by rw [hn]; exact h2), ho i (fun z => hi z.symm)]
    · rw [wl_none (Nat.le_of_not_lt h2), wl_none (by rw [hn]; exact Nat.le_of_not_lt h2)]
theorem wl_D {X : XT} {dA : Nat → ClassId} {h : AH} : va_D (fun q => X.1 ≤ q) (wl X dA h) := by
  constructor
  · intro i j p q hp hq e
    by_cases hi : i < hN h
    · by_cases hj : j < hN h
      · rw [wl_get hi] at hp
        rw [wl_get hj] at hq
        cases hp
        cases hq
        exact Nat.add_left_cancel e
      · rw [wl_none (Nat.le_of_not_lt hj)] at hq
        cases hq
    · rw [wl_none (Nat.le_of_not_lt hi)] at hp
      cases hp
  · intro k q hk
    by_cases hi : k < hN h
    · rw [wl_get hi] at hk
      cases hk
      exact Nat.le_add_right _ _
    · rw [wl_none (Nat.le_of_not_lt hi)] at hk
      cases hk
theorem alc_lt {h : AH} {ln sl b : Nat} (hb : b < hN h) : b ≠ h.1 := Nat.ne_of_lt hb
theorem wl_push {X : XT} {dA : Nat → ClassId} {h : AH} {ln sl : Nat} : wl X dA (alc h ln sl) = wl X dA h ++ [(X.1 + hN h, cel X dA (alc h ln sl) (hN h))] := by
  unfold wl
  rw [show hN (alc h ln sl) = hN h + 1 from rfl, List.range_succ, List.map_append]
  congr 1
  apply List.map_congr_left
  intro b hb
  have hb1 : b ≠ h.1 := Nat.ne_of_lt (List.mem_range.mp hb)
  have e0 : hLn (alc h ln sl) b = hLn h b := by simp [hLn, alc, hb1]
  have e1 : hI (alc h ln sl) b = hI h b := by funext j; simp [hI, alc, z2, hb1]
  have e2 : hL (alc h ln sl) b = hL h b := by funext j; simp [hL, alc, z2, hb1]
  have e3 : hR (alc h ln sl) b = hR h b := by funext j; simp [hR, alc, z2, hb1]
  rw [cel_congr e0 e1 e2 e3]
/-! the locals -/
def isU (v : Value) : Bool := match v with
  | .retAddr _ => true
  | _ => false
def lof (X : XT) (ls : List Value) : List (Nat × Value) := (List.range ls.length).filterMap fun i => match ls[i]? with
  | some v => if isU v then none else some (i, cv X v)
  | none => none
theorem lof_in {X : XT} {ls : List Value} {i : Nat} {v : Value} (h : ls[i]? = some v) (hu : isU v = false) : (i, cv X v) ∈ lof X ls := by
  refine List.mem_filterMap.mpr ⟨i, List.mem_range.mpr (List.getElem?_eq_some_iff.mp h).1, ?_⟩
  rw [h]
  simp [hu]
theorem lof_out {X : XT} {ls : List Value} {q : Nat × Value} (h : q ∈ lof X ls) : ∃ v, ls[q.1]? = some v ∧ isU v = false ∧ q.2 = cv X v := by
  obtain ⟨i, -, h2⟩ := List.mem_filterMap.mp h
  cases hv : ls[i]? with
  | none => simp [hv] at h2
  | some v =>
    simp only [hv] at h2
    split at h2
    · cases h2
    · rename_i hu
      cases h2
      exact ⟨v, hv, by simpa using hu, rfl⟩
def LV (X : XT) (nL : Nat) (lsS : Array Slot) (ls : List Value) : Prop := ls.length = nL ∧ lv_has lsS nL (lof X ls)
theorem LV.get {X : XT} {nL : Nat} {lsS : Array Slot} {ls : List Value} (h : LV X nL lsS ls) {i : Nat} {v : Value} (hi : ls[i]? = some v) (hu : isU v = false) : lsS[i]? = some (.val (cv X v)) := h.2.2.2 _ (lof_in hi hu)
theorem LV.mk {X : XT} {nL : Nat} {lsS : Array Slot} {ls : List Value} {l : List (Nat × Value)} (hn : ls.length = nL) (h : lv_has lsS nL l) (hl : ∀ i v, ls[i]? = some v → isU v = false → (i, cv X v) ∈ l) : LV X nL lsS ls := by
  refine ⟨hn, h.1, h.2.1, fun q hq => ?_⟩
  obtain ⟨v, h1, h2, h3⟩ := lof_out hq
  have := h.2.2 _ (hl q.1 v h1 h2)
  rw [← h3] at this
  exact this
theorem kl_succ (ls : List Value) (j : Nat) : kl ls (j + 1) = (match ls[j]? with
    | some (.long _) => ls.set j uu
    | some (.double _) => ls.set j uu
    | _ => ls) := rfl
theorem kl_len (ls : List Value) (i : Nat) : (kl ls i).length = ls.length := by
  cases i with
  | zero => rfl
  | succ j =>
    rw [kl_succ]
    split
    · simp
    · simp
    · rfl
theorem kl_get {ls : List Value} {i j : Nat} {v : Value} (h : (kl ls i)[j]? = some v) (hu : isU v = false) : ls[j]? = some v ∧ ¬ (j + 1 = i ∧ v.category = 2) := by
  have aux : ∀ k : Nat, (ls.set k uu)[j]? = some v → ls[j]? = some v ∧ j ≠ k := by
    intro k h
    rw [List.getElem?_set] at h
    split at h
    · split at h
      · cases h
        cases hu
      · cases h
    · rename_i e
      exact ⟨h, fun z => e z.symm⟩
  cases i with
  | zero => exact ⟨h, fun z => by omega⟩
  | succ k =>
    rw [kl_succ] at h
    split at h
    · obtain ⟨h1, h2⟩ := aux k h
      exact ⟨h1, fun z => h2 (by omega)⟩
    · obtain ⟨h1, h2⟩ := aux k h
      exact ⟨h1, fun z => h2 (by omega)⟩
    · rename_i hx hy
      refine ⟨h, fun z => ?_⟩
      obtain ⟨z1, z2⟩ := z
      have z3 : j = k := by omega
      subst z3
      cases v <;> first | exact hx _ h | exact hy _ h | (simp [Value.category] at z2)
theorem LV_st1 {X : XT} {nL i : Nat} {lsS ls' : Array Slot} {ls : List Value} {v : Value} (h : LV X nL lsS ls) (hl : lv_has ls' nL ((i, cv X v) :: (lof X ls).filter (fun q => !(q.1 == i) && !(q.1 + 1 == i && q.2.category == 2)))) : LV X nL ls' (st1 ls i v) := by
  refine LV.mk (by unfold st1; rw [List.length_set, kl_len]; exact h.1) hl (fun j w hj hu => ?_)
  unfold st1 at hj
  rw [List.getElem?_set] at hj
  split at hj
  · rename_i e
    subst e
    split at hj
    · cases hj
      exact List.mem_cons_self
    · cases hj
  · rename_i e
    obtain ⟨h1, h2⟩ := kl_get hj hu
    refine List.mem_cons_of_mem _ (List.mem_filter.mpr ⟨lof_in h1 hu, ?_⟩)
    have hne : (j == i) = false := by simpa using fun z => e z.symm
    have h4 : (j + 1 == i && (cv X w).category == 2) = false := by
      rw [cv_cat]
      by_cases h5 : j + 1 = i
      · by_cases h6 : w.category = 2
        · exact absurd ⟨h5, h6⟩ h2
        · simp [h6]
      · simp [h5]
    simp only [hne, h4, Bool.not_false, Bool.and_self]
theorem LV_st2 {X : XT} {nL i : Nat} {lsS ls' : Array Slot} {ls : List Value} {v : Value} (h : LV X nL lsS ls) (hl : lv_has ls' nL ((i, cv X v) :: (lof X ls).filter (fun q => !(q.1 == i) && (!(q.1 == i + 1) && !(q.1 + 1 == i && q.2.category == 2))))) : LV X nL ls' (st2 ls i v) := by
  refine LV.mk (by unfold st2; rw [List.length_set, List.length_set, kl_len]; exact h.1) hl (fun j w hj hu => ?_)
  unfold st2 at hj
  rw [List.getElem?_set] at hj
  split at hj
  · split at hj
    · cases hj
      cases hu
    · cases hj
  · rename_i e1
    rw [List.getElem?_set] at hj
    split at hj
    · rename_i e
      subst e
      split at hj
      · cases hj
        exact List.mem_cons_self
      · cases hj
    · rename_i e
      obtain ⟨h1, h2⟩ := kl_get hj hu
      refine List.mem_cons_of_mem _ (List.mem_filter.mpr ⟨lof_in h1 hu, ?_⟩)
      have hne : (j == i) = false := by simpa using fun z => e z.symm
      have hne1 : (j == i + 1) = false := by simpa using fun z => e1 z.symm
      have h4 : (j + 1 == i && (cv X w).category == 2) = false := by
        rw [cv_cat]
        by_cases h5 : j + 1 = i
        · by_cases h6 : w.category = 2
          · exact absurd ⟨h5, h6⟩ h2
          · simp [h6]
        · simp [h5]
      simp only [hne, hne1, h4, Bool.not_false, Bool.and_self]
/-! a method's entry -/
theorem flt_long (x : Int64) (as : List Value) : flt (.long x :: as) = .long x :: uu :: flt as := rfl
theorem flt_double (x : UInt64) (as : List Value) : flt (.double x :: as) = .double x :: uu :: flt as := rfl
theorem flt_one {v : Value} (h : ¬ v.category = 2) (as : List Value) : flt (v :: as) = v :: flt as := by
  cases v <;> first | rfl | exact absurd rfl h
theorem flt_two {v : Value} (h : v.category = 2) (as : List Value) : flt (v :: as) = v :: uu :: flt as := by
  cases v <;> first | rfl | (simp [Value.category] at h)
theorem flt_len (X : XT) (as : List Value) : (lg_sl (as.map (cv X))).length = (flt as).length := by
  induction as with
  | nil => rfl
  | cons v as ih =>
    have e : lg_sl ((v :: as).map (cv X)) = (if (cv X v).category = 2 then [Slot.val (cv X v), .second] else [.val (cv X v)]) ++ lg_sl (as.map (cv X)) := by simp [lg_sl]
    rw [e, List.length_append, ih, cv_cat]
    by_cases hc : v.category = 2
    · rw [if_pos hc, flt_two hc]
      simp
      omega
    · rw [if_neg hc, flt_one hc]
      simp
      omega
theorem flt_in (X : XT) : ∀ (as : List Value) (o i : Nat) (v : Value), (flt as)[i]? = some v → isU v = false → (o + i, cv X v) ∈ lv_args o (as.map (cv X))
  | [], o, i, v, h, _ => by simp [flt] at h
  | a :: as, o, i, v, h, hu => by
    show (o + i, cv X v) ∈ (o, cv X a) :: lv_args (if (cv X a).category = 2 then o + 2 else o + 1) (as.map (cv X))
    rw [cv_cat]
    by_cases hc : a.category = 2
    · rw [flt_two hc] at h
      rw [if_pos hc]
      match i, h with
      | 0, h =>
        cases h
        exact List.mem_cons_self
      | 1, h =>
        cases h
        cases hu
      | i + 2, h =>
        have := flt_in X as (o + 2) i v h hu
        rw [show o + (i + 2) = o + 2 + i by omega]
        exact List.mem_cons_of_mem _ this
    · rw [flt_one hc] at h
      rw [if_neg hc]
      match i, h with
      | 0, h =>
        cases h
        exact List.mem_cons_self
      | i + 1, h =>
        have := flt_in X as (o + 1) i v h hu
        rw [show o + (i + 1) = o + 1 + i by omega]
        exact List.mem_cons_of_mem _ this
theorem LV_ent {X : XT} {ml : Nat} {as : List Value} (h : (flt as).length ≤ ml) : LV X ml ((lg_sl (as.map (cv X)) ++ List.replicate (ml - (lg_sl (as.map (cv X))).length) Slot.unset).toArray) (ent ml as) := by
  have hl := lv_entry (as.map (cv X)) (n := ml) (by rw [flt_len]; exact h)
  refine LV.mk (by simp [ent]; omega) hl (fun i v hi hu => ?_)
  unfold ent at hi
  by_cases h2 : i < (flt as).length
  · rw [List.getElem?_append_left h2] at hi
    have := flt_in X as 0 i v hi hu
    rw [Nat.zero_add] at this
    exact this
  · rw [List.getElem?_append_right (Nat.le_of_not_lt h2)] at hi
    have h3 := List.mem_of_getElem? hi
    have h4 := List.eq_of_mem_replicate h3
    subst h4
    cases hu
