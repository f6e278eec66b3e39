/-! standing rows: numbers that are naturals; 'simp (disch := omega)' decides them -/
theorem rv_some {q : Nat} : rv (some q) = .ref q := rfl
theorem rv_none : rv none = .null := rfl
theorem nlt_t {a b : Nat} (h : a < b) : (a < b) = True := eq_true h
theorem nlt_f {a b : Nat} (h : ¬ a < b) : (a < b) = False := eq_false h
theorem nle_t {a b : Nat} (h : a ≤ b) : (a ≤ b) = True := eq_true h
theorem nle_f {a b : Nat} (h : ¬ a ≤ b) : (a ≤ b) = False := eq_false h
theorem neq_f {a b : Nat} (h : ¬ a = b) : (a = b) = False := eq_false h
theorem neq_t {a b : Nat} (h : a = b) : (a = b) = True := eq_true h
theorem ix_cl {i : Nat} (h : i < 2147483648) : (nI i).toNatClampNeg = i := nI_clamp h
theorem ix_nn {i : Nat} (h : i < 2147483648) : (0 ≤ (nI i).toInt) = True := by
  rw [nI_toInt h]
  exact eq_true (by omega)
theorem ix_lt {i n : Nat} (h : i < n) (hn : i < 2147483648) : ((nI i).toInt < (n : Int)) = True := by
  rw [nI_toInt hn]
  exact eq_true (by omega)
theorem ix_ti {i : Nat} (h : i < 2147483648) : (nI i).toInt = (i : Int) := nI_toInt h
theorem cmp_le {a b : Nat} (ha : a < 2147483648) (hb : b < 2147483648) : (nI a ≤ nI b) = (a ≤ b) := propext (nI_leI ha hb)
theorem cmp_lt {a b : Nat} (ha : a < 2147483648) (hb : b < 2147483648) : (nI a < nI b) = (a < b) := propext (nI_ltI ha hb)
theorem cmp_eq {a b : Nat} (ha : a < 2147483648) (hb : b < 2147483648) : (nI a = nI b) = (a = b) := propext (nI_eq ha hb)
theorem cmp_lt0 {a : Nat} (ha : a < 2147483648) : (nI a < 0) = False := eq_false (nI_pos ha)
theorem cmp_ge0 {a : Nat} (ha : a < 2147483648) : (0 ≤ nI a) = True := eq_true (nI_pos' ha)
theorem cmp_eq0 {a : Nat} (ha : a < 2147483648) : (nI a = 0) = (a = 0) := by
  rw [show (0 : Int32) = nI 0 from nI_0.symm]
  exact propext (nI_eq ha (by omega))
theorem cmp_eq1 {a : Nat} (ha : a < 2147483648) : (nI a = 1) = (a = 1) := by
  rw [show (1 : Int32) = nI 1 by decide]
  exact propext (nI_eq ha (by omega))
theorem cmp_gt0 {a : Nat} (ha : a < 2147483648) : (0 < nI a) = (0 < a) := by
  rw [show (0 : Int32) = nI 0 from nI_0.symm]
  exact propext (nI_ltI (by omega) ha)
theorem cmp_le0 {a : Nat} (ha : a < 2147483648) : (nI a ≤ 0) = (a = 0) := by
  rw [show (0 : Int32) = nI 0 from nI_0.symm]
  exact propext ((nI_leI ha (by omega)).trans (by omega))
theorem nI_mul (a b : Nat) : nI a * nI b = nI (a * b) := (Int32.ofNat_mul a b).symm
theorem nI_subN {a b : Nat} (h : b ≤ a) : nI a - nI b = nI (a - b) := by
  have e := nI_add (a - b) b
  rw [Nat.sub_add_cancel h] at e
  rw [← e]
  exact Int32.add_sub_cancel _ _
theorem nm1_ne {a : Nat} (ha : a < 2147483648) : (nI a = -1) = False := eq_false (fun z => by
  have h1 := congrArg Int32.toInt z
  rw [nI_toInt ha] at h1
  have h2 : (-1 : Int32).toInt = -1 := by decide
  omega)
theorem nm1_ne' {a : Nat} (ha : a < 2147483648) : ((-1 : Int32) = nI a) = False := eq_false (fun z => by
  have h := nm1_ne ha
  rw [z.symm] at h
  exact (h ▸ rfl : False))
theorem one01 : (nI 1 = 0 ∨ nI 1 = 1) = True := eq_true (Or.inr (by decide))
theorem zero01 : (nI 0 = 0 ∨ nI 0 = 1) = True := eq_true (Or.inl (by decide))
def foN {α : Type} (f : Nat → α → α) : Nat → Nat → α → α
  | _, 0, a => a
  | i, k + 1, a => foN f (i + 1) k (f i a)
theorem foN_congr {α : Type} {f g : Nat → α → α} : ∀ (k i : Nat) (a : α), (∀ j b, i ≤ j → j < i + k → f j b = g j b) → foN f i k a = foN g i k a
  | 0, _, _, _ => rfl
  | k + 1, i, a, h => by
    show foN f (i + 1) k (f i a) = foN g (i + 1) k (g i a)
    rw [h i a (Nat.le_refl _) (by omega)]
    exact foN_congr k (i + 1) _ (fun j b h1 h2 => h j b (by omega) (by omega))
/-- a heap of which the ints alone are other ones -/
def wI (h : AH) (f : Nat → Nat → Int32) : AH := (h.1, h.2.1, h.2.2.1, f, h.2.2.2.2)
theorem sI_wI (h : AH) (a i : Nat) (v : Int32) : sI h a i v = wI h (u2 (hI h) a i v) := rfl
theorem wI_wI (h : AH) (f g : Nat → Nat → Int32) : wI (wI h f) g = wI h g := rfl
theorem hN_sI {h : AH} {a i : Nat} {v : Int32} : hN (sI h a i v) = hN h := rfl
theorem hLn_sI {h : AH} {a i : Nat} {v : Int32} : hLn (sI h a i v) = hLn h := rfl
theorem hR_sI {h : AH} {a i : Nat} {v : Int32} : hR (sI h a i v) = hR h := rfl
theorem hL_sI {h : AH} {a i : Nat} {v : Int32} : hL (sI h a i v) = hL h := rfl
theorem hI_sI {h : AH} {a i : Nat} {v : Int32} {b j : Nat} : hI (sI h a i v) b j = if b = a ∧ j = i then v else hI h b j := rfl
theorem hN_wI {h : AH} {f : Nat → Nat → Int32} : hN (wI h f) = hN h := rfl
theorem hLn_wI {h : AH} {f : Nat → Nat → Int32} : hLn (wI h f) = hLn h := rfl
theorem hR_wI {h : AH} {f : Nat → Nat → Int32} : hR (wI h f) = hR h := rfl
theorem hL_wI {h : AH} {f : Nat → Nat → Int32} : hL (wI h f) = hL h := rfl
theorem hI_wI {h : AH} {f : Nat → Nat → Int32} : hI (wI h f) = f := rfl
/-- an int array of n ints at a -/
abbrev IA (h : AH) (a n : Nat) : Prop := lay a = 10 ∧ hLn h a = n
theorem loopN {α : Type} {n : Nat} {Pr : Nat → α → Prop} {Fin : α → Prop} (F : Nat → α → α) (hz : ∀ a, Fin a → Pr n a) (hs : ∀ i a, i < n → Pr (i + 1) (F i a) → Pr i a) : ∀ (k i : Nat) (a : α), i + k = n → Fin (foN F i k a) → Pr i a
  | 0, i, a, h, hf => by
    rw [Nat.add_zero] at h
    subst h
    exact hz a hf
  | k + 1, i, a, h, hf => hs i a (by omega) (loopN F hz hs k (i + 1) (F i a) (by omega) hf)
/-- 1 << x; whether bit x is set -/
abbrev bt (x : Int32) : Int32 := (nI 1) <<< (x &&& 31)
abbrev hasB (s x : Int32) : Prop := (s >>> (x &&& 31)) &&& nI 1 = nI 1
def b2i (c : Prop) [Decidable c] : Int32 := if c then nI 1 else nI 0
theorem b2i_t {c : Prop} [Decidable c] (h : c) : b2i c = nI 1 := if_pos h
theorem b2i_f {c : Prop} [Decidable c] (h : ¬ c) : b2i c = nI 0 := if_neg h
theorem b2i_0 {c : Prop} [Decidable c] : (b2i c = 0) = ¬ c := by
  unfold b2i
  split
  · rename_i h
    simp only [h, not_true_eq_false]
    exact eq_false (by decide)
  · rename_i h
    simp only [h, not_false_eq_true]
    exact eq_true (by decide)
theorem b2i_1 {c : Prop} [Decidable c] : (b2i c = nI 1) = c := by
  unfold b2i
  split
  · rename_i h
    simp only [h]
  · rename_i h
    simp only [h]
    exact eq_false (by decide)
theorem b2i_01 {c : Prop} [Decidable c] : (b2i c = 0 ∨ b2i c = 1) = True := by
  unfold b2i
  split
  · exact eq_true (Or.inr (by decide))
  · exact eq_true (Or.inl (by decide))
theorem hN_sA {h : AH} {a : Nat} {f : Nat → Int32} : hN (sA h a f) = hN h := rfl
theorem hLn_sA {h : AH} {a : Nat} {f : Nat → Int32} : hLn (sA h a f) = hLn h := rfl
theorem hR_sA {h : AH} {a : Nat} {f : Nat → Int32} : hR (sA h a f) = hR h := rfl
theorem hL_sA {h : AH} {a : Nat} {f : Nat → Int32} : hL (sA h a f) = hL h := rfl
theorem hI_sA {h : AH} {a b : Nat} {f : Nat → Int32} {j : Nat} : hI (sA h a f) b j = if b = a then f j else hI h b j := rfl
theorem hI_sA' {h : AH} {a : Nat} {f : Nat → Int32} : hI (sA h a f) a = f := by
  funext j
  exact if_pos rfl
theorem hI_sA_ne {h : AH} {a b : Nat} {f : Nat → Int32} (hb : ¬ b = a) : hI (sA h a f) b = hI h b := by
  funext j
  exact if_neg hb
theorem hI_sI_ne {h : AH} {a b i : Nat} {v : Int32} (hb : ¬ b = a) : hI (sI h a i v) b = hI h b := by
  funext j
  exact if_neg (fun z => hb z.1)
theorem hI_sI_up {h : AH} {a i : Nat} {v : Int32} : hI (sI h a i v) a = upd (hI h a) i v := by
  funext j
  simp [hI_sI, upd]
theorem ah_ext {h h' : AH} (h0 : h.1 = h'.1) (h1 : h.2.1 = h'.2.1) (h2 : h.2.2.1 = h'.2.2.1) (h3 : h.2.2.2.1 = h'.2.2.2.1) (h4 : h.2.2.2.2 = h'.2.2.2.2) : h = h' := Prod.ext h0 (Prod.ext h1 (Prod.ext h2 (Prod.ext h3 h4)))
theorem sI_sA {h : AH} {a i : Nat} {f : Nat → Int32} {v : Int32} : sI (sA h a f) a i v = sA h a (upd f i v) := by
  refine ah_ext rfl rfl rfl ?_ rfl
  funext b j
  show (if b = a ∧ j = i then v else if b = a then f j else hI h b j) = if b = a then (if j = i then v else f j) else hI h b j
  by_cases hb : b = a
  · simp [hb]
  · simp [hb]
theorem sA_sA {h : AH} {a : Nat} {f g : Nat → Int32} : sA (sA h a f) a g = sA h a g := by
  refine ah_ext rfl rfl rfl ?_ rfl
  funext b j
  show (if b = a then g j else if b = a then f j else hI h b j) = if b = a then g j else hI h b j
  by_cases hb : b = a
  · simp [hb]
  · simp [hb]
theorem sI_as_sA {h : AH} {a i : Nat} {v : Int32} : sI h a i v = sA h a (upd (hI h a) i v) := by
  refine ah_ext rfl rfl rfl ?_ rfl
  funext b j
  show (if b = a ∧ j = i then v else hI h b j) = if b = a then (if j = i then v else hI h a j) else hI h b j
  by_cases hb : b = a
  · simp [hb]
  · simp [hb]
theorem sA_self {h : AH} {a : Nat} : sA h a (hI h a) = h := by
  refine ah_ext rfl rfl rfl ?_ rfl
  funext b j
  show (if b = a then hI h a j else hI h b j) = hI h b j
  by_cases hb : b = a
  · simp [hb]
  · simp [hb]
/-- an array filled -/
def fillA (h : AH) (a n : Nat) (v : Int32) : AH := sA h a (fun j => if j < n then v else hI h a j)
theorem cpyOK {a n N : Nat} (h : a + n ≤ N) (ha : a < 2147483648) (hn : n < 2147483648) : ((nI a).toInt + (nI n).toInt ≤ (N : Int)) = True := by
  rw [nI_toInt ha, nI_toInt hn]
  exact eq_true (by omega)
theorem b2i_if {c : Prop} [Decidable c] : b2i c = if c then nI 1 else nI 0 := rfl
theorem hN_fA {h : AH} {a n : Nat} {v : Int32} : hN (fillA h a n v) = hN h := rfl
theorem hLn_fA {h : AH} {a n : Nat} {v : Int32} : hLn (fillA h a n v) = hLn h := rfl
theorem hR_fA {h : AH} {a n : Nat} {v : Int32} : hR (fillA h a n v) = hR h := rfl
