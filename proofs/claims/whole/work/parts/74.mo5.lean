/-! the reference: the same sums; whom he hears at dawn -/
theorem fo_same {α : Type} {F F' : Nat → α → α} : ∀ (k i : Nat) (a : α), (∀ j a, i ≤ j → j < i + k → F j a = F' j a) → foN F i k a = foN F' i k a
  | 0, _, _, _ => rfl
  | k + 1, i, a, h => by
    show foN F (i + 1) k (F i a) = foN F' (i + 1) k (F' i a)
    rw [h i a (by omega) (by omega)]
    exact fo_same k (i + 1) _ (fun j a h1 h2 => h j a (by omega) (by omega))
theorem fo_cut {α : Type} {F : Nat → α → α} : ∀ (k l i : Nat) (a : α), foN F i (k + l) a = foN F (i + k) l (foN F i k a)
  | 0, l, i, a => by
    rw [Nat.zero_add]
    rfl
  | k + 1, l, i, a => by
    rw [show k + 1 + l = (k + l) + 1 by omega]
    show foN F (i + 1) (k + l) (F i a) = foN F (i + (k + 1)) l (foN F (i + 1) k (F i a))
    rw [fo_cut k l (i + 1), show i + (k + 1) = i + 1 + k by omega]
theorem fo_id {α : Type} {F : Nat → α → α} : ∀ (k i : Nat) (a : α), (∀ j a, i ≤ j → j < i + k → F j a = a) → foN F i k a = a
  | 0, _, _, _ => rfl
  | k + 1, i, a, h => by
    show foN F (i + 1) k (F i a) = a
    rw [h i a (by omega) (by omega)]
    exact fo_id k (i + 1) _ (fun j a h1 h2 => h j a (by omega) (by omega))
theorem or_no {x : Int32} : x ||| nI 0 = x := Int32.or_zero
section MO5
variable {d v bk : Nat} {C : PC} {h : AH} {Q : Option Value → AH → Prop} {s : PS}
theorem mc_com {day : Int32} : foN (mcF C day) 0 C.nf (nI 0) = comM C.fd C.nf day := fo_same _ _ _ (fun j a _ _ => by
  unfold mcF comF
  split
  · rfl
  · exact or_no)
theorem mw_wor {b : Int32} : foN (mwF C b) 0 C.nf (nI 0) = worM C.w C.nf b := fo_same _ _ _ (fun j a _ _ => by
  unfold mwF worF
  split
  · rfl
  · exact Int32.add_zero a)
/-- beyond the facts no licence -/
def TE (C : PC) (s : PS) (i : Nat) : Prop := ∀ f, C.nf ≤ f → f < 12 → s.till (i * 12 + f) = -1
theorem mv_fv {D i : Nat} (hn : C.nf ≤ 12) (eD : s.day = nI D) (hD : D < 4096) (ht : TE C s i) : mvM C s i = fvM s.till s.day i := by
  unfold mvM fvM
  have e : foN (fvF s.till s.day i) 0 12 (nI 0) = foN (fvF s.till s.day i) 0 C.nf (nI 0) := by
    rw [show (12 : Nat) = C.nf + (12 - C.nf) by omega, fo_cut]
    refine fo_id _ _ _ (fun j a h1 h2 => ?_)
    rw [fvF, if_pos]
    rw [ht j (by omega) (by omega), eD]
    exact Int32.lt_iff_toInt_lt.mpr (by
      rw [show (nI D).toInt = D from ?_]
      · show (-1 : Int) < D
        omega
      · have := nI_clamp (n := D) (by omega)
        exact nI_toInt (by omega))
  rw [e]
  refine fo_same _ _ _ (fun j a _ _ => ?_)
  unfold mvF fvF
  by_cases c : s.till (i * 12 + j) < s.day
  · rw [if_neg (fun z => z c), if_pos c, or_no]
  · rw [if_pos c, if_neg c]
theorem fv_bits {till : Nat → Int32} {day : Int32} {i f : Nat} (hf : f < 12) : ∀ (k r : Nat) (a : Int32), r + k ≤ 12 → (hasB (foN (fvF till day i) r k a) (nI f) ↔ hasB a (nI f) ∨ (r ≤ f ∧ f < r + k ∧ ¬ till (i * 12 + f) < day))
  | 0, r, a, _ => ⟨fun z => Or.inl z, fun z => z.elim id (fun y => absurd y.2.1 (by omega))⟩
  | k + 1, r, a, hr => by
    have ih := fv_bits (till := till) (day := day) (i := i) hf k (r + 1) (fvF till day i r a) (by omega)
    refine ih.trans ?_
    unfold fvF
    by_cases c : till (i * 12 + r) < day
    · rw [if_pos c]
      constructor
      · rintro (z | ⟨z1, z2, z3⟩)
        · exact Or.inl z
        · exact Or.inr ⟨by omega, by omega, z3⟩
      · rintro (z | ⟨z1, z2, z3⟩)
        · exact Or.inl z
        · have : r ≠ f := fun y => z3 (by rw [← y]; exact c)
          exact Or.inr ⟨by omega, by omega, z3⟩
    · rw [if_neg c, hasB_or hf (by omega)]
      constructor
      · rintro ((z | rfl) | ⟨z1, z2, z3⟩)
        · exact Or.inl z
        · exact Or.inr ⟨by omega, by omega, c⟩
        · exact Or.inr ⟨by omega, by omega, z3⟩
      · rintro (z | ⟨z1, z2, z3⟩)
        · exact Or.inl (Or.inl z)
        · by_cases e : f = r
          · exact Or.inl (Or.inr e)
          · exact Or.inr ⟨by omega, by omega, z3⟩
theorem VLa_fv {i : Nat} (e : s.valid i = fvM s.till s.day i) : VLa s i := fun f hf => by
  rw [e]
  refine (fv_bits hf 12 0 (nI 0) (by omega)).trans ?_
  constructor
  · rintro (z | z)
    · rw [hasB_bit (by omega)] at z
      exact absurd z (by
        show ¬ (0#32).getLsbD f = true
        simp)
    · exact z.2.2
  · exact fun z => Or.inr ⟨by omega, by omega, z⟩
/-- what another knows does not touch what follows for this one -/
def setKn (t : PS) (q : Nat) (x : Int32) : PS := (mkS t.day (upd t.knows q x) t.purse t.till t.valid t.kept t.keeps t.brs t.first)
theorem upd_swap {K : Nat → Int32} {q i : Nat} {x y : Int32} (hq : ¬ q = i) : upd (upd K q x) i y = upd (upd K i y) q x := by
  funext j
  simp only [upd_a]
  repeat' split
  all_goals first | rfl | omega
theorem infer_set {q i g r : Nat} {x : Int32} (hq : ¬ q = i) : inferP (setKn s q x) i g r = setKn (inferP s i g r) q x := by
  have e0 : (setKn s q x).knows i = s.knows i := by
    show upd s.knows q x i = _
    rw [upd_a, if_neg (fun z => hq z.symm)]
  rw [infer_alt, infer_alt]
  show (if hasB (s.valid i) (nI g) then keepP (mkS s.day (upd (upd s.knows q x) i ((setKn s q x).knows i ||| bt (nI g))) s.purse s.till s.valid s.kept s.keeps s.brs s.first) (packM s.day (nI i) (nI g) (nI r)) else (mkS s.day (upd (upd s.knows q x) i ((setKn s q x).knows i ||| bt (nI g))) s.purse s.till s.valid s.kept s.keeps s.brs s.first)) = _
  rw [e0, upd_swap hq]
  split
  · rw [keep_knows, keep_knows]
    rfl
  · rfl
theorem inr_set {q i : Nat} {x : Int32} (hq : ¬ q = i) : ∀ (k r : Nat) (s : PS), foN (inrF C i) r k (setKn s q x) = setKn (foN (inrF C i) r k s) q x
  | 0, _, _ => rfl
  | k + 1, r, s => by
    show foN (inrF C i) (r + 1) k (inrF C i r (setKn s q x)) = setKn (foN (inrF C i) (r + 1) k (inrF C i r s)) q x
    rw [← inr_set hq k]
    congr 1
    have e0 : (setKn s q x).knows i = s.knows i := by
      show upd s.knows q x i = _
      rw [upd_a, if_neg (fun z => hq z.symm)]
    unfold inrF
    rw [e0]
    split
    · exact infer_set hq
    · rfl
theorem inf_set {q i : Nat} {x : Int32} (hq : ¬ q = i) : ∀ (n : Nat) (s : PS), infM C i n (setKn s q x) = setKn (infM C i n s) q x
  | 0, _ => rfl
  | n + 1, s => by
    have e1 : inrM C i (setKn s q x) = setKn (inrM C i s) q x := inr_set hq C.nr 0 s
    have e0 : ∀ t : PS, (setKn t q x).knows i = t.knows i := fun t => by
      show upd t.knows q x i = _
      rw [upd_a, if_neg (fun z => hq z.symm)]
    rw [infM, infM, e1, e0, e0]
    split
    · rfl
    · exact inf_set hq n _
end MO5
