/-! how many codes a SUM or a TEST takes: fewer than the bytes that it passes -/
theorem nextR_st {b : Nat → Int32} {L a : Nat} {f : Nat → Int32} (h4 : f 4 = nI a) (ha : a ≤ L) (hLe : L ≤ 1600) : ∃ st a', nextR b L f 8 = nI st ∧ nextR b L f 4 = nI a' ∧ a ≤ st ∧ st ≤ a' ∧ a' ≤ L ∧ (¬ nextR b L f 6 = nI 28 → st < a') := by
  have e : (f 4).toNatClampNeg = a := by rw [h4]; exact nI_clamp (by omega)
  have hs := skipB_le (b := b) (L - a) a
  unfold nextR
  rw [e]
  generalize skipB b (L - a) a = s at *
  have f8 : frsF f s 8 = nI s := by unfold frsF; simp [upd_a]
  unfold nextS
  split
  · exact ⟨s, s, by rw [upd_ne (by omega)]; exact f8, by unfold frsF; simp [upd_a], by omega, by omega, by omega, fun z => absurd upd_same z⟩
  · obtain ⟨a', h1, h2, h3⟩ := tokR_4 (b := b) (F := upd (frsF f s) 10 (nI 1)) (show s < L by omega)
    have t8 : tokR b L s (upd (frsF f s) 10 (nI 1)) 8 = nI s := by rw [tokR_ne (by omega) (by omega), upd_ne (by omega)]; exact f8
    split
    · exact ⟨s, a', by rw [upd_ne (by omega), upd_ne (by omega)]; exact t8, by rw [upd_ne (by omega), upd_ne (by omega)]; exact h1, by omega, by omega, h3, fun _ => h2⟩
    · exact ⟨s, a', t8, h1, by omega, by omega, h3, fun _ => h2⟩
def CB (L p0 k : Nat) (s : RS) : Prop := s.1 14 = nI k ∧ s.1 3 = nI L ∧ ∃ st a, s.1 8 = nI st ∧ s.1 4 = nI a ∧ k + p0 ≤ st ∧ st ≤ a ∧ a ≤ L ∧ (¬ s.1 6 = nI 28 → st < a)
def CBS (L : Nat) (sub : RS → Bool × RS) : Prop := ∀ p0 k s, CB L p0 k s → (sub s).1 = true → ∃ k', k < k' ∧ CB L p0 k' (sub s).2
section CBP
variable {L p0 k : Nat} {b : Nat → Int32} {s : RS} {sm ts sub : RS → Bool × RS}
theorem cb_nx0 (hLe : L ≤ 1600) (h : CB L p0 k s) : CB L p0 k (nxS b L s) := by
  obtain ⟨h14, h3, st, a, h8, h4, c1, c2, c3, c4⟩ := h
  obtain ⟨st', a', e1, e2, e3, e4, e5, e6⟩ := nextR_st (b := b) h4 c3 hLe
  exact ⟨(nextR_ne (by omega) (by omega)).trans h14, (nextR_ne (by omega) (by omega)).trans h3, st', a', e1, e2, by omega, e4, e5, e6⟩
theorem cb_nx (hLe : L ≤ 1600) (h : CB L p0 k s) (hk : ¬ s.1 6 = nI 28) : CB L (p0 + 1) k (nxS b L s) := by
  obtain ⟨h14, h3, st, a, h8, h4, c1, c2, c3, c4⟩ := h
  obtain ⟨st', a', e1, e2, e3, e4, e5, e6⟩ := nextR_st (b := b) h4 c3 hLe
  have := c4 hk
  exact ⟨(nextR_ne (by omega) (by omega)).trans h14, (nextR_ne (by omega) (by omega)).trans h3, st', a', e1, e2, by omega, e4, e5, e6⟩
theorem cb_wk (h : CB L (p0 + 1) k s) : CB L p0 k s := by
  obtain ⟨h14, h3, st, a, h8, h4, c1, c2, c3, c4⟩ := h
  exact ⟨h14, h3, st, a, h8, h4, by omega, c2, c3, c4⟩
theorem cb_put {v : Int32} (hLe : L ≤ 1600) (h : CB L (p0 + 1) k s) : CB L p0 (k + 1) (putR v s) := by
  obtain ⟨h14, h3, st, a, h8, h4, c1, c2, c3, c4⟩ := h
  rw [putR, if_pos (by rw [h14]; exact (nI_ltI (by omega) (by omega)).mpr (by omega)), h14, nI_add]
  exact ⟨pr_same, (pr_ne (by omega)).trans h3, st, a, (pr_ne (by omega)).trans h8, (pr_ne (by omega)).trans h4, by omega, c2, c3, fun z => c4 (fun y => z ((pr_ne (by omega)).trans y))⟩
theorem cb_wd {v : Int32} (hLe : L ≤ 1600) (h : CB L p0 k s) (hk : ¬ s.1 6 = nI 28) : CB L p0 (k + 1) (nxS b L (putR v s)) := by
  obtain ⟨h14, h3, st, a, h8, h4, c1, c2, c3, c4⟩ := h
  have := c4 hk
  rw [putR, if_pos (by rw [h14]; exact (nI_ltI (by omega) (by omega)).mpr (by omega)), h14, nI_add]
  obtain ⟨st', a', e1, e2, e3, e4, e5, e6⟩ := nextR_st (b := b) (f := upd s.1 14 (nI (k + 1))) ((upd_ne (by omega)).trans h4) c3 hLe
  exact ⟨(nextR_ne (by omega) (by omega)).trans (pr_same), (nextR_ne (by omega) (by omega)).trans ((pr_ne (by omega)).trans h3), st', a', e1, e2, by omega, e4, e5, e6⟩
theorem cb_u {v : Int32} (h : CB L p0 k s) : CB L p0 k (upd s.1 12 v, s.2) := by
  obtain ⟨h14, h3, st, a, h8, h4, c1, c2, c3, c4⟩ := h
  exact ⟨(pr_ne (by omega)).trans h14, (pr_ne (by omega)).trans h3, st, a, (pr_ne (by omega)).trans h8, (pr_ne (by omega)).trans h4, c1, c2, c3, fun z => c4 (fun y => z ((pr_ne (by omega)).trans y))⟩
theorem cb_op (hLe : L ≤ 1600) (h : CB L p0 k s) (ht : (opS b L s).1 = true) : CB L p0 k (opS b L s).2 := by
  unfold opS openR at *
  split
  · exact cb_nx0 (s := (upd s.1 12 (s.1 12 + nI 1), s.2)) hLe (cb_u h)
  · rename_i z
    rw [if_neg z] at ht
    cases ht
theorem cb_op1 (hLe : L ≤ 1600) (h : CB L p0 k s) (hk : ¬ s.1 6 = nI 28) (ht : (opS b L s).1 = true) : CB L (p0 + 1) k (opS b L s).2 := by
  unfold opS openR at *
  split
  · exact cb_nx (s := (upd s.1 12 (s.1 12 + nI 1), s.2)) hLe (cb_u h) (fun z => hk ((pr_ne (by omega)).symm.trans z))
  · rename_i z
    rw [if_neg z] at ht
    cases ht
theorem cb_ps {w : Int32} (hLe : L ≤ 1600) (h : CB L p0 k s) (ht : (psS b L w s).1 = true) : CB L p0 k (psS b L w s).2 := by
  unfold psS passR at *
  split
  · exact cb_nx0 hLe h
  · rename_i z
    rw [if_neg z] at ht
    cases ht
theorem thn_tt {r : Bool × RS} {kk : RS → Bool × RS} (h : (thn r kk).1 = true) : r.1 = true ∧ (kk r.2).1 = true ∧ (thn r kk).2 = (kk r.2).2 := by
  obtain ⟨ok, t⟩ := r
  cases ok with
  | false => cases h
  | true => exact ⟨rfl, h, rfl⟩
theorem cb_inn {c : Int32} (hLe : L ≤ 1600) (hs : CBS L sm) : CBS L (innR b L c sm) := fun p0 k s h ht => by
  obtain ⟨t1, t2, t3⟩ := thn_tt (show (thn (thn (opS b L s) sm) (psS b L c)).1 = true from ht)
  obtain ⟨t4, t5, t6⟩ := thn_tt t1
  obtain ⟨k', hk, h1⟩ := hs p0 k _ (cb_op hLe h t4) t5
  rw [t6] at t2 t3
  refine ⟨k', hk, ?_⟩
  show CB L p0 k' (decS (thn (thn (opS b L s) sm) (psS b L c)).2)
  rw [t3]
  exact cb_u (cb_ps hLe h1 t2)
theorem cb_pr (hLe : L ≤ 1600) (hs : CBS L sm) (p0 k : Nat) (s : RS) (h : CB L p0 k s) (h28 : ¬ s.1 6 = nI 28) (ht : (prR b L sm s).1 = true) : ∃ k', k < k' ∧ CB L p0 k' (prR b L sm s).2 := by
  have g1 := cb_nx (b := b) hLe h h28
  unfold prR at *
  generalize nxS b L s = s1 at *
  by_cases z : ¬ s1.1 6 = nI 140
  · rw [if_pos z] at ht
    cases ht
  rw [if_neg z] at ht ⊢
  have ht' : (prsR b L sm s1).1 = true := ht
  unfold prsR at ht' ⊢
  obtain ⟨a1, a2, a3⟩ := thn_tt ht'
  obtain ⟨b1, b2, b3⟩ := thn_tt a1
  obtain ⟨c1, c2, c3⟩ := thn_tt b1
  obtain ⟨d1, d2, d3⟩ := thn_tt c1
  obtain ⟨k1, hk1, e1⟩ := hs _ _ _ (cb_op hLe g1 d1) d2
  rw [d3] at c2 c3
  have e2 := cb_ps hLe e1 c2
  rw [c3] at b2 b3
  obtain ⟨k2, hk2, e3⟩ := hs _ _ _ e2 b2
  rw [b3] at a2 a3
  have e4 := cb_ps hLe e3 a2
  refine ⟨k2 + 1, by omega, ?_⟩
  show CB L p0 (k2 + 1) (putR _ (decS (thn (thn (thn (thn (opS b L s1) sm) (psS b L (nI 144))) sm) (psS b L (nI 141))).2))
  rw [a3]
  exact cb_put hLe (cb_u e4)
theorem n28 {x : Int32} {n : Int} (h : x.toInt = n) (hn : ¬ n = 28) : ¬ x = nI 28 := fun z => hn (h.symm.trans (by rw [z]; decide))
theorem cb_part (hLe : L ≤ 1600) (hs : CBS L sm) : CBS L (partR b L sm) := fun p0 k s h ht => by
  unfold partR at *
  by_cases z : (s.1 6).toInt = 1
  · rw [if_pos z] at ht ⊢
    exact ⟨k + 1, Nat.lt_succ_self k, cb_wd hLe h (n28 z (by decide))⟩
  rw [if_neg z] at ht ⊢
  by_cases z : (s.1 6).toInt = 2
  · rw [if_pos z] at ht ⊢
    exact ⟨k + 1, Nat.lt_succ_self k, cb_wd hLe h (n28 z (by decide))⟩
  rw [if_neg z] at ht ⊢
  by_cases z : (s.1 6).toInt = 6
  · rw [if_pos z] at ht ⊢
    exact ⟨k + 1, Nat.lt_succ_self k, cb_wd hLe h (n28 z (by decide))⟩
  rw [if_neg z] at ht ⊢
  by_cases z : (s.1 6).toInt = 15
  · rw [if_pos z] at ht ⊢
    exact ⟨k + 1, Nat.lt_succ_self k, cb_wd hLe h (n28 z (by decide))⟩
  rw [if_neg z] at ht ⊢
  by_cases z : (s.1 6).toInt = 16
  · rw [if_pos z] at ht ⊢
    exact ⟨k + 1, Nat.lt_succ_self k, cb_wd hLe h (n28 z (by decide))⟩
  rw [if_neg z] at ht ⊢
  by_cases z : (s.1 6).toInt = 17
  · rw [if_pos z] at ht ⊢
    exact ⟨k + 1, Nat.lt_succ_self k, cb_wd hLe h (n28 z (by decide))⟩
  rw [if_neg z] at ht ⊢
  by_cases z : (s.1 6).toInt = 18
  · rw [if_pos z] at ht ⊢
    exact ⟨k + 1, Nat.lt_succ_self k, cb_wd hLe h (n28 z (by decide))⟩
  rw [if_neg z] at ht ⊢
  by_cases z : (s.1 6).toInt = 19
  · rw [if_pos z] at ht ⊢
    exact ⟨k + 1, Nat.lt_succ_self k, cb_wd hLe h (n28 z (by decide))⟩
  rw [if_neg z] at ht ⊢
  by_cases z : (s.1 6).toInt = 24
  · rw [if_pos z] at ht ⊢
    exact cb_pr hLe hs p0 k s h (n28 z (by decide)) ht
  rw [if_neg z] at ht ⊢
  by_cases z : (s.1 6).toInt = 25
  · rw [if_pos z] at ht ⊢
    exact cb_pr hLe hs p0 k s h (n28 z (by decide)) ht
  rw [if_neg z] at ht ⊢
  by_cases z : (s.1 6).toInt = 27
  · rw [if_pos z] at ht ⊢
    exact ⟨k + 1, Nat.lt_succ_self k, cb_wd hLe h (n28 z (by decide))⟩
  rw [if_neg z] at ht ⊢
  by_cases z : (s.1 6).toInt = 140
  · rw [if_pos z] at ht ⊢
    exact cb_inn hLe hs p0 k s h ht
  rw [if_neg z] at ht ⊢
  cases ht
theorem cb_lp {P : Int32 → Prop} [DecidablePred P] {cd : Int32 → Int32} (hLe : L ≤ 1600) (hP : ∀ x, P x → ¬ x = nI 28) (hs : CBS L sub) : ∀ (q k : Nat) (r : Bool × RS), CB L p0 k r.2 → (lpR b L P cd sub q r).1 = true → ∃ k', k ≤ k' ∧ CB L p0 k' (lpR b L P cd sub q r).2
  | 0, k, r, h, ht => ⟨k, Nat.le_refl _, h⟩
  | q + 1, k, r, h, ht => by
    unfold lpR at *
    by_cases z : r.1 = true ∧ P (r.2.1 6)
    · rw [if_pos z] at ht ⊢
      have ok : (sub (nxS b L r.2)).1 = true := by
        cases hh : (sub (nxS b L r.2)).1 with
        | true => rfl
        | false =>
          rw [hh] at ht
          cases q with
          | zero => cases ht
          | succ q =>
            rw [lpR, if_neg (fun y => Bool.noConfusion y.1)] at ht
            cases ht
      obtain ⟨k1, hk1, e1⟩ := hs _ _ _ (cb_nx hLe h (hP _ z.2)) ok
      obtain ⟨k2, hk2, e2⟩ := cb_lp hLe hP hs q (k1 + 1) _ (cb_put hLe e1) ht
      exact ⟨k2, by omega, e2⟩
    · rw [if_neg z] at ht ⊢
      exact ⟨k, Nat.le_refl _, h⟩
theorem lp_f {P : Int32 → Prop} [DecidablePred P] {cd : Int32 → Int32} {q : Nat} {t : RS} : lpR b L P cd sub q (false, t) = (false, t) := by
  cases q with
  | zero => rfl
  | succ q => rw [lpR, if_neg (fun y => Bool.noConfusion y.1)]
theorem cb_loop {P : Int32 → Prop} [DecidablePred P] {cd : Int32 → Int32} (hLe : L ≤ 1600) (hP : ∀ x, P x → ¬ x = nI 28) (hs : CBS L sub) : CBS L (loopR b L P cd sub) := fun p0 k s h ht => by
  unfold loopR at *
  have ok : (sub s).1 = true := by
    cases hh : sub s with
    | mk o t =>
      cases o with
      | true => rfl
      | false =>
        rw [hh, lp_f] at ht
        cases ht
  obtain ⟨k1, hk1, e1⟩ := hs _ _ _ h ok
  obtain ⟨k2, hk2, e2⟩ := cb_lp hLe hP hs 1600 k1 _ e1 ht
  exact ⟨k2, by omega, e2⟩
theorem plus28 : ∀ x, plusP x → ¬ x = nI 28 := fun x h z => by subst z; revert h; decide
theorem time28 : ∀ x, timeP x → ¬ x = nI 28 := fun x h z => by subst z; revert h; decide
theorem or28 : ∀ x, orP x → ¬ x = nI 28 := fun x h z => by subst z; revert h; decide
theorem and28 : ∀ x, andP x → ¬ x = nI 28 := fun x h z => by subst z; revert h; decide
theorem cmp28 : ∀ x, cmpP x → ¬ x = nI 28 := fun x h z => by subst z; revert h; decide
theorem cb_sm (hLe : L ≤ 1600) : ∀ n, CBS L (smN b L n)
  | 0 => fun p0 k s h ht => by cases ht
  | n + 1 => cb_loop hLe plus28 (cb_loop hLe time28 (cb_part hLe (cb_sm hLe n)))
theorem cb_pln (hLe : L ≤ 1600) (hs : CBS L sm) (ht : CBS L ts) : CBS L (plnR b L sm ts) := fun p0 k s h hk => by
  unfold plnR at *
  by_cases z1 : s.1 6 = nI 23
  · rw [if_pos z1] at hk ⊢
    exact ⟨k + 1, Nat.lt_succ_self k, cb_wd hLe h (by rw [z1]; decide)⟩
  rw [if_neg z1] at hk ⊢
  by_cases z2 : s.1 6 = nI 191
  · rw [if_pos z2] at hk ⊢
    exact cb_inn hLe ht p0 k s h hk
  rw [if_neg z2] at hk ⊢
  obtain ⟨a1, a2, a3⟩ := thn_tt hk
  obtain ⟨k1, hk1, e1⟩ := hs _ _ _ h a1
  rw [a3]
  unfold cmp2R at *
  by_cases z3 : ¬ cmpP ((sm s).2.1 6)
  · rw [if_pos z3] at a2
    cases a2
  rw [if_neg z3] at a2 ⊢
  obtain ⟨b1, b2, b3⟩ := thn_tt a2
  obtain ⟨k2, hk2, e2⟩ := hs _ _ _ (cb_nx hLe e1 (cmp28 _ (Classical.not_not.mp z3))) b1
  rw [b3]
  exact ⟨k2 + 1, by omega, cb_put hLe e2⟩
theorem cb_not (hLe : L ≤ 1600) : ∀ (q n : Nat) (s : RS), CB L p0 k s → (0 < n → CB L (p0 + 1) k s) → (notR b L q n s).1 = true → CB L p0 k (notR b L q n s).2.2 ∧ (0 < (notR b L q n s).2.1 → CB L (p0 + 1) k (notR b L q n s).2.2)
  | 0, n, s, h, h1, ht => ⟨h, h1⟩
  | q + 1, n, s, h, h1, ht => by
    unfold notR at *
    by_cases z : s.1 6 = nI 22
    · rw [if_pos z] at ht ⊢
      by_cases y : (opS b L s).1 = true
      · rw [if_pos y] at ht ⊢
        have := cb_op1 hLe h (by rw [z]; decide) y
        exact cb_not hLe q (n + 1) _ (cb_wk this) (fun _ => this) ht
      · rw [if_neg y] at ht
        cases ht
    · rw [if_neg z] at ht ⊢
      exact ⟨h, h1⟩
theorem cb_fac (hLe : L ≤ 1600) (hs : CBS L sub) : CBS L (facR b L sub) := fun p0 k s h ht => by
  unfold facR at *
  have hn := cb_not (b := b) (p0 := p0) (k := k) hLe 8 0 s h (fun z => absurd z (by omega))
  generalize notR b L 8 0 s = r at *
  obtain ⟨ok, n, t⟩ := r
  cases ok with
  | false => cases ht
  | true =>
    rw [if_pos rfl] at ht ⊢
    obtain ⟨h0, h1⟩ := hn rfl
    obtain ⟨a1, a2, a3⟩ := thn_tt ht
    rw [a3]
    dsimp only at *
    unfold fendR
    by_cases z : n % 2 = 1
    · obtain ⟨k1, hk1, e1⟩ := hs _ _ _ (h1 (by omega)) a1
      rw [if_pos z]
      exact ⟨k1 + 1, by omega, cb_put hLe (cb_u e1)⟩
    · obtain ⟨k1, hk1, e1⟩ := hs _ _ _ h0 a1
      rw [if_neg z]
      exact ⟨k1, hk1, cb_u e1⟩
theorem cb_ts (hLe : L ≤ 1600) : ∀ n, CBS L (tsN b L n)
  | 0 => fun p0 k s h ht => by cases ht
  | n + 1 => cb_loop hLe or28 (cb_loop hLe and28 (cb_fac hLe (cb_pln hLe (cb_sm hLe 8) (cb_ts hLe n))))
end CBP
