/-! the same way through SUMS -/
def SimS (L : Nat) (W : WTy) (WF : Int32 → Int32 → Prop) (r cc H o : Nat) (sub : RS → Bool × RS) : Prop :=
  ∀ (p0 : Nat) (s : RS) (k p q : Nat) (g : Bool) (os : List Nat) (fs : List FR) (cs : CL3) (l0 : List Int32), 1 ≤ p0 → Cd L p0 s l0 → s.1 12 = nI o → p < 2 → (isT k → g = true → ¬ s.1 6 = nI 22 ∧ ¬ s.1 6 = nI 191 ∧ ¬ s.1 6 = nI 23) → hdR r os → EnT k os fs o (6 * o + cc) →
  ((sub s).1 = true → ∀ lc lr ps, Cd L p0 (sub s).2 (l0 ++ lc) → SmV false lc (lr ++ opl ps) H → (∀ x, x ∈ ps → r ≤ rkN x ∧ 10 ≤ x ∧ x ≤ 21) → ps.length + r ≤ 7 → W (sub s).2 ((k, p, false, q, ps ++ os) :: fs) (cs ++ lr) o true) →
  ((sub s).1 = false → WF ((sub s).2.1 0) ((sub s).2.1 1)) → W s ((k, p, g, q, os) :: fs) cs o false
def hpN (o : Nat) : Nat := 6 * (7 - o) + 1
section GON
variable {b : Nat → Int32} {L k p q u : Nat} {s : RS} {g : Bool} {os : List Nat} {fs : List FR} {cs : CL3}
theorem gon_ar {op : Nat} (hp : p < 2) (h : s.1 6 = nI (opK op)) (ho : 10 ≤ op ∧ op ≤ 14) : gonM b L s k p g q os fs cs u = .inl (nxS b L s, (k, p, g, q, op :: dpR (rkN op) os) :: fs, cs ++ opl (tkR (rkN op) os), u - c22 (tkR (rkN op) os), false) := by
  unfold gonM opX
  obtain c | c | c | c | c : op = 10 ∨ op = 11 ∨ op = 12 ∨ op = 13 ∨ op = 14 := by omega
  all_goals
    subst c
    rw [h, if_pos ⟨hp, by decide⟩]
    rfl
theorem gon_cl (hk : k = 2 ∨ k = 4) (h : s.1 6 = nI 141) : gonM b L s k p g q os fs cs u = .inl (nxS b L s, fs, cs ++ opl (tkR 1 os) ++ (if k = 4 then [(q, nI 0)] else []), u - c22 (tkR 1 os) - 1, true) := by
  unfold gonM
  have k1 : ¬ isT k := by show ¬ (k = 1 ∨ k = 5); omega
  have k5 : ¬ k = 5 := by omega
  rw [h, if_neg (fun z => absurd z.2 (by decide)), if_neg (fun z => k1 z.1), if_neg (fun z => k1 z.1), if_neg (fun z => k1 z.1), if_neg (by omega), if_neg (by omega), if_neg k5, if_pos rfl, if_neg k5]
theorem gon_cf (hk : k = 2 ∨ k = 4) (har : ¬ arP (s.1 6)) (h : ¬ s.1 6 = nI 141) : gonM b L s k p g q os fs cs u = fltRes (s.1 9) := by
  unfold gonM
  have k1 : ¬ isT k := by show ¬ (k = 1 ∨ k = 5); omega
  have k5 : ¬ k = 5 := by omega
  rw [if_neg (fun z => har z.2), if_neg (fun z => k1 z.1), if_neg (fun z => k1 z.1), if_neg (fun z => k1 z.1), if_neg (by omega), if_neg (by omega), if_neg k5, if_neg h]
theorem gon_cm (h : s.1 6 = nI 144) : gonM b L s 3 p g q os fs cs u = .inl (nxS b L s, (4, p, g, q, dpR 1 os) :: fs, cs ++ opl (tkR 1 os), u - c22 (tkR 1 os), false) := by
  unfold gonM
  have k1 : ¬ isT 3 := by decide
  rw [h, if_neg (fun z => absurd z.2 (by decide)), if_neg (fun z => k1 z.1), if_neg (fun z => k1 z.1), if_neg (fun z => k1 z.1), if_neg (by omega), if_pos rfl, if_pos rfl]
theorem gon_cmf (har : ¬ arP (s.1 6)) (h : ¬ s.1 6 = nI 144) : gonM b L s 3 p g q os fs cs u = fltRes (s.1 9) := by
  unfold gonM
  have k1 : ¬ isT 3 := by decide
  rw [if_neg (fun z => har z.2), if_neg (fun z => k1 z.1), if_neg (fun z => k1 z.1), if_neg (fun z => k1 z.1), if_neg (by omega), if_pos rfl, if_neg h]
theorem sg_100 {x : Int32} {k : Nat} : x - nI 100 = nI k ↔ x = nI (100 + k) := by
  rw [Int32.sub_eq_iff_eq_add, nI_add, Nat.add_comm]
theorem plus_iff {x : Int32} : plusP x ↔ x = nI 143 ∨ x = nI 145 := by
  unfold plusP
  rw [sg_100, sg_100]
  constructor
  · rintro (z | z | z)
    · exact Or.inl z
    · exact Or.inr z
    · exact Or.inr z
  · rintro (z | z)
    · exact Or.inl z
    · exact Or.inr (Or.inl z)
theorem time_iff {x : Int32} : timeP x ↔ x = nI 142 ∨ x = nI 147 ∨ x = nI 137 := by
  unfold timeP
  rw [sg_100, sg_100, sg_100]
theorem ArN_ar {x : Int32} (h : ArN x) : ¬ arP x := fun z => by
  obtain ⟨h1, h2⟩ := h
  rw [plus_iff] at h1
  rw [time_iff] at h2
  rcases z with z | z | z | z | z
  · exact h1 (Or.inl z)
  · exact h1 (Or.inr z)
  · exact h2 (Or.inl z)
  · exact h2 (Or.inr (Or.inl z))
  · exact h2 (Or.inr (Or.inr z))
theorem plus_op (x : Int32) (h : plusP x) : ∃ op, 10 ≤ op ∧ op ≤ 14 ∧ x = nI (opK op) ∧ rkN op = 5 := by
  rcases plus_iff.mp h with z | z
  · exact ⟨10, by omega, by omega, z, rfl⟩
  · exact ⟨11, by omega, by omega, z, rfl⟩
theorem time_op (x : Int32) (h : timeP x) : ∃ op, 10 ≤ op ∧ op ≤ 14 ∧ x = nI (opK op) ∧ rkN op = 6 := by
  rcases time_iff.mp h with z | z | z
  · exact ⟨12, by omega, by omega, z, rfl⟩
  · exact ⟨13, by omega, by omega, z, rfl⟩
  · exact ⟨14, by omega, by omega, z, rfl⟩
end GON
section LPE
variable {b : Nat → Int32} {L : Nat} {cd : Int32 → Int32} {sub : RS → Bool × RS}
theorem lp_end {P : Int32 → Prop} [DecidablePred P] (hLe : L ≤ 1600) (hP : ∀ x, P x → ¬ x = nI 28) (hs : CBS L sub) : ∀ (q k p0 : Nat) (r : Bool × RS), CB L p0 k r.2 → L < k + p0 + q → (lpR b L P cd sub q r).1 = true → ¬ P ((lpR b L P cd sub q r).2.1 6)
  | 0, k, p0, r, h, hq, ht => by
    obtain ⟨-, -, st, a, -, -, c1, c2, c3, -⟩ := h
    omega
  | q + 1, k, p0, r, h, hq, ht => by
    unfold lpR at *
    by_cases z : r.1 = true ∧ P (r.2.1 6)
    · rw [if_pos z] at ht ⊢
      have ok : (sub (nxS b L r.2)).1 = true := by
        cases hh : (sub (nxS b L r.2)).1 with
        | true => rfl
        | false =>
          rw [hh, lp_f] at ht
          cases ht
      obtain ⟨k1, hk1, e1⟩ := hs _ _ _ (cb_nx hLe h (hP _ z.2)) ok
      exact lp_end hLe hP hs q (k1 + 1) p0 _ (cb_put hLe e1) (by omega) ht
    · rw [if_neg z] at ht ⊢
      exact fun y => z ⟨ht, y⟩
theorem loop_end {P : Int32 → Prop} [DecidablePred P] (hLe : L ≤ 1600) (hP : ∀ x, P x → ¬ x = nI 28) (hs : CBS L sub) : TkS L (fun x => ¬ P x) (loopR b L P cd sub) := fun p0 k s h ht => by
  unfold loopR at *
  have ok : (sub s).1 = true := by
    cases hh : sub s with
    | mk o t =>
      cases o with
      | true => rfl
      | false =>
        rw [hh, lp_f] at ht
        cases ht
  obtain ⟨k1, hk1, e1⟩ := hs _ _ _ h ok
  exact lp_end hLe hP hs 1600 k1 p0 _ e1 (by omega) ht
theorem lp_T {P : Int32 → Prop} [DecidablePred P] {T : Int32 → Prop} (hLe : L ≤ 1600) (hP : ∀ x, P x → ¬ x = nI 28) (hs : CBS L sub) (hT : TkS L T sub) : ∀ (q k p0 : Nat) (r : Bool × RS), CB L p0 k r.2 → T (r.2.1 6) → (lpR b L P cd sub q r).1 = true → T ((lpR b L P cd sub q r).2.1 6)
  | 0, k, p0, r, h, hr, ht => hr
  | q + 1, k, p0, r, h, hr, ht => by
    unfold lpR at *
    by_cases z : r.1 = true ∧ P (r.2.1 6)
    · rw [if_pos z] at ht ⊢
      have ok : (sub (nxS b L r.2)).1 = true := by
        cases hh : (sub (nxS b L r.2)).1 with
        | true => rfl
        | false =>
          rw [hh, lp_f] at ht
          cases ht
      have h1 := cb_nx (b := b) hLe h (hP _ z.2)
      obtain ⟨k1, hk1, e1⟩ := hs _ _ _ h1 ok
      refine lp_T hLe hP hs hT q (k1 + 1) p0 _ (cb_put hLe e1) ?_ ht
      show T ((putR _ _).1 6)
      rw [put_j 6 (by omega)]
      exact hT _ _ _ h1 ok
    · rw [if_neg z]
      exact hr
theorem loop_T {P : Int32 → Prop} [DecidablePred P] {T : Int32 → Prop} (hLe : L ≤ 1600) (hP : ∀ x, P x → ¬ x = nI 28) (hs : CBS L sub) (hT : TkS L T sub) : TkS L T (loopR b L P cd sub) := fun p0 k s h ht => by
  unfold loopR at *
  have ok : (sub s).1 = true := by
    cases hh : sub s with
    | mk o t =>
      cases o with
      | true => rfl
      | false =>
        rw [hh, lp_f] at ht
        cases ht
  obtain ⟨k1, hk1, e1⟩ := hs _ _ _ h ok
  exact lp_T hLe hP hs hT 1600 k1 p0 _ e1 (hT _ _ _ h ok) ht
end LPE
section SIMS
variable {b : Nat → Int32} {L o cc H r : Nat} {W : WTy} {WF : Int32 → Int32 → Prop} {WD : RS → CL3 → Prop} {sub sm : RS → Bool × RS}
theorem S_loop {P : Int32 → Prop} [DecidablePred P] (hr : 5 ≤ r ∧ r ≤ 6) (hcc : cc ≤ 5) (hLe : L ≤ 1600) (hC : Clo b L W WF WD) (ho : o ≤ 7) (hP : ∀ x, P x → ∃ op, 10 ≤ op ∧ op ≤ 14 ∧ x = nI (opK op) ∧ rkN op = r) (h28 : ∀ x, P x → ¬ x = nI 28) (so : SO L o sub) (hs : SimS L W WF (r + 1) (cc + 1) H o sub) : SimS L W WF r cc (H + 1) o (loopR b L P cdS sub) := by
  intro p0 s k p q g os fs cs l0 hp0 hcd h12 hp hent hhd hen hok hfail
  obtain ⟨hE, -, hG⟩ := hC
  have so1 := so s (cd_ri hLe hcd) h12
  refine hs p0 s k p q g os fs cs l0 hp0 hcd h12 hp hent (hd_mono (by omega) hhd) (en_mono (by omega) hen) (fun ht lc lr ps c1 v1 r1 n1 => ?_) (fun hf => ?_)
  · have key : ∀ (n : Nat) (t : RS) (lc : List Int32) (lr : CL3) (ps : List Nat), Cd L p0 t (l0 ++ lc) → t.1 12 = nI o → SmV false lc (lr ++ opl ps) (H + 1) → (∀ x, x ∈ ps → r ≤ rkN x ∧ 10 ≤ x ∧ x ≤ 21) → ps.length + r ≤ 7 → ((lpR b L P cdS sub n (true, t)).1 = true → ∀ lc lr ps, Cd L p0 (lpR b L P cdS sub n (true, t)).2 (l0 ++ lc) → SmV false lc (lr ++ opl ps) (H + 1) → (∀ x, x ∈ ps → r ≤ rkN x ∧ 10 ≤ x ∧ x ≤ 21) → ps.length + r ≤ 7 → W (lpR b L P cdS sub n (true, t)).2 ((k, p, false, q, ps ++ os) :: fs) (cs ++ lr) o true) → ((lpR b L P cdS sub n (true, t)).1 = false → WF ((lpR b L P cdS sub n (true, t)).2.1 0) ((lpR b L P cdS sub n (true, t)).2.1 1)) → W t ((k, p, false, q, ps ++ os) :: fs) (cs ++ lr) o true := by
      intro n
      induction n with
      | zero => exact fun t lc lr ps c1 _ v1 r1 n1 hok _ => hok rfl lc lr ps c1 v1 r1 n1
      | succ n ih =>
        intro t lc lr ps c1 t12 v1 r1 n1 hok hfail
        rw [lpR] at hok hfail
        by_cases c : P (t.1 6)
        · rw [if_pos ⟨rfl, c⟩] at hok hfail
          obtain ⟨op, o1, o2, e6, rk⟩ := hP _ c
          have nz : c22 ps = 0 := c22_0 (fun x hx => by have := (r1 x hx).2; omega)
          have bd := bd_gon (ps := ps) (by rw [nz]; omega) (by omega) hen
          rw [nz, Nat.add_zero] at bd
          refine hG t k p false q (ps ++ os) fs (cs ++ lr) o bd ?_
          rw [gon_ar hp e6 ⟨o1, o2⟩, rk, tk_app (fun x hx => (r1 x hx).1) hhd, dp_app (fun x hx => (r1 x hx).1) hhd, nz, Nat.sub_zero]
          show W (nxS b L t) ((k, p, false, q, op :: os) :: fs) (cs ++ lr ++ opl ps) o false
          have cn := cd_nx (b := b) hLe c1 (h28 _ c)
          have n12 : (nxS b L t).1 12 = nI o := op_nx.trans t12
          have so2 := so (nxS b L t) (cd_ri hLe cn) n12
          refine hs (p0 + 1) (nxS b L t) k p q false (op :: os) fs (cs ++ lr ++ opl ps) (l0 ++ lc) (by omega) cn n12 hp (fun _ z => by cases z) (by show rkN op < r + 1; omega) (en_cons (by omega) hen) (fun ht2 lc2 lr2 ps2 c2 v2 r2 n2 => ?_) (fun hf2 => ?_)
          · dsimp only at hok hfail
            rw [ht2] at hok hfail
            have ec : cdS (t.1 6) = nI (10000 + opK op) := by
              rw [e6]
              unfold cdS
              rw [nI_add]
            rw [ec] at hok hfail
            have c3 := cd_put (v := nI (10000 + opK op)) hLe c2
            have hv := SmV_f (SmV_op (o := op) (va := nI 0) (H := H + 1) ⟨by omega, by omega⟩ (fun z => by omega) v1 v2 (by omega) (by omega))
            have go := ih (putR (nI (10000 + opK op)) (sub (nxS b L t)).2) (lc ++ lc2 ++ [nI (10000 + opK op)]) (lr ++ opl ps ++ lr2) (ps2 ++ [op]) (by rw [← List.append_assoc, ← List.append_assoc]; exact c3) (op_put.trans (so2.2 ht2)) (by
              rw [opl_app, show opl [op] = [(op, nI 0)] from rfl, ← List.append_assoc, List.append_assoc (lr ++ opl ps)]
              exact hv) (fun x hx => by
              rcases List.mem_append.mp hx with z | z
              · have := r2 x z
                exact ⟨by omega, this.2⟩
              · obtain rfl := List.mem_singleton.mp z
                exact ⟨by omega, by omega, by omega⟩) (by rw [List.length_append, List.length_singleton]; omega) hok hfail
            rw [List.append_assoc, List.append_assoc, ← List.append_assoc cs, ← List.append_assoc (cs ++ lr)] at go
            exact hE _ _ _ _ _ _ put_j go
          · dsimp only at hfail
            rw [hf2, lp_f] at hfail
            have := hfail rfl
            try dsimp only at this
            rw [put_j 0 (by omega), put_j 1 (by omega)] at this
            exact this
        · rw [if_neg (fun z => c z.2)] at hok
          exact hok rfl lc lr ps c1 v1 r1 n1
    have e : (true, (sub s).2) = sub s := Prod.ext ht.symm rfl
    unfold loopR at hok hfail
    rw [← e] at hok hfail
    exact key 1600 (sub s).2 lc lr ps c1 (so1.2 ht) (SmV_wk (by omega) v1) (fun x hx => by
      have := r1 x hx
      exact ⟨by omega, this.2⟩) (by omega) hok hfail
  · have e : sub s = (false, (sub s).2) := Prod.ext hf rfl
    unfold loopR at hfail
    rw [e, lp_f] at hfail
    exact hfail rfl
end SIMS
