/-! the same way through a part of a SUM, and SUMS whole -/
section OPR
variable {b : Nat → Int32} {L k p q u : Nat} {s : RS} {g : Bool} {os : List Nat} {fs : List FR} {cs : CL3}
abbrev plT (k : Nat) (g : Bool) (x : Int32) : Prop := isT k → g = true → ¬ x = nI 22 ∧ ¬ x = nI 191 ∧ ¬ x = nI 23
theorem opr_wd {kd : Nat} (hk : kd = 1 ∨ kd = 2 ∨ kd = 6 ∨ (15 ≤ kd ∧ kd ≤ 19)) (h : s.1 6 = nI kd) : oprM b L s k p g q os fs cs u = .inl (nxS b L s, (k, p, false, q, os) :: fs, cs ++ [(srt kd, nI 0)], u, true) := by
  unfold oprM
  obtain c | c | c | c | c | c | c | c : kd = 1 ∨ kd = 2 ∨ kd = 6 ∨ kd = 15 ∨ kd = 16 ∨ kd = 17 ∨ kd = 18 ∨ kd = 19 := by omega
  all_goals
    subst c
    rw [h, if_neg (fun z => absurd z.2 (by decide)), if_neg (fun z => absurd z.2 (by decide)), if_neg (fun z => absurd z.2 (by decide)), if_neg (by decide), if_neg (by decide), if_neg (by decide), if_pos (by decide)]
    rfl
theorem opr_nm (h : s.1 6 = nI 27) : oprM b L s k p g q os fs cs u = .inl (nxS b L s, (k, p, false, q, os) :: fs, cs ++ [(0, s.1 7)], u, true) := by
  unfold oprM
  rw [h, if_neg (fun z => absurd z.2 (by decide)), if_neg (fun z => absurd z.2 (by decide)), if_neg (fun z => absurd z.2 (by decide)), if_neg (by decide), if_neg (by decide), if_pos rfl]
theorem opr_pa (h : s.1 6 = nI 140) : oprM b L s k p g q os fs cs u = opnM b L s 2 0 ((k, p, false, q, os) :: fs) cs u := by
  unfold oprM
  rw [h, if_neg (fun z => absurd z.2 (by decide)), if_neg (fun z => absurd z.2 (by decide)), if_neg (fun z => absurd z.2 (by decide)), if_pos rfl]
theorem opr_mm {kd : Nat} (hk : kd = 24 ∨ kd = 25) (h : s.1 6 = nI kd) : oprM b L s k p g q os fs cs u = if (nxS b L s).1 6 = nI 140 then opnM b L (nxS b L s) 3 (kd - 9) ((k, p, false, q, os) :: fs) cs u else fltRes ((nxS b L s).1 9) := by
  unfold oprM
  rcases hk with rfl | rfl
  all_goals
    rw [h, if_neg (fun z => absurd z.2 (by decide)), if_neg (fun z => absurd z.2 (by decide)), if_neg (fun z => absurd z.2 (by decide)), if_neg (by decide), if_pos (by decide)]
    rfl
theorem opr_no (hT : plT k g (s.1 6)) (h : ¬ s.1 6 = nI 140 ∧ ¬ s.1 6 = nI 24 ∧ ¬ s.1 6 = nI 25 ∧ ¬ s.1 6 = nI 27 ∧ ¬ wrdP (s.1 6)) : oprM b L s k p g q os fs cs u = fltRes (s.1 9) := by
  obtain ⟨h1, h2, h3, h4, h5⟩ := h
  unfold oprM
  rw [if_neg (fun z => (hT z.1.1 z.1.2).1 z.2), if_neg (fun z => (hT z.1.1 z.1.2).2.1 z.2), if_neg (fun z => (hT z.1.1 z.1.2).2.2 z.2), if_neg h1, if_neg (fun z => z.elim h2 h3), if_neg h4, if_neg h5]
theorem opn_f {kd pr : Nat} : opnM b L s kd pr fs cs 7 = .inr (.inl (nI 5, s.1 8)) := if_pos rfl
theorem opn_t {kd pr : Nat} (h : u < 7) : opnM b L s kd pr fs cs u = .inl (nxS b L s, (kd, 0, true, pr, []) :: fs, cs, u + 1, false) := if_neg (by omega)
theorem I_nat {x : Int32} {n : Nat} (hn : n < 1000) (h : x.toInt = (n : Int)) : x = nI n := by
  apply Int32.toInt_inj.mp
  rw [h, nI_toInt (by omega)]
theorem I_nat' {x : Int32} {n : Nat} (hn : n < 1000) (h : x = nI n) : x.toInt = (n : Int) := by
  rw [h, nI_toInt (by omega)]
end OPR
section PRT
variable {b : Nat → Int32} {L : Nat} {s : RS} {sm : RS → Bool × RS}
theorem part_wd {kd : Nat} (hk : kd = 1 ∨ kd = 2 ∨ kd = 6 ∨ (15 ≤ kd ∧ kd ≤ 19)) (h : s.1 6 = nI kd) : partR b L sm s = wdR b L (nI (10000 + kd)) s := by
  unfold partR
  obtain c | c | c | c | c | c | c | c : kd = 1 ∨ kd = 2 ∨ kd = 6 ∨ kd = 15 ∨ kd = 16 ∨ kd = 17 ∨ kd = 18 ∨ kd = 19 := by omega
  all_goals
    subst c
    rw [h, nI_add]
  · rw [if_pos (by decide)]
  · rw [if_neg (by decide), if_pos (by decide)]
  · rw [if_neg (by decide), if_neg (by decide), if_pos (by decide)]
  · rw [if_neg (by decide), if_neg (by decide), if_neg (by decide), if_pos (by decide)]
  · rw [if_neg (by decide), if_neg (by decide), if_neg (by decide), if_neg (by decide), if_pos (by decide)]
  · rw [if_neg (by decide), if_neg (by decide), if_neg (by decide), if_neg (by decide), if_neg (by decide), if_pos (by decide)]
  · rw [if_neg (by decide), if_neg (by decide), if_neg (by decide), if_neg (by decide), if_neg (by decide), if_neg (by decide), if_pos (by decide)]
  · rw [if_neg (by decide), if_neg (by decide), if_neg (by decide), if_neg (by decide), if_neg (by decide), if_neg (by decide), if_neg (by decide), if_pos (by decide)]
theorem part_mm {kd : Nat} (hk : kd = 24 ∨ kd = 25) (h : s.1 6 = nI kd) : partR b L sm s = prR b L sm s := by
  unfold partR
  rcases hk with rfl | rfl
  · rw [h, if_neg (by decide), if_neg (by decide), if_neg (by decide), if_neg (by decide), if_neg (by decide), if_neg (by decide), if_neg (by decide), if_neg (by decide), if_pos (by decide)]
  · rw [h, if_neg (by decide), if_neg (by decide), if_neg (by decide), if_neg (by decide), if_neg (by decide), if_neg (by decide), if_neg (by decide), if_neg (by decide), if_neg (by decide), if_pos (by decide)]
theorem part_nm (h : s.1 6 = nI 27) : partR b L sm s = wdR b L (s.1 7) s := by
  unfold partR
  rw [h, if_neg (by decide), if_neg (by decide), if_neg (by decide), if_neg (by decide), if_neg (by decide), if_neg (by decide), if_neg (by decide), if_neg (by decide), if_neg (by decide), if_neg (by decide), if_pos (by decide)]
theorem part_pa (h : s.1 6 = nI 140) : partR b L sm s = innR b L (nI 141) sm s := by
  unfold partR
  rw [h, if_neg (by decide), if_neg (by decide), if_neg (by decide), if_neg (by decide), if_neg (by decide), if_neg (by decide), if_neg (by decide), if_neg (by decide), if_neg (by decide), if_neg (by decide), if_neg (by decide), if_pos (by decide)]
theorem part_no (h : ¬ s.1 6 = nI 140 ∧ ¬ s.1 6 = nI 24 ∧ ¬ s.1 6 = nI 25 ∧ ¬ s.1 6 = nI 27 ∧ ¬ wrdP (s.1 6)) : partR b L sm s = flS s (nI 1) (s.1 9) := by
  obtain ⟨h1, h2, h3, h4, h5⟩ := h
  have ne : ∀ (n : Nat) (m : Int), (n : Int) = m → n < 1000 → ¬ s.1 6 = nI n → ¬ (s.1 6).toInt = m := fun n m e hn z y => z (I_nat hn (y.trans e.symm))
  unfold partR
  rw [if_neg (ne 1 1 rfl (by omega) (fun z => h5 (Or.inl z))), if_neg (ne 2 2 rfl (by omega) (fun z => h5 (Or.inr (Or.inl z)))), if_neg (ne 6 6 rfl (by omega) (fun z => h5 (Or.inr (Or.inr (Or.inl z))))), if_neg (ne 15 15 rfl (by omega) (fun z => h5 (Or.inr (Or.inr (Or.inr (Or.inl z)))))), if_neg (ne 16 16 rfl (by omega) (fun z => h5 (Or.inr (Or.inr (Or.inr (Or.inr (Or.inl z))))))), if_neg (ne 17 17 rfl (by omega) (fun z => h5 (Or.inr (Or.inr (Or.inr (Or.inr (Or.inr (Or.inl z)))))))), if_neg (ne 18 18 rfl (by omega) (fun z => h5 (Or.inr (Or.inr (Or.inr (Or.inr (Or.inr (Or.inr (Or.inl z))))))))), if_neg (ne 19 19 rfl (by omega) (fun z => h5 (Or.inr (Or.inr (Or.inr (Or.inr (Or.inr (Or.inr (Or.inr (z)))))))))), if_neg (ne 24 24 rfl (by omega) h2), if_neg (ne 25 25 rfl (by omega) h3), if_neg (ne 27 27 rfl (by omega) h4), if_neg (ne 140 140 rfl (by omega) h1)]
end PRT
section SIMP
variable {b : Nat → Int32} {L o : Nat} {W : WTy} {WF : Int32 → Int32 → Prop} {WD : RS → CL3 → Prop} {sm : RS → Bool × RS}
theorem S_part (hLe : L ≤ 1600) (hC : Clo b L W WF WD) (ho : o ≤ 7) (hsm : o < 7 → SimS L W WF 5 3 (hpN (o + 1) + 2) (o + 1) sm ∧ SO L (o + 1) sm) (hT : TkS L ArN sm) (h27 : ∀ s fs cs u f, s.1 6 = nI 27 → ((∃ v, v < 10000 ∧ s.1 7 = nI v) → W s fs cs u f) → W s fs cs u f) : SimS L W WF 7 5 (hpN o) o (partR b L sm) := by
  intro p0 s k p q g os fs cs l0 hp0 hcd h12 hp hent hhd hen hok hfail
  obtain ⟨hE, hO, hG⟩ := hC
  have bd0 := bd_opr ho (by omega) hen
  have fu : fs.length ≤ o := hen.1
  have h1p : 1 ≤ hpN o := by unfold hpN; omega
  by_cases cw : wrdP (s.1 6)
  · obtain ⟨kd, hk, e6⟩ : ∃ kd, (kd = 1 ∨ kd = 2 ∨ kd = 6 ∨ (15 ≤ kd ∧ kd ≤ 19)) ∧ s.1 6 = nI kd := by
      rcases cw with z | z | z | z | z | z | z | z
      · exact ⟨1, by omega, z⟩
      · exact ⟨2, by omega, z⟩
      · exact ⟨6, by omega, z⟩
      · exact ⟨15, by omega, z⟩
      · exact ⟨16, by omega, z⟩
      · exact ⟨17, by omega, z⟩
      · exact ⟨18, by omega, z⟩
      · exact ⟨19, by omega, z⟩
    have n28 : ¬ s.1 6 = nI 28 := fun z => by
      have := (nI_eq (by omega) (by omega)).mp (e6.symm.trans z)
      omega
    rw [part_wd hk e6] at hok
    refine hE s (putR (nI (10000 + kd)) s) _ _ _ _ put_j (hO _ k p g q os fs cs o bd0 fu ?_)
    rw [opr_wd hk ((put_j 6 (by omega)).trans e6)]
    exact hok rfl [nI (10000 + kd)] [(srt kd, nI 0)] [] (cd_wd hLe hp0 hcd n28) (SmV_wk h1p (SmV_word hk)) (fun x hx => by cases hx) (by show 0 + 7 ≤ 7; omega)
  by_cases c27 : s.1 6 = nI 27
  · refine h27 s _ _ _ _ c27 (fun hv => ?_)
    obtain ⟨v, hv, e7⟩ := hv
    rw [part_nm c27] at hok
    refine hE s (putR (s.1 7) s) _ _ _ _ put_j (hO _ k p g q os fs cs o bd0 fu ?_)
    rw [opr_nm ((put_j 6 (by omega)).trans c27), put_j 7 (by omega)]
    rw [e7] at hok ⊢
    exact hok rfl [nI v] [(0, nI v)] [] (cd_wd hLe hp0 hcd (by rw [c27]; decide)) (SmV_wk h1p (SmV_num hv)) (fun x hx => by cases hx) (by show 0 + 7 ≤ 7; omega)
  by_cases c140 : s.1 6 = nI 140
  · rw [part_pa c140] at hok hfail
    by_cases c7 : o = 7
    · subst c7
      refine hO s k p g q os fs cs 7 bd0 fu ?_
      rw [opr_pa c140, opn_f]
      unfold innR at hfail
      rw [op_f h12] at hfail
      exact hfail rfl
    · have o7 : o < 7 := by omega
      obtain ⟨hs, so⟩ := hsm o7
      have hH : hpN (o + 1) + 2 ≤ hpN o := by unfold hpN; omega
      refine hE s (opn s) _ _ _ _ opn_j (hO _ k p g q os fs cs o bd0 fu ?_)
      rw [opr_pa ((opn_j 6 (by omega)).trans c140), opn_t o7]
      show W (nxS b L (opn s)) ((2, 0, true, 0, []) :: (k, p, false, q, os) :: fs) cs (o + 1) false
      have n28 : ¬ (opn s).1 6 = nI 28 := by rw [opn_j 6 (by omega), c140]; decide
      have c1 : Cd L (p0 + 1) (nxS b L (opn s)) l0 := cd_nx hLe (cd_u hcd) n28
      have t12 := opn_12 (b := b) (L := L) h12
      have so1 := so _ (cd_ri hLe c1) t12
      have eI : innR b L (nI 141) sm s = ((thn (sm (nxS b L (opn s))) (psS b L (nI 141))).1, decS (thn (sm (nxS b L (opn s))) (psS b L (nI 141))).2) := by
        unfold innR
        rw [op_t h12 o7]
        rfl
      have en2 := en_new (kd := 2) (p := p) (q := q) (g := false) (by omega) hen
      rw [eI] at hok hfail
      refine hs (p0 + 1) (nxS b L (opn s)) 2 0 0 true [] ((k, p, false, q, os) :: fs) cs l0 (by omega) c1 t12 (by omega) (fun z => absurd z (by decide)) trivial (en_mono (by omega) en2) (fun ht lc lr ps c2 v1 r1 n1 => ?_) (fun hf => ?_)
      · have nz : c22 ps = 0 := c22_0 (fun x hx => by have := (r1 x hx).2; omega)
        have bd := bd_gon (ps := ps) (by rw [nz]; omega) (by omega) en2
        rw [nz, Nat.add_zero] at bd
        refine hG _ 2 0 false 0 (ps ++ []) _ _ _ bd ?_
        rw [thn_tr ht] at hok hfail
        by_cases c : (sm (nxS b L (opn s))).2.1 6 = nI 141
        · rw [ps_t c] at hok
          rw [gon_cl (Or.inl rfl) c, tk_app (fun x hx => by have := (r1 x hx).1; omega) hd_nil, nz]
          have c3 := cd_nx0 (b := b) hLe (cd_wk c2)
          have go := hok rfl lc (lr ++ opl ps) [] (cd_u c3) (by
            show SmV false lc (lr ++ opl ps ++ []) _
            rw [List.append_nil]
            exact SmV_wk hH v1) (fun x hx => by cases hx) (by show 0 + 7 ≤ 7; omega)
          have go := hE _ _ _ _ _ _ dec_j go
          have el : cs ++ (lr ++ opl ps) = cs ++ lr ++ opl ps ++ [] := by simp only [List.append_nil, List.append_assoc]
          rw [el] at go
          exact go
        · rw [ps_f c] at hfail
          rw [gon_cf (Or.inl rfl) (ArN_ar (hT _ _ _ c1.1 ht)) c]
          exact hfail rfl
      · rw [thn_fa hf] at hfail
        have := hfail rfl
        exact this
  by_cases cm : s.1 6 = nI 24 ∨ s.1 6 = nI 25
  · obtain ⟨kd, hk, e6⟩ : ∃ kd, (kd = 24 ∨ kd = 25) ∧ s.1 6 = nI kd := by
      rcases cm with z | z
      · exact ⟨24, by omega, z⟩
      · exact ⟨25, by omega, z⟩
    have n28 : ¬ s.1 6 = nI 28 := fun z => by
      have := (nI_eq (by omega) (by omega)).mp (e6.symm.trans z)
      omega
    rw [part_mm hk e6] at hok hfail
    have cn : Cd L (p0 + 1) (nxS b L s) l0 := cd_nx hLe hcd n28
    by_cases cb : (nxS b L s).1 6 = nI 140
    · have ePr : prR b L sm s = ((prsR b L sm (nxS b L s)).1, putR (nI (10000 + kd)) (decS (prsR b L sm (nxS b L s)).2)) := by
        unfold prR
        rw [if_neg (fun z => z cb), e6, nI_add]
      rw [ePr] at hok hfail
      have s12 : (nxS b L s).1 12 = nI o := op_nx.trans h12
      by_cases c7 : o = 7
      · subst c7
        refine hO s k p g q os fs cs 7 bd0 fu ?_
        rw [opr_mm hk e6, if_pos cb, opn_f]
        unfold prsR at hfail
        rw [op_f s12] at hfail
        have := hfail rfl
        try dsimp only at this
        rw [put_j 0 (by omega), put_j 1 (by omega)] at this
        exact this
      · have o7 : o < 7 := by omega
        obtain ⟨hs, so⟩ := hsm o7
        have hH : hpN (o + 1) + 2 + 1 ≤ hpN o := by unfold hpN; omega
        refine hO s k p g q os fs cs o bd0 fu ?_
        rw [opr_mm hk e6, if_pos cb, opn_t o7]
        show W (nxS b L (nxS b L s)) ((3, 0, true, kd - 9, []) :: (k, p, false, q, os) :: fs) cs (o + 1) false
        refine hE _ (nxS b L (opn (nxS b L s))) _ _ _ _ (e10_nx (fun j hj => opn_j j hj)) ?_
        have m28 : ¬ (opn (nxS b L s)).1 6 = nI 28 := by rw [opn_j 6 (by omega), cb]; decide
        have c1 : Cd L (p0 + 1) (nxS b L (opn (nxS b L s))) l0 := cd_nx0 hLe (cd_u cn)
        have t12 := opn_12 (b := b) (L := L) s12
        have eS : prsR b L sm (nxS b L s) = thn (thn (thn (sm (nxS b L (opn (nxS b L s)))) (psS b L (nI 144))) sm) (psS b L (nI 141)) := by
          unfold prsR
          rw [op_t s12 o7]
          rfl
        rw [eS] at hok hfail
        generalize nxS b L (opn (nxS b L s)) = t at *
        have so1 := so _ (cd_ri hLe c1) t12
        have en2 := en_new (kd := 3) (p := p) (q := q) (g := false) (by omega) hen
        refine hs (p0 + 1) t 3 0 (kd - 9) true [] ((k, p, false, q, os) :: fs) cs l0 (by omega) c1 t12 (by omega) (fun z => absurd z (by decide)) trivial (en_mono (by omega) en2) (fun ht lc lr ps c2 v1 r1 n1 => ?_) (fun hf => ?_)
        · have nz : c22 ps = 0 := c22_0 (fun x hx => by have := (r1 x hx).2; omega)
          have bd := bd_gon (ps := ps) (by rw [nz]; omega) (by omega) en2
          rw [nz, Nat.add_zero] at bd
          refine hG _ 3 0 false (kd - 9) (ps ++ []) _ _ _ bd ?_
          have har := ArN_ar (hT _ _ _ c1.1 ht)
          rw [thn_tr ht] at hok hfail
          have u12 : (sm t).2.1 12 = nI (o + 1) := so1.2 ht
          generalize (sm t).2 = t1 at *
          by_cases c : t1.1 6 = nI 144
          · rw [ps_t c, thn_pt] at hok hfail
            dsimp only at hok hfail
            rw [gon_cm c, tk_app (fun x hx => by have := (r1 x hx).1; omega) hd_nil, dp_app (fun x hx => by have := (r1 x hx).1; omega) hd_nil, nz]
            show W (nxS b L t1) ((4, 0, false, kd - 9, []) :: (k, p, false, q, os) :: fs) (cs ++ lr ++ opl ps) (o + 1) false
            have c3 := cd_nx0 (b := b) hLe c2
            have t12 : (nxS b L t1).1 12 = nI (o + 1) := op_nx.trans u12
            generalize nxS b L t1 = t2 at *
            have so2 := so _ (cd_ri hLe c3) t12
            have en4 := en_new (kd := 4) (p := p) (q := q) (g := false) (by omega) hen
            refine hs (p0 + 1) t2 4 0 (kd - 9) false [] ((k, p, false, q, os) :: fs) (cs ++ lr ++ opl ps) (l0 ++ lc) (by omega) c3 t12 (by omega) (fun z => absurd z (by decide)) trivial (en_mono (by omega) en4) (fun ht2 lc2 lr2 ps2 c4 v2 r2 n2 => ?_) (fun hf2 => ?_)
            · have nz2 : c22 ps2 = 0 := c22_0 (fun x hx => by have := (r2 x hx).2; omega)
              have bd2 := bd_gon (ps := ps2) (by rw [nz2]; omega) (by omega) en4
              rw [nz2, Nat.add_zero] at bd2
              refine hG _ 4 0 false (kd - 9) (ps2 ++ []) _ _ _ bd2 ?_
              have har2 := ArN_ar (hT _ _ _ c3.1 ht2)
              rw [thn_tr ht2] at hok hfail
              generalize (sm t2).2 = t3 at *
              by_cases c : t3.1 6 = nI 141
              · rw [ps_t c] at hok
                rw [gon_cl (Or.inr rfl) c, tk_app (fun x hx => by have := (r2 x hx).1; omega) hd_nil, nz2]
                have c5 := cd_put (v := nI (10000 + kd)) hLe (cd_u (v := (nxS b L t3).1 12 - nI 1) (cd_nx0 (b := b) hLe c4))
                have ok15 : opK (kd - 9) = kd := by rcases hk with rfl | rfl <;> rfl
                have hv := SmV_f (SmV_op (o := kd - 9) (va := nI 0) (H := hpN o) ⟨by omega, by omega⟩ (fun z => by omega) v1 v2 (by omega) (by omega))
                rw [ok15] at hv
                have go := hok rfl (lc ++ lc2 ++ [nI (10000 + kd)]) (lr ++ opl ps ++ (lr2 ++ opl ps2) ++ [(kd - 9, nI 0)]) [] (by rw [← List.append_assoc, ← List.append_assoc]; exact c5) (by
                  show SmV false _ (lr ++ opl ps ++ (lr2 ++ opl ps2) ++ [(kd - 9, nI 0)] ++ []) _
                  rw [List.append_nil]
                  exact hv) (fun x hx => by cases hx) (by show 0 + 7 ≤ 7; omega)
                have go := hE _ _ _ _ _ _ (fun j hj => (put_j j hj).trans (dec_j j hj)) go
                show W (nxS b L t3) ((k, p, false, q, os) :: fs) (cs ++ lr ++ opl ps ++ lr2 ++ opl ps2 ++ [(kd - 9, nI 0)]) o true
                have el : cs ++ (lr ++ opl ps ++ (lr2 ++ opl ps2) ++ [(kd - 9, nI 0)]) = cs ++ lr ++ opl ps ++ lr2 ++ opl ps2 ++ [(kd - 9, nI 0)] := by simp only [List.append_assoc]
                rw [← el]
                exact go
              · rw [ps_f c] at hfail
                rw [gon_cf (Or.inr rfl) har2 c]
                have := hfail rfl
                try dsimp only at this
                rw [put_j 0 (by omega), put_j 1 (by omega)] at this
                exact this
            · rw [thn_fa hf2] at hfail
              have := hfail rfl
              try dsimp only at this
              rw [put_j 0 (by omega), put_j 1 (by omega)] at this
              exact this
          · rw [ps_f c] at hfail
            rw [gon_cmf har c]
            rw [thn_fa rfl, thn_fa rfl] at hfail
            have := hfail rfl
            try dsimp only at this
            rw [put_j 0 (by omega), put_j 1 (by omega)] at this
            exact this
        · rw [thn_fa hf, thn_fa rfl, thn_fa rfl] at hfail
          have := hfail rfl
          try dsimp only at this
          rw [put_j 0 (by omega), put_j 1 (by omega)] at this
          exact this
    · have ePr : prR b L sm s = flS (nxS b L s) (nI 1) ((nxS b L s).1 9) := by
        unfold prR
        rw [if_pos cb]
      rw [ePr] at hfail
      refine hO s k p g q os fs cs o bd0 fu ?_
      rw [opr_mm hk e6, if_neg cb]
      exact hfail rfl
  · have hno : ¬ s.1 6 = nI 140 ∧ ¬ s.1 6 = nI 24 ∧ ¬ s.1 6 = nI 25 ∧ ¬ s.1 6 = nI 27 ∧ ¬ wrdP (s.1 6) := ⟨c140, fun z => cm (Or.inl z), fun z => cm (Or.inr z), c27, cw⟩
    rw [part_no hno] at hfail
    refine hO s k p g q os fs cs o bd0 fu ?_
    rw [opr_no (fun z1 z2 => hent z1 z2) hno]
    exact hfail rfl
theorem tk_sm (hLe : L ≤ 1600) : ∀ n, TkS L ArN (smN b L n)
  | 0 => fun p0 k s h ht => by cases ht
  | n + 1 => fun p0 k s h ht => ⟨loop_end hLe plus28 (cb_loop hLe time28 (cb_part hLe (cb_sm hLe n))) p0 k s h ht, loop_T hLe plus28 (cb_loop hLe time28 (cb_part hLe (cb_sm hLe n))) (loop_end hLe time28 (cb_part hLe (cb_sm hLe n))) p0 k s h ht⟩
def NmW (W : WTy) : Prop := ∀ s fs cs u f, s.1 6 = nI 27 → ((∃ v, v < 10000 ∧ s.1 7 = nI v) → W s fs cs u f) → W s fs cs u f
theorem S_sm (hLe : L ≤ 1600) (hC : Clo b L W WF WD) (h27 : NmW W) : ∀ (n o : Nat), 8 ≤ o + n → o ≤ 7 → SimS L W WF 5 3 (hpN o + 2) o (smN b L n)
  | 0, o, h1, h2 => by omega
  | n + 1, o, h1, h2 => by
    have so : o < 7 → SO L (o + 1) (smN b L n) := fun h7 => sm_ok hLe n (o + 1) (by omega) (by omega)
    have p1 := part_ok (b := b) hLe h2 so
    have s1 := S_part (o := o) hLe hC h2 (fun h7 => ⟨S_sm hLe hC h27 n (o + 1) (by omega) (by omega), so h7⟩) (tk_sm hLe n) h27
    have s2 := S_loop (r := 6) (cc := 4) (by omega) (by omega) hLe hC h2 time_op time28 p1 s1
    exact S_loop (r := 5) (cc := 3) (by omega) (by omega) hLe hC h2 plus_op plus28 (loop_ok hLe p1) s2
end SIMP
