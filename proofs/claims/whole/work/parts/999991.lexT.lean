/-! the reference: what has been read so far -/
def Fw (L c : Nat) (s : RS) : Prop := ∃ st a, s.1 3 = nI L ∧ s.1 8 = nI st ∧ s.1 4 = nI a ∧ c ≤ st ∧ st ≤ a ∧ a ≤ L
section FWP
variable {L c : Nat} {b : Nat → Int32} {s : RS} {K : KK}
theorem fw_j {s' : RS} (hj : ∀ j, j ≤ 10 → 2 ≤ j → s'.1 j = s.1 j) (h : Fw L c s) : Fw L c s' := by
  obtain ⟨st, a, h3, h8, h4, h⟩ := h
  exact ⟨st, a, (hj 3 (by omega) (by omega)).trans h3, (hj 8 (by omega) (by omega)).trans h8, (hj 4 (by omega) (by omega)).trans h4, h⟩
theorem fw_fl {k p : Int32} (h : Fw L c s) : Fw L c (flS s k p).2 := fw_j (fun j h1 h2 => by
  show upd (upd s.1 0 k) 1 p j = s.1 j
  rw [upd_ne (by omega), upd_ne (by omega)]) h
theorem fw_nx (hLe : L ≤ 1600) (h : Fw L c s) : Fw L c (nxS b L s) := by
  obtain ⟨st, a, h3, h8, h4, h1, h2, hL⟩ := h
  obtain ⟨st', a', e1, e2, e3, e4, e5, e6⟩ := nextR_st (b := b) h4 hL hLe
  exact ⟨st', a', (nextR_ne (by omega) (by omega)).trans h3, e1, e2, by omega, e4, e5⟩
theorem fw_ps {w : Int32} (hLe : L ≤ 1600) (h : Fw L c s) : Fw L c (psS b L w s).2 := by
  unfold psS passR
  split
  · exact fw_nx hLe h
  · exact fw_fl h
theorem fw_nm {m : Int32} (hLe : L ≤ 1600) (h : Fw L c s) : Fw L c (nmS b L m s).2 := by
  unfold nmS numR
  split
  · exact fw_fl h
  split
  · exact fw_fl h
  · exact fw_nx hLe h
theorem fw_nam {nm : Nat → Int32} {n : Nat} {bar : Int32} (hLe : L ≤ 1600) (h : Fw L c s) : Fw L c (namS b L nm n bar s).2 := by
  unfold namS
  split
  · exact fw_fl h
  split
  · exact fw_fl h
  · exact fw_nx hLe h
theorem fw_new (hLe : L ≤ 1600) (h : Fw L c s) : Fw L c (newS b L K s).2 := by
  unfold newS
  split
  · exact fw_fl h
  split
  · exact fw_fl h
  · exact fw_nx hLe h
theorem fw_kn {p : Nat} (hLe : L ≤ 1600) (h : Fw L c s) : Fw L c (knS b L K p s).2 := by
  unfold knS
  split
  · exact fw_fl h
  · exact fw_nam hLe h
theorem fw_thI {r : Int32 × RS} {k : Int32 → RS → SR} (h0 : Fw L c r.2) (hk : ∀ v s, Fw L c s → Fw L c (k v s).2.1) : Fw L c (thI r K k).2.1 := by
  unfold thI
  split
  · exact h0
  · exact hk _ _ h0
theorem fw_thB {r : Bool × RS} {k : RS → SR} (h0 : Fw L c r.2) (hk : ∀ s, Fw L c s → Fw L c (k s).2.1) : Fw L c (thB r K k).2.1 := by
  unfold thB
  split
  · exact hk _ h0
  · exact h0
theorem fw_rul {y : Int32} (hLe : L ≤ 1600) : ∀ (q k : Nat) (fr : Int32) (s : RS), Fw L c s → Fw L c (rulL b L K y q k fr s).2.2
  | 0, _, _, _, h => h
  | q + 1, k, fr, s, h => by
    unfold rulL
    have h1 := fw_nam (b := b) (nm := K 1) (n := cF K) (bar := fr ||| bt y) hLe h
    split
    · split
      · exact h1
      · exact fw_rul hLe q (k + 1) _ _ h1
    · exact h
theorem fw_fact (hLe : L ≤ 1600) (h : Fw L c s) : Fw L c (factS b L K s).2.1 := fw_thI (fw_new hLe h) (fun _ _ h => fw_thB (fw_ps hLe h) (fun _ h => fw_thI (fw_nm hLe h) (fun _ _ h => fw_thB (fw_ps hLe h) (fun _ h => fw_thI (fw_nm hLe h) (fun _ _ h => h)))))
theorem fw_pers (hLe : L ≤ 1600) (h : Fw L c s) : Fw L c (persS b L K s).2.1 := fw_thI (fw_new hLe h) (fun _ _ h => fw_thB (fw_ps hLe h) (fun _ h => fw_thI (fw_nm hLe h) (fun _ _ h => fw_thB (fw_ps hLe h) (fun _ h => fw_thI (fw_nm hLe h) (fun _ _ h => h)))))
theorem fw_meet (hLe : L ≤ 1600) (h : Fw L c s) : Fw L c (meetS b L K s).2.1 := fw_thI (fw_nam hLe h) (fun _ _ h => fw_thI (fw_nam hLe h) (fun _ _ h => fw_thB (fw_ps hLe h) (fun _ h => fw_thI (fw_nm hLe h) (fun _ _ h => h))))
theorem fw_lic (hLe : L ≤ 1600) (h : Fw L c s) : Fw L c (licS b L K s).2.1 := fw_thI (fw_nam hLe h) (fun _ _ h => fw_thI (fw_kn hLe h) (fun _ _ h => fw_thB (fw_ps hLe h) (fun _ h => fw_thI (fw_nm hLe h) (fun _ _ h => h))))
theorem fw_sto (hLe : L ≤ 1600) (h : Fw L c s) : Fw L c (stoS b L K s).2.1 := fw_thI (fw_nm hLe h) (fun _ _ h => h)
theorem fw_rule (hLe : L ≤ 1600) (h : Fw L c s) : Fw L c (ruleS b L K s).2.1 := by
  refine fw_thI (fw_nam hLe h) (fun _ _ h => fw_thB (fw_ps hLe h) (fun _ h => ?_))
  unfold ruleE
  split
  · exact fw_rul hLe _ _ _ _ h
  · exact fw_rul hLe _ _ _ _ h
end FWP
/-! bounds kept by the statements -/
section KBP
variable {L : Nat} {b : Nat → Int32} {s : RS} {K : KK}
theorem kb_thI {r : Int32 × RS} {k : Int32 → RS → SR} (h0 : KBd K) (hk : ¬ r.1 = -1 → KBd (k r.1 r.2).2.2) : KBd (thI r K k).2.2 := by
  unfold thI
  split
  · exact h0
  · rename_i z
    exact hk z
theorem kb_thB {r : Bool × RS} {k : RS → SR} (h0 : KBd K) (hk : KBd (k r.2).2.2) : KBd (thB r K k).2.2 := by
  unfold thB
  split
  · exact hk
  · exact h0
theorem kb_e {K' : KK} (h : KBd K) (e1 : K' 0 16 = K 0 16) (e2 : K' 0 17 = K 0 17) : KBd K' := by
  obtain ⟨n, m, h1, h2, h3, h4⟩ := h
  exact ⟨n, m, h1, h2, e1.trans h3, e2.trans h4⟩
theorem kb_fact (h : KBd K) : KBd (factS b L K s).2.2 := kb_thI h (fun _ => kb_thB h (kb_thI h (fun _ => kb_thB h (kb_thI h (fun _ => kb_e h (by simp [addF, u2]) (by simp [addF, u2]))))))
theorem kb_pers (h : KBd K) : KBd (persS b L K s).2.2 := kb_thI h (fun _ => kb_thB h (kb_thI h (fun _ => kb_thB h (kb_thI h (fun _ => kb_e h (by simp [addP, u2]) (by simp [addP, u2]))))))
theorem kb_meet (h : KBd K) : KBd (meetS b L K s).2.2 := kb_thI h (fun _ => kb_thI h (fun _ => kb_thB h (kb_thI h (fun _ => kb_e h (by simp [addM, u2]) (by simp [addM, u2])))))
theorem kb_rule (h : KBd K) : KBd (ruleS b L K s).2.2 := by
  refine kb_thI h (fun _ => kb_thB h ?_)
  unfold ruleE
  split
  · exact kb_e h (by simp [addU, u2]) (by simp [addU, u2])
  · exact h
theorem nm_val {m : Nat} (hm : m < 10000) (hr : ∀ v, s.1 7 = v → s.1 6 = nI 27 → ∃ k, k < 10000 ∧ v = nI k) (h : ¬ (nmS b L (nI m) s).1 = -1) : ∃ k, k ≤ m ∧ (nmS b L (nI m) s).1 = nI k := by
  have e : (nmS b L (nI m) s).1 = if ¬ s.1 6 = nI 27 then -1 else if nI m < s.1 7 then -1 else s.1 7 := by
    unfold nmS numR
    split
    · rfl
    split
    · rfl
    · rfl
  rw [e] at h ⊢
  by_cases c1 : ¬ s.1 6 = nI 27
  · rw [if_pos c1] at h
    exact absurd rfl h
  rw [if_neg c1] at h ⊢
  by_cases c2 : nI m < s.1 7
  · rw [if_pos c2] at h
    exact absurd rfl h
  rw [if_neg c2]
  obtain ⟨k, hk, ek⟩ := hr _ rfl (Classical.not_not.mp c1)
  rw [ek] at c2
  have : ¬ m < k := fun z => c2 ((nI_ltI (by omega) (by omega)).mpr z)
  exact ⟨k, by omega, ek⟩
theorem kb_sto (h : KBd K) (h16 : ¬ 0 < K 0 16) (hr : ∀ v, s.1 7 = v → s.1 6 = nI 27 → ∃ k, k < 10000 ∧ v = nI k) : KBd (stoS b L K s).2.2 := by
  refine kb_thI h (fun hn => ?_)
  obtain ⟨k, hk, e⟩ := nm_val (by omega) hr hn
  obtain ⟨n, m, h1, h2, h3, h4⟩ := h
  have n0 : n = 0 := by
    rw [h3] at h16
    rcases Nat.eq_zero_or_pos n with z | z
    · exact z
    · exact absurd ((nI_ltI (a := 0) (by omega) (by omega)).mpr z) h16
  refine ⟨n, k, by omega, hk, ?_, ?_⟩
  · simp [u2]
    exact h3
  · simp [u2]
    exact e
theorem kn_ok {p : Nat} (h : ¬ (knS b L K p s).1 = -1) : ∃ f, ¬ fullL K p f ∧ ¬ f = -1 ∧ (knS b L K p s).1 = f := by
  unfold knS at h ⊢
  by_cases c : s.1 6 = nI 26 ∧ fullL K p (findM (K 1) (s.1 7) (cF K) 0)
  · rw [if_pos c] at h
    exact absurd rfl h
  · rw [if_neg c] at h ⊢
    have e : (namS b L (K 1) (cF K) (nI 0) s).1 = if ¬ s.1 6 = nI 26 then -1 else if badN (findM (K 1) (s.1 7) (cF K) 0) (nI 0) then -1 else findM (K 1) (s.1 7) (cF K) 0 := by
      unfold namS
      split
      · rfl
      split
      · rfl
      · rfl
    by_cases c1 : s.1 6 = nI 26
    · rw [e, if_neg (fun z => z c1)] at h ⊢
      by_cases c2 : badN (findM (K 1) (s.1 7) (cF K) 0) (nI 0)
      · rw [if_pos c2] at h
        exact absurd rfl h
      · rw [if_neg c2]
        exact ⟨_, fun z => c ⟨c1, z⟩, fun z => c2 (Or.inl z), rfl⟩
    · rw [e, if_pos c1] at h
      exact absurd rfl h
theorem kb_lic (h : KBd K) : KBd (licS b L K s).2.2 := by
  refine kb_thI h (fun _ => kb_thI h (fun hk => kb_thB h (kb_thI h (fun _ => ?_))))
  obtain ⟨f, f1, f2, f3⟩ := kn_ok hk
  rw [f3]
  show KBd (addL K _ f.toNatClampNeg _)
  unfold addL
  by_cases c : K 12 ((namS b L (K 6) (cP K) (nI 0) s).1.toNatClampNeg * 12 + f.toNatClampNeg) = -1
  · rw [if_pos c]
    obtain ⟨n, m, h1, h2, h3, h4⟩ := h
    have hlt : n < m := by
      rcases Nat.lt_or_ge n m with z | z
      · exact z
      · refine absurd ⟨f2, c, ?_⟩ f1
        rw [h3, h4]
        exact (nI_leI (by omega) (by omega)).mpr z
    refine ⟨n + 1, m, hlt, h2, ?_, ?_⟩
    · simp [u2]
      rw [h3, nI_add]
    · simp [u2]
      exact h4
  · rw [if_neg c]
    exact kb_e h (by simp [u2]) (by simp [u2])
end KBP
/-- a SUM or a TEST that a bank holds; below c the codes that are told -/
def CqAt (h : AH) (ik a on : Nat) (V : (Nat → Int32) → Int32) (t : Bool) (c : Nat) : Prop := (on = 0 ∧ hI h a ik = -1) ∨ (0 < on ∧ ∃ fr lr, hI h a ik = nI fr ∧ hI h (a + 1) ik = nI (fr + lr.length) ∧ fr + lr.length ≤ c ∧ cdsAt h ik fr lr ∧ ∀ F, FB F → okR F lr [] ∧ runJ F lr [] = [(V F).toInt64] ∧ (t = true → V F = nI 0 ∨ V F = nI 1))
section CQP
variable {h h' : AH} {ik a on c c' : Nat} {V : (Nat → Int32) → Int32} {t : Bool}
theorem Cq_agm {X : Nat → Nat → Prop} (hX : ∀ b j, X b j → ¬ ((b = a ∨ b = a + 1) ∧ j = ik) ∧ ¬ ((b = 196 ∨ b = 197) ∧ j < 1600 * ik + c)) (hc : c ≤ c') (ag : Agm X h h') (H : CqAt h ik a on V t c) : CqAt h' ik a on V t c' := by
  rcases H with ⟨h1, h2⟩ | ⟨h1, fr, lr, h2, h3, h4, h5, h6⟩
  · exact Or.inl ⟨h1, (Agm_I ag (fun z => (hX _ _ z).1 ⟨Or.inl rfl, rfl⟩)).trans h2⟩
  · exact Or.inr ⟨h1, fr, lr, (Agm_I ag (fun z => (hX _ _ z).1 ⟨Or.inl rfl, rfl⟩)).trans h2, (Agm_I ag (fun z => (hX _ _ z).1 ⟨Or.inr rfl, rfl⟩)).trans h3, by omega, cds_agm (fun b j z y => (hX b j z).2 ⟨y.1, by omega⟩) ag h5, h6⟩
theorem fo_C {F g : Nat → Int32} : ∀ (l : List Int32) (i : Nat) (st : List Int32), (∀ j x, l[j]? = some x → g (i + j) = x) → foN (valF F g) i l.length st = runCl F l st
  | [], i, st, h => rfl
  | y :: l, i, st, h => by
    show foN (valF F g) (i + 1) l.length (valF F g i st) = runCl F l (stepL F y st)
    rw [fo_C l (i + 1) _ (fun j x hx => by
      have := h (j + 1) x hx
      rw [show i + 1 + j = i + (j + 1) by omega]
      exact this)]
    have := h 0 y rfl
    unfold valF
    rw [show g i = y from this]
theorem FB_0 : FB (fun _ => nI 0) := fun _ _ => (⟨by decide, by decide⟩ : bd6 (nI 0))
theorem Cq_new {L p0 H fr : Nat} {s : RS} {lc : List Int32} {lr : CL3} (hcd : Cd L p0 s lc) (hLe : L ≤ 1600) (hp : 1 ≤ p0) (hv : SmV t lc lr H) (hH : H ≤ 64) (e1 : hI h a ik = nI fr) (e2 : hI h (a + 1) ik = nI (fr + lr.length)) (hc : cdsAt h ik fr lr) : CqAt h ik a (s.1 14).toNatClampNeg (fun F => valM F s.2 (s.1 14).toNatClampNeg) t (fr + lr.length) := by
  have hl := cd_lt hLe hp hcd
  have en : (s.1 14).toNatClampNeg = lc.length := by
    rw [hcd.1.1]
    exact nI_clamp (by omega)
  rw [en]
  have eV : ∀ F, valM F s.2 lc.length = botL (runCl F lc []) := fun F => by
    unfold valM
    rw [fo_C lc 0 [] (fun j x hx => by
      rw [Nat.zero_add]
      exact hcd.2 j x hx)]
  have hpos : 0 < lc.length := by
    cases lc with
    | nil =>
      obtain ⟨v, -, -, h3, -⟩ := hv _ FB_0
      have := h3 [] (by show 0 + H ≤ 64; omega)
      cases this
    | cons y l => exact Nat.succ_pos _
  refine Or.inr ⟨hpos, fr, lr, e1, e2, Nat.le_refl _, hc, fun F hF => ?_⟩
  obtain ⟨v, v1, v2, v3, v4⟩ := hv F hF
  obtain ⟨o1, o2⟩ := v4 [] (by show 0 + H ≤ 500; omega)
  show _ ∧ _ = [(valM F s.2 lc.length).toInt64] ∧ (t = true → valM F s.2 lc.length = nI 0 ∨ valM F s.2 lc.length = nI 1)
  rw [eV, v3 [] (by show 0 + H ≤ 64; omega)]
  exact ⟨o1, o2, v2⟩
theorem stp_va {F : Nat → Int32} {so : Nat} {va vb : Int32} {st : List Int64} (hso : so ≤ 22) (h : so = 0 → va = vb) : stpJ F (nI so) va st = stpJ F (nI so) vb st := by
  by_cases c : so = 0
  · rw [h c]
  · unfold stpJ partV
    have : ¬ (nI so).toInt = 0 := by
      rw [nI_toInt (by omega)]
      omega
    rw [if_neg this, if_neg this]
theorem fo_J {F so va : Nat → Int32} : ∀ (l : CL3) (i : Nat) (st : List Int64), (∀ j x, l[j]? = some x → x.1 ≤ 22 ∧ so (i + j) = nI x.1 ∧ (x.1 = 0 → va (i + j) = x.2)) → okR F l st → foN (valJ F so va) i l.length st = runJ F l st ∧ ∀ k, k < l.length → okJ (so (i + k)) (foN (valJ F so va) i k st).length
  | [], i, st, h, ho => ⟨rfl, fun k hk => absurd hk (Nat.not_lt_zero _)⟩
  | y :: l, i, st, h, ho => by
    obtain ⟨y1, y2, y3⟩ := h 0 y rfl
    have y2 : so i = nI y.1 := y2
    have y3 : y.1 = 0 → va i = y.2 := y3
    have ev : valJ F so va i st = stpJ F (nI y.1) y.2 st := by
      unfold valJ
      rw [y2]
      exact stp_va y1 y3
    obtain ⟨i1, i2⟩ := fo_J l (i + 1) (stpJ F (nI y.1) y.2 st) (fun j x hx => by
      have := h (j + 1) x hx
      rw [show i + 1 + j = i + (j + 1) by omega]
      exact this) ho.2
    refine ⟨?_, fun k hk => ?_⟩
    · show foN (valJ F so va) (i + 1) l.length (valJ F so va i st) = runJ F l (stpJ F (nI y.1) y.2 st)
      rw [ev]
      exact i1
    · cases k with
      | zero =>
        show okJ (so i) st.length
        rw [y2]
        exact ho.1
      | succ k =>
        show okJ (so (i + (k + 1))) (foN (valJ F so va) (i + 1) k (valJ F so va i st)).length
        rw [ev, show i + (k + 1) = i + 1 + k by omega]
        exact i2 k (by
          rw [List.length_cons] at hk
          omega)
theorem Cq_Cm (hc : c ≤ 1600) (H : CqAt h ik a on V t c) : CmAt h ik a (a + 1) on V t := by
  rcases H with z | ⟨h1, fr, lr, h2, h3, h4, h5, h6⟩
  · exact Or.inl z
  · refine Or.inr ⟨h1, fr, lr.length, fun k => hI h 196 (1600 * ik + fr + k), fun k => hI h 197 (1600 * ik + fr + k), h2, h3, by omega, fun _ _ => rfl, fun _ _ => rfl, fun F hF => ?_⟩
    obtain ⟨o1, o2, o3⟩ := h6 F hF
    obtain ⟨f1, f2⟩ := fo_J (F := F) (so := fun k => hI h 196 (1600 * ik + fr + k)) (va := fun k => hI h 197 (1600 * ik + fr + k)) lr 0 [] (fun j x hx => by
      rw [Nat.zero_add]
      exact h5 j x hx) o1
    refine ⟨fun k hk => ?_, f1.trans o2, o3⟩
    have := f2 k hk
    rw [Nat.zero_add] at this
    exact this
end CQP
section NUMV
variable {b : Nat → Int32} {L : Nat} {s : RS}
theorem kd_fo {W : Int64} : ∀ (n i : Nat) (a : Int32), i + n ≤ 26 → (∃ k, k ≤ 26 ∧ a = nI k) → ∃ k, k ≤ 26 ∧ foN (kdF W) i n a = nI k
  | 0, _, _, _, h => h
  | n + 1, i, a, hi, h => kd_fo n (i + 1) (kdF W i a) (by omega) (by
    unfold kdF
    split
    · exact ⟨i, by omega, rfl⟩
    · exact h)
theorem dg_val {st : Nat} : ∀ (q i v : Nat), st ≤ i → (i - st = 0 → v < 1) → (i - st ≤ 1 → v < 10) → (i - st ≤ 2 → v < 100) → (i - st ≤ 3 → v < 1000) → v < 10000 → ∃ v', v' < 10000 ∧ (dgL b st q i (nI v)).2 = nI v'
  | 0, i, v, h0, h1, h2, h3, h4, h5 => ⟨v, h5, rfl⟩
  | q + 1, i, v, h0, h1, h2, h3, h4, h5 => by
    rw [dgL]
    by_cases c : isDig (b i)
    · rw [if_pos c]
      obtain ⟨k, hk1, hk2, ek⟩ : ∃ k : Nat, 48 ≤ k ∧ k ≤ 57 ∧ b i = nI k := by
        obtain ⟨c1, c2⟩ := c
        rw [Int32.lt_iff_toInt_lt, nI_toInt (by omega)] at c1 c2
        refine ⟨(b i).toInt.toNat, by omega, by omega, ?_⟩
        apply Int32.toInt_inj.mp
        rw [nI_toInt (by omega)]
        omega
      by_cases c4 : i - st < 4
      · have e : dgF b st i (nI v) = nI (v * 10 + k - 48) := by
          unfold dgF
          rw [if_pos c4, ek, nI_mul, nI_add, nI_subN (by omega)]
        rw [e]
        exact dg_val q (i + 1) (v * 10 + k - 48) (by omega) (by omega) (by omega) (by omega) (by omega) (by omega)
      · have e : dgF b st i (nI v) = nI v := by
          unfold dgF
          rw [if_neg c4]
        rw [e]
        exact dg_val q (i + 1) v (by omega) (by omega) (by omega) (by omega) (by omega) h5
    · rw [if_neg c]
      exact ⟨v, h5, rfl⟩
theorem num_nx (e6 : (nxS b L s).1 6 = nI 27) : ∃ k, k < 10000 ∧ (nxS b L s).1 7 = nI k := by
  have e6 : nextR b L s.1 6 = nI 27 := e6
  show ∃ k, _ ∧ nextR b L s.1 7 = nI k
  unfold nextR at e6 ⊢
  generalize skipB b (L - (s.1 4).toNatClampNeg) (s.1 4).toNatClampNeg = p at *
  generalize (s.1 4).toNatClampNeg = a at *
  unfold nextS at e6 ⊢
  by_cases c : L ≤ p
  · rw [if_pos c, upd_same] at e6
    exact absurd e6 (by decide)
  rw [if_neg c] at e6 ⊢
  by_cases c2 : (¬ s.1 10 = 0 ∧ p = a) ∧ ¬ tokR b L p (upd (frsF s.1 p) 10 (nI 1)) 10 = 0
  · rw [if_pos c2, upd_ne (by omega), upd_same] at e6
    exact absurd e6 (by decide)
  rw [if_neg c2] at e6 ⊢
  clear c2
  generalize upd (frsF s.1 p) 10 (nI 1) = F at *
  unfold tokR at e6 ⊢
  by_cases c3 : isLet (b p)
  · exfalso
    rw [if_pos c3] at e6
    unfold wordR at e6
    try dsimp only at e6
    obtain ⟨k, hk, ek⟩ := kd_fo (W := (wdL b p (L - p) p (lN 0)).2) 26 0 (nI 26) (by omega) ⟨26, by omega, rfl⟩
    have ek : kdM (wdL b p (L - p) p (lN 0)).2 = nI k := ek
    by_cases c4 : kdM (wdL b p (L - p) p (lN 0)).2 = nI 26 ∧ 6 < (wdL b p (L - p) p (lN 0)).1 - p
    · rw [if_pos c4, upd_ne (by omega), upd_same] at e6
      exact absurd e6 (by decide)
    · rw [if_neg c4, upd_same, ek] at e6
      have := (nI_eq (by omega) (by omega)).mp e6
      omega
  rw [if_neg c3] at e6 ⊢
  by_cases c4 : isDig (b p)
  · rw [if_pos c4] at e6 ⊢
    unfold digR at e6 ⊢
    try dsimp only at e6 ⊢
    by_cases c5 : 4 < (dgL b p (L - p) p (nI 0)).1 - p
    · rw [if_pos c5, upd_ne (by omega), upd_same] at e6
      exact absurd e6 (by decide)
    · rw [if_neg c5, upd_ne (by omega), upd_ne (by omega), upd_same]
      exact dg_val (L - p) p 0 (Nat.le_refl _) (by omega) (by omega) (by omega) (by omega) (by omega)
  · exfalso
    rw [if_neg c4] at e6
    unfold sgnR at e6
    rw [upd_ne (by omega), upd_ne (by omega), upd_same] at e6
    obtain ⟨k, hk, -, ek⟩ := by_form (b p)
    rw [ek, nI_add] at e6
    have := (nI_eq (by omega) (by omega)).mp e6
    omega
end NUMV
