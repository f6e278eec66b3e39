/-! the reference's layer and the class's State: the same as far as it shows -/
def SEq (C : PC) (s t : PS) : Prop := ∃ (pu ke : Nat → Int32) (b x : Int32), t = mkS s.day s.knows pu s.till s.valid ke s.keeps b x ∧ (∀ i, i < C.np → pu i = s.purse i) ∧ ∀ k, k < s.keeps.toNatClampNeg → ke k = s.kept k
/-- with its breaches, where they were counted anew -/
def SEqB (p : Prop) (C : PC) (s t : PS) : Prop := SEq C s t ∧ (p → t.brs = s.brs ∧ (¬ s.brs = 0 → t.first = s.first))
section SEQ
variable {p : Prop} {C : PC} {s t : PS} {D m : Nat}
theorem se_day (e : SEq C s t) : t.day = s.day := by
  obtain ⟨_, _, _, _, rfl, _⟩ := e
  rfl
theorem se_knows (e : SEq C s t) : t.knows = s.knows := by
  obtain ⟨_, _, _, _, rfl, _⟩ := e
  rfl
theorem se_valid (e : SEq C s t) : t.valid = s.valid := by
  obtain ⟨_, _, _, _, rfl, _⟩ := e
  rfl
theorem se_till (e : SEq C s t) : t.till = s.till := by
  obtain ⟨_, _, _, _, rfl, _⟩ := e
  rfl
theorem se_keeps (e : SEq C s t) : t.keeps = s.keeps := by
  obtain ⟨_, _, _, _, rfl, _⟩ := e
  rfl
theorem se_purse {i : Nat} (e : SEq C s t) (hi : i < C.np) : t.purse i = s.purse i := by
  obtain ⟨_, _, _, _, rfl, h, _⟩ := e
  exact h i hi
theorem se_kept {k n : Nat} (e : SEq C s t) (en : s.keeps = nI n) (hn : n ≤ 40) (hk : k < n) : t.kept k = s.kept k := by
  obtain ⟨_, _, _, _, rfl, _, h⟩ := e
  exact h k (by rw [en, nI_clamp (by omega)]; exact hk)
theorem SEq_refl : SEq C s s := ⟨s.purse, s.kept, s.brs, s.first, rfl, fun _ _ => rfl, fun _ _ => rfl⟩
theorem SI_seq {M b : Nat} (hs : SI C D M s) (e : SEq C s t) (eb : t.brs = nI b) (hb : b ≤ m) : SI C D m t := by
  obtain ⟨h0, h1, h2, h3, h4, h5, h6⟩ := hs
  obtain ⟨_, _, _, _, rfl, _⟩ := e
  exact ⟨h0, h1, h2, h3, h4, ⟨b, hb, eb⟩, h6⟩
theorem SEqB_keep {b : Int32} (hk : KB s) (e : SEqB p C s t) : SEqB p C (keepP s b) (keepP t b) := by
  obtain ⟨n, hn, en⟩ := hk
  obtain ⟨⟨pu, ke, b0, x0, rfl, e1, e2⟩, e3⟩ := e
  rw [en, nI_clamp (by omega)] at e2
  refine ⟨?_, fun hp => ?_⟩
  · by_cases c : n = 40
    · subst c
      have k1 : ∀ u : PS, u.keeps = nI 40 → keepP u b = (mkS (keep1 u b).day (keep1 u b).knows (keep1 u b).purse (keep1 u b).till (keep1 u b).valid (upd (va_cpy (keep1 u b).kept (keep1 u b).kept 1 0 39) 39 b) (nI 40) ((keep1 u b).brs + nI 1) (keep1 u b).first) := fun u hu => if_pos (by
        unfold keep1
        split
        · exact hu
        · exact hu)
      have k2 : ∀ u : PS, (keep1 u b).day = u.day ∧ (keep1 u b).knows = u.knows ∧ (keep1 u b).purse = u.purse ∧ (keep1 u b).till = u.till ∧ (keep1 u b).valid = u.valid ∧ (keep1 u b).kept = u.kept := fun u => by
        unfold keep1
        split <;> exact ⟨rfl, rfl, rfl, rfl, rfl, rfl⟩
      rw [k1 s en, k1 (mkS s.day s.knows pu s.till s.valid ke s.keeps b0 x0) en]
      obtain ⟨a1, a2, a3, a4, a5, a6⟩ := k2 s
      obtain ⟨c1, c2, c3, c4, c5, c6⟩ := k2 (mkS s.day s.knows pu s.till s.valid ke s.keeps b0 x0)
      refine ⟨pu, upd (va_cpy ke ke 1 0 39) 39 b, _, _, by rw [c1, c2, c3, c4, c5, c6, a1, a2, a4, a5]; rfl, fun i hi => ?_, fun k hk => ?_⟩
      · show pu i = (keep1 s b).purse i
        rw [a3]
        exact e1 i hi
      · have hk : k < 40 := by
          have : (nI 40).toNatClampNeg = 40 := nI_clamp (by omega)
          rw [← this]
          exact hk
        show upd (va_cpy ke ke 1 0 39) 39 b k = upd (va_cpy (keep1 s b).kept (keep1 s b).kept 1 0 39) 39 b k
        rw [a6, upd_a, upd_a]
        by_cases c : k = 39
        · rw [if_pos c, if_pos c]
        · rw [if_neg c, if_neg c, va_cpy_a, va_cpy_a, if_pos (by omega), if_pos (by omega)]
          exact e2 _ (by omega)
    · have ne : ∀ u : PS, u.keeps = nI n → ¬ (keep1 u b).keeps = nI 40 := fun u hu z => by
        have : (keep1 u b).keeps = u.keeps := by
          unfold keep1
          split <;> rfl
        rw [this, hu, nI_eq (by omega) (by omega)] at z
        exact c z
      have k1 : ∀ u : PS, u.keeps = nI n → keepP u b = (mkS (keep1 u b).day (keep1 u b).knows (keep1 u b).purse (keep1 u b).till (keep1 u b).valid (upd (keep1 u b).kept (keep1 u b).keeps.toNatClampNeg b) ((keep1 u b).keeps + nI 1) ((keep1 u b).brs + nI 1) (keep1 u b).first) := fun u hu => if_neg (ne u hu)
      have k2 : ∀ u : PS, (keep1 u b).day = u.day ∧ (keep1 u b).knows = u.knows ∧ (keep1 u b).purse = u.purse ∧ (keep1 u b).till = u.till ∧ (keep1 u b).valid = u.valid ∧ (keep1 u b).kept = u.kept ∧ (keep1 u b).keeps = u.keeps := fun u => by
        unfold keep1
        split <;> exact ⟨rfl, rfl, rfl, rfl, rfl, rfl, rfl⟩
      rw [k1 s en, k1 (mkS s.day s.knows pu s.till s.valid ke s.keeps b0 x0) en]
      obtain ⟨a1, a2, a3, a4, a5, a6, a7⟩ := k2 s
      obtain ⟨c1, c2, c3, c4, c5, c6, c7⟩ := k2 (mkS s.day s.knows pu s.till s.valid ke s.keeps b0 x0)
      refine ⟨pu, upd ke n b, _, _, by rw [c1, c2, c3, c4, c5, c6, c7, a1, a2, a4, a5, a7, show (mkS s.day s.knows pu s.till s.valid ke s.keeps b0 x0).keeps = nI n from en, en, nI_clamp (by omega)]; rfl, fun i hi => ?_, fun k hk => ?_⟩
      · show pu i = (keep1 s b).purse i
        rw [a3]
        exact e1 i hi
      · have hk : k < n + 1 := by
          have h1 : ((keep1 s b).keeps + nI 1).toNatClampNeg = n + 1 := by
            rw [a7, en, nI_add, nI_clamp (by omega)]
          rw [← h1]
          exact hk
        show upd ke n b k = upd (keep1 s b).kept (keep1 s b).keeps.toNatClampNeg b k
        rw [a6, a7, en, nI_clamp (by omega), upd_a, upd_a]
        by_cases c : k = n
        · rw [if_pos c, if_pos c]
        · rw [if_neg c, if_neg c]
          exact e2 _ (by omega)
  · obtain ⟨f1, f2⟩ := e3 hp
    have kb : ∀ u : PS, (keepP u b).brs = u.brs + nI 1 := fun u => keep_same.2.2.2.2.2
    have kf : ∀ u : PS, (keepP u b).first = if u.brs = 0 then b else u.first := fun u => by
      unfold keepP keep2 keep1
      by_cases c : u.brs = 0
      · rw [if_pos c, if_pos c]
        split <;> rfl
      · rw [if_neg c, if_neg c]
        split <;> rfl
    refine ⟨by rw [kb, kb, f1], fun _ => ?_⟩
    rw [kf, kf, f1]
    by_cases c : s.brs = 0
    · rw [if_pos c, if_pos c]
    · rw [if_neg c, if_neg c]
      exact f2 c
theorem SEqB_setK {i : Nat} {x : Int32} (e : SEqB p C s t) : SEqB p C (setKn s i x) (setKn t i x) := by
  obtain ⟨⟨pu, ke, b0, x0, rfl, e1, e2⟩, e3⟩ := e
  exact ⟨⟨pu, ke, b0, x0, rfl, e1, e2⟩, e3⟩
theorem SEqB_infer {i g r : Nat} (hk : KB s) (e : SEqB p C s t) : SEqB p C (inferP s i g r) (inferP t i g r) := by
  rw [infer_alt, infer_alt, se_valid e.1, se_knows e.1, se_day e.1]
  have e' : SEqB p C (setKn s i (s.knows i ||| bt (nI g))) (setKn t i (s.knows i ||| bt (nI g))) := SEqB_setK e
  have et : (mkS t.day (upd s.knows i (s.knows i ||| bt (nI g))) t.purse t.till t.valid t.kept t.keeps t.brs t.first) = setKn t i (s.knows i ||| bt (nI g)) := by
    unfold setKn
    rw [se_knows e.1]
  rw [se_day e.1, se_valid e.1] at et
  split
  · rw [et]
    exact SEqB_keep (s := setKn s i (s.knows i ||| bt (nI g))) hk e'
  · rw [et]
    exact e'
theorem SEqB_inrF {i r : Nat} (hk : KB s) (e : SEqB p C s t) : SEqB p C (inrF C i r s) (inrF C i r t) := by
  unfold inrF
  rw [se_knows e.1]
  split
  · exact SEqB_infer hk e
  · exact e
theorem SEqB_foN {F : Nat → PS → PS} {n : Nat} (hF : ∀ i s t, i < n → KB s → SEqB p C s t → SEqB p C (F i s) (F i t)) (hK : ∀ i s, KB s → KB (F i s)) : ∀ (k i : Nat) (s t : PS), i + k ≤ n → KB s → SEqB p C s t → SEqB p C (foN F i k s) (foN F i k t)
  | 0, _, _, _, _, _, e => e
  | k + 1, i, s, t, hi, hk, e => SEqB_foN hF hK k (i + 1) (F i s) (F i t) (by omega) (hK i s hk) (hF i s t (by omega) hk e)
theorem SEqB_inf {i : Nat} : ∀ (q : Nat) (s t : PS), KB s → SEqB p C s t → SEqB p C (infM C i q s) (infM C i q t)
  | 0, _, _, _, e => e
  | q + 1, s, t, hk, e => by
    have e1 : SEqB p C (inrM C i s) (inrM C i t) := by
      unfold inrM
      exact SEqB_foN (F := inrF C i) (n := C.nr) (fun _ _ _ _ hk e => SEqB_inrF hk e) KB_inrF C.nr 0 s t (by omega) hk e
    have hk1 : KB (inrM C i s) := by
      unfold inrM
      exact KB_foN KB_inrF _ _ _ hk
    unfold infM
    rw [se_knows e1.1, se_knows e.1]
    split
    · exact e1
    · exact SEqB_inf q _ _ hk1 e1
theorem SEqB_meet {i j : Nat} (hk : KB s) (e : SEqB p C s t) : SEqB p C (meetP C s i j) (meetP C t i j) := by
  have et : tellP C t i j = tellP C s i j := by
    obtain ⟨⟨pu, ke, b0, x0, rfl, e1, e2⟩, e3⟩ := e
    rfl
  have e' : SEqB p C (setKn s j (s.knows j ||| tellP C s i j)) (setKn t j (s.knows j ||| tellP C s i j)) := SEqB_setK e
  have := SEqB_inf (i := j) 12 _ _ (show KB (setKn s j (s.knows j ||| tellP C s i j)) from hk) e'
  have e4 : meetP C t i j = infM C j 12 (setKn t j (s.knows j ||| tellP C s i j)) := by
    show infM C j 12 (setKn t j (t.knows j ||| tellP C t i j)) = _
    rw [et, se_knows e.1]
  rw [e4]
  exact this
theorem SEqB_meetF {dow : Int32} : ∀ (k : Nat) (s t : PS), KB s → SEqB p C s t → SEqB p C (meetF C dow k s) (meetF C dow k t) := fun k s t hk e => by
  unfold meetF
  split
  · exact SEqB_meet hk e
  · exact e
/-- what a DAY brings behind its dawn -/
def dayP (C : PC) (s : PS) : PS := meetAllP C (inferAllP C (hearAllP C s))
theorem SEqB_hear1 {com : Int32} {i : Nat} (e : SEqB p C s t) : SEqB p C (hear1 com i s) (hear1 com i t) := by
  unfold hear1
  rw [se_knows e.1, se_valid e.1]
  exact SEqB_setK e
theorem KB_setKn {i : Nat} {x : Int32} (h : KB s) : KB (setKn s i x) := h
theorem SEqB_dayP (hk : KB s) (e : SEqB p C s t) : SEqB p C (dayP C s) (dayP C t) := by
  have e1 : SEqB p C (inferAllP C (hearAllP C s)) (inferAllP C (hearAllP C t)) := by
    rw [← dawn_eq, ← dawn_eq, show comP C t = comP C s by unfold comP; rw [se_day e.1]]
    exact SEqB_foN (F := fun p t => infM C p 12 (hear1 (comP C s) p t)) (n := C.np) (fun i s t _ hk e => SEqB_inf 12 _ _ (KB_setKn hk) (SEqB_hear1 e)) (fun i s hk => KB_inf _ _ (KB_setKn hk)) C.np 0 s t (by omega) hk e
  have hk1 : KB (inferAllP C (hearAllP C s)) := KB_inferAll hk
  unfold dayP meetAllP
  rw [show dowP (inferAllP C (hearAllP C t)) = dowP (inferAllP C (hearAllP C s)) by unfold dowP; rw [se_day e1.1]]
  exact SEqB_foN (n := C.nm) (fun i s t _ hk e => SEqB_meetF i s t hk e) KB_meetF C.nm 0 _ _ (by omega) hk1 e1
theorem SEqB_dawn (e : SEqB p C s t) : SEqB p C (dawnP s) (dawnP t) := by
  obtain ⟨⟨pu, ke, b0, x0, rfl, e1, e2⟩, e3⟩ := e
  exact ⟨⟨pu, ke, b0, x0, rfl, e1, e2⟩, e3⟩
theorem SEqB_next (hk : KB s) (e : SEqB p C s t) : SEqB p C (nextP C s) (nextP C t) := SEqB_dayP (s := dawnP s) (t := dawnP t) hk (SEqB_dawn e)
theorem SEqB_hear {i k : Nat} (hk : KB s) (e : SEqB p C s t) : SEqB p C (hearP C s i k) (hearP C t i k) := by
  have e' : SEqB p C (setKn s i (s.knows i ||| bt (nI k))) (setKn t i (s.knows i ||| bt (nI k))) := SEqB_setK e
  have := SEqB_inf (i := i) 12 _ _ (KB_setKn hk) e'
  have e4 : hearP C t i k = infM C i 12 (setKn t i (s.knows i ||| bt (nI k))) := by
    show infM C i 12 (setKn t i (t.knows i ||| bt (nI k))) = _
    rw [se_knows e.1]
  rw [e4]
  exact this
end SEQ
