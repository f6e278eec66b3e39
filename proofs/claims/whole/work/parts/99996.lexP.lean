/-! the reference's frames, operators and codes, where they lie -/
def rdX (ik c0 b j : Nat) : Prop := pxX b j ∨ (b = 174 ∧ (j = 38 ∨ j = 45 ∨ j = 46 ∨ j = 48 ∨ j = 49)) ∨ (200 ≤ b ∧ b ≤ 205) ∨ ((b = 196 ∨ b = 197) ∧ 1600 * ik + c0 ≤ j ∧ j < 1600 * ik + 1600)
def opsAt (h : AH) (m : Nat) : List Nat → Prop
  | [] => True
  | o :: r => (hI h 205 (m + r.length) = nI o ∧ 10 ≤ o ∧ o ≤ 22) ∧ opsAt h m r
def topAt (h : AH) (n m k p : Nat) (g : Bool) (q : Nat) (os : List Nat) : Prop := (hI h 200 n = nI k ∧ k ≤ 5) ∧ (hI h 201 n = nI p ∧ p ≤ 2) ∧ hI h 202 n = bI g ∧ ((k = 3 ∨ k = 4) → hI h 203 n = nI q ∧ 10 ≤ q ∧ q ≤ 22) ∧ hI h 204 n = nI m ∧ opsAt h m os
def frsAt (h : AH) : List FR → Prop
  | [] => True
  | f :: r => topAt h r.length (totO r) f.1 f.2.1 f.2.2.1 f.2.2.2.1 f.2.2.2.2 ∧ frsAt h r
def npr : List FR → Nat
  | [] => 0
  | f :: r => npr r + (if f.1 = 3 ∨ f.1 = 4 then 1 else 0)
def cdsAt (h : AH) (ik c0 : Nat) (cs : CL3) : Prop := ∀ i x, cs[i]? = some x → x.1 ≤ 22 ∧ hI h 196 (1600 * ik + c0 + i) = nI x.1 ∧ (x.1 = 0 → hI h 197 (1600 * ik + c0 + i) = x.2)
def CT (h0 : AH) (b : Nat → Int32) (L ik : Nat) : Prop := MoAt h0 ∧ TpB h0 b L ∧ L ≤ 1600 ∧ hI h0 174 39 = nI ik ∧ ik < 2
def HD (h0 : AH) (b : Nat → Int32) (L ik c0 e : Nat) (w : Int32) (h : AH) (s : RS) (fs : List FR) (cs : CL3) (u : Nat) : Prop :=
  Agm (rdX ik c0) h0 h ∧ Px h b L (true, s) ∧ frsAt h fs ∧ (hI h 174 45 = nI fs.length ∧ hI h 174 48 = nI (totO fs) ∧ hI h 174 38 = nI (c0 + cs.length) ∧ hI h 174 46 = nI u ∧ hI h 174 49 = w) ∧ cdsAt h ik c0 cs ∧ ∃ st, s.1 8 = nI st ∧ st ≤ L ∧ c0 + cs.length + totO fs + npr fs ≤ st + e
def FltH (h0 : AH) (ik c0 : Nat) (h : AH) (k p : Int32) : Prop := Agm (rdX ik c0) h0 h ∧ hI h 174 8 = k ∧ hI h 174 9 = p ∧ ∃ j, 0 < j ∧ j < 7 ∧ k = nI j
def cuX (n m b j : Nat) : Prop := (200 ≤ b ∧ b ≤ 204 ∧ j < n) ∨ (b = 205 ∧ j < m)
section FRA
variable {h h' : AH} {X : Nat → Nat → Prop}
theorem ops_agm {m n : Nat} (hX : ∀ j, X 205 j → ¬ j < n) (a : Agm X h h') : ∀ {os : List Nat}, m + os.length ≤ n → opsAt h m os → opsAt h' m os
  | [], _, _ => trivial
  | o :: r, hn, H => by
    rw [List.length_cons] at hn
    exact ⟨⟨(Agm_I a (fun z => hX _ z (by omega))).trans H.1.1, H.1.2⟩, ops_agm hX a (by omega) H.2⟩
theorem top_agm {n m k p q : Nat} {g : Bool} {os : List Nat} (hX : ∀ b j, X b j → ¬ cuX (n + 1) (m + os.length) b j) (a : Agm X h h') (H : topAt h n m k p g q os) : topAt h' n m k p g q os := by
  have e : ∀ b, 200 ≤ b → b ≤ 204 → hI h' b n = hI h b n := fun b h1 h2 => Agm_I a (fun z => hX _ _ z (Or.inl ⟨h1, h2, by omega⟩))
  obtain ⟨h1, h2, h3, h4, h5, h6⟩ := H
  refine ⟨?_, ?_, ?_, ?_, ?_, ops_agm (n := m + os.length) (fun j z y => hX _ _ z (Or.inr ⟨rfl, y⟩)) a (Nat.le_refl _) h6⟩
  · rw [e 200 (by omega) (by omega)]
    exact h1
  · rw [e 201 (by omega) (by omega)]
    exact h2
  · rw [e 202 (by omega) (by omega)]
    exact h3
  · rw [e 203 (by omega) (by omega)]
    exact h4
  · rw [e 204 (by omega) (by omega)]
    exact h5
theorem fr_agm (a : Agm X h h') : ∀ {fs : List FR}, (∀ b j, X b j → ¬ cuX fs.length (totO fs) b j) → frsAt h fs → frsAt h' fs
  | [], _, _ => trivial
  | f :: r, hX, H => ⟨top_agm hX a H.1, fr_agm a (fun b j z y => hX b j z (by
      show cuX (r.length + 1) (totO r + f.2.2.2.2.length) b j
      unfold cuX at y ⊢
      omega)) H.2⟩
theorem cds_agm {ik c0 : Nat} {cs : CL3} (hX : ∀ b j, X b j → ¬ ((b = 196 ∨ b = 197) ∧ j < 1600 * ik + c0 + cs.length)) (a : Agm X h h') (H : cdsAt h ik c0 cs) : cdsAt h' ik c0 cs := fun i x hx => by
  have hi : i < cs.length := by
    rcases Nat.lt_or_ge i cs.length with z | z
    · exact z
    · rw [List.getElem?_eq_none z] at hx
      cases hx
  rw [Agm_I a (fun z => hX _ _ z ⟨Or.inl rfl, by omega⟩), Agm_I a (fun z => hX _ _ z ⟨Or.inr rfl, by omega⟩)]
  exact H i x hx
theorem ops_all {m j : Nat} : ∀ {os : List Nat}, opsAt h m os → m ≤ j → j < m + os.length → ∃ x, hI h 205 j = nI x ∧ 10 ≤ x ∧ x ≤ 22
  | [], _, h1, h2 => by
    exfalso
    have : j < m + 0 := h2
    omega
  | o :: r, H, h1, h2 => by
    rw [List.length_cons] at h2
    by_cases c : j = m + r.length
    · rw [c]
      exact ⟨o, H.1⟩
    · exact ops_all H.2 h1 (by omega)
theorem fr_all {j : Nat} : ∀ {fs : List FR}, frsAt h fs → j < totO fs → ∃ x, hI h 205 j = nI x ∧ 10 ≤ x ∧ x ≤ 22
  | [], _, hj => absurd hj (Nat.not_lt_zero _)
  | f :: r, H, hj => by
    have hj : j < totO r + f.2.2.2.2.length := hj
    by_cases c : j < totO r
    · exact fr_all H.2 c
    · exact ops_all H.1.2.2.2.2.2 (by omega) hj
end FRA
section HDL
variable {h0 h h' : AH} {b : Nat → Int32} {L ik c0 e e' u k p q n : Nat} {w : Int32} {s : RS} {g : Bool} {os : List Nat} {fs fs' : List FR} {cs cs' : CL3} {X : Nat → Nat → Prop}
theorem HD_up {w' : Int32} {u' : Nat} (hH : HD h0 b L ik c0 e w h s fs cs u) (a : Agm X h h') (hX : ∀ b j, X b j → rdX ik c0 b j ∧ ¬ (b = 174 ∧ 2 ≤ j ∧ j ≤ 12) ∧ ¬ b = 175) (hf : frsAt h' fs') (h5 : hI h' 174 45 = nI fs'.length ∧ hI h' 174 48 = nI (totO fs') ∧ hI h' 174 38 = nI (c0 + cs'.length) ∧ hI h' 174 46 = nI u' ∧ hI h' 174 49 = w') (hc : cdsAt h' ik c0 cs') (hp : cs'.length + totO fs' + npr fs' + e ≤ cs.length + totO fs + npr fs + e') : HD h0 b L ik c0 e' w' h' s fs' cs' u' := by
  obtain ⟨ag, px, -, -, -, st, g8, gL, pot⟩ := hH
  exact ⟨Agm_trans ag (Agm_sub (fun b j z => (hX b j z).1) a), Px_agm (fun b j z => (hX b j z).2) a px, hf, h5, hc, st, g8, gL, by omega⟩
theorem HD_M (hC : CT h0 b L ik) (hH : HD h0 b L ik c0 e w h s fs cs u) : MoAt h := Mo_agm hH.1 hC.1
theorem HD_T (hC : CT h0 b L ik) (hH : HD h0 b L ik c0 e w h s fs cs u) : TpB h b L := T_agm (fun b j z => by unfold rdX pxX at z; omega) hH.1 hC.2.1
theorem HD_39 (hC : CT h0 b L ik) (hH : HD h0 b L ik c0 e w h s fs cs u) : hI h 174 39 = nI ik := (Agm_I hH.1 (by unfold rdX pxX; omega)).trans hC.2.2.2.1
theorem HD_lt (hC : CT h0 b L ik) (hH : HD h0 b L ik c0 e w h s fs cs u) : c0 + cs.length + totO fs + npr fs ≤ 1600 + e ∧ ∃ st, s.1 8 = nI st ∧ st ≤ 1600 := by
  obtain ⟨-, -, -, -, -, st, g8, gL, pot⟩ := hH
  have := hC.2.2.1
  exact ⟨by omega, st, g8, by omega⟩
theorem HD_cs {s' : RS} (hj : ∀ j, j ≤ 10 → s'.1 j = s.1 j) (hH : HD h0 b L ik c0 e w h s fs cs u) : HD h0 b L ik c0 e w h s' fs cs u := by
  obtain ⟨ag, px, h3, h4, h5, st, g8, gL, pot⟩ := hH
  exact ⟨ag, Px_c hj px, h3, h4, h5, st, (hj 8 (by omega)).trans g8, gL, pot⟩
theorem HD_sp (hC : CT h0 b L ik) (hH : HD h0 b L ik c0 e w h s fs cs u) (hk : ¬ s.1 6 = nI 28) : c0 + cs.length + totO fs + npr fs < 1600 + e := by
  obtain ⟨-, px, -, -, -, st, g8, gL, pot⟩ := hH
  have := hC.2.2.1
  rcases px with ⟨-, ⟨st', a, -, g8', -, h1, h2, -, -, -, -, ht⟩, -⟩ | ⟨z, -⟩
  · have := (ht hk).1
    have : st = st' := (nI_eq (by omega) (by omega)).mp (g8.symm.trans g8')
    omega
  · cases z
theorem HD_ahead (hC : CT h0 b L ik) (hH : HD h0 b L ik c0 (e + 1) w h s fs cs u) (hk : ¬ s.1 6 = nI 28) (a : Agm pxX h h') (px' : Px h' b L (true, nxS b L s)) : HD h0 b L ik c0 e w h' (nxS b L s) fs cs u := by
  obtain ⟨ag, px, hf, ⟨h45, h48, h38, h46, h49⟩, hc, st, g8, gL, pot⟩ := hH
  have hLe := hC.2.2.1
  have e1 : ∀ j, 12 < j → hI h' 174 j = hI h 174 j := fun j hj => Agm_I a (by unfold pxX; omega)
  have : ∃ st', (nxS b L s).1 8 = nI st' ∧ st < st' ∧ st' ≤ L := by
    rcases px with ⟨-, ⟨st0, p, -, g80, e4, h1, h2, -, -, -, -, ht⟩, -⟩ | ⟨z, -⟩
    · have hlt := (ht hk).1
      have : st = st0 := (nI_eq (by omega) (by omega)).mp (g8.symm.trans g80)
      obtain ⟨st', a', q1, q2, q3, q4, q5, -⟩ := nextR_st (b := b) e4 h2 hLe
      exact ⟨st', q1, by omega, by omega⟩
    · cases z
  obtain ⟨st', q1, q2, q3⟩ := this
  exact ⟨Agm_trans ag (Agm_sub (fun b j z => Or.inl z) a), px', fr_agm a (fun b j z y => by unfold pxX at z; unfold cuX at y; omega) hf, ⟨(e1 45 (by omega)).trans h45, (e1 48 (by omega)).trans h48, (e1 38 (by omega)).trans h38, (e1 46 (by omega)).trans h46, (e1 49 (by omega)).trans h49⟩, cds_agm (fun b j z y => by unfold pxX at z; omega) a hc, st', q1, q3, by omega⟩
theorem HD_u {u' : Nat} (hH : HD h0 b L ik c0 e w h s fs cs u) : HD h0 b L ik c0 e w (sI h 174 46 (nI u')) s fs cs u' := by
  have hH' := hH
  obtain ⟨ag, px, hf, ⟨h45, h48, h38, h46, h49⟩, hc, -⟩ := hH
  have a : Agm (fun b j => b = 174 ∧ j = 46) h (sI h 174 46 (nI u')) := Agm_sI ⟨rfl, rfl⟩
  exact HD_up hH' a (fun b j z => ⟨by unfold rdX pxX; omega, by omega, by omega⟩) (fr_agm a (fun b j z y => by unfold cuX at y; omega) hf) ⟨h45, h48, h38, rfl, h49⟩ (cds_agm (fun b j z y => by omega) a hc) (Nat.le_refl _)
theorem HD_w {w' : Int32} (hH : HD h0 b L ik c0 e w h s fs cs u) : HD h0 b L ik c0 e w' (sI h 174 49 w') s fs cs u := by
  have hH' := hH
  obtain ⟨ag, px, hf, ⟨h45, h48, h38, h46, h49⟩, hc, -⟩ := hH
  have a : Agm (fun b j => b = 174 ∧ j = 49) h (sI h 174 49 w') := Agm_sI ⟨rfl, rfl⟩
  exact HD_up hH' a (fun b j z => ⟨by unfold rdX pxX; omega, by omega, by omega⟩) (fr_agm a (fun b j z y => by unfold cuX at y; omega) hf) ⟨h45, h48, h38, h46, rfl⟩ (cds_agm (fun b j z y => by omega) a hc) (Nat.le_refl _)
theorem HD_push {o : Nat} (ho : 10 ≤ o ∧ o ≤ 22) (hH : HD h0 b L ik c0 e w h s ((k, p, g, q, os) :: fs) cs u) : HD h0 b L ik c0 (e + 1) w (sI (sI h 205 (totO fs + os.length) (nI o)) 174 48 (nI (totO fs + os.length + 1))) s ((k, p, g, q, o :: os) :: fs) cs u := by
  have hH' := hH
  obtain ⟨ag, px, ⟨ht, hf⟩, ⟨h45, h48, h38, h46, h49⟩, hc, -⟩ := hH
  have a : Agm (fun b j => (b = 205 ∧ j = totO fs + os.length) ∨ (b = 174 ∧ j = 48)) h (sI (sI h 205 (totO fs + os.length) (nI o)) 174 48 (nI (totO fs + os.length + 1))) := Agm_trans (Agm_sI (Or.inl ⟨rfl, rfl⟩)) (Agm_sI (Or.inr ⟨rfl, rfl⟩))
  have ht2 := top_agm (fun b j z y => by
    unfold cuX at y
    try dsimp only at y
    omega) a ht
  obtain ⟨t1, t2, t3, t4, t5, t6⟩ := ht2
  refine HD_up hH' a (fun b j z => ⟨by unfold rdX pxX; omega, by omega, by omega⟩) ⟨⟨t1, t2, t3, t4, t5, ⟨?_, ho⟩, t6⟩, fr_agm a (fun b j z y => by unfold cuX at y; omega) hf⟩ ⟨h45, rfl, h38, h46, h49⟩ (cds_agm (fun b j z y => by omega) a hc) ?_
  · show hI (sI (sI h 205 (totO fs + os.length) (nI o)) 174 48 (nI (totO fs + os.length + 1))) 205 (totO fs + os.length) = nI o
    rw [hI_sI, if_neg (by omega), hI_sI, if_pos ⟨rfl, rfl⟩]
  · show cs.length + (totO fs + (os.length + 1)) + npr ((k, p, g, q, o :: os) :: fs) + e ≤ cs.length + (totO fs + os.length) + npr ((k, p, g, q, os) :: fs) + (e + 1)
    have : npr ((k, p, g, q, o :: os) :: fs) = npr ((k, p, g, q, os) :: fs) := rfl
    omega
theorem HD_code {so : Nat} {va y : Int32} (hso : so ≤ 22) (hva : so = 0 → y = va) (hn : c0 + cs.length < 1600) (hH : HD h0 b L ik c0 e w h s fs cs u) : HD h0 b L ik c0 (e + 1) w (sI (sI (sI h 196 (1600 * ik + (c0 + cs.length)) (nI so)) 197 (1600 * ik + (c0 + cs.length)) y) 174 38 (nI (c0 + cs.length + 1))) s fs (cs ++ [(so, va)]) u := by
  have hH' := hH
  obtain ⟨ag, px, hf, ⟨h45, h48, h38, h46, h49⟩, hc, -⟩ := hH
  have a : Agm (fun b j => ((b = 196 ∨ b = 197) ∧ j = 1600 * ik + (c0 + cs.length)) ∨ (b = 174 ∧ j = 38)) h (sI (sI (sI h 196 (1600 * ik + (c0 + cs.length)) (nI so)) 197 (1600 * ik + (c0 + cs.length)) y) 174 38 (nI (c0 + cs.length + 1))) := Agm_trans (Agm_trans (Agm_sI (Or.inl ⟨Or.inl rfl, rfl⟩)) (Agm_sI (Or.inl ⟨Or.inr rfl, rfl⟩))) (Agm_sI (Or.inr ⟨rfl, rfl⟩))
  refine HD_up hH' a (fun b j z => ⟨by unfold rdX pxX; omega, by omega, by omega⟩) (fr_agm a (fun b j z y => by unfold cuX at y; omega) hf) ⟨h45, h48, ?_, h46, h49⟩ (fun i x hx => ?_) (by rw [List.length_append, List.length_singleton]; omega)
  · rw [List.length_append, List.length_singleton, ← Nat.add_assoc]
    rfl
  · have hc2 := cds_agm (fun b j z y => by omega) a hc
    by_cases c : i < cs.length
    · rw [List.getElem?_append_left c] at hx
      exact hc2 i x hx
    · rw [List.getElem?_append_right (by omega)] at hx
      by_cases c2 : i = cs.length
      · subst c2
        rw [Nat.sub_self] at hx
        obtain rfl : (so, va) = x := Option.some.inj hx
        rw [← Nat.add_assoc]
        refine ⟨hso, ?_, fun z => ?_⟩
        · rw [hI_sI, if_neg (by omega), hI_sI, if_neg (by omega), hI_sI, if_pos ⟨rfl, rfl⟩]
        · rw [hI_sI, if_neg (by omega), hI_sI, if_pos ⟨rfl, rfl⟩]
          exact hva z
      · obtain ⟨j, hj⟩ : ∃ j, i - cs.length = j + 1 := ⟨i - cs.length - 1, by omega⟩
        rw [hj] at hx
        cases hx
theorem HD_beg (hH : HD h0 b L ik c0 e w h s ((k, p, g, q, os) :: fs) cs u) {g' : Bool} : HD h0 b L ik c0 e w (sI h 202 fs.length (bI g')) s ((k, p, g', q, os) :: fs) cs u := by
  have hH' := hH
  obtain ⟨ag, px, ⟨ht, hf⟩, ⟨h45, h48, h38, h46, h49⟩, hc, -⟩ := hH
  have a : Agm (fun b j => b = 202 ∧ j = fs.length) h (sI h 202 fs.length (bI g')) := Agm_sI ⟨rfl, rfl⟩
  obtain ⟨t1, t2, t3, t4, t5, t6⟩ := ht
  exact HD_up hH' a (fun b j z => ⟨by unfold rdX pxX; omega, by omega, by omega⟩) ⟨⟨t1, t2, by rw [hI_sI, if_pos ⟨rfl, rfl⟩], t4, t5, ops_agm (n := totO fs + os.length) (fun j z y => by omega) a (Nat.le_refl _) t6⟩, fr_agm a (fun b j z y => by unfold cuX at y; omega) hf⟩ ⟨h45, h48, h38, h46, h49⟩ (cds_agm (fun b j z y => by omega) a hc) (Nat.le_refl _)
theorem HD_ph (hH : HD h0 b L ik c0 e w h s ((k, p, g, q, os) :: fs) cs u) {p' : Nat} (hp : p' ≤ 2) : HD h0 b L ik c0 e w (sI h 201 fs.length (nI p')) s ((k, p', g, q, os) :: fs) cs u := by
  have hH' := hH
  obtain ⟨ag, px, ⟨ht, hf⟩, ⟨h45, h48, h38, h46, h49⟩, hc, -⟩ := hH
  have a : Agm (fun b j => b = 201 ∧ j = fs.length) h (sI h 201 fs.length (nI p')) := Agm_sI ⟨rfl, rfl⟩
  obtain ⟨t1, t2, t3, t4, t5, t6⟩ := ht
  exact HD_up hH' a (fun b j z => ⟨by unfold rdX pxX; omega, by omega, by omega⟩) ⟨⟨t1, ⟨by rw [hI_sI, if_pos ⟨rfl, rfl⟩], hp⟩, t3, t4, t5, ops_agm (n := totO fs + os.length) (fun j z y => by omega) a (Nat.le_refl _) t6⟩, fr_agm a (fun b j z y => by unfold cuX at y; omega) hf⟩ ⟨h45, h48, h38, h46, h49⟩ (cds_agm (fun b j z y => by omega) a hc) (Nat.le_refl _)
theorem HD_34 (hH : HD h0 b L ik c0 e w h s ((3, p, g, q, os) :: fs) cs u) : HD h0 b L ik c0 e w (sI h 200 fs.length (nI 4)) s ((4, p, g, q, os) :: fs) cs u := by
  have hH' := hH
  obtain ⟨ag, px, ⟨ht, hf⟩, ⟨h45, h48, h38, h46, h49⟩, hc, -⟩ := hH
  have a : Agm (fun b j => b = 200 ∧ j = fs.length) h (sI h 200 fs.length (nI 4)) := Agm_sI ⟨rfl, rfl⟩
  obtain ⟨t1, t2, t3, t4, t5, t6⟩ := ht
  exact HD_up hH' a (fun b j z => ⟨by unfold rdX pxX; omega, by omega, by omega⟩) ⟨⟨⟨by rw [hI_sI, if_pos ⟨rfl, rfl⟩], (show 4 ≤ 5 by decide)⟩, t2, t3, fun _ => t4 (Or.inl rfl), t5, ops_agm (n := totO fs + os.length) (fun j z y => by omega) a (Nat.le_refl _) t6⟩, fr_agm a (fun b j z y => by unfold cuX at y; omega) hf⟩ ⟨h45, h48, h38, h46, h49⟩ (cds_agm (fun b j z y => by omega) a hc) (Nat.le_refl _)
def psH (h : AH) (n m kd : Nat) : AH := sI (sI (sI (sI (sI h 200 n (nI kd)) 201 n (nI 0)) 202 n (nI 1)) 204 n (nI m)) 174 45 (nI (n + 1))
theorem Ag_psH {m kd : Nat} : Agm (fun b j => (200 ≤ b ∧ b ≤ 204 ∧ j = n) ∨ (b = 174 ∧ j = 45)) h (psH h n m kd) := Agm_trans (Agm_trans (Agm_trans (Agm_trans (Agm_sI (Or.inl ⟨by omega, by omega, rfl⟩)) (Agm_sI (Or.inl ⟨by omega, by omega, rfl⟩))) (Agm_sI (Or.inl ⟨by omega, by omega, rfl⟩))) (Agm_sI (Or.inl ⟨by omega, by omega, rfl⟩))) (Agm_sI (Or.inr ⟨rfl, rfl⟩))
theorem HD_frame {kd pr : Nat} (hkd : kd ≤ 5 ∧ ¬ kd = 3 ∧ ¬ kd = 4) (hH : HD h0 b L ik c0 e w h s fs cs u) : HD h0 b L ik c0 e w (psH h fs.length (totO fs) kd) s ((kd, 0, true, pr, []) :: fs) cs u := by
  have hH' := hH
  obtain ⟨ag, px, hf, ⟨h45, h48, h38, h46, h49⟩, hc, -⟩ := hH
  have a := Ag_psH (h := h) (n := fs.length) (m := totO fs) (kd := kd)
  refine HD_up hH' a (fun b j z => ⟨by unfold rdX pxX; omega, by omega, by omega⟩) ⟨⟨⟨?_, by show kd ≤ 5; omega⟩, ⟨?_, by show 0 ≤ 2; omega⟩, ?_, fun z => by have z : kd = 3 ∨ kd = 4 := z; omega, ?_, trivial⟩, fr_agm a (fun b j z y => by unfold cuX at y; omega) hf⟩ ⟨rfl, h48, h38, h46, h49⟩ (cds_agm (fun b j z y => by omega) a hc) (by
    show cs.length + (totO fs + 0) + (npr fs + (if kd = 3 ∨ kd = 4 then 1 else 0)) + e ≤ _
    rw [if_neg (by omega)]
    omega)
  · show hI (psH h fs.length (totO fs) kd) 200 fs.length = nI kd
    unfold psH
    simp [hI_sI]
  · show hI (psH h fs.length (totO fs) kd) 201 fs.length = nI 0
    unfold psH
    simp [hI_sI]
  · show hI (psH h fs.length (totO fs) kd) 202 fs.length = nI 1
    unfold psH
    simp [hI_sI]
  · show hI (psH h fs.length (totO fs) kd) 204 fs.length = nI (totO fs)
    unfold psH
    simp [hI_sI]
theorem HD_more (hC : CT h0 b L ik) (hH : HD h0 b L ik c0 e w h s fs cs u) (hk : ¬ s.1 6 = nI 28) : ∃ st, (nxS b L s).1 8 = nI st ∧ st ≤ L ∧ c0 + cs.length + totO fs + npr fs + 1 ≤ st + e := by
  obtain ⟨-, px, -, -, -, st, g8, gL, pot⟩ := hH
  have hLe := hC.2.2.1
  rcases px with ⟨-, ⟨st0, p, -, g80, e4, h1, h2, -, -, -, -, ht⟩, -⟩ | ⟨z, -⟩
  · have hlt := (ht hk).1
    have : st = st0 := (nI_eq (by omega) (by omega)).mp (g8.symm.trans g80)
    obtain ⟨st', a', q1, q2, q3, q4, q5, -⟩ := nextR_st (b := b) e4 h2 hLe
    exact ⟨st', q1, by omega, by omega⟩
  · cases z
theorem HD_frame3 {pr : Nat} (hpr : 10 ≤ pr ∧ pr ≤ 22) (hH : HD h0 b L ik c0 e w h s fs cs u) (hst : ∃ st, s.1 8 = nI st ∧ st ≤ L ∧ c0 + cs.length + totO fs + npr fs + 1 ≤ st + e) : HD h0 b L ik c0 e w (sI (psH h fs.length (totO fs) 3) 203 fs.length (nI pr)) s ((3, 0, true, pr, []) :: fs) cs u := by
  obtain ⟨ag, px, hf, ⟨h45, h48, h38, h46, h49⟩, hc, -⟩ := hH
  obtain ⟨st, g8, gL, pot⟩ := hst
  have a : Agm (fun b j => (200 ≤ b ∧ b ≤ 204 ∧ j = fs.length) ∨ (b = 174 ∧ j = 45)) h (sI (psH h fs.length (totO fs) 3) 203 fs.length (nI pr)) := Agm_trans Ag_psH (Agm_sI (Or.inl ⟨by omega, by omega, rfl⟩))
  refine ⟨Agm_trans ag (Agm_sub (fun b j z => by unfold rdX pxX; omega) a), Px_agm (fun b j z => by omega) a px, ⟨⟨⟨?_, by show 3 ≤ 5; omega⟩, ⟨?_, by show 0 ≤ 2; omega⟩, ?_, fun _ => ⟨?_, hpr⟩, ?_, trivial⟩, fr_agm a (fun b j z y => by unfold cuX at y; omega) hf⟩, ⟨rfl, h48, h38, h46, h49⟩, cds_agm (fun b j z y => by omega) a hc, st, g8, gL, by
    show c0 + cs.length + (totO fs + 0) + (npr fs + 1) ≤ st + e
    omega⟩
  · show hI (sI (psH h fs.length (totO fs) 3) 203 fs.length (nI pr)) 200 fs.length = nI 3
    unfold psH
    simp [hI_sI]
  · show hI (sI (psH h fs.length (totO fs) 3) 203 fs.length (nI pr)) 201 fs.length = nI 0
    unfold psH
    simp [hI_sI]
  · show hI (sI (psH h fs.length (totO fs) 3) 203 fs.length (nI pr)) 202 fs.length = nI 1
    unfold psH
    simp [hI_sI]
  · show hI (sI (psH h fs.length (totO fs) 3) 203 fs.length (nI pr)) 203 fs.length = nI pr
    unfold psH
    simp [hI_sI]
  · show hI (sI (psH h fs.length (totO fs) 3) 203 fs.length (nI pr)) 204 fs.length = nI (totO fs)
    unfold psH
    simp [hI_sI]
/-- a frame that is closed -/
theorem HD_pop (hH : HD h0 b L ik c0 e w h s ((k, p, g, q, []) :: fs) cs u) {u' : Nat} : HD h0 b L ik c0 e w (sI (sI h 174 45 (nI fs.length)) 174 46 (nI u')) s fs cs u' := by
  have hH' := hH
  obtain ⟨ag, px, ⟨ht, hf⟩, ⟨h45, h48, h38, h46, h49⟩, hc, -⟩ := hH
  have a : Agm (fun b j => b = 174 ∧ (j = 45 ∨ j = 46)) h (sI (sI h 174 45 (nI fs.length)) 174 46 (nI u')) := Agm_trans (Agm_sI ⟨rfl, Or.inl rfl⟩) (Agm_sI ⟨rfl, Or.inr rfl⟩)
  exact HD_up hH' a (fun b j z => ⟨by unfold rdX pxX; omega, by omega, by omega⟩) (fr_agm a (fun b j z y => by unfold cuX at y; omega) hf) ⟨rfl, h48, h38, rfl, h49⟩ (cds_agm (fun b j z y => by omega) a hc) (by
    show cs.length + totO fs + npr fs + e ≤ cs.length + (totO fs + 0) + (npr fs + _) + e
    omega)
theorem HD_pr (hH : HD h0 b L ik c0 e w h s ((4, p, g, q, []) :: fs) cs u) {u' : Nat} {y : Int32} (hn : c0 + cs.length < 1600) : HD h0 b L ik c0 e w (sI (sI (sI (sI (sI h 174 45 (nI fs.length)) 174 46 (nI u')) 196 (1600 * ik + (c0 + cs.length)) (nI q)) 197 (1600 * ik + (c0 + cs.length)) y) 174 38 (nI (c0 + cs.length + 1))) s fs (cs ++ [(q, nI 0)]) u' := by
  have q10 := (hH.2.2.1.1.2.2.2.1 (Or.inr rfl)).2
  obtain ⟨-, -, hf, h5, hc, -⟩ := HD_code (so := q) (va := nI 0) (y := y) q10.2 (fun z => by
    have : 10 ≤ q := q10.1
    omega) hn (HD_pop hH (u' := u'))
  have a : Agm (fun b j => (b = 174 ∧ (j = 45 ∨ j = 46 ∨ j = 38)) ∨ ((b = 196 ∨ b = 197) ∧ j = 1600 * ik + (c0 + cs.length))) h (sI (sI (sI (sI (sI h 174 45 (nI fs.length)) 174 46 (nI u')) 196 (1600 * ik + (c0 + cs.length)) (nI q)) 197 (1600 * ik + (c0 + cs.length)) y) 174 38 (nI (c0 + cs.length + 1))) := Agm_trans (Agm_trans (Agm_trans (Agm_trans (Agm_sI (Or.inl ⟨rfl, Or.inl rfl⟩)) (Agm_sI (Or.inl ⟨rfl, Or.inr (Or.inl rfl)⟩))) (Agm_sI (Or.inr ⟨Or.inl rfl, rfl⟩))) (Agm_sI (Or.inr ⟨Or.inr rfl, rfl⟩))) (Agm_sI (Or.inl ⟨rfl, Or.inr (Or.inr rfl)⟩))
  refine HD_up hH a (fun b j z => ⟨by unfold rdX pxX; omega, by omega, by omega⟩) hf h5 hc ?_
  rw [List.length_append, List.length_singleton]
  show cs.length + 1 + totO fs + npr fs + e ≤ cs.length + (totO fs + 0) + (npr fs + 1) + e
  omega
end HDL
/-- what joins does -/
def jnX (ik c n b j : Nat) : Prop := (b = 174 ∧ (j = 38 ∨ j = 46 ∨ j = 48)) ∨ ((b = 196 ∨ b = 197) ∧ 1600 * ik + c ≤ j ∧ j < 1600 * ik + c + n)
def opsO (o : Nat → Nat) (B : Nat) : List Nat → Prop
  | [] => True
  | x :: l => o (B + l.length) = x ∧ opsO o B l
section JNS
variable {ik r B : Nat} {o : Nat → Nat}
theorem jn_0 {c : Nat} {u : Int32} {h : AH} : jnH ik r B o B c u h = h := by
  cases B with
  | zero => rfl
  | succ B => rw [jnH, if_neg (fun z => by omega)]
theorem jn_spec : ∀ (os : List Nat) (c u : Nat) (h : AH), opsO o B os → c22 os ≤ u → hI h 174 48 = nI (B + os.length) → hI h 174 38 = nI c → hI h 174 46 = nI u → Agm (jnX ik c (tkR r os).length) h (jnH ik r B o (B + os.length) c (nI u) h) ∧ hI (jnH ik r B o (B + os.length) c (nI u) h) 174 48 = nI (B + (dpR r os).length) ∧ hI (jnH ik r B o (B + os.length) c (nI u) h) 174 38 = nI (c + (tkR r os).length) ∧ hI (jnH ik r B o (B + os.length) c (nI u) h) 174 46 = nI (u - c22 (tkR r os)) ∧ ∀ i x, (opl (tkR r os))[i]? = some x → hI (jnH ik r B o (B + os.length) c (nI u) h) 196 (1600 * ik + c + i) = nI x.1 ∧ (x.1 = 0 → hI (jnH ik r B o (B + os.length) c (nI u) h) 197 (1600 * ik + c + i) = x.2)
  | [], c, u, h, ho, hu, e48, e38, e46 => by
    rw [show jnH ik r B o (B + ([] : List Nat).length) c (nI u) h = h from jn_0]
    exact ⟨Agm_refl, e48, e38, e46, fun i x hx => by cases hx⟩
  | a :: l, c, u, h, ho, hu, e48, e38, e46 => by
    obtain ⟨o1, o2⟩ := ho
    have eL : B + (a :: l).length = B + l.length + 1 := rfl
    rw [eL, jnH, o1]
    by_cases cr : r ≤ rkN a
    · rw [if_pos ⟨by omega, cr⟩]
      have et : tkR r (a :: l) = a :: tkR r l := if_pos cr
      have ed : dpR r (a :: l) = dpR r l := if_pos cr
      rw [et, ed]
      have fin : ∀ (u2 : Nat) (h2 : AH), c22 l ≤ u2 → u2 - c22 (tkR r l) = u - c22 (a :: tkR r l) → Agm (jnX ik c 1) h h2 → hI h2 174 48 = nI (B + l.length) → hI h2 174 38 = nI (c + 1) → hI h2 174 46 = nI u2 → hI h2 196 (1600 * ik + c) = nI a → hI h2 197 (1600 * ik + c) = nI 0 → Agm (jnX ik c (a :: tkR r l).length) h (jnH ik r B o (B + l.length) (c + 1) (nI u2) h2) ∧ hI (jnH ik r B o (B + l.length) (c + 1) (nI u2) h2) 174 48 = nI (B + (dpR r l).length) ∧ hI (jnH ik r B o (B + l.length) (c + 1) (nI u2) h2) 174 38 = nI (c + (a :: tkR r l).length) ∧ hI (jnH ik r B o (B + l.length) (c + 1) (nI u2) h2) 174 46 = nI (u - c22 (a :: tkR r l)) ∧ ∀ i x, (opl (a :: tkR r l))[i]? = some x → hI (jnH ik r B o (B + l.length) (c + 1) (nI u2) h2) 196 (1600 * ik + c + i) = nI x.1 ∧ (x.1 = 0 → hI (jnH ik r B o (B + l.length) (c + 1) (nI u2) h2) 197 (1600 * ik + c + i) = x.2) := fun u2 h2 q1 q2 ag g48 g38 g46 g196 g197 => by
        obtain ⟨i1, i2, i3, i4, i5⟩ := jn_spec l (c + 1) u2 h2 o2 q1 g48 g38 g46
        refine ⟨Agm_trans (Agm_sub (fun b j z => ?_) ag) (Agm_sub (fun b j z => ?_) i1), i2, ?_, by rw [i4, q2], fun i x hx => ?_⟩
        · unfold jnX at z ⊢
          rw [List.length_cons]
          omega
        · unfold jnX at z ⊢
          rw [List.length_cons]
          omega
        · rw [i3, List.length_cons]
          congr 1
          omega
        · cases i with
          | zero =>
            obtain rfl : (a, nI 0) = x := Option.some.inj hx
            refine ⟨?_, fun _ => ?_⟩
            · exact (Agm_I i1 (by unfold jnX; omega)).trans g196
            · exact (Agm_I i1 (by unfold jnX; omega)).trans g197
          | succ i =>
            have := i5 i x hx
            rw [show 1600 * ik + c + (i + 1) = 1600 * ik + (c + 1) + i by omega]
            exact this
      by_cases c22' : a = 22
      · rw [if_pos c22']
        have hu1 : 1 + c22 l ≤ u := by
          have hu : (if a = 22 then 1 else 0) + c22 l ≤ u := hu
          rw [if_pos c22'] at hu
          exact hu
        rw [nI_subN (by omega)]
        refine fin (u - 1) _ (by omega) ?_ (Agm_trans (Agm_trans (Agm_trans (Agm_trans (Agm_sI (Or.inl ⟨rfl, by omega⟩)) (Agm_sI (Or.inr ⟨Or.inl rfl, by omega, by omega⟩))) (Agm_sI (Or.inr ⟨Or.inr rfl, by omega, by omega⟩))) (Agm_sI (Or.inl ⟨rfl, by omega⟩))) (Agm_sI (Or.inl ⟨rfl, by omega⟩))) rfl rfl rfl ?_ ?_
        · show _ = u - ((if a = 22 then 1 else 0) + c22 (tkR r l))
          rw [if_pos c22']
          omega
        · simp [hI_sI]
        · simp [hI_sI]
      · rw [if_neg c22']
        refine fin u _ ?_ ?_ (Agm_trans (Agm_trans (Agm_trans (Agm_sI (Or.inl ⟨rfl, by omega⟩)) (Agm_sI (Or.inr ⟨Or.inl rfl, by omega, by omega⟩))) (Agm_sI (Or.inr ⟨Or.inr rfl, by omega, by omega⟩))) (Agm_sI (Or.inl ⟨rfl, by omega⟩))) rfl rfl e46 ?_ ?_
        · have hu : (if a = 22 then 1 else 0) + c22 l ≤ u := hu
          omega
        · show _ = u - ((if a = 22 then 1 else 0) + c22 (tkR r l))
          rw [if_neg c22', Nat.zero_add]
        · simp [hI_sI]
        · simp [hI_sI]
    · have et : tkR r (a :: l) = [] := if_neg cr
      have ed : dpR r (a :: l) = a :: l := if_neg cr
      rw [if_neg (fun z => cr z.2), et, ed]
      exact ⟨Agm_refl, e48, e38, e46, fun i x hx => by cases hx⟩
theorem dp_len : ∀ (os : List Nat), (dpR r os).length + (tkR r os).length = os.length
  | [] => rfl
  | a :: l => by
    by_cases cr : r ≤ rkN a
    · rw [show tkR r (a :: l) = a :: tkR r l from if_pos cr, show dpR r (a :: l) = dpR r l from if_pos cr, List.length_cons, List.length_cons, ← dp_len l]
      omega
    · rw [show tkR r (a :: l) = [] from if_neg cr, show dpR r (a :: l) = a :: l from if_neg cr]
      rfl
theorem ops_dp {h : AH} {m : Nat} : ∀ {os : List Nat}, opsAt h m os → opsAt h m (dpR r os)
  | [], H => H
  | a :: l, H => by
    by_cases cr : r ≤ rkN a
    · rw [show dpR r (a :: l) = dpR r l from if_pos cr]
      exact ops_dp H.2
    · rw [show dpR r (a :: l) = a :: l from if_neg cr]
      exact H
end JNS
theorem tk_le {h : AH} {m r : Nat} : ∀ {os : List Nat}, opsAt h m os → ∀ (i : Nat) (x : Nat × Int32), (opl (tkR r os))[i]? = some x → x.1 ≤ 22
  | [], _, i, x, hx => by cases hx
  | a :: l, H, i, x, hx => by
    by_cases cr : r ≤ rkN a
    · rw [show tkR r (a :: l) = a :: tkR r l from if_pos cr] at hx
      cases i with
      | zero =>
        obtain rfl : (a, nI 0) = x := Option.some.inj hx
        exact H.1.2.2
      | succ i => exact tk_le H.2 i x hx
    · rw [show tkR r (a :: l) = [] from if_neg cr] at hx
      cases hx
section JOI
variable {h0 h : AH} {b : Nat → Int32} {d L ik c0 u k p q : Nat} {w : Int32} {s : RS} {g : Bool} {os : List Nat} {fs : List FR} {cs : CL3} {Q : Option Value → AH → Prop}
theorem Mo_joinsH {r : Nat} (hd : 2 ≤ d) (hC : CT h0 b L ik) (hr : r ≤ 6) (hbd : BdF k os fs u) (hH : HD h0 b L ik c0 0 w h s ((k, p, g, q, os) :: fs) cs u) (hQ : ∀ h', HD h0 b L ik c0 0 w h' s ((k, p, g, q, dpR r os) :: fs) (cs ++ opl (tkR r os)) (u - c22 (tkR r os)) → Q none h') : CL d 175 [.ref 174, .int (nI r)] h Q := by
  have hM := HD_M hC hH
  have e39 := HD_39 hC hH
  have hlt := HD_lt hC hH
  obtain ⟨-, -, -, -, hik⟩ := hC
  obtain ⟨b1, b2, b3, b4, b5⟩ := hbd
  have hH' := hH
  obtain ⟨ag, px, ⟨ht, hf⟩, ⟨h45, h48, h38, h46, h49⟩, hc, -⟩ := hH
  refine en175 (by omega) ?_
  have all : ∀ j, j < totO fs + os.length → ∃ x, hI h 205 j = nI x ∧ 10 ≤ x ∧ x ≤ 22 := fun j hj => fr_all (fs := (k, p, g, q, os) :: fs) ⟨ht, hf⟩ hj
  have oo : ∀ {l : List Nat}, opsAt h (totO fs) l → opsO (fun j => (hI h 205 j).toNatClampNeg) (totO fs) l := fun {l} => by
    induction l with
    | nil => exact fun _ => trivial
    | cons a l ih => exact fun z => ⟨by
        show (hI h 205 (totO fs + l.length)).toNatClampNeg = a
        rw [z.1.1, nI_clamp (by have := z.1.2; omega)], ih z.2⟩
  obtain ⟨t1, t2, t3, t4, t5, t6⟩ := ht
  have nn := c22_le (a := os)
  obtain ⟨j1, j2, j3, j4, j5⟩ := jn_spec (ik := ik) (r := r) (o := fun j => (hI h 205 j).toNatClampNeg) os (c0 + cs.length) u h (oo t6) (by omega) h48 h38 h46
  have hdl := dp_len (r := r) os
  have hl0 : c0 + cs.length + (totO fs + os.length) ≤ 1600 := by
    have := hlt.1
    have e : totO ((k, p, g, q, os) :: fs) = totO fs + os.length := rfl
    omega
  refine joinsK (ik := ik) (n := fs.length) (B := totO fs) (o := fun j => (hI h 205 j).toNatClampNeg) (by omega) hik hr (by omega) (totO fs + os.length) (c0 + cs.length) (nI u) h hM e39 h45 t5 h48 (by omega) (by omega) (fun j hj => ?_) h38 (by omega) h46 (hQ _ ?_)
  · obtain ⟨x, x1, x2, x3⟩ := all j hj
    show hI h 205 j = nI ((hI h 205 j).toNatClampNeg) ∧ 10 ≤ (hI h 205 j).toNatClampNeg ∧ (hI h 205 j).toNatClampNeg ≤ 22
    rw [x1, nI_clamp (by omega)]
    exact ⟨rfl, x2, x3⟩
  · generalize jnH ik r (totO fs) (fun j => (hI h 205 j).toNatClampNeg) (totO fs + os.length) (c0 + cs.length) (nI u) h = h' at *
    have lo : (opl (tkR r os)).length = (tkR r os).length := List.length_map ..
    refine HD_up hH' j1 (fun b j z => ⟨by unfold jnX at z; unfold rdX pxX; omega, by unfold jnX at z; omega, by unfold jnX at z; omega⟩) ⟨?_, fr_agm j1 (fun b j z y => by unfold jnX at z; unfold cuX at y; omega) hf⟩ ⟨?_, j2, ?_, j4, ?_⟩ ?_ ?_
    · exact top_agm (fun b j z y => by unfold jnX at z; unfold cuX at y; omega) j1 ⟨t1, t2, t3, t4, t5, ops_dp t6⟩
    · exact (Agm_I j1 (by unfold jnX; omega)).trans h45
    · rw [List.length_append, lo, ← Nat.add_assoc]
      exact j3
    · exact (Agm_I j1 (by unfold jnX; omega)).trans h49
    · intro i x hx
      by_cases c : i < cs.length
      · rw [List.getElem?_append_left c] at hx
        have := hc i x hx
        rw [Agm_I j1 (by unfold jnX; omega), Agm_I j1 (by unfold jnX; omega)]
        exact this
      · rw [List.getElem?_append_right (by omega)] at hx
        have := j5 (i - cs.length) x hx
        rw [show 1600 * ik + (c0 + cs.length) + (i - cs.length) = 1600 * ik + c0 + i by omega] at this
        exact ⟨tk_le t6 _ _ hx, this⟩
    · rw [List.length_append, lo]
      show cs.length + (tkR r os).length + (totO fs + (dpR r os).length) + _ + 0 ≤ cs.length + (totO fs + os.length) + _ + 0
      have e : npr ((k, p, g, q, dpR r os) :: fs) = npr ((k, p, g, q, os) :: fs) := rfl
      rw [e]
      omega
end JOI
