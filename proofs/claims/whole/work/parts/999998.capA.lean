/-! a text without a FAULT tells none -/
def Z2 (s s' : RS) : Prop := s'.1 0 = s.1 0 ∧ s'.1 1 = s.1 1
def ZS (sub : RS → Bool × RS) : Prop := ∀ s, (sub s).1 = true → Z2 s (sub s).2
section Z2P
variable {L : Nat} {b : Nat → Int32} {s t u : RS} {K : KK} {x : XK} {sub sm ts pl : RS → Bool × RS}
theorem z2_r : Z2 s s := ⟨rfl, rfl⟩
theorem z2_t (h1 : Z2 s t) (h2 : Z2 t u) : Z2 s u := ⟨h2.1.trans h1.1, h2.2.trans h1.2⟩
theorem z2_nx : Z2 s (nxS b L s) := ⟨nextR_ne (by omega) (by omega), nextR_ne (by omega) (by omega)⟩
theorem z2_u {i : Nat} {v : Int32} (hi : 1 < i) : Z2 s (upd s.1 i v, s.2) := ⟨upd_ne (by omega), upd_ne (by omega)⟩
theorem z2_put {v : Int32} : Z2 s (putR v s) := ⟨put_j 0 (by omega), put_j 1 (by omega)⟩
theorem z2_dec : Z2 s (decS s) := ⟨dec_j 0 (by omega), dec_j 1 (by omega)⟩
theorem z2_ps {w : Int32} (h : (psS b L w s).1 = true) : Z2 s (psS b L w s).2 := by
  unfold psS passR at *
  split
  · exact z2_nx
  · rename_i z
    rw [if_neg z] at h
    cases h
theorem z2_op (h : (opS b L s).1 = true) : Z2 s (opS b L s).2 := by
  unfold opS openR at *
  split
  · exact z2_t (z2_u (i := 12) (v := s.1 12 + nI 1) (by omega)) (z2_nx (s := (upd s.1 12 (s.1 12 + nI 1), s.2)))
  · rename_i z
    rw [if_neg z] at h
    cases h
theorem z2_nm {m : Int32} (h : ¬ (nmS b L m s).1 = -1) : Z2 s (nmS b L m s).2 := by
  unfold nmS numR at *
  by_cases c1 : ¬ s.1 6 = nI 27
  · rw [if_pos c1] at h
    exact absurd rfl h
  rw [if_neg c1] at h ⊢
  by_cases c2 : m < s.1 7
  · rw [if_pos c2] at h
    exact absurd rfl h
  rw [if_neg c2]
  exact z2_nx
theorem z2_nam {nm : Nat → Int32} {n : Nat} {bar : Int32} (h : ¬ (namS b L nm n bar s).1 = -1) : Z2 s (namS b L nm n bar s).2 := by
  unfold namS at *
  by_cases c1 : ¬ s.1 6 = nI 26
  · rw [if_pos c1] at h
    exact absurd rfl h
  rw [if_neg c1] at h ⊢
  by_cases c2 : badN (findM nm (s.1 7) n 0) bar
  · rw [if_pos c2] at h
    exact absurd rfl h
  rw [if_neg c2]
  exact z2_nx
theorem z2_new (h : ¬ (newS b L K s).1 = -1) : Z2 s (newS b L K s).2 := by
  unfold newS at *
  by_cases c1 : ¬ s.1 6 = nI 26
  · rw [if_pos c1] at h
    exact absurd rfl h
  rw [if_neg c1] at h ⊢
  by_cases c2 : ¬ findM (K 1) (s.1 7) (cF K) 0 = -1 ∨ ¬ findM (K 6) (s.1 7) (cP K) 0 = -1
  · rw [if_pos c2] at h
    exact absurd rfl h
  rw [if_neg c2]
  exact z2_nx
theorem z2_kn {p : Nat} (h : ¬ (knS b L K p s).1 = -1) : Z2 s (knS b L K p s).2 := by
  unfold knS at *
  by_cases c1 : s.1 6 = nI 26 ∧ fullL K p (findM (K 1) (s.1 7) (cF K) 0)
  · rw [if_pos c1] at h
    exact absurd rfl h
  rw [if_neg c1] at h ⊢
  exact z2_nam h
theorem zs_thn {r : Bool × RS} {k : RS → Bool × RS} (h0 : r.1 = true → Z2 s r.2) (hk : ∀ t, (k t).1 = true → Z2 t (k t).2) (h : (thn r k).1 = true) : Z2 s (thn r k).2 := by
  obtain ⟨t1, t2, t3⟩ := thn_tt h
  rw [t3]
  exact z2_t (h0 t1) (hk _ t2)
theorem zs_lp {P : Int32 → Prop} [DecidablePred P] {cd : Int32 → Int32} (hs : ZS sub) : ∀ (q : Nat) (r : Bool × RS), (lpR b L P cd sub q r).1 = true → Z2 r.2 (lpR b L P cd sub q r).2
  | 0, r, h => z2_r
  | q + 1, r, h => by
    unfold lpR at *
    by_cases z : r.1 = true ∧ P (r.2.1 6)
    · rw [if_pos z] at h ⊢
      have ok : (sub (nxS b L r.2)).1 = true := by
        cases hh : (sub (nxS b L r.2)).1 with
        | true => rfl
        | false =>
          rw [hh, lp_f] at h
          cases h
      exact z2_t (z2_t z2_nx (hs _ ok)) (z2_t z2_put (zs_lp hs q _ h))
    · rw [if_neg z]
      exact z2_r
theorem zs_loop {P : Int32 → Prop} [DecidablePred P] {cd : Int32 → Int32} (hs : ZS sub) : ZS (loopR b L P cd sub) := fun s h => by
  unfold loopR at *
  have ok : (sub s).1 = true := by
    cases hh : sub s with
    | mk o t =>
      cases o with
      | true => rfl
      | false =>
        rw [hh, lp_f] at h
        cases h
  exact z2_t (hs s ok) (zs_lp hs 1600 _ h)
theorem zs_inn {c : Int32} (hs : ZS sm) : ZS (innR b L c sm) := fun s h => z2_t (zs_thn (r := thn (opS b L s) sm) (k := psS b L c) (zs_thn (fun z => z2_op z) (fun t => hs t)) (fun t => z2_ps) h) z2_dec
theorem zs_prs (hs : ZS sm) : ZS (prsR b L sm) := fun s h => zs_thn (zs_thn (zs_thn (zs_thn (fun z => z2_op z) (fun t => hs t)) (fun t => z2_ps)) (fun t => hs t)) (fun t => z2_ps) h
theorem zs_pr (hs : ZS sm) : ZS (prR b L sm) := fun s h => by
  unfold prR at *
  by_cases z : ¬ (nxS b L s).1 6 = nI 140
  · rw [if_pos z] at h
    cases h
  · rw [if_neg z] at h ⊢
    exact z2_t z2_nx (z2_t (zs_prs hs _ h) (z2_t z2_dec z2_put))
theorem zs_wd {v : Int32} : Z2 s (wdR b L v s).2 := z2_t z2_put z2_nx
theorem zs_part (hs : ZS sm) : ZS (partR b L sm) := fun s h => by
  by_cases cw : wrdP (s.1 6)
  · obtain ⟨kd, hk, e6⟩ : ∃ kd, (kd = 1 ∨ kd = 2 ∨ kd = 6 ∨ (15 ≤ kd ∧ kd ≤ 19)) ∧ s.1 6 = nI kd := by
      rcases cw with z | z | z | z | z | z | z | z
      · exact ⟨1, by omega, z⟩
      · exact ⟨2, by omega, z⟩
      · exact ⟨6, by omega, z⟩
      · exact ⟨15, by omega, z⟩
      · exact ⟨16, by omega, z⟩
      · exact ⟨17, by omega, z⟩
      · exact ⟨18, by omega, z⟩
      · exact ⟨19, by omega, z⟩
    rw [part_wd hk e6]
    exact zs_wd
  by_cases c27 : s.1 6 = nI 27
  · rw [part_nm c27]
    exact zs_wd
  by_cases c140 : s.1 6 = nI 140
  · rw [part_pa c140] at h ⊢
    exact zs_inn hs s h
  by_cases c24 : s.1 6 = nI 24
  · rw [part_mm (Or.inl rfl) c24] at h ⊢
    exact zs_pr hs s h
  by_cases c25 : s.1 6 = nI 25
  · rw [part_mm (Or.inr rfl) c25] at h ⊢
    exact zs_pr hs s h
  rw [part_no ⟨c140, c24, c25, c27, cw⟩] at h
  cases h
theorem zs_sm : ∀ n, ZS (smN b L n)
  | 0 => fun s h => by cases h
  | n + 1 => zs_loop (zs_loop (zs_part (zs_sm n)))
theorem zs_pln (hs : ZS sm) (ht : ZS ts) : ZS (plnR b L sm ts) := fun s h => by
  unfold plnR at *
  by_cases z1 : s.1 6 = nI 23
  · rw [if_pos z1]
    exact zs_wd
  rw [if_neg z1] at h ⊢
  by_cases z2 : s.1 6 = nI 191
  · rw [if_pos z2] at h ⊢
    exact zs_inn ht s h
  rw [if_neg z2] at h ⊢
  refine zs_thn (fun z => hs s z) (fun t ht => ?_) h
  unfold cmp2R at *
  by_cases z3 : ¬ cmpP (t.1 6)
  · rw [if_pos z3] at ht
    cases ht
  · rw [if_neg z3] at ht ⊢
    exact z2_t z2_nx (zs_thn (fun z => hs _ z) (fun u _ => z2_put) ht)
theorem zs_not : ∀ (q n : Nat) (s : RS), (notR b L q n s).1 = true → Z2 s (notR b L q n s).2.2
  | 0, n, s, h => z2_r
  | q + 1, n, s, h => by
    unfold notR at *
    by_cases z : s.1 6 = nI 22
    · rw [if_pos z] at h ⊢
      by_cases y : (opS b L s).1 = true
      · rw [if_pos y] at h ⊢
        exact z2_t (z2_op y) (zs_not q (n + 1) _ h)
      · rw [if_neg y] at h
        cases h
    · rw [if_neg z]
      exact z2_r
theorem zs_fac (hs : ZS pl) : ZS (facR b L pl) := fun s h => by
  unfold facR at *
  by_cases z : (notR b L 8 0 s).1 = true
  · rw [if_pos z] at h ⊢
    refine z2_t (zs_not 8 0 s z) (zs_thn (fun y => hs _ y) (fun u _ => ?_) h)
    unfold fendR
    dsimp only
    split
    · exact z2_t (z2_u (by omega)) z2_put
    · exact z2_u (by omega)
  · rw [if_neg z] at h
    cases h
theorem zs_ts : ∀ n, ZS (tsN b L n)
  | 0 => fun s h => by cases h
  | n + 1 => zs_loop (zs_loop (zs_fac (zs_pln (zs_sm 8) (zs_ts n))))
theorem zr_thI {r : Int32 × RS} {k : Int32 → RS → SR} (h0 : ¬ r.1 = -1 → Z2 s r.2) (hk : ∀ v t, (k v t).1 = true → Z2 t (k v t).2.1) (h : (thI r K k).1 = true) : Z2 s (thI r K k).2.1 := by
  unfold thI at *
  by_cases c : r.1 = -1
  · rw [if_pos c] at h
    cases h
  · rw [if_neg c] at h ⊢
    exact z2_t (h0 c) (hk _ _ h)
theorem zr_thB {r : Bool × RS} {k : RS → SR} (h0 : r.1 = true → Z2 s r.2) (hk : ∀ t, (k t).1 = true → Z2 t (k t).2.1) (h : (thB r K k).1 = true) : Z2 s (thB r K k).2.1 := by
  unfold thB at *
  by_cases c : r.1 = true
  · rw [if_pos c] at h ⊢
    exact z2_t (h0 c) (hk _ h)
  · rw [if_neg c] at h
    cases h
theorem zr_fact (h : (factS b L K s).1 = true) : Z2 s (factS b L K s).2.1 := zr_thI (fun z => z2_new z) (fun _ _ h => zr_thB (fun z => z2_ps z) (fun _ h => zr_thI (fun z => z2_nm z) (fun _ _ h => zr_thB (fun z => z2_ps z) (fun _ h => zr_thI (fun z => z2_nm z) (fun _ _ _ => z2_r) h) h) h) h) h
theorem zr_pers (h : (persS b L K s).1 = true) : Z2 s (persS b L K s).2.1 := zr_thI (fun z => z2_new z) (fun _ _ h => zr_thB (fun z => z2_ps z) (fun _ h => zr_thI (fun z => z2_nm z) (fun _ _ h => zr_thB (fun z => z2_ps z) (fun _ h => zr_thI (fun z => z2_nm z) (fun _ _ _ => z2_r) h) h) h) h) h
theorem zr_meet (h : (meetS b L K s).1 = true) : Z2 s (meetS b L K s).2.1 := zr_thI (fun z => z2_nam z) (fun _ _ h => zr_thI (fun z => z2_nam z) (fun _ _ h => zr_thB (fun z => z2_ps z) (fun _ h => zr_thI (fun z => z2_nm z) (fun _ _ _ => z2_r) h) h) h) h
theorem zr_lic (h : (licS b L K s).1 = true) : Z2 s (licS b L K s).2.1 := zr_thI (fun z => z2_nam z) (fun _ _ h => zr_thI (fun z => z2_kn z) (fun _ _ h => zr_thB (fun z => z2_ps z) (fun _ h => zr_thI (fun z => z2_nm z) (fun _ _ _ => z2_r) h) h) h) h
theorem zr_sto (h : (stoS b L K s).1 = true) : Z2 s (stoS b L K s).2.1 := zr_thI (fun z => z2_nm z) (fun _ _ _ => z2_r) h
theorem zr_rul {y : Int32} : ∀ (q k : Nat) (fr : Int32) (s : RS), (rulL b L K y q k fr s).1 = true → Z2 s (rulL b L K y q k fr s).2.2
  | 0, _, _, _, _ => z2_r
  | q + 1, k, fr, s, h => by
    unfold rulL at *
    by_cases c : k = 0 ∨ s.1 6 = nI 26
    · rw [if_pos c] at h ⊢
      by_cases c2 : (namS b L (K 1) (cF K) (fr ||| bt y) s).1 = -1
      · rw [if_pos c2] at h
        cases h
      · rw [if_neg c2] at h ⊢
        exact z2_t (z2_nam c2) (zr_rul q (k + 1) _ _ h)
    · rw [if_neg c]
      exact z2_r
theorem zr_rule (h : (ruleS b L K s).1 = true) : Z2 s (ruleS b L K s).2.1 := zr_thI (fun z => z2_nam z) (fun y _ h => zr_thB (fun z => z2_ps z) (fun t h => by
  unfold ruleE at *
  by_cases c : (rulL b L K y 12 0 (nI 0) t).1 = true
  · rw [if_pos c]
    exact zr_rul 12 0 (nI 0) t c
  · rw [if_neg c] at h
    cases h) h) h
theorem z2_ss1 : Z2 s (ss1 b L s) := z2_t (z2_t (z2_u (i := 11) (v := s.1 8) (by omega)) (z2_nx (s := frtS s))) (z2_t (z2_u (s := nxS b L (frtS s)) (i := 14) (v := nI 0) (by omega)) (z2_u (s := (upd (nxS b L (frtS s)).1 14 (nI 0), (nxS b L (frtS s)).2)) (i := 12) (v := nI 0) (by omega)))
theorem zr_st (h : (stS b L s x).1 = true) : Z2 s (stS b L s x).2.1 := by
  by_cases ht : tooB x.1 x.2.1.1 x.2.2.1 (s.1 6) = true
  · have e := (stS_too (b := b) (L := L) ht).1
    have : (stB b L s x).1 = true := h
    rw [e] at this
    cases this
  have hf : tooB x.1 x.2.1.1 x.2.2.1 (s.1 6) = false := by
    cases z : tooB x.1 x.2.1.1 x.2.2.1 (s.1 6) with
    | true => exact absurd z ht
    | false => rfl
  by_cases c0 : s.1 6 = nI 0
  · rw [stS_0 c0 hf] at h ⊢
    exact z2_t z2_ss1 (zr_fact h)
  by_cases c3 : s.1 6 = nI 3
  · rw [stS_3 c3 hf] at h ⊢
    exact z2_t z2_ss1 (zr_rule h)
  by_cases c5 : s.1 6 = nI 5
  · rw [stS_5 c5 hf] at h ⊢
    exact z2_t z2_ss1 (zr_pers h)
  by_cases c8 : s.1 6 = nI 8
  · rw [stS_8 c8 hf] at h ⊢
    exact z2_t z2_ss1 (zr_meet h)
  by_cases c10 : s.1 6 = nI 10
  · rw [stS_10 c10 hf] at h ⊢
    exact z2_t z2_ss1 (zr_lic h)
  by_cases c12 : s.1 6 = nI 12
  · rw [stS_12 c12 hf] at h ⊢
    exact z2_t z2_ss1 (zs_sm 8 _ h)
  by_cases c13 : s.1 6 = nI 13
  · rw [stS_13 c13 hf] at h ⊢
    exact z2_t z2_ss1 (zs_ts 8 _ h)
  by_cases c14 : s.1 6 = nI 14
  · rw [stS_14 c14 hf] at h ⊢
    exact z2_t z2_ss1 (zr_sto h)
  obtain ⟨t, e, -⟩ := stS_no (b := b) (L := L) (x := x) ⟨c0, c3, c5, c8, c10, c12, c13, c14⟩
  rw [e] at h
  cases h
theorem zr_tx : ∀ (q n : Nat) (s : RS) (x : XK), ¬ (txL b L q n s x).1 = -1 → Z2 s (txL b L q n s x).2.1
  | 0, _, _, _, h => absurd rfl h
  | q + 1, n, s, x, h => by
    unfold txL at *
    by_cases c1 : s.1 6 = nI 28
    · rw [if_pos c1]
      exact z2_r
    rw [if_neg c1] at h ⊢
    by_cases c2 : 80 ≤ n
    · rw [if_pos c2] at h
      exact absurd rfl h
    rw [if_neg c2] at h ⊢
    by_cases c3 : (stS b L s x).1 = true
    · rw [if_pos c3] at h ⊢
      by_cases c4 : (psS b L (nI 159) (stS b L s x).2.1).1 = true
      · rw [if_pos c4] at h ⊢
        exact z2_t (zr_st c3) (z2_t (z2_ps c4) (zr_tx q (n + 1) _ _ h))
      · rw [if_neg c4] at h
        exact absurd rfl h
    · rw [if_neg c3] at h
      exact absurd rfl h
theorem tx_ok {f g : Nat → Int32} (h : ¬ (txR b L K (f, g)).1 = -1) : (txR b L K (f, g)).2.1.1 0 = nI 0 ∧ (txR b L K (f, g)).2.1.1 1 = -1 := by
  have z := z2_t (z2_nx (b := b) (L := L) (s := (strF f L, g))) (zr_tx 81 0 _ _ h)
  have s0 : (strF f L) 0 = nI 0 := by unfold strF; simp [upd_a]
  have s1 : (strF f L) 1 = -1 := by unfold strF; simp [upd_a]
  exact ⟨z.1.trans s0, z.2.trans s1⟩
end Z2P
