/-! the same way through TESTS -/
def SimT (L : Nat) (W : WTy) (WF : Int32 → Int32 → Prop) (E : Int32 → Prop) (r cc H o : Nat) (sub : RS → Bool × RS) : Prop :=
  ∀ (p0 : Nat) (s : RS) (k q : Nat) (os : List Nat) (fs : List FR) (cs : CL3) (l0 : List Int32), 1 ≤ p0 → Cd L p0 s l0 → s.1 12 = nI o → isT k → E (s.1 6) → hdR r os → EnT k os fs o (6 * o + cc) →
  ((sub s).1 = true → ∀ p lc lr ps, (p = 1 ∨ p = 2) → (p = 1 → ArN ((sub s).2.1 6)) → Cd L p0 (sub s).2 (l0 ++ lc) → SmV true lc (lr ++ opl ps) H → (∀ x, x ∈ ps → r ≤ rkN x ∧ 10 ≤ x ∧ x ≤ 22) → ps.length + r ≤ 7 + c22 ps → o + c22 ps ≤ 7 → W (sub s).2 ((k, p, false, q, ps ++ os) :: fs) (cs ++ lr) (o + c22 ps) true) →
  ((sub s).1 = false → WF ((sub s).2.1 0) ((sub s).2.1 1)) → W s ((k, 0, true, q, os) :: fs) cs o false
section GONT
variable {b : Nat → Int32} {L k p q u : Nat} {s : RS} {g : Bool} {os : List Nat} {fs : List FR} {cs : CL3}
theorem opr_not (hk : isT k) (h : s.1 6 = nI 22) : oprM b L s k p true q os fs cs u = if u = 7 then .inr (.inl (nI 5, s.1 8)) else .inl (nxS b L s, (k, p, true, q, 22 :: os) :: fs, cs, u + 1, false) := by
  unfold oprM
  rw [if_pos ⟨⟨hk, rfl⟩, h⟩]
theorem opr_br (hk : isT k) (h : s.1 6 = nI 191) : oprM b L s k p true q os fs cs u = opnM b L s 5 0 ((k, p, false, q, os) :: fs) cs u := by
  unfold oprM
  rw [h, if_neg (fun z => absurd z.2 (by decide)), if_pos ⟨⟨hk, rfl⟩, rfl⟩]
theorem opr_all (hk : isT k) (h : s.1 6 = nI 23) : oprM b L s k p true q os fs cs u = .inl (nxS b L s, (k, 2, false, q, os) :: fs, cs ++ [(9, nI 0)], u, true) := by
  unfold oprM
  rw [h, if_neg (fun z => absurd z.2 (by decide)), if_neg (fun z => absurd z.2 (by decide)), if_pos ⟨⟨hk, rfl⟩, rfl⟩]
theorem cmp_op {x : Int32} (h : cmpP x) : ∃ op, 17 ≤ op ∧ op ≤ 19 ∧ x = nI (opK op) ∧ rkN op = 4 := by
  rcases h with z | z | z
  · exact ⟨17, by omega, by omega, z, rfl⟩
  · exact ⟨18, by omega, by omega, z, rfl⟩
  · exact ⟨19, by omega, by omega, z, rfl⟩
theorem gon_cmp {op : Nat} (hk : isT k) (h : s.1 6 = nI (opK op)) (ho : 17 ≤ op ∧ op ≤ 19) : gonM b L s k 0 g q os fs cs u = .inl (nxS b L s, (k, 1, g, q, op :: dpR 5 os) :: fs, cs ++ opl (tkR 5 os), u - c22 (tkR 5 os), false) := by
  unfold gonM opX
  obtain c | c | c : op = 17 ∨ op = 18 ∨ op = 19 := by omega
  all_goals
    subst c
    rw [h, if_neg (fun z => absurd z.2 (by decide)), if_pos ⟨hk, rfl, by decide⟩]
    rfl
theorem gon_cmpf (hk : isT k) (har : ¬ arP (s.1 6)) (h : ¬ cmpP (s.1 6)) : gonM b L s k 0 g q os fs cs u = fltRes (s.1 9) := by
  unfold gonM
  rw [if_neg (fun z => har z.2), if_neg (fun z => h z.2.2)]
  split
  · rw [if_pos rfl]
  · rw [if_pos ⟨hk, rfl⟩]
theorem gon_and (hk : isT k) (hp : p = 1 ∨ p = 2) (h : s.1 6 = nI 21) : gonM b L s k p g q os fs cs u = .inl (nxS b L s, (k, 0, true, q, 20 :: dpR 2 os) :: fs, cs ++ opl (tkR 2 os), u - c22 (tkR 2 os), false) := by
  unfold gonM
  rw [h, if_neg (fun z => absurd z.2 (by decide)), if_neg (fun z => absurd z.2.2 (by decide)), if_pos ⟨hk, Or.inl rfl⟩, if_neg (by omega), if_pos (rfl : nI 21 = nI 21), if_pos (rfl : nI 21 = nI 21)]
theorem gon_or (hk : isT k) (hp : p = 1 ∨ p = 2) (h : s.1 6 = nI 20) : gonM b L s k p g q os fs cs u = .inl (nxS b L s, (k, 0, true, q, 21 :: dpR 1 os) :: fs, cs ++ opl (tkR 1 os), u - c22 (tkR 1 os), false) := by
  unfold gonM
  have n : ¬ nI 20 = nI 21 := by decide
  rw [h, if_neg (fun z => absurd z.2 (by decide)), if_neg (fun z => absurd z.2.2 (by decide)), if_pos ⟨hk, Or.inr rfl⟩, if_neg (by omega), if_neg n, if_neg n]
theorem gon_br (hp : p = 1 ∨ p = 2) (h : s.1 6 = nI 193) : gonM b L s 5 p g q os fs cs u = .inl (nxS b L s, phs2 fs, cs ++ opl (tkR 1 os) ++ [], u - c22 (tkR 1 os) - 1, true) := by
  unfold gonM
  have n4 : ¬ (5 : Nat) = 4 := by decide
  have p5 : (5 : Nat) = 5 := rfl
  rw [h, if_neg (fun z => absurd z.2 (by decide)), if_neg (fun z => absurd z.2.2 (by decide)), if_neg (fun z => absurd z.2 (by decide)), if_neg (fun z => by have := z.2; omega), if_neg (by decide), if_neg (by decide), if_pos p5, if_pos rfl, if_pos p5, if_neg n4]
theorem gon_brf (hp : p = 1 ∨ p = 2) (har : p = 1 → ¬ arP (s.1 6)) (h20 : ¬ s.1 6 = nI 20) (h21 : ¬ s.1 6 = nI 21) (h : ¬ s.1 6 = nI 193) : gonM b L s 5 p g q os fs cs u = fltRes (s.1 9) := by
  unfold gonM
  have p5 : (5 : Nat) = 5 := rfl
  rw [if_neg (fun z => har (by have := z.1; omega) z.2), if_neg (fun z => by have := z.2.1; omega), if_neg (fun z => z.2.elim h21 h20), if_neg (fun z => by have := z.2; omega), if_neg (by decide), if_neg (by decide), if_pos p5, if_neg h]
theorem gon_end (hk : k = 0 ∧ p = 0 ∨ k = 1 ∧ (p = 1 ∨ p = 2)) (har : p < 2 → ¬ arP (s.1 6)) (h20 : k = 1 → ¬ s.1 6 = nI 20 ∧ ¬ s.1 6 = nI 21) : gonM b L s k p g q os fs cs u = if s.1 6 = nI 29 then fltRes (s.1 9) else .inr (.inr (s, cs ++ opl (tkR 1 os))) := by
  unfold gonM
  rw [if_neg (fun z => har z.1 z.2), if_neg (fun z => by have h1 : k = 1 ∨ k = 5 := z.1; have := z.2.1; omega), if_neg (fun z => by
    have h1 : k = 1 ∨ k = 5 := z.1
    have h2 : k = 1 := by omega
    exact z.2.elim (h20 h2).2 (h20 h2).1), if_neg (fun z => by have h1 : k = 1 ∨ k = 5 := z.1; have := z.2; omega), if_pos (by omega)]
end GONT
section SIMT
variable {b : Nat → Int32} {L o : Nat} {W : WTy} {WF : Int32 → Int32 → Prop} {WD : RS → CL3 → Prop} {sm ts pl sub : RS → Bool × RS}
def noT (x : Int32) : Prop := ¬ x = nI 20 ∧ ¬ x = nI 21
theorem S_plain (hLe : L ≤ 1600) (hC : Clo b L W WF WD) (ho : o ≤ 7) (hsm : SimS L W WF 5 3 (hpN o + 2) o sm) (so : SO L o sm) (hT : TkS L ArN sm) (hts : o < 7 → SimT L W WF (fun _ => True) 1 0 (hpN (o + 1) + 5) (o + 1) ts ∧ SO L (o + 1) ts) (hT2 : TkS L noT ts) : SimT L W WF (fun x => ¬ x = nI 22) 4 2 (hpN o + 3) o (plnR b L sm ts) := by
  intro p0 s k q os fs cs l0 hp0 hcd h12 hk hE0 hhd hen hok hfail
  obtain ⟨hE, hO, hG⟩ := hC
  have bd0 := bd_opr ho (by omega) hen
  have fu : fs.length ≤ o := hen.1
  have h1p : 1 ≤ hpN o := by unfold hpN; omega
  unfold plnR at hok hfail
  by_cases c23 : s.1 6 = nI 23
  · rw [if_pos c23] at hok
    refine hE s (putR (nI 10023) s) _ _ _ _ put_j (hO _ k 0 true q os fs cs o bd0 fu ?_)
    rw [opr_all hk ((put_j 6 (by omega)).trans c23)]
    exact hok rfl 2 [nI 10023] [(9, nI 0)] [] (Or.inr rfl) (fun z => by omega) (cd_wd hLe hp0 hcd (by rw [c23]; decide)) (SmV_wk (by omega) SmV_all) (fun x hx => by cases hx) (by show 0 + 4 ≤ 7 + 0; omega) (by show o + 0 ≤ 7; omega)
  rw [if_neg c23] at hok hfail
  by_cases c191 : s.1 6 = nI 191
  · rw [if_pos c191] at hok hfail
    by_cases c7 : o = 7
    · subst c7
      refine hO s k 0 true q os fs cs 7 bd0 fu ?_
      rw [opr_br hk c191, opn_f]
      unfold innR at hfail
      rw [op_f h12] at hfail
      exact hfail rfl
    · have o7 : o < 7 := by omega
      obtain ⟨hs, so5⟩ := hts o7
      have hH : hpN (o + 1) + 5 ≤ hpN o + 3 := by unfold hpN; omega
      refine hE s (opn s) _ _ _ _ opn_j (hO _ k 0 true q os fs cs o bd0 fu ?_)
      rw [opr_br hk ((opn_j 6 (by omega)).trans c191), opn_t o7]
      show W (nxS b L (opn s)) ((5, 0, true, 0, []) :: (k, 0, false, q, os) :: fs) cs (o + 1) false
      have n28 : ¬ (opn s).1 6 = nI 28 := by rw [opn_j 6 (by omega), c191]; decide
      have c1 : Cd L (p0 + 1) (nxS b L (opn s)) l0 := cd_nx hLe (cd_u hcd) n28
      have t12 := opn_12 (b := b) (L := L) h12
      have eI : innR b L (nI 193) ts s = ((thn (ts (nxS b L (opn s))) (psS b L (nI 193))).1, decS (thn (ts (nxS b L (opn s))) (psS b L (nI 193))).2) := by
        unfold innR
        rw [op_t h12 o7]
        rfl
      have en2 := en_new (kd := 5) (p := 0) (q := q) (g := false) (by omega) hen
      rw [eI] at hok hfail
      refine hs (p0 + 1) (nxS b L (opn s)) 5 0 [] ((k, 0, false, q, os) :: fs) cs l0 (by omega) c1 t12 (Or.inr rfl) trivial trivial (en_mono (by omega) en2) (fun ht p lc lr ps hp hpa c2 v1 r1 n1 n2 => ?_) (fun hf => ?_)
      · have l22 := c22_le (a := ps)
        have bd := bd_gon (ps := ps) n2 (by omega) en2
        refine hG _ 5 p false 0 (ps ++ []) _ _ _ bd ?_
        rw [thn_tr ht] at hok hfail
        have tk := hT2 _ _ _ c1.1 ht
        by_cases c : (ts (nxS b L (opn s))).2.1 6 = nI 193
        · rw [ps_t c] at hok
          rw [gon_br hp c, tk_app (fun x hx => (r1 x hx).1) hd_nil]
          have c3 := cd_nx0 (b := b) hLe (cd_wk c2)
          have go := hok rfl 2 lc (lr ++ opl ps) [] (Or.inr rfl) (fun z => by omega) (cd_u c3) (by
            show SmV true lc (lr ++ opl ps ++ []) _
            rw [List.append_nil]
            exact SmV_wk hH v1) (fun x hx => by cases hx) (by show 0 + 4 ≤ 7 + 0; omega) (by show o + 0 ≤ 7; omega)
          have go := hE _ _ _ _ _ _ dec_j go
          have el : cs ++ (lr ++ opl ps) = cs ++ lr ++ opl ps ++ [] := by simp only [List.append_nil, List.append_assoc]
          rw [el] at go
          rw [show o + 1 + c22 ps - c22 ps - 1 = o by omega]
          exact go
        · rw [ps_f c] at hfail
          rw [gon_brf hp (fun z => ArN_ar (hpa z)) tk.1 tk.2 c]
          exact hfail rfl
      · rw [thn_fa hf] at hfail
        exact hfail rfl
  rw [if_neg c191] at hok hfail
  refine hsm p0 s k 0 q true os fs cs l0 hp0 hcd h12 (by omega) (fun _ _ => ⟨hE0, c191, c23⟩) (hd_mono (by omega) hhd) (en_mono (by omega) hen) (fun ht lc lr ps c1 v1 r1 n1 => ?_) (fun hf => ?_)
  · have nz : c22 ps = 0 := c22_0 (fun x hx => by have := (r1 x hx).2; omega)
    have bd := bd_gon (ps := ps) (by rw [nz]; omega) (by omega) hen
    rw [nz, Nat.add_zero] at bd
    refine hG _ k 0 false q (ps ++ os) _ _ _ bd ?_
    rw [thn_tr ht] at hok hfail
    have tk := hT _ _ _ hcd.1 ht
    have so1 := so s (cd_ri hLe hcd) h12
    have u12 : (sm s).2.1 12 = nI o := so1.2 ht
    generalize (sm s).2 = t at *
    unfold cmp2R at hok hfail
    by_cases c : cmpP (t.1 6)
    · rw [if_neg (fun z => z c)] at hok hfail
      obtain ⟨op, o1, o2, e6, rk⟩ := cmp_op c
      rw [gon_cmp hk e6 ⟨o1, o2⟩, tk_app (fun x hx => (r1 x hx).1) (hd_mono (by omega) hhd), dp_app (fun x hx => (r1 x hx).1) (hd_mono (by omega) hhd), nz, Nat.sub_zero]
      show W (nxS b L t) ((k, 1, false, q, op :: os) :: fs) (cs ++ lr ++ opl ps) o false
      have cn := cd_nx (b := b) hLe c1 (cmp28 _ c)
      have n12 : (nxS b L t).1 12 = nI o := op_nx.trans u12
      have so2 := so (nxS b L t) (cd_ri hLe cn) n12
      refine hsm (p0 + 1) (nxS b L t) k 1 q false (op :: os) fs (cs ++ lr ++ opl ps) (l0 ++ lc) (by omega) cn n12 (by omega) (fun _ z => by cases z) (by show rkN op < 5; omega) (en_cons (by omega) hen) (fun ht2 lc2 lr2 ps2 c2 v2 r2 n2 => ?_) (fun hf2 => ?_)
      · rw [thn_tr ht2] at hok
        have ec : nI 10000 + t.1 6 = nI (10000 + opK op) := by rw [e6, nI_add]
        rw [ec] at hok
        have c3 := cd_put (v := nI (10000 + opK op)) hLe c2
        have hv := SmV_op (o := op) (va := nI 0) (H := hpN o + 3) ⟨by omega, by omega⟩ (fun z => by omega) v1 v2 (by omega) (by omega)
        rw [decide_eq_true o1] at hv
        have nz2 : c22 (ps2 ++ [op]) = 0 := c22_0 (fun x hx => by
          rcases List.mem_append.mp hx with z | z
          · have := (r2 x z).2
            omega
          · obtain rfl := List.mem_singleton.mp z
            omega)
        have go := hok rfl 1 (lc ++ lc2 ++ [nI (10000 + opK op)]) (lr ++ opl ps ++ lr2) (ps2 ++ [op]) (Or.inl rfl) (fun _ => by
          show ArN ((putR _ _).1 6)
          rw [put_j 6 (by omega)]
          exact hT _ _ _ cn.1 ht2) (by rw [← List.append_assoc, ← List.append_assoc]; exact c3) (by
          rw [opl_app, show opl [op] = [(op, nI 0)] from rfl, ← List.append_assoc, List.append_assoc (lr ++ opl ps)]
          exact hv) (fun x hx => by
          rcases List.mem_append.mp hx with z | z
          · have := r2 x z
            exact ⟨by omega, by omega, by omega⟩
          · obtain rfl := List.mem_singleton.mp z
            exact ⟨by omega, by omega, by omega⟩) (by rw [List.length_append, List.length_singleton]; omega) (by rw [nz2]; omega)
        rw [nz2, Nat.add_zero, List.append_assoc, List.append_assoc, ← List.append_assoc cs, ← List.append_assoc (cs ++ lr)] at go
        exact hE _ _ _ _ _ _ put_j go
      · rw [thn_fa hf2] at hfail
        exact hfail rfl
    · rw [if_pos c] at hfail
      rw [gon_cmpf hk (ArN_ar tk) c]
      exact hfail rfl
  · rw [thn_fa hf] at hfail
    exact hfail rfl
theorem not_tk (hLe : L ≤ 1600) : ∀ (q n : Nat) (s : RS), RI L s → s.1 12 = nI (o + n) → o + n ≤ 7 → 8 ≤ o + n + q → (notR b L q n s).1 = true → ¬ (notR b L q n s).2.2.1 6 = nI 22
  | 0, n, s, h, ho, h7, h8, ht => by omega
  | q + 1, n, s, h, ho, h7, h8, ht => by
    unfold notR at *
    have h1 := op_ok (b := b) hLe h ho
    by_cases z : s.1 6 = nI 22
    · rw [if_pos z] at ht ⊢
      by_cases y : (opS b L s).1 = true
      · rw [if_pos y] at ht ⊢
        have := op_7 (b := b) (L := L) ho y (by omega)
        exact not_tk hLe q (n + 1) _ h1.1 (h1.2 y) (by omega) (by omega) ht
      · rw [if_neg y] at ht
        cases ht
    · rw [if_neg z]
      exact z
theorem rep_snoc {α : Type} (a : α) : ∀ (n : Nat) (l : List α), List.replicate n a ++ a :: l = List.replicate (n + 1) a ++ l
  | 0, _ => rfl
  | n + 1, l => by
    rw [List.replicate_succ, List.cons_append, rep_snoc a n l, List.replicate_succ (n := n + 1)]
    rfl
theorem not_snd : ∀ (q n : Nat) (s : RS), (notR b L q n s).2.2.2 = s.2
  | 0, n, s => rfl
  | q + 1, n, s => by
    unfold notR
    split
    · split
      · rw [not_snd q (n + 1)]
        unfold opS
        rfl
      · rfl
    · rfl
/-- the nots: each is one that stands open -/
theorem S_nots (hLe : L ≤ 1600) (hC : Clo b L W WF WD) {k q0 m : Nat} {os : List Nat} {fs : List FR} {cs : CL3} (hk : isT k) (hm : 6 * o + m ≤ 50) (hen : EnT k os fs o (6 * o + m)) (hm2 : m ≤ 5) (r : Bool × Nat × RS) (hok : r.1 = true → W r.2.2 ((k, 0, true, q0, List.replicate r.2.1 22 ++ os) :: fs) cs (o + r.2.1) false) (hfail : r.1 = false → WF (r.2.2.1 0) (r.2.2.1 1)) : ∀ (q n : Nat) (s : RS), notR b L q n s = r → RI L s → s.1 12 = nI (o + n) → o + n ≤ 7 → W s ((k, 0, true, q0, List.replicate n 22 ++ os) :: fs) cs (o + n) false
  | 0, n, s, e, h, h12, h7 => by
    subst e
    exact hok rfl
  | q + 1, n, s, e, h, h12, h7 => by
    have hC' := hC
    obtain ⟨hE, hO, hG⟩ := hC
    unfold notR at e
    by_cases z : s.1 6 = nI 22
    · rw [if_pos z] at e
      have bd : BdF k (List.replicate n 22 ++ os) fs (o + n) := by
        have := bd_gon (ps := List.replicate n 22) (by rw [c22_rep]; omega) (by rw [List.length_replicate]; omega) hen
        rw [c22_rep] at this
        exact this
      have fu : fs.length ≤ o + n := Nat.le_trans hen.1 (by omega)
      by_cases c7 : o + n = 7
      · rw [c7] at h12
        have ne : ¬ (flS s (nI 5) (s.1 8)).1 = true := fun z => absurd (show false = true from z) Bool.false_ne_true
        rw [op_f h12, if_neg ne] at e
        subst e
        refine hO s k 0 true q0 _ fs cs _ bd fu ?_
        rw [opr_not hk z, if_pos c7]
        exact hfail rfl
      · have eo := op_t (b := b) (L := L) h12 (by omega)
        have h1 := op_ok (b := b) hLe h h12
        rw [eo] at e h1
        rw [if_pos rfl] at e
        refine hE s (opn s) _ _ _ _ opn_j (hO _ k 0 true q0 _ fs cs _ bd fu ?_)
        rw [opr_not hk ((opn_j 6 (by omega)).trans z), if_neg c7]
        have go := S_nots hLe hC' hk hm hen hm2 r hok hfail q (n + 1) _ e h1.1 (h1.2 rfl) (by omega)
        exact go
    · rw [if_neg z] at e
      subst e
      exact hok rfl
theorem S_fac (hLe : L ≤ 1600) (hC : Clo b L W WF WD) (ho : o ≤ 7) (hpl : ∀ o', o ≤ o' → o' ≤ 7 → SimT L W WF (fun x => ¬ x = nI 22) 4 2 (hpN o' + 3) o' pl ∧ SO L o' pl) : SimT L W WF (fun _ => True) 3 2 (hpN o + 3) o (facR b L pl) := by
  intro p0 s k q os fs cs l0 hp0 hcd h12 hk _ hhd hen hok hfail
  have hri := cd_ri hLe hcd
  have hn := not_ok (b := b) (o := o) hLe 8 0 s hri h12
  have h7 := not_7 (b := b) (o := o) hLe 8 0 s hri h12 (by omega)
  have hcb := cb_not (b := b) (p0 := p0) (k := l0.length) hLe 8 0 s hcd.1 (fun z => absurd z (by omega))
  have htk := not_tk (b := b) (o := o) hLe 8 0 s hri h12 (by omega) (by omega)
  have hsd : (notR b L 8 0 s).2.2.2 = s.2 := not_snd 8 0 s
  unfold facR at hok hfail
  refine S_nots (m := 2) (k := k) (q0 := q) (os := os) (fs := fs) (cs := cs) hLe hC hk (by omega) hen (by omega) (notR b L 8 0 s) (fun ht => ?_) (fun hf => ?_) 8 0 s rfl hri h12 (by omega)
  · rw [if_pos ht] at hok hfail
    generalize notR b L 8 0 s = R at *
    obtain ⟨ok, n, t⟩ := R
    obtain rfl : ok = true := ht
    dsimp only at *
    obtain ⟨hc0, hc1⟩ := hcb rfl
    have n12 := hn.2.1 rfl
    obtain ⟨hs, so⟩ := hpl (o + n) (by omega) h7
    have cdn : ∀ p1, CB L p1 l0.length t → Cd L p1 t l0 := fun p1 z => ⟨z, fun i x hx => by rw [hsd]; exact hcd.2 i x hx⟩
    have en' : EnT k (List.replicate n 22 ++ os) fs (o + n) (6 * (o + n) + 2) := by
      obtain ⟨e1, e2, e3, e4⟩ := hen
      refine ⟨by omega, ?_, ?_, e4⟩
      · rw [List.length_append, List.length_replicate]
        omega
      · rw [c22_app, c22_rep]
        omega
    have hd' : hdR 4 (List.replicate n 22 ++ os) := by
      cases n with
      | zero => exact hd_mono (by omega) hhd
      | succ n =>
        rw [List.replicate_succ]
        show rkN 22 < 4
        decide
    have hp1 : ∃ p1, 1 ≤ p1 ∧ CB L p1 l0.length t ∧ (0 < n → p1 = p0 + 1) ∧ (n = 0 → p1 = p0) := by
      by_cases z : 0 < n
      · exact ⟨p0 + 1, by omega, hc1 z, fun _ => rfl, fun y => by omega⟩
      · exact ⟨p0, hp0, hc0, fun y => absurd y z, fun _ => rfl⟩
    obtain ⟨p1, q1, q2, q3, q4⟩ := hp1
    refine hs p1 t k q (List.replicate n 22 ++ os) fs cs l0 q1 (cdn p1 q2) n12 hk (htk rfl) hd' en' (fun ht2 p lc lr ps hp hpa c1 v1 r1 n1 n2 => ?_) (fun hf2 => ?_)
    · rw [thn_tr ht2] at hok
      have nz : c22 ps = 0 := c22_0 (fun x hx y => by
        have := (r1 x hx).1
        subst y
        exact absurd this (by decide))
      have hv := SmV_not (n := n) v1 (by unfold hpN; omega)
      have u12 : (pl t).2.1 12 = nI (o + n) := (so t (cd_ri hLe (cdn p1 q2)) n12).2 ht2
      have e22 : c22 (ps ++ List.replicate n 22) = n := by rw [c22_app, c22_rep, nz, Nat.zero_add]
      generalize (pl t).2 = v at *
      have hj : ∀ j, j ≤ 10 → (fendR n v).2.1 j = v.1 j := fun j hj => by
        unfold fendR
        dsimp only
        split
        · rw [put_j j hj]
          exact upd_ne (by omega)
        · exact upd_ne (by omega)
      have cF : Cd L p0 (fendR n v).2 (l0 ++ if n % 2 = 1 then lc ++ [nI 10022] else lc) := by
        unfold fendR
        dsimp only
        by_cases z : n % 2 = 1
        · rw [if_pos z, if_pos z, ← List.append_assoc]
          rw [q3 (by omega)] at c1
          exact cd_put hLe (cd_u c1)
        · rw [if_neg z, if_neg z]
          by_cases y : 0 < n
          · rw [q3 y] at c1
            exact cd_u (cd_wk c1)
          · rw [q4 (by omega)] at c1
            exact cd_u c1
      have hH : hpN (o + n) + 3 ≤ hpN o + 3 := by unfold hpN; omega
      have go := hok rfl p (if n % 2 = 1 then lc ++ [nI 10022] else lc) lr (ps ++ List.replicate n 22) hp (fun z => by
        rw [hj 6 (by omega)]
        exact hpa z) cF (by
        rw [opl_app, opl_rep, ← List.append_assoc]
        exact SmV_wk hH hv) (fun x hx => by
        rcases List.mem_append.mp hx with z | z
        · have := r1 x z
          exact ⟨by omega, this.2⟩
        · obtain rfl := List.eq_of_mem_replicate z
          exact ⟨by decide, by omega, by omega⟩) (by rw [e22, List.length_append, List.length_replicate]; omega) (by rw [e22]; omega)
      rw [e22, List.append_assoc] at go
      rw [nz, Nat.add_zero]
      exact hC.1 _ _ _ _ _ _ hj go
    · rw [thn_fa hf2] at hfail
      exact hfail rfl
  · rw [if_neg (by rw [hf]; decide)] at hfail
    exact hfail rfl
theorem S_tl {P : Int32 → Prop} [DecidablePred P] {cd : Int32 → Int32} {r op tk H : Nat} (hr : (r = 2 ∧ op = 20 ∧ tk = 21) ∨ (r = 1 ∧ op = 21 ∧ tk = 20)) (hcd0 : ∀ x, cd x = nI (10000 + tk)) (hP : ∀ x, P x ↔ x = nI tk) (hLe : L ≤ 1600) (hC : Clo b L W WF WD) (ho : o ≤ 7) (so : SO L o sub) (hs : SimT L W WF (fun _ => True) (r + 1) r H o sub) : SimT L W WF (fun _ => True) r (r - 1) (H + 1) o (loopR b L P cd sub) := by
  intro p0 s k q os fs cs l0 hp0 hcd h12 hk _ hhd hen hok hfail
  obtain ⟨hE, -, hG⟩ := hC
  have so1 := so s (cd_ri hLe hcd) h12
  have rk : rkN op = r := by
    rcases hr with ⟨rfl, rfl, -⟩ | ⟨rfl, rfl, -⟩ <;> rfl
  have ok : opK op = tk := by
    rcases hr with ⟨-, rfl, rfl⟩ | ⟨-, rfl, rfl⟩ <;> rfl
  have gon : ∀ (t : RS) (p : Nat) (os : List Nat) (cs : CL3) (u : Nat), (p = 1 ∨ p = 2) → t.1 6 = nI tk → gonM b L t k p false q os fs cs u = .inl (nxS b L t, (k, 0, true, q, op :: dpR r os) :: fs, cs ++ opl (tkR r os), u - c22 (tkR r os), false) := fun t p os cs u hp z => by
    rcases hr with ⟨rfl, rfl, rfl⟩ | ⟨rfl, rfl, rfl⟩
    · exact gon_and hk hp z
    · exact gon_or hk hp z
  refine hs p0 s k q os fs cs l0 hp0 hcd h12 hk trivial (hd_mono (by omega) hhd) (en_mono (by omega) hen) (fun ht p lc lr ps hp hpa c1 v1 r1 n1 n2 => ?_) (fun hf => ?_)
  · have key : ∀ (n : Nat) (t : RS) (p : Nat) (lc : List Int32) (lr : CL3) (ps : List Nat), (p = 1 ∨ p = 2) → (p = 1 → ArN (t.1 6)) → Cd L p0 t (l0 ++ lc) → t.1 12 = nI o → SmV true lc (lr ++ opl ps) (H + 1) → (∀ x, x ∈ ps → r ≤ rkN x ∧ 10 ≤ x ∧ x ≤ 22) → ps.length + r ≤ 7 + c22 ps → o + c22 ps ≤ 7 → ((lpR b L P cd sub n (true, t)).1 = true → ∀ p lc lr ps, (p = 1 ∨ p = 2) → (p = 1 → ArN ((lpR b L P cd sub n (true, t)).2.1 6)) → Cd L p0 (lpR b L P cd sub n (true, t)).2 (l0 ++ lc) → SmV true lc (lr ++ opl ps) (H + 1) → (∀ x, x ∈ ps → r ≤ rkN x ∧ 10 ≤ x ∧ x ≤ 22) → ps.length + r ≤ 7 + c22 ps → o + c22 ps ≤ 7 → W (lpR b L P cd sub n (true, t)).2 ((k, p, false, q, ps ++ os) :: fs) (cs ++ lr) (o + c22 ps) true) → ((lpR b L P cd sub n (true, t)).1 = false → WF ((lpR b L P cd sub n (true, t)).2.1 0) ((lpR b L P cd sub n (true, t)).2.1 1)) → W t ((k, p, false, q, ps ++ os) :: fs) (cs ++ lr) (o + c22 ps) true := by
      intro n
      induction n with
      | zero => exact fun t p lc lr ps hp hpa c1 _ v1 r1 n1 n2 hok _ => hok rfl p lc lr ps hp hpa c1 v1 r1 n1 n2
      | succ n ih =>
        intro t p lc lr ps hp hpa c1 t12 v1 r1 n1 n2 hok hfail
        rw [lpR] at hok hfail
        by_cases c : P (t.1 6)
        · rw [if_pos ⟨rfl, c⟩] at hok hfail
          have e6 := (hP _).mp c
          have l22 := c22_le (a := ps)
          have bd := bd_gon (ps := ps) n2 (by omega) hen
          refine hG t k p false q (ps ++ os) fs (cs ++ lr) _ bd ?_
          rw [gon t p _ _ _ hp e6, tk_app (fun x hx => (r1 x hx).1) hhd, dp_app (fun x hx => (r1 x hx).1) hhd, Nat.add_sub_cancel]
          show W (nxS b L t) ((k, 0, true, q, op :: os) :: fs) (cs ++ lr ++ opl ps) o false
          have t28 : ¬ t.1 6 = nI 28 := by
            rw [e6]
            rcases hr with ⟨-, -, rfl⟩ | ⟨-, -, rfl⟩ <;> decide
          have cn := cd_nx (b := b) hLe c1 t28
          have n12 : (nxS b L t).1 12 = nI o := op_nx.trans t12
          have so2 := so (nxS b L t) (cd_ri hLe cn) n12
          have en2 : EnT k (op :: os) fs o (6 * o + r) := en_mono (by omega) (en_cons (by omega) hen)
          refine hs (p0 + 1) (nxS b L t) k q (op :: os) fs (cs ++ lr ++ opl ps) (l0 ++ lc) (by omega) cn n12 hk trivial (by show rkN op < r + 1; omega) en2 (fun ht2 p2 lc2 lr2 ps2 hp2 hpa2 c2 v2 r2 m1 m2 => ?_) (fun hf2 => ?_)
          · dsimp only at hok hfail
            rw [ht2, hcd0] at hok hfail
            have c3 := cd_put (v := nI (10000 + tk)) hLe c2
            have hv := SmV_op (o := op) (va := nI 0) (H := H + 1) ⟨by omega, by omega⟩ (fun z => rfl) v1 v2 (by omega) (by omega)
            rw [ok, decide_eq_true (show 17 ≤ op by omega)] at hv
            have e22 : c22 (ps2 ++ [op]) = c22 ps2 := by
              rw [c22_app]
              show c22 ps2 + ((if op = 22 then 1 else 0) + 0) = _
              rw [if_neg (by omega)]
              rfl
            have go := ih (putR (nI (10000 + tk)) (sub (nxS b L t)).2) p2 (lc ++ lc2 ++ [nI (10000 + tk)]) (lr ++ opl ps ++ lr2) (ps2 ++ [op]) hp2 (fun z => by
              rw [put_j 6 (by omega)]
              exact hpa2 z) (by rw [← List.append_assoc, ← List.append_assoc]; exact c3) (op_put.trans (so2.2 ht2)) (by
              rw [opl_app, show opl [op] = [(op, nI 0)] from rfl, ← List.append_assoc, List.append_assoc (lr ++ opl ps)]
              exact hv) (fun x hx => by
              rcases List.mem_append.mp hx with z | z
              · have := r2 x z
                exact ⟨by omega, this.2⟩
              · obtain rfl := List.mem_singleton.mp z
                exact ⟨by omega, by omega, by omega⟩) (by rw [e22, List.length_append, List.length_singleton]; omega) (by rw [e22]; exact m2) hok hfail
            rw [e22, List.append_assoc, List.append_assoc, ← List.append_assoc cs, ← List.append_assoc (cs ++ lr)] at go
            exact hE _ _ _ _ _ _ put_j go
          · dsimp only at hfail
            rw [hf2, lp_f] at hfail
            have := hfail rfl
            try dsimp only at this
            rw [put_j 0 (by omega), put_j 1 (by omega)] at this
            exact this
        · rw [if_neg (fun z => c z.2)] at hok
          exact hok rfl p lc lr ps hp hpa c1 v1 r1 n1 n2
    have e : (true, (sub s).2) = sub s := Prod.ext ht.symm rfl
    unfold loopR at hok hfail
    rw [← e] at hok hfail
    exact key 1600 (sub s).2 p lc lr ps hp hpa c1 (so1.2 ht) (SmV_wk (by omega) v1) (fun x hx => by
      have := r1 x hx
      exact ⟨by omega, this.2⟩) (by omega) n2 hok hfail
  · have e : sub s = (false, (sub s).2) := Prod.ext hf rfl
    unfold loopR at hfail
    rw [e, lp_f] at hfail
    exact hfail rfl
theorem tk_ts (hLe : L ≤ 1600) : ∀ n, TkS L noT (tsN b L n)
  | 0 => fun p0 k s h ht => by cases ht
  | n + 1 => fun p0 k s h ht => by
    have f1 := cb_fac (b := b) hLe (cb_pln (b := b) hLe (cb_sm (b := b) hLe 8) (cb_ts (b := b) hLe n))
    exact ⟨loop_end (P := orP) (cd := cdO) hLe or28 (cb_loop hLe and28 f1) p0 k s h ht, loop_T (P := orP) (cd := cdO) (T := fun x => ¬ x = nI 21) hLe or28 (cb_loop hLe and28 f1) (loop_end (P := andP) (cd := cdA) hLe and28 f1) p0 k s h ht⟩
theorem S_ts (hLe : L ≤ 1600) (hC : Clo b L W WF WD) (h27 : NmW W) : ∀ (n o : Nat), 8 ≤ o + n → o ≤ 7 → SimT L W WF (fun _ => True) 1 0 (hpN o + 5) o (tsN b L n)
  | 0, o, h1, h2 => by omega
  | n + 1, o, h1, h2 => by
    have sp : ∀ o', o ≤ o' → o' ≤ 7 → SO L o' (plnR b L (smN b L 8) (tsN b L n)) := fun o' h3 h4 => pln_ok hLe h4 (sm_ok hLe 8 o' (by omega) h4) (fun h7 => ts_ok hLe n (o' + 1) (by omega) (by omega))
    have pl : ∀ o', o ≤ o' → o' ≤ 7 → SimT L W WF (fun x => ¬ x = nI 22) 4 2 (hpN o' + 3) o' (plnR b L (smN b L 8) (tsN b L n)) ∧ SO L o' (plnR b L (smN b L 8) (tsN b L n)) := fun o' h3 h4 => ⟨S_plain hLe hC h4 (S_sm hLe hC h27 8 o' (by omega) h4) (sm_ok hLe 8 o' (by omega) h4) (tk_sm hLe 8) (fun h7 => ⟨S_ts hLe hC h27 n (o' + 1) (by omega) (by omega), ts_ok hLe n (o' + 1) (by omega) (by omega)⟩) (tk_ts hLe n), sp o' h3 h4⟩
    have s1 := S_fac hLe hC h2 pl
    have s2 := S_tl (P := andP) (cd := cdA) (r := 2) (op := 20) (tk := 21) (Or.inl ⟨rfl, rfl, rfl⟩) (fun _ => rfl) (fun _ => Iff.rfl) hLe hC h2 (fac_ok hLe h2 sp) s1
    exact S_tl (P := orP) (cd := cdO) (r := 1) (op := 21) (tk := 20) (Or.inr ⟨rfl, rfl, rfl⟩) (fun _ => rfl) (fun _ => Iff.rfl) hLe hC h2 (loop_ok hLe (fac_ok hLe h2 sp)) s2
end SIMT
