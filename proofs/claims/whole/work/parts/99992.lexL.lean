/-! the reference's way through SUMS and TESTS as steps on lists; the class's way leads to the same codes -/
abbrev FR : Type := Nat × Nat × Bool × Nat × List Nat
abbrev CL3 : Type := List (Nat × Int32)
abbrev RES : Type := Sum (RS × List FR × CL3 × Nat × Bool) (Sum (Int32 × Int32) (RS × CL3))
def opl (l : List Nat) : CL3 := l.map (fun o => (o, nI 0))
def tkR (r : Nat) : List Nat → List Nat
  | [] => []
  | o :: l => if r ≤ rkN o then o :: tkR r l else []
def dpR (r : Nat) : List Nat → List Nat
  | [] => []
  | o :: l => if r ≤ rkN o then dpR r l else o :: l
def c22 : List Nat → Nat
  | [] => 0
  | o :: l => (if o = 22 then 1 else 0) + c22 l
abbrev isT (k : Nat) : Prop := k = 1 ∨ k = 5
abbrev arP (x : Int32) : Prop := x = nI 143 ∨ x = nI 145 ∨ x = nI 142 ∨ x = nI 147 ∨ x = nI 137
abbrev wrdP (x : Int32) : Prop := x = nI 1 ∨ x = nI 2 ∨ x = nI 6 ∨ x = nI 15 ∨ x = nI 16 ∨ x = nI 17 ∨ x = nI 18 ∨ x = nI 19
def opX (x : Int32) : Nat := if x = nI 143 then 10 else if x = nI 145 then 11 else if x = nI 142 then 12 else if x = nI 147 then 13 else if x = nI 137 then 14 else if x = nI 160 then 17 else if x = nI 162 then 18 else 19
def opnM (b : Nat → Int32) (L : Nat) (s : RS) (kd pr : Nat) (fs : List FR) (cs : CL3) (u : Nat) : RES := if u = 7 then .inr (.inl (nI 5, s.1 8)) else .inl (nxS b L s, (kd, 0, true, pr, []) :: fs, cs, u + 1, false)
abbrev fltRes (p : Int32) : RES := .inr (.inl (nI 1, p))
def oprM (b : Nat → Int32) (L : Nat) (s : RS) (k p : Nat) (g : Bool) (q : Nat) (os : List Nat) (fs : List FR) (cs : CL3) (u : Nat) : RES :=
  if (isT k ∧ g = true) ∧ s.1 6 = nI 22 then (if u = 7 then .inr (.inl (nI 5, s.1 8)) else .inl (nxS b L s, (k, p, g, q, 22 :: os) :: fs, cs, u + 1, false))
  else if (isT k ∧ g = true) ∧ s.1 6 = nI 191 then opnM b L s 5 0 ((k, p, false, q, os) :: fs) cs u
  else if (isT k ∧ g = true) ∧ s.1 6 = nI 23 then .inl (nxS b L s, (k, 2, false, q, os) :: fs, cs ++ [(9, nI 0)], u, true)
  else if s.1 6 = nI 140 then opnM b L s 2 0 ((k, p, false, q, os) :: fs) cs u
  else if s.1 6 = nI 24 ∨ s.1 6 = nI 25 then (if (nxS b L s).1 6 = nI 140 then opnM b L (nxS b L s) 3 (if s.1 6 = nI 24 then 15 else 16) ((k, p, false, q, os) :: fs) cs u else fltRes ((nxS b L s).1 9))
  else if s.1 6 = nI 27 then .inl (nxS b L s, (k, p, false, q, os) :: fs, cs ++ [(0, s.1 7)], u, true)
  else if wrdP (s.1 6) then .inl (nxS b L s, (k, p, false, q, os) :: fs, cs ++ [(srt (s.1 6).toNatClampNeg, nI 0)], u, true)
  else fltRes (s.1 9)
def phs2 : List FR → List FR
  | [] => []
  | (k, _, g, q, os) :: r => (k, 2, g, q, os) :: r
def gonM (b : Nat → Int32) (L : Nat) (s : RS) (k p : Nat) (g : Bool) (q : Nat) (os : List Nat) (fs : List FR) (cs : CL3) (u : Nat) : RES :=
  if p < 2 ∧ arP (s.1 6) then .inl (nxS b L s, (k, p, g, q, opX (s.1 6) :: dpR (if s.1 6 = nI 143 ∨ s.1 6 = nI 145 then 5 else 6) os) :: fs, cs ++ opl (tkR (if s.1 6 = nI 143 ∨ s.1 6 = nI 145 then 5 else 6) os), u - c22 (tkR (if s.1 6 = nI 143 ∨ s.1 6 = nI 145 then 5 else 6) os), false)
  else if isT k ∧ p = 0 ∧ cmpP (s.1 6) then .inl (nxS b L s, (k, 1, g, q, opX (s.1 6) :: dpR 5 os) :: fs, cs ++ opl (tkR 5 os), u - c22 (tkR 5 os), false)
  else if isT k ∧ (s.1 6 = nI 21 ∨ s.1 6 = nI 20) then (if p = 0 then fltRes (s.1 9) else .inl (nxS b L s, (k, 0, true, q, (if s.1 6 = nI 21 then 20 else 21) :: dpR (if s.1 6 = nI 21 then 2 else 1) os) :: fs, cs ++ opl (tkR (if s.1 6 = nI 21 then 2 else 1) os), u - c22 (tkR (if s.1 6 = nI 21 then 2 else 1) os), false))
  else if isT k ∧ p = 0 then fltRes (s.1 9)
  else if k < 2 then (if s.1 6 = nI 29 then fltRes (s.1 9) else .inr (.inr (s, cs ++ opl (tkR 1 os))))
  else if k = 3 then (if s.1 6 = nI 144 then .inl (nxS b L s, (4, p, g, q, dpR 1 os) :: fs, cs ++ opl (tkR 1 os), u - c22 (tkR 1 os), false) else fltRes (s.1 9))
  else if s.1 6 = (if k = 5 then nI 193 else nI 141) then .inl (nxS b L s, if k = 5 then phs2 fs else fs, cs ++ opl (tkR 1 os) ++ (if k = 4 then [(q, nI 0)] else []), u - c22 (tkR 1 os) - 1, true)
  else fltRes (s.1 9)
abbrev WTy : Type := RS → List FR → CL3 → Nat → Bool → Prop
def RW (W : WTy) (WF : Int32 → Int32 → Prop) (WD : RS → CL3 → Prop) : RES → Prop
  | .inl r => W r.1 r.2.1 r.2.2.1 r.2.2.2.1 r.2.2.2.2
  | .inr (.inl r) => WF r.1 r.2
  | .inr (.inr r) => WD r.1 r.2
def totO : List FR → Nat
  | [] => 0
  | f :: r => totO r + f.2.2.2.2.length
def kb (k : Nat) : Nat := if 2 ≤ k then 1 else 0
def BdF (k : Nat) (os : List Nat) (fs : List FR) (u : Nat) : Prop := fs.length ≤ 7 ∧ totO fs + os.length ≤ 60 ∧ c22 os + kb k ≤ u ∧ u ≤ 7 ∧ (2 ≤ k → 1 ≤ fs.length)
def Clo (b : Nat → Int32) (L : Nat) (W : WTy) (WF : Int32 → Int32 → Prop) (WD : RS → CL3 → Prop) : Prop :=
  (∀ s s' fs cs u o, (∀ j, j ≤ 10 → s'.1 j = s.1 j) → W s' fs cs u o → W s fs cs u o) ∧
  (∀ s k p g q os fs cs u, BdF k os fs u → fs.length ≤ u → RW W WF WD (oprM b L s k p g q os fs cs u) → W s ((k, p, g, q, os) :: fs) cs u false) ∧
  (∀ s k p g q os fs cs u, BdF k os fs u → RW W WF WD (gonM b L s k p g q os fs cs u) → W s ((k, p, g, q, os) :: fs) cs u true)
def hdR (r : Nat) : List Nat → Prop
  | [] => True
  | o :: _ => rkN o < r
def EnT (k : Nat) (os : List Nat) (fs : List FR) (o m : Nat) : Prop := fs.length ≤ o ∧ totO fs + os.length ≤ m ∧ c22 os + kb k ≤ o ∧ (2 ≤ k → 1 ≤ fs.length)
def Cd (L p0 : Nat) (s : RS) (l : List Int32) : Prop := CB L p0 l.length s ∧ ∀ i x, l[i]? = some x → s.2 i = x
def ArN (x : Int32) : Prop := ¬ plusP x ∧ ¬ timeP x
def TkS (L : Nat) (T : Int32 → Prop) (sub : RS → Bool × RS) : Prop := ∀ p0 k s, CB L p0 k s → (sub s).1 = true → T ((sub s).2.1 6)
section LST
variable {r : Nat}
theorem opl_app {a c : List Nat} : opl (a ++ c) = opl a ++ opl c := List.map_append
theorem tk_app : ∀ {a c : List Nat}, (∀ x, x ∈ a → r ≤ rkN x) → hdR r c → tkR r (a ++ c) = a
  | [], [], _, _ => rfl
  | [], o :: l, _, h => by
    have h : rkN o < r := h
    show (if r ≤ rkN o then o :: tkR r l else []) = []
    rw [if_neg (by omega)]
  | o :: a, c, h, hc => by
    show (if r ≤ rkN o then o :: tkR r (a ++ c) else []) = o :: a
    rw [if_pos (h o (List.mem_cons_self ..)), tk_app (fun x hx => h x (List.mem_cons_of_mem _ hx)) hc]
theorem dp_app : ∀ {a c : List Nat}, (∀ x, x ∈ a → r ≤ rkN x) → hdR r c → dpR r (a ++ c) = c
  | [], [], _, _ => rfl
  | [], o :: l, _, h => by
    have h : rkN o < r := h
    show (if r ≤ rkN o then dpR r l else o :: l) = o :: l
    rw [if_neg (by omega)]
  | o :: a, c, h, hc => by
    show (if r ≤ rkN o then dpR r (a ++ c) else o :: (a ++ c)) = c
    rw [if_pos (h o (List.mem_cons_self ..)), dp_app (fun x hx => h x (List.mem_cons_of_mem _ hx)) hc]
theorem c22_app : ∀ {a c : List Nat}, c22 (a ++ c) = c22 a + c22 c
  | [], c => (Nat.zero_add _).symm
  | o :: a, c => by
    show (if o = 22 then 1 else 0) + c22 (a ++ c) = ((if o = 22 then 1 else 0) + c22 a) + c22 c
    rw [c22_app, Nat.add_assoc]
theorem c22_0 : ∀ {a : List Nat}, (∀ x, x ∈ a → ¬ x = 22) → c22 a = 0
  | [], _ => rfl
  | o :: a, h => by
    show (if o = 22 then 1 else 0) + c22 a = 0
    rw [if_neg (h o (List.mem_cons_self ..)), c22_0 (fun x hx => h x (List.mem_cons_of_mem _ hx))]
theorem c22_le : ∀ {a : List Nat}, c22 a ≤ a.length
  | [] => Nat.le_refl _
  | o :: a => by
    have := c22_le (a := a)
    show (if o = 22 then 1 else 0) + c22 a ≤ a.length + 1
    split <;> omega
theorem c22_rep : ∀ n, c22 (List.replicate n 22) = n
  | 0 => rfl
  | n + 1 => by
    rw [List.replicate_succ]
    show (if 22 = 22 then 1 else 0) + c22 (List.replicate n 22) = n + 1
    rw [c22_rep n, if_pos rfl, Nat.add_comm]
theorem opl_rep : ∀ n, opl (List.replicate n 22) = List.replicate n (22, nI 0)
  | 0 => rfl
  | n + 1 => by
    rw [List.replicate_succ, List.replicate_succ]
    show (22, nI 0) :: opl (List.replicate n 22) = _
    rw [opl_rep n]
theorem hd_nil : hdR r [] := trivial
theorem hd_mono {r2 : Nat} (h : r ≤ r2) : ∀ {c : List Nat}, hdR r c → hdR r2 c
  | [], _ => trivial
  | o :: _, hc => Nat.lt_of_lt_of_le hc h
theorem en_mono {k o m m2 : Nat} {os : List Nat} {fs : List FR} (h : m ≤ m2) (he : EnT k os fs o m) : EnT k os fs o m2 := ⟨he.1, Nat.le_trans he.2.1 h, he.2.2⟩
theorem en_cons {k o m x : Nat} {os : List Nat} {fs : List FR} (hx : ¬ x = 22) (he : EnT k os fs o m) : EnT k (x :: os) fs o (m + 1) := by
  obtain ⟨h1, h2, h3, h4⟩ := he
  refine ⟨h1, ?_, ?_, h4⟩
  · rw [List.length_cons]
    omega
  · show (if x = 22 then 1 else 0) + c22 os + kb k ≤ o
    rw [if_neg hx]
    omega
theorem bd_gon {k o m : Nat} {os ps : List Nat} {fs : List FR} (ho : o + c22 ps ≤ 7) (hm : m + ps.length ≤ 60) (he : EnT k os fs o m) : BdF k (ps ++ os) fs (o + c22 ps) := by
  obtain ⟨h1, h2, h3, h4⟩ := he
  refine ⟨by omega, ?_, ?_, ho, h4⟩
  · rw [List.length_append]
    omega
  · rw [c22_app]
    omega
theorem bd_opr {k o m : Nat} {os : List Nat} {fs : List FR} (ho : o ≤ 7) (hm : m ≤ 60) (he : EnT k os fs o m) : BdF k os fs o := by
  obtain ⟨h1, h2, h3, h4⟩ := he
  exact ⟨by omega, by omega, h3, ho, h4⟩
theorem en_new {k o m q kd p : Nat} {g : Bool} {os : List Nat} {fs : List FR} (hk : 2 ≤ kd) (he : EnT k os fs o m) : EnT kd [] ((k, p, g, q, os) :: fs) (o + 1) m := by
  obtain ⟨h1, h2, h3, h4⟩ := he
  refine ⟨?_, ?_, ?_, fun _ => ?_⟩
  · rw [List.length_cons]
    omega
  · show totO fs + os.length + 0 ≤ m
    omega
  · show 0 + kb kd ≤ o + 1
    unfold kb
    split <;> omega
  · rw [List.length_cons]
    omega
end LST
section CDP
variable {L p0 o : Nat} {b : Nat → Int32} {s : RS} {l : List Int32}
theorem get_snoc {v : Int32} {i : Nat} {x : Int32} (h : (l ++ [v])[i]? = some x) : (i < l.length ∧ l[i]? = some x) ∨ (i = l.length ∧ x = v) := by
  by_cases c : i < l.length
  · rw [List.getElem?_append_left c] at h
    exact Or.inl ⟨c, h⟩
  · rw [List.getElem?_append_right (by omega)] at h
    by_cases c2 : i = l.length
    · subst c2
      rw [Nat.sub_self] at h
      exact Or.inr ⟨rfl, (Option.some.inj h).symm⟩
    · obtain ⟨j, hj⟩ : ∃ j, i - l.length = j + 1 := ⟨i - l.length - 1, by omega⟩
      rw [hj] at h
      cases h
theorem put_snd {v : Int32} (h : s.1 14 = nI l.length) (hl : l.length < 1600) (hc : ∀ i x, l[i]? = some x → s.2 i = x) : ∀ i x, (l ++ [v])[i]? = some x → (putR v s).2 i = x := fun i x hx => by
  have e : putR v s = (upd s.1 14 (s.1 14 + nI 1), upd s.2 (s.1 14).toNatClampNeg v) := by
    unfold putR
    rw [if_pos (by rw [h]; exact (nI_ltI (by omega) (by omega)).mpr hl)]
  rw [e, h, nI_clamp (by omega)]
  show upd s.2 l.length v i = x
  rcases get_snoc hx with ⟨h1, h2⟩ | ⟨h1, h2⟩
  · rw [upd_ne (by omega)]
    exact hc i x h2
  · rw [h1, upd_same, h2]
theorem cd_lt (hLe : L ≤ 1600) (hp : 1 ≤ p0) (h : Cd L p0 s l) : l.length < 1600 := by
  obtain ⟨⟨-, -, st, a, -, -, c1, c2, c3, -⟩, -⟩ := h
  omega
theorem cd_ri (hLe : L ≤ 1600) (h : Cd L p0 s l) : RI L s := by
  obtain ⟨⟨h14, h3, st, a, h8, h4, c1, c2, c3, c4⟩, -⟩ := h
  exact ⟨h3, ⟨a, h4, c3⟩, l.length, h14, by omega⟩
theorem cd_wk (h : Cd L (p0 + 1) s l) : Cd L p0 s l := ⟨cb_wk h.1, h.2⟩
theorem cd_nx (hLe : L ≤ 1600) (h : Cd L p0 s l) (hk : ¬ s.1 6 = nI 28) : Cd L (p0 + 1) (nxS b L s) l := ⟨cb_nx hLe h.1 hk, h.2⟩
theorem cd_nx0 (hLe : L ≤ 1600) (h : Cd L p0 s l) : Cd L p0 (nxS b L s) l := ⟨cb_nx0 hLe h.1, h.2⟩
theorem cd_put {v : Int32} (hLe : L ≤ 1600) (h : Cd L (p0 + 1) s l) : Cd L p0 (putR v s) (l ++ [v]) := ⟨by
  rw [List.length_append]
  exact cb_put hLe h.1, put_snd h.1.1 (cd_lt hLe (by omega) h) h.2⟩
theorem cd_wd {v : Int32} (hLe : L ≤ 1600) (hp : 1 ≤ p0) (h : Cd L p0 s l) (hk : ¬ s.1 6 = nI 28) : Cd L p0 (nxS b L (putR v s)) (l ++ [v]) := ⟨by
  rw [List.length_append]
  exact cb_wd hLe h.1 hk, put_snd h.1.1 (cd_lt hLe hp h) h.2⟩
theorem cd_u {v : Int32} (h : Cd L p0 s l) : Cd L p0 (upd s.1 12 v, s.2) l := ⟨cb_u h.1, h.2⟩
theorem thn_tr {r : Bool × RS} {k : RS → Bool × RS} (h : r.1 = true) : thn r k = k r.2 := if_pos h
theorem thn_pt {t : RS} {k : RS → Bool × RS} : thn (true, t) k = k t := if_pos rfl
theorem thn_fa {r : Bool × RS} {k : RS → Bool × RS} (h : r.1 = false) : thn r k = (false, r.2) := if_neg (by rw [h]; decide)
def opn (s : RS) : RS := (upd s.1 12 (s.1 12 + nI 1), s.2)
theorem op_t (ho : s.1 12 = nI o) (h7 : o < 7) : opS b L s = (true, nxS b L (opn s)) := by
  unfold opS openR
  rw [if_pos (by rw [ho]; exact (nI_ltI (by omega) (by omega)).mpr h7)]
  rfl
theorem op_f (ho : s.1 12 = nI 7) : opS b L s = flS s (nI 5) (s.1 8) := by
  unfold opS openR
  rw [if_neg (by rw [ho]; decide)]
  rfl
theorem ps_t {w : Int32} (h : s.1 6 = w) : psS b L w s = (true, nxS b L s) := by
  unfold psS passR
  rw [if_pos h]
  rfl
theorem ps_f {w : Int32} (h : ¬ s.1 6 = w) : psS b L w s = flS s (nI 1) (s.1 9) := by
  unfold psS passR
  rw [if_neg h]
  rfl
theorem opn_j : ∀ j, j ≤ 10 → (opn s).1 j = s.1 j := fun j hj => upd_ne (by omega)
theorem opn_12 (ho : s.1 12 = nI o) : (nxS b L (opn s)).1 12 = nI (o + 1) := by
  show nextR b L (opn s).1 12 = _
  rw [nextR_ne (by omega) (by omega)]
  show upd s.1 12 (s.1 12 + nI 1) 12 = _
  rw [upd_same, ho, nI_add]
theorem put_j {v : Int32} : ∀ j, j ≤ 10 → (putR v s).1 j = s.1 j := fun j hj => by
  unfold putR
  split
  · exact pr_ne (by omega)
  · rfl
theorem dec_j : ∀ j, j ≤ 10 → (decS s).1 j = s.1 j := fun j hj => upd_ne (by omega)
theorem dec_12 (ho : s.1 12 = nI (o + 1)) : (decS s).1 12 = nI o := by
  show upd s.1 12 (s.1 12 - nI 1) 12 = _
  rw [upd_same, ho, nI_subN (by omega), Nat.add_sub_cancel]
end CDP
section E10
variable {b : Nat → Int32} {L : Nat}
def Eq10 (f g : Nat → Int32) : Prop := ∀ j, j ≤ 10 → f j = g j
theorem e10_u {f g : Nat → Int32} {i : Nat} {v : Int32} (h : Eq10 f g) : Eq10 (upd f i v) (upd g i v) := fun j hj => by
  rw [upd_a, upd_a, h j hj]
theorem e10_tok {f g : Nat → Int32} {s : Nat} (h : Eq10 f g) : Eq10 (tokR b L s f) (tokR b L s g) := by
  unfold tokR wordR digR sgnR
  dsimp only
  repeat' split
  all_goals first
    | exact e10_u (e10_u (e10_u (e10_u h)))
    | exact e10_u (e10_u (e10_u h))
    | exact e10_u (e10_u h)
    | exact e10_u h
theorem e10_nx {s t : RS} (h : Eq10 s.1 t.1) : Eq10 (nxS b L s).1 (nxS b L t).1 := by
  show Eq10 (nextR b L s.1) (nextR b L t.1)
  unfold nextR
  rw [h 4 (by omega)]
  generalize skipB b (L - (t.1 4).toNatClampNeg) (t.1 4).toNatClampNeg = p
  have hf : Eq10 (frsF s.1 p) (frsF t.1 p) := e10_u (e10_u (e10_u h))
  have ht : Eq10 (tokR b L p (upd (frsF s.1 p) 10 (nI 1))) (tokR b L p (upd (frsF t.1 p) 10 (nI 1))) := e10_tok (e10_u hf)
  unfold nextS
  by_cases c : L ≤ p
  · rw [if_pos c, if_pos c]
    exact e10_u hf
  · rw [if_neg c, if_neg c, h 10 (by omega)]
    have h10 := ht 10 (by omega)
    try dsimp only
    rw [h10]
    split
    · exact e10_u (e10_u ht)
    · exact ht
end E10
