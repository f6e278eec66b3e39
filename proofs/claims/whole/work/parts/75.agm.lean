/-! the reference: what stays when a part of it changes -/
def Agm (X : Nat → Nat → Prop) (h h' : AH) : Prop := hN h' = hN h ∧ hW h' = hW h ∧ hLn h' = hLn h ∧ hR h' = hR h ∧ hS h' = hS h ∧ ∀ b j, ¬ X b j → hI h' b j = hI h b j ∧ hL h' b j = hL h b j
/-- the places of layer v -/
def lyX (v b j : Nat) : Prop := (b = 207 ∧ j = v) ∨ ((b = 208 ∨ b = 209) ∧ 8 * v ≤ j ∧ j < 8 * v + 8) ∨ (b = 210 ∧ 96 * v ≤ j ∧ j < 96 * v + 96) ∨ (b = 211 ∧ j = v) ∨ (212 ≤ b ∧ b ≤ 215 ∧ 40 * v ≤ j ∧ j < 40 * v + 40)
/-- what is asked, and the stack -/
def asX (b j : Nat) : Prop := (b = 174 ∧ 64 ≤ j ∧ j ≤ 68) ∨ b = 216
def dyX (v b j : Nat) : Prop := lyX v b j ∨ (b = 174 ∧ 64 ≤ j ∧ j ≤ 73) ∨ b = 216
/-- what is not of the Capital -/
def ncX (b j : Nat) : Prop := ¬ (b = 174 ∧ j = 13) ∧ ¬ (176 ≤ b ∧ b < 200)
def LayB (h : AH) (v : Nat) (s : PS) : Prop := Lay h v s ∧ ∀ k, k ≤ 4 → hI h 174 (69 + k) = brF s k
section AGM
variable {h h' h'' : AH} {v bk : Nat} {s t : PS} {C : PC} {X Y : Nat → Nat → Prop}
theorem Agm_refl : Agm X h h := ⟨rfl, rfl, rfl, rfl, rfl, fun _ _ _ => ⟨rfl, rfl⟩⟩
theorem Agm_trans (a : Agm X h h') (b : Agm X h' h'') : Agm X h h'' := ⟨b.1.trans a.1, b.2.1.trans a.2.1, b.2.2.1.trans a.2.2.1, b.2.2.2.1.trans a.2.2.2.1, b.2.2.2.2.1.trans a.2.2.2.2.1, fun x j hx => ⟨(b.2.2.2.2.2 x j hx).1.trans (a.2.2.2.2.2 x j hx).1, (b.2.2.2.2.2 x j hx).2.trans (a.2.2.2.2.2 x j hx).2⟩⟩
theorem Agm_sub (hs : ∀ b j, X b j → Y b j) (a : Agm X h h') : Agm Y h h' := ⟨a.1, a.2.1, a.2.2.1, a.2.2.2.1, a.2.2.2.2.1, fun b j hb => a.2.2.2.2.2 b j (fun z => hb (hs b j z))⟩
theorem Agm_sI {a i : Nat} {x : Int32} (hx : X a i) : Agm X h (sI h a i x) := ⟨rfl, rfl, rfl, rfl, rfl, fun b j hb => ⟨if_neg (fun z => hb (by rw [z.1, z.2]; exact hx)), rfl⟩⟩
theorem Agm_sL {a i : Nat} {x : Int64} (hx : X a i) : Agm X h (sL h a i x) := ⟨rfl, rfl, rfl, rfl, rfl, fun b j hb => ⟨rfl, if_neg (fun z => hb (by rw [z.1, z.2]; exact hx))⟩⟩
theorem Agm_I (a : Agm X h h') {b j : Nat} (hb : ¬ X b j) : hI h' b j = hI h b j := (a.2.2.2.2.2 b j hb).1
theorem Agm_L (a : Agm X h h') {b j : Nat} (hb : ¬ X b j) : hL h' b j = hL h b j := (a.2.2.2.2.2 b j hb).2
theorem Mo_agm (a : Agm X h h') (hM : MoAt h) : MoAt h' := by
  unfold MoAt at hM ⊢
  rw [a.1, a.2.2.1, a.2.2.2.1]
  exact hM
theorem Mc_agm (hX : ∀ b j, X b j → ncX b j) (a : Agm X h h') (hC : McAt h bk C) : McAt h' bk C := by
  have e1 : hI h' 174 13 = hI h 174 13 := Agm_I a (fun z => (hX _ _ z).1 ⟨rfl, rfl⟩)
  have e : ∀ b, 176 ≤ b → b < 200 → hI h' b = hI h b := fun b h1 h2 => by
    funext j
    exact Agm_I a (fun z => (hX _ _ z).2 ⟨h1, h2⟩)
  unfold McAt at hC ⊢
  rw [e1, e 176 (by omega) (by omega), e 177 (by omega) (by omega), e 178 (by omega) (by omega), e 179 (by omega) (by omega), e 180 (by omega) (by omega), e 181 (by omega) (by omega), e 182 (by omega) (by omega), e 183 (by omega) (by omega), e 184 (by omega) (by omega), e 185 (by omega) (by omega), e 186 (by omega) (by omega), e 187 (by omega) (by omega), e 188 (by omega) (by omega), e 191 (by omega) (by omega)]
  exact hC
theorem row_in {a j : Nat} {old old' : Nat → Int32} (ha : a ≤ 8) (hx : lyX v (207 + a) j) : rowL s v a old j = rowL s v a old' j := by
  revert hx
  refine k9 (P := fun a => lyX v (207 + a) j → rowL s v a old j = rowL s v a old' j) ?_ ?_ ?_ ?_ ?_ ?_ ?_ ?_ ?_ a ha
  all_goals
    intro hx
    unfold lyX at hx
    simp only [rowL]
    split
    · rfl
    · omega
theorem row_out {a j : Nat} {old : Nat → Int32} (ha : a ≤ 8) (hx : ¬ lyX v (207 + a) j) : rowL s v a old j = old j := by
  revert hx
  refine k9 (P := fun a => ¬ lyX v (207 + a) j → rowL s v a old j = old j) ?_ ?_ ?_ ?_ ?_ ?_ ?_ ?_ ?_ a ha
  all_goals
    intro hx
    unfold lyX at hx
    simp only [rowL]
    split
    · omega
    · rfl
theorem Lay_agm (hX : ∀ b j, X b j → ¬ lyX v b j) (a : Agm X h h') (H : Lay h v s) : Lay h' v s := fun q j hq => by
  by_cases c : lyX v (207 + q) j
  · rw [Agm_I a (fun z => hX _ _ z c), H q j hq]
    exact row_in hq c
  · exact (row_out hq c).symm
theorem LB_agm (hX : ∀ b j, X b j → ¬ lyX v b j ∧ ¬ (b = 174 ∧ 69 ≤ j ∧ j ≤ 73)) (a : Agm X h h') (H : LayB h v s) : LayB h' v s := ⟨Lay_agm (fun b j z => (hX b j z).1) a H.1, fun k hk => (Agm_I a (fun z => (hX _ _ z).2 ⟨rfl, by omega, by omega⟩)).trans (H.2 k hk)⟩
theorem LB_self (H : LayB h v s) : wrL h v s = h := (wrL_ext (h := h) (v := v) (s := s) (f := hI h) (fun _ _ _ => rfl) (fun a j ha => H.1 a j ha) (fun j => by
  by_cases c : 69 ≤ j ∧ j ≤ 73
  · rw [if_pos c]
    have := H.2 (j - 69) (by omega)
    rw [show 69 + (j - 69) = j by omega] at this
    exact this
  · rw [if_neg c])).symm
theorem LB_wrL : LayB (wrL h v s) v s := ⟨Lay_wrL, fun _ hk => wL_br hk⟩
theorem Ag_wrL : Agm (dyX v) h (wrL h v s) := ⟨rfl, rfl, rfl, rfl, rfl, fun b j hb => by
  refine ⟨?_, rfl⟩
  rw [hI_wrL]
  split
  · obtain ⟨a, rfl, ha⟩ : ∃ a, b = 207 + a ∧ a ≤ 8 := ⟨b - 207, by omega, by omega⟩
    rw [Nat.add_sub_cancel_left]
    exact row_out ha (fun z => hb (Or.inl z))
  · split
    · exact absurd (Or.inr (Or.inl ⟨by omega, by omega, by omega⟩)) hb
    · rfl⟩
theorem as_dy {b j : Nat} (z : asX b j) : dyX v b j := by
  unfold asX at z
  unfold dyX
  omega
theorem dy_nc {b j : Nat} (z : dyX v b j) : ncX b j := by
  unfold dyX lyX at z
  unfold ncX
  omega
theorem as_nc {b j : Nat} (z : asX b j) : ncX b j := dy_nc (v := 0) (as_dy z)
theorem as_lb {b j : Nat} (z : asX b j) : ¬ lyX v b j ∧ ¬ (b = 174 ∧ 69 ≤ j ∧ j ≤ 73) := by
  unfold asX at z
  unfold lyX
  omega
theorem dy_ly {w b j : Nat} (hw : ¬ w = v) (z : dyX v b j) : ¬ lyX w b j := by
  unfold dyX lyX at z
  unfold lyX
  omega
theorem Mo_as (a : Agm asX h h') (hM : MoAt h) : MoAt h' := Mo_agm a hM
theorem Mc_as (a : Agm asX h h') (hC : McAt h bk C) : McAt h' bk C := Mc_agm (fun _ _ => as_nc) a hC
theorem Lay_as (a : Agm asX h h') (H : Lay h v s) : Lay h' v s := Lay_agm (fun _ _ z => (as_lb z).1) a H
theorem LB_as (a : Agm asX h h') (H : LayB h v s) : LayB h' v s := LB_agm (fun _ _ z => as_lb z) a H
theorem Mc_dy (a : Agm (dyX v) h h') (hC : McAt h bk C) : McAt h' bk C := Mc_agm (fun _ _ => dy_nc) a hC
end AGM
/-- a number below 4096 -/
def Sm (x : Int32) : Prop := ∃ k, k < 4096 ∧ x = nI k
theorem nI_self (x : Int32) : x = nI x.toBitVec.toNat := by
  apply Int32.toBitVec_inj.mp
  show x.toBitVec = BitVec.ofNat 32 x.toBitVec.toNat
  rw [BitVec.ofNat_toNat, BitVec.setWidth_eq]
theorem Sm_0 : Sm (nI 0) := ⟨0, by omega, rfl⟩
theorem Sm_n {k : Nat} (hk : k < 4096) : Sm (nI k) := ⟨k, hk, rfl⟩
theorem Sm_or {x y : Int32} (hx : Sm x) (hy : Sm y) : Sm (x ||| y) := by
  obtain ⟨a, ha, rfl⟩ := hx
  obtain ⟨b, hb, rfl⟩ := hy
  exact ⟨a ||| b, Nat.or_lt_two_pow (n := 12) ha hb, nI_or a b⟩
theorem Sm_and {x y : Int32} (hx : Sm x) : Sm (x &&& y) := by
  obtain ⟨a, ha, rfl⟩ := hx
  refine ⟨a &&& y.toBitVec.toNat, Nat.lt_of_le_of_lt Nat.and_le_left ha, ?_⟩
  rw [← nI_and, ← nI_self]
theorem bt_n {f : Nat} (hf : f < 12) : bt (nI f) = nI (2 ^ f) :=
  (by decide +kernel : ∀ f : Fin 12, bt (nI f.val) = nI (2 ^ f.val)) ⟨f, hf⟩
theorem Sm_bt {f : Nat} (hf : f < 12) : Sm (bt (nI f)) := ⟨2 ^ f, (Nat.pow_lt_pow_of_lt (a := 2) (by omega) hf : 2 ^ f < 2 ^ 12), bt_n hf⟩
theorem Sm_mv {C : PC} {s : PS} {i : Nat} (hn : C.nf ≤ 12) : Sm (mvM C s i) := foN_lt (P := Sm) (n := C.nf) (fun f a hf ha => by
  unfold mvF
  split
  · exact Sm_or ha (Sm_bt (by omega))
  · exact Sm_or ha Sm_0) C.nf 0 (nI 0) (by omega) Sm_0
theorem Sm_com {C : PC} {day : Int32} (hn : C.nf ≤ 12) : Sm (comM C.fd C.nf day) := foN_lt (P := Sm) (n := C.nf) (fun f a hf ha => by
  unfold comF
  split
  · exact Sm_or ha (Sm_bt (by omega))
  · exact ha) C.nf 0 (nI 0) (by omega) Sm_0
/-- what is VALID: of the people there are what their licences say, of others nothing -/
def VOK (C : PC) (s : PS) : Prop := (∀ i, i < C.np → s.valid i = mvM C s i) ∧ ∀ i, C.np ≤ i → i < 8 → s.valid i = nI 0
def mlF (C : PC) (s : PS) (i : Nat) (acc : Int32) : Int32 := acc - bcM (mvM C s i)
theorem fo_sub {b : Nat → Int32} : ∀ (k i : Nat) (x a : Int32), foN (fun j acc => acc - b j) i k (x - a) = x - foN (fun j acc => acc + b j) i k a
  | 0, _, _, _ => rfl
  | k + 1, i, x, a => by
    show foN (fun j acc => acc - b j) (i + 1) k (x - a - b i) = x - foN (fun j acc => acc + b j) (i + 1) k (a + b i)
    rw [Int32.sub_sub]
    exact fo_sub k (i + 1) x (a + b i)
theorem bc_0 : bcM (nI 0) = nI 0 := by decide
theorem sub_n0 {x : Int32} : x - nI 0 = x := Int32.sub_zero x
theorem add_n0 {x : Int32} : x + nI 0 = x := Int32.add_zero x
theorem left_eq {C : PC} {s : PS} (hV : VOK C s) (hn : C.np ≤ 8) : foN (mlF C s) 0 C.np C.stock = C.stock - cvM s.valid := by
  have e1 : foN (mlF C s) 0 C.np C.stock = foN (fun j acc => acc - bcM (s.valid j)) 0 C.np C.stock := fo_same _ _ _ (fun j a _ hj => by
    unfold mlF
    rw [hV.1 j (by omega)])
  have e2 := fo_sub (b := fun j => bcM (s.valid j)) C.np 0 C.stock (nI 0)
  rw [sub_n0] at e2
  rw [e1, e2]
  congr 1
  show _ = foN (cvF s.valid) 0 8 (nI 0)
  rw [show (8 : Nat) = C.np + (8 - C.np) by omega, fo_cut]
  symm
  refine fo_id _ _ _ (fun j a h1 h2 => ?_)
  unfold cvF
  rw [hV.2 j (by omega) (by omega), bc_0, add_n0]
