/-! ONE STEP OF THE READER IS A STEP OF THE MACHINE -/
def tysA (dA : Nat → ClassId) : List (ClassId × FieldType) := [(dA 10, .int), (dA 11, .byte), (dA 12, .boolean), (dA 13, .long), (dA 14, .object RX7)]
def Wrl (D : va_G) (dA : Nat → ClassId) (s : State) : Prop := va_K D vwCl (tysA dA) s ∧ (∀ w ∈ NW, va_Nw w s) ∧ va_AO RX7 s
def EXT (X : XT) (U : State) (H : Heap) : Prop :=
  va_Z RX0 "NOT_TOLD" "[I" (.ref (X.2.1 0)) (fun q => X.1 ≤ q) U H ∧ va_T .int (X.2.1 0) 0 (fun _ => .int 0) (fun q => X.1 ≤ q) U H ∧ vk_R RX6 25 ownTx (X.2.1 1) U ∧ vk_S 1 [208] [ownBs] (fun _ => X.2.1 1) (fun _ => X.2.1 2) (fun q => X.1 ≤ q) U H ∧ va_Z "java/lang/String" "COMPACT_STRINGS" "Z" (.int 1) (fun q => X.1 ≤ q) U H ∧ va_Z "jdk/internal/util/Preconditions" "SIOOBE_FORMATTER" "Ljava/util/function/BiFunction;" (va_rf X.2.2.1) (fun q => X.1 ≤ q) U H ∧ va_T .int (X.2.1 3) X.2.2.2.1 (fun j => .int (X.2.2.2.2 j)) (fun q => X.1 ≤ q) U H
theorem EXT.go {X : XT} {s U : State} {H : Heap} {locs : List Loc} (h : EXT X s s.heap) (hS : va_S (fun q => X.1 ≤ q) s.heap H locs) (hW : s.WarmedH U.vm) : EXT X U H :=
  ⟨(h.1.kept hS.2.1).moved hW.alike, (h.2.1.kept hS.2.1).moved hW.alike, h.2.2.1.warm hW, (h.2.2.2.1.kept hS.2.1).moved hW.alike, (h.2.2.2.2.1.kept hS.2.1).moved hW.alike, (h.2.2.2.2.2.1.kept hS.2.1).moved hW.alike, (h.2.2.2.2.2.2.kept hS.2.1).moved hW.alike⟩
theorem EXT.same {X : XT} {u U : State} {H : Heap} (hv : u.vm = U.vm) (h : EXT X u H) : EXT X U H :=
  have ha : u.vm.Alike U.vm := by rw [hv]; exact Vm.Alike.refl U.vm
  ⟨h.1.moved ha, h.2.1.moved ha, vk_R.same hv.symm h.2.2.1, h.2.2.2.1.moved ha, h.2.2.2.2.1.moved ha, h.2.2.2.2.2.1.moved ha, h.2.2.2.2.2.2.moved ha⟩
def Cx (D : va_G) (dA : Nat → ClassId) (X : XT) (d mi n0 : Nat) (p : Program) (R : Room) (s : State) (m : MethodId) (args : Array Value) (meth : Method) (c : Code) : Prop :=
  p.tables.exec = Jvm.exec ∧ c.code = cOf mi ∧ c.maxLocals = mlOf mi ∧ s.vm.findClass (ownL.getD (oiOf mi) "") = some m.cls ∧ (∀ w ∈ GW, w.before args s = true) ∧ (d + 1 ≤ R.frames ∧ 40 * (d + 1) ≤ R.locals) ∧ (isIni mi = true → meth.name = "<init>") ∧ Wrl D dA s ∧ X.1 ≤ s.heap.size ∧ s.heap.size ≤ X.1 + n0 ∧ EXT X s s.heap
theorem nx_inv {pc pc' : Nat} {ls ls' st st' : List Value} {h h' : AH} (hs : nx pc ls st h = some (.inl (pc', ls', st', h'))) : pc = pc' ∧ ls = ls' ∧ st = st' ∧ h = h' := by
  unfold nx at hs
  cases hs
  exact ⟨rfl, rfl, rfl, rfl⟩
theorem ck_inv {c : Prop} [Decidable c] {z : Option NX} {q : NX} (hs : ck c z = some q) : c ∧ z = some q := by
  unfold ck at hs
  split at hs
  · rename_i hc
    exact ⟨hc, hs⟩
  · cases hs
theorem br_inv {c : Prop} [Decidable c] {a b : Option NX} {q : NX} (hs : br c a b = some q) : (c ∧ a = some q) ∨ (¬ c ∧ b = some q) := by
  unfold br at hs
  split at hs
  · rename_i hc
    exact Or.inl ⟨hc, hs⟩
  · rename_i hc
    exact Or.inr ⟨hc, hs⟩
theorem jm_inv {pc : Nat} {off : Int} {k : Nat → Option NX} {q : NX} (hs : jm pc off k = some q) : ∃ t : Nat, (pc : Int) + off = (t : Int) ∧ k t = some q := by
  unfold jm at hs
  split at hs
  · rename_i hc
    exact ⟨_, (Int.toNat_of_nonneg hc).symm, hs⟩
  · cases hs
theorem pI_inv {st : List Value} {k : Int32 → List Value → Option NX} {q : NX} (hs : pI st k = some q) : ∃ x r, st = .int x :: r ∧ k x r = some q := by
  unfold pI at hs
  split at hs
  · exact ⟨_, _, rfl, hs⟩
  · cases hs
theorem pII_inv {st : List Value} {k : Int32 → Int32 → List Value → Option NX} {q : NX} (hs : pII st k = some q) : ∃ x y r, st = .int y :: .int x :: r ∧ k x y r = some q := by
  unfold pII at hs
  split at hs
  · exact ⟨_, _, _, rfl, hs⟩
  · cases hs
theorem pJ_inv {st : List Value} {k : Int64 → List Value → Option NX} {q : NX} (hs : pJ st k = some q) : ∃ x r, st = .long x :: r ∧ k x r = some q := by
  unfold pJ at hs
  split at hs
  · exact ⟨_, _, rfl, hs⟩
  · cases hs
theorem pJJ_inv {st : List Value} {k : Int64 → Int64 → List Value → Option NX} {q : NX} (hs : pJJ st k = some q) : ∃ x y r, st = .long y :: .long x :: r ∧ k x y r = some q := by
  unfold pJJ at hs
  split at hs
  · exact ⟨_, _, _, rfl, hs⟩
  · cases hs
theorem pJI_inv {st : List Value} {k : Int64 → Int32 → List Value → Option NX} {q : NX} (hs : pJI st k = some q) : ∃ x y r, st = .int y :: .long x :: r ∧ k x y r = some q := by
  unfold pJI at hs
  split at hs
  · exact ⟨_, _, _, rfl, hs⟩
  · cases hs
theorem pR_inv {st : List Value} {k : Nat → List Value → Option NX} {q : NX} (hs : pR st k = some q) : ∃ a r, st = .ref a :: r ∧ k a r = some q := by
  unfold pR at hs
  split at hs
  · exact ⟨_, _, rfl, hs⟩
  · cases hs
theorem pRI_inv {st : List Value} {k : Nat → Int32 → List Value → Option NX} {q : NX} (hs : pRI st k = some q) : ∃ a i r, st = .int i :: .ref a :: r ∧ k a i r = some q := by
  unfold pRI at hs
  split at hs
  · exact ⟨_, _, _, rfl, hs⟩
  · cases hs
theorem pRJ_inv {st : List Value} {k : Nat → Int64 → List Value → Option NX} {q : NX} (hs : pRJ st k = some q) : ∃ a i r, st = .long i :: .ref a :: r ∧ k a i r = some q := by
  unfold pRJ at hs
  split at hs
  · exact ⟨_, _, _, rfl, hs⟩
  · cases hs
theorem pRR_inv {st : List Value} {k : Nat → Nat → List Value → Option NX} {q : NX} (hs : pRR st k = some q) : ∃ a v r, st = .ref v :: .ref a :: r ∧ k a v r = some q := by
  unfold pRR at hs
  split at hs
  · exact ⟨_, _, _, rfl, hs⟩
  · cases hs
theorem pRII_inv {st : List Value} {k : Nat → Int32 → Int32 → List Value → Option NX} {q : NX} (hs : pRII st k = some q) : ∃ a i x r, st = .int x :: .int i :: .ref a :: r ∧ k a i x r = some q := by
  unfold pRII at hs
  split at hs
  · exact ⟨_, _, _, _, rfl, hs⟩
  · cases hs
theorem pRIJ_inv {st : List Value} {k : Nat → Int32 → Int64 → List Value → Option NX} {q : NX} (hs : pRIJ st k = some q) : ∃ a i x r, st = .long x :: .int i :: .ref a :: r ∧ k a i x r = some q := by
  unfold pRIJ at hs
  split at hs
  · exact ⟨_, _, _, _, rfl, hs⟩
  · cases hs
theorem pRIR_inv {st : List Value} {k : Nat → Int32 → Nat → List Value → Option NX} {q : NX} (hs : pRIR st k = some q) : ∃ a i v r, st = .ref v :: .int i :: .ref a :: r ∧ k a i v r = some q := by
  unfold pRIR at hs
  split at hs
  · exact ⟨_, _, _, _, rfl, hs⟩
  · cases hs
theorem pCopy_inv {st : List Value} {k : Nat → Int32 → Nat → Int32 → Int32 → List Value → Option NX} {q : NX} (hs : pCopy st k = some q) : ∃ a0 sp a dp n r, st = .int n :: .int dp :: .ref a :: .int sp :: .ref a0 :: r ∧ k a0 sp a dp n r = some q := by
  unfold pCopy at hs
  split at hs
  · exact ⟨_, _, _, _, _, _, rfl, hs⟩
  · cases hs
theorem pIe_inv {st : List Value} {k : Int32 → Option NX} {q : NX} (hs : pIe st k = some q) : ∃ x, st = [.int x] ∧ k x = some q := by
  unfold pIe at hs
  split at hs
  · exact ⟨_, rfl, hs⟩
  · cases hs
theorem pJe_inv {st : List Value} {k : Int64 → Option NX} {q : NX} (hs : pJe st k = some q) : ∃ x, st = [.long x] ∧ k x = some q := by
  unfold pJe at hs
  split at hs
  · exact ⟨_, rfl, hs⟩
  · cases hs
theorem pRe_inv {st : List Value} {k : Nat → Option NX} {q : NX} (hs : pRe st k = some q) : ∃ x, st = [.ref x] ∧ k x = some q := by
  unfold pRe at hs
  split at hs
  · exact ⟨_, rfl, hs⟩
  · cases hs
theorem pE_inv {st : List Value} {z : Option NX} {q : NX} (hs : pE st z = some q) : st = [] ∧ z = some q := by
  unfold pE at hs
  split at hs
  · exact ⟨rfl, hs⟩
  · cases hs
theorem ldI_inv {ls : List Value} {i : Nat} {k : Int32 → Option NX} {q : NX} (hs : ldI ls i k = some q) : ∃ x, ls[i]? = some (.int x) ∧ k x = some q := by
  unfold ldI at hs
  split at hs
  · rename_i x hx
    exact ⟨x, hx, hs⟩
  · cases hs
theorem ldJ_inv {ls : List Value} {i : Nat} {k : Int64 → Option NX} {q : NX} (hs : ldJ ls i k = some q) : ∃ x, ls[i]? = some (.long x) ∧ k x = some q := by
  unfold ldJ at hs
  split at hs
  · rename_i x hx
    exact ⟨x, hx, hs⟩
  · cases hs
theorem ldR_inv {ls : List Value} {i : Nat} {k : Nat → Option NX} {q : NX} (hs : ldR ls i k = some q) : ∃ x, ls[i]? = some (.ref x) ∧ k x = some q := by
  unfold ldR at hs
  split at hs
  · rename_i x hx
    exact ⟨x, hx, hs⟩
  · cases hs
theorem is1_cat {X : XT} {v : Value} (h : is1 v = true) : (cv X v).category = 1 := by
  cases v <;> first | rfl | (simp [is1] at h)
theorem p1_inv {st : List Value} {k : Value → List Value → Option NX} {q : NX} (hs : p1 st k = some q) : ∃ v r, st = v :: r ∧ is1 v = true ∧ k v r = some q := by
  unfold p1 at hs
  split at hs
  · split at hs
    · rename_i h1
      exact ⟨_, _, rfl, h1, hs⟩
    · cases hs
  · cases hs
theorem p11_inv {st : List Value} {k : Value → Value → List Value → Option NX} {q : NX} (hs : p11 st k = some q) : ∃ v x r, st = v :: x :: r ∧ is1 v = true ∧ is1 x = true ∧ k v x r = some q := by
  unfold p11 at hs
  split at hs
  · split at hs
    · rename_i h1
      rw [Bool.and_eq_true] at h1
      exact ⟨_, _, _, rfl, h1.1, h1.2, hs⟩
    · cases hs
  · cases hs
theorem popN_inv : ∀ (n : Nat) (acc st a r : List Value), popN n acc st = some (a, r) → ∃ b : List Value, b.length = n ∧ st = b ++ r ∧ a = b.reverse ++ acc
  | 0, acc, st, a, r, h => by
    cases h
    exact ⟨[], rfl, rfl, rfl⟩
  | n + 1, acc, v :: st, a, r, h => by
    obtain ⟨b, h1, h2, h3⟩ := popN_inv n (v :: acc) st a r h
    exact ⟨v :: b, by simp [h1], by simp [h2], by simp [h3]⟩
  | n + 1, acc, [], a, r, h => by cases h
theorem pA_inv {n : Nat} {st : List Value} {k : List Value → List Value → Option NX} {q : NX} (hs : pA n st k = some q) : ∃ as r, st = as.reverse ++ r ∧ as.length = n ∧ k as r = some q := by
  unfold pA at hs
  split at hs
  · rename_i a r h
    obtain ⟨b, h1, h2, h3⟩ := popN_inv _ _ _ _ _ h
    rw [List.append_nil] at h3
    exact ⟨a, r, by rw [h3, List.reverse_reverse]; exact h2, by rw [h3, List.length_reverse, h1], hs⟩
  · cases hs
theorem inb_in {i : Int32} {n : Nat} (h : inb i n) : vp_in i n := vp_in_iff.mpr h

section ST
variable {p : Program} {l : Launch} {e : Env} {R : Room} {s : State} {m : MethodId} {args : Array Value} {below : List Frame} {meth : Method} {c : Code} {Q : State → Prop} {D : va_G} {dA : Nat → ClassId} {X : XT} {n0 w0 d mi : Nat}
def WW (p : Program) (l : Launch) (e : Env) (R : Room) (s : State) (m : MethodId) (args : Array Value) (below : List Frame) (meth : Method) (c : Code) (Q : State → Prop) (D : va_G) (dA : Nat → ClassId) (X : XT) (n0 w0 mi pc : Nat) (ls st : List Value) (h : AH) : Prop :=
  ∀ (H : Heap) (locs : List Loc) (lsS : Array Slot), va_P D vwCl (wl X dA h) H → va_S (fun q => X.1 ≤ q) s.heap H locs → LV X (mlOf mi) lsS ls → W p l e R s m args below meth c H locs (hN h - n0) (hW h - w0) Q (F0 m pc lsS (st.map (cv X)))
theorem sd_iadd {pc len pc' : Nat} {ls st ls' st' : List Value} {h h' : AH} (C0 : Cx D dA X d mi n0 p R s m args meth c) (hi : ins mi pc = some (.iadd, len)) (hs : step mi (.iadd) pc ls st h = some (.inl (pc', ls', st', h'))) (hn0 : n0 ≤ hN h) (hw0 : w0 ≤ hW h) (hc1 : hN h' - n0 ≤ R.cells) (hc2 : hW h' - w0 ≤ R.slots) (hmx : hN h' ≤ 1000000) (hsc : hS h = X.2.2.2) (k : WW p l e R s m args below meth c Q D dA X n0 w0 mi pc' ls' st' h') : WW p l e R s m args below meth c Q D dA X n0 w0 mi pc ls st h := by
  obtain ⟨hx, hb, hml, hown, hts, ⟨hfr, hlo⟩, hini, ⟨hK, hNW, hAO⟩, hX1, hX2, hEX⟩ := C0
  have hg := dec_n hi (n := 0) rfl
  obtain ⟨x, y, r, rfl, hs⟩ := pII_inv hs
  obtain ⟨rfl, rfl, rfl, rfl⟩ := nx_inv hs
  exact fun H locs lsS hP hS hl => lv_iadd hx hb hg (k H locs lsS hP hS hl)
theorem sd_isub {pc len pc' : Nat} {ls st ls' st' : List Value} {h h' : AH} (C0 : Cx D dA X d mi n0 p R s m args meth c) (hi : ins mi pc = some (.isub, len)) (hs : step mi (.isub) pc ls st h = some (.inl (pc', ls', st', h'))) (hn0 : n0 ≤ hN h) (hw0 : w0 ≤ hW h) (hc1 : hN h' - n0 ≤ R.cells) (hc2 : hW h' - w0 ≤ R.slots) (hmx : hN h' ≤ 1000000) (hsc : hS h = X.2.2.2) (k : WW p l e R s m args below meth c Q D dA X n0 w0 mi pc' ls' st' h') : WW p l e R s m args below meth c Q D dA X n0 w0 mi pc ls st h := by
  obtain ⟨hx, hb, hml, hown, hts, ⟨hfr, hlo⟩, hini, ⟨hK, hNW, hAO⟩, hX1, hX2, hEX⟩ := C0
  have hg := dec_n hi (n := 0) rfl
  obtain ⟨x, y, r, rfl, hs⟩ := pII_inv hs
  obtain ⟨rfl, rfl, rfl, rfl⟩ := nx_inv hs
  exact fun H locs lsS hP hS hl => lv_isub hx hb hg (k H locs lsS hP hS hl)
theorem sd_imul {pc len pc' : Nat} {ls st ls' st' : List Value} {h h' : AH} (C0 : Cx D dA X d mi n0 p R s m args meth c) (hi : ins mi pc = some (.imul, len)) (hs : step mi (.imul) pc ls st h = some (.inl (pc', ls', st', h'))) (hn0 : n0 ≤ hN h) (hw0 : w0 ≤ hW h) (hc1 : hN h' - n0 ≤ R.cells) (hc2 : hW h' - w0 ≤ R.slots) (hmx : hN h' ≤ 1000000) (hsc : hS h = X.2.2.2) (k : WW p l e R s m args below meth c Q D dA X n0 w0 mi pc' ls' st' h') : WW p l e R s m args below meth c Q D dA X n0 w0 mi pc ls st h := by
  obtain ⟨hx, hb, hml, hown, hts, ⟨hfr, hlo⟩, hini, ⟨hK, hNW, hAO⟩, hX1, hX2, hEX⟩ := C0
  have hg := dec_n hi (n := 0) rfl
  obtain ⟨x, y, r, rfl, hs⟩ := pII_inv hs
  obtain ⟨rfl, rfl, rfl, rfl⟩ := nx_inv hs
  exact fun H locs lsS hP hS hl => lv_imul hx hb hg (k H locs lsS hP hS hl)
theorem sd_iand {pc len pc' : Nat} {ls st ls' st' : List Value} {h h' : AH} (C0 : Cx D dA X d mi n0 p R s m args meth c) (hi : ins mi pc = some (.iand, len)) (hs : step mi (.iand) pc ls st h = some (.inl (pc', ls', st', h'))) (hn0 : n0 ≤ hN h) (hw0 : w0 ≤ hW h) (hc1 : hN h' - n0 ≤ R.cells) (hc2 : hW h' - w0 ≤ R.slots) (hmx : hN h' ≤ 1000000) (hsc : hS h = X.2.2.2) (k : WW p l e R s m args below meth c Q D dA X n0 w0 mi pc' ls' st' h') : WW p l e R s m args below meth c Q D dA X n0 w0 mi pc ls st h := by
  obtain ⟨hx, hb, hml, hown, hts, ⟨hfr, hlo⟩, hini, ⟨hK, hNW, hAO⟩, hX1, hX2, hEX⟩ := C0
  have hg := dec_n hi (n := 0) rfl
  obtain ⟨x, y, r, rfl, hs⟩ := pII_inv hs
  obtain ⟨rfl, rfl, rfl, rfl⟩ := nx_inv hs
  exact fun H locs lsS hP hS hl => lv_iand hx hb hg (k H locs lsS hP hS hl)
theorem sd_ior {pc len pc' : Nat} {ls st ls' st' : List Value} {h h' : AH} (C0 : Cx D dA X d mi n0 p R s m args meth c) (hi : ins mi pc = some (.ior, len)) (hs : step mi (.ior) pc ls st h = some (.inl (pc', ls', st', h'))) (hn0 : n0 ≤ hN h) (hw0 : w0 ≤ hW h) (hc1 : hN h' - n0 ≤ R.cells) (hc2 : hW h' - w0 ≤ R.slots) (hmx : hN h' ≤ 1000000) (hsc : hS h = X.2.2.2) (k : WW p l e R s m args below meth c Q D dA X n0 w0 mi pc' ls' st' h') : WW p l e R s m args below meth c Q D dA X n0 w0 mi pc ls st h := by
  obtain ⟨hx, hb, hml, hown, hts, ⟨hfr, hlo⟩, hini, ⟨hK, hNW, hAO⟩, hX1, hX2, hEX⟩ := C0
  have hg := dec_n hi (n := 0) rfl
  obtain ⟨x, y, r, rfl, hs⟩ := pII_inv hs
  obtain ⟨rfl, rfl, rfl, rfl⟩ := nx_inv hs
  exact fun H locs lsS hP hS hl => lv_ior hx hb hg (k H locs lsS hP hS hl)
theorem sd_ixor {pc len pc' : Nat} {ls st ls' st' : List Value} {h h' : AH} (C0 : Cx D dA X d mi n0 p R s m args meth c) (hi : ins mi pc = some (.ixor, len)) (hs : step mi (.ixor) pc ls st h = some (.inl (pc', ls', st', h'))) (hn0 : n0 ≤ hN h) (hw0 : w0 ≤ hW h) (hc1 : hN h' - n0 ≤ R.cells) (hc2 : hW h' - w0 ≤ R.slots) (hmx : hN h' ≤ 1000000) (hsc : hS h = X.2.2.2) (k : WW p l e R s m args below meth c Q D dA X n0 w0 mi pc' ls' st' h') : WW p l e R s m args below meth c Q D dA X n0 w0 mi pc ls st h := by
  obtain ⟨hx, hb, hml, hown, hts, ⟨hfr, hlo⟩, hini, ⟨hK, hNW, hAO⟩, hX1, hX2, hEX⟩ := C0
  have hg := dec_n hi (n := 0) rfl
  obtain ⟨x, y, r, rfl, hs⟩ := pII_inv hs
  obtain ⟨rfl, rfl, rfl, rfl⟩ := nx_inv hs
  exact fun H locs lsS hP hS hl => lv_ixor hx hb hg (k H locs lsS hP hS hl)
theorem sd_ishl {pc len pc' : Nat} {ls st ls' st' : List Value} {h h' : AH} (C0 : Cx D dA X d mi n0 p R s m args meth c) (hi : ins mi pc = some (.ishl, len)) (hs : step mi (.ishl) pc ls st h = some (.inl (pc', ls', st', h'))) (hn0 : n0 ≤ hN h) (hw0 : w0 ≤ hW h) (hc1 : hN h' - n0 ≤ R.cells) (hc2 : hW h' - w0 ≤ R.slots) (hmx : hN h' ≤ 1000000) (hsc : hS h = X.2.2.2) (k : WW p l e R s m args below meth c Q D dA X n0 w0 mi pc' ls' st' h') : WW p l e R s m args below meth c Q D dA X n0 w0 mi pc ls st h := by
  obtain ⟨hx, hb, hml, hown, hts, ⟨hfr, hlo⟩, hini, ⟨hK, hNW, hAO⟩, hX1, hX2, hEX⟩ := C0
  have hg := dec_n hi (n := 0) rfl
  obtain ⟨x, y, r, rfl, hs⟩ := pII_inv hs
  obtain ⟨rfl, rfl, rfl, rfl⟩ := nx_inv hs
  exact fun H locs lsS hP hS hl => lv_ishl hx hb hg (k H locs lsS hP hS hl)
theorem sd_ishr {pc len pc' : Nat} {ls st ls' st' : List Value} {h h' : AH} (C0 : Cx D dA X d mi n0 p R s m args meth c) (hi : ins mi pc = some (.ishr, len)) (hs : step mi (.ishr) pc ls st h = some (.inl (pc', ls', st', h'))) (hn0 : n0 ≤ hN h) (hw0 : w0 ≤ hW h) (hc1 : hN h' - n0 ≤ R.cells) (hc2 : hW h' - w0 ≤ R.slots) (hmx : hN h' ≤ 1000000) (hsc : hS h = X.2.2.2) (k : WW p l e R s m args below meth c Q D dA X n0 w0 mi pc' ls' st' h') : WW p l e R s m args below meth c Q D dA X n0 w0 mi pc ls st h := by
  obtain ⟨hx, hb, hml, hown, hts, ⟨hfr, hlo⟩, hini, ⟨hK, hNW, hAO⟩, hX1, hX2, hEX⟩ := C0
  have hg := dec_n hi (n := 0) rfl
  obtain ⟨x, y, r, rfl, hs⟩ := pII_inv hs
  obtain ⟨rfl, rfl, rfl, rfl⟩ := nx_inv hs
  exact fun H locs lsS hP hS hl => lv_ishr hx hb hg (k H locs lsS hP hS hl)
theorem sd_iushr {pc len pc' : Nat} {ls st ls' st' : List Value} {h h' : AH} (C0 : Cx D dA X d mi n0 p R s m args meth c) (hi : ins mi pc = some (.iushr, len)) (hs : step mi (.iushr) pc ls st h = some (.inl (pc', ls', st', h'))) (hn0 : n0 ≤ hN h) (hw0 : w0 ≤ hW h) (hc1 : hN h' - n0 ≤ R.cells) (hc2 : hW h' - w0 ≤ R.slots) (hmx : hN h' ≤ 1000000) (hsc : hS h = X.2.2.2) (k : WW p l e R s m args below meth c Q D dA X n0 w0 mi pc' ls' st' h') : WW p l e R s m args below meth c Q D dA X n0 w0 mi pc ls st h := by
  obtain ⟨hx, hb, hml, hown, hts, ⟨hfr, hlo⟩, hini, ⟨hK, hNW, hAO⟩, hX1, hX2, hEX⟩ := C0
  have hg := dec_n hi (n := 0) rfl
  obtain ⟨x, y, r, rfl, hs⟩ := pII_inv hs
  obtain ⟨rfl, rfl, rfl, rfl⟩ := nx_inv hs
  exact fun H locs lsS hP hS hl => lv_iushr hx hb hg rfl (k H locs lsS hP hS hl)
theorem sd_idiv {pc len pc' : Nat} {ls st ls' st' : List Value} {h h' : AH} (C0 : Cx D dA X d mi n0 p R s m args meth c) (hi : ins mi pc = some (.idiv, len)) (hs : step mi (.idiv) pc ls st h = some (.inl (pc', ls', st', h'))) (hn0 : n0 ≤ hN h) (hw0 : w0 ≤ hW h) (hc1 : hN h' - n0 ≤ R.cells) (hc2 : hW h' - w0 ≤ R.slots) (hmx : hN h' ≤ 1000000) (hsc : hS h = X.2.2.2) (k : WW p l e R s m args below meth c Q D dA X n0 w0 mi pc' ls' st' h') : WW p l e R s m args below meth c Q D dA X n0 w0 mi pc ls st h := by
  obtain ⟨hx, hb, hml, hown, hts, ⟨hfr, hlo⟩, hini, ⟨hK, hNW, hAO⟩, hX1, hX2, hEX⟩ := C0
  have hg := dec_n hi (n := 0) rfl
  obtain ⟨x, y, r, rfl, hs⟩ := pII_inv hs
  obtain ⟨hne, hs⟩ := ck_inv hs
  obtain ⟨rfl, rfl, rfl, rfl⟩ := nx_inv hs
  exact fun H locs lsS hP hS hl => lv_idiv hx hb hg hne (k H locs lsS hP hS hl)
theorem sd_irem {pc len pc' : Nat} {ls st ls' st' : List Value} {h h' : AH} (C0 : Cx D dA X d mi n0 p R s m args meth c) (hi : ins mi pc = some (.irem, len)) (hs : step mi (.irem) pc ls st h = some (.inl (pc', ls', st', h'))) (hn0 : n0 ≤ hN h) (hw0 : w0 ≤ hW h) (hc1 : hN h' - n0 ≤ R.cells) (hc2 : hW h' - w0 ≤ R.slots) (hmx : hN h' ≤ 1000000) (hsc : hS h = X.2.2.2) (k : WW p l e R s m args below meth c Q D dA X n0 w0 mi pc' ls' st' h') : WW p l e R s m args below meth c Q D dA X n0 w0 mi pc ls st h := by
  obtain ⟨hx, hb, hml, hown, hts, ⟨hfr, hlo⟩, hini, ⟨hK, hNW, hAO⟩, hX1, hX2, hEX⟩ := C0
  have hg := dec_n hi (n := 0) rfl
  obtain ⟨x, y, r, rfl, hs⟩ := pII_inv hs
  obtain ⟨hne, hs⟩ := ck_inv hs
  obtain ⟨rfl, rfl, rfl, rfl⟩ := nx_inv hs
  exact fun H locs lsS hP hS hl => lv_irem hx hb hg hne (k H locs lsS hP hS hl)
theorem sd_ladd {pc len pc' : Nat} {ls st ls' st' : List Value} {h h' : AH} (C0 : Cx D dA X d mi n0 p R s m args meth c) (hi : ins mi pc = some (.ladd, len)) (hs : step mi (.ladd) pc ls st h = some (.inl (pc', ls', st', h'))) (hn0 : n0 ≤ hN h) (hw0 : w0 ≤ hW h) (hc1 : hN h' - n0 ≤ R.cells) (hc2 : hW h' - w0 ≤ R.slots) (hmx : hN h' ≤ 1000000) (hsc : hS h = X.2.2.2) (k : WW p l e R s m args below meth c Q D dA X n0 w0 mi pc' ls' st' h') : WW p l e R s m args below meth c Q D dA X n0 w0 mi pc ls st h := by
  obtain ⟨hx, hb, hml, hown, hts, ⟨hfr, hlo⟩, hini, ⟨hK, hNW, hAO⟩, hX1, hX2, hEX⟩ := C0
  have hg := dec_n hi (n := 0) rfl
  obtain ⟨x, y, r, rfl, hs⟩ := pJJ_inv hs
  obtain ⟨rfl, rfl, rfl, rfl⟩ := nx_inv hs
  exact fun H locs lsS hP hS hl => lv_ladd hx hb hg (k H locs lsS hP hS hl)
theorem sd_lsub {pc len pc' : Nat} {ls st ls' st' : List Value} {h h' : AH} (C0 : Cx D dA X d mi n0 p R s m args meth c) (hi : ins mi pc = some (.lsub, len)) (hs : step mi (.lsub) pc ls st h = some (.inl (pc', ls', st', h'))) (hn0 : n0 ≤ hN h) (hw0 : w0 ≤ hW h) (hc1 : hN h' - n0 ≤ R.cells) (hc2 : hW h' - w0 ≤ R.slots) (hmx : hN h' ≤ 1000000) (hsc : hS h = X.2.2.2) (k : WW p l e R s m args below meth c Q D dA X n0 w0 mi pc' ls' st' h') : WW p l e R s m args below meth c Q D dA X n0 w0 mi pc ls st h := by
  obtain ⟨hx, hb, hml, hown, hts, ⟨hfr, hlo⟩, hini, ⟨hK, hNW, hAO⟩, hX1, hX2, hEX⟩ := C0
  have hg := dec_n hi (n := 0) rfl
  obtain ⟨x, y, r, rfl, hs⟩ := pJJ_inv hs
  obtain ⟨rfl, rfl, rfl, rfl⟩ := nx_inv hs
  exact fun H locs lsS hP hS hl => lv_lsub hx hb hg (k H locs lsS hP hS hl)
theorem sd_lmul {pc len pc' : Nat} {ls st ls' st' : List Value} {h h' : AH} (C0 : Cx D dA X d mi n0 p R s m args meth c) (hi : ins mi pc = some (.lmul, len)) (hs : step mi (.lmul) pc ls st h = some (.inl (pc', ls', st', h'))) (hn0 : n0 ≤ hN h) (hw0 : w0 ≤ hW h) (hc1 : hN h' - n0 ≤ R.cells) (hc2 : hW h' - w0 ≤ R.slots) (hmx : hN h' ≤ 1000000) (hsc : hS h = X.2.2.2) (k : WW p l e R s m args below meth c Q D dA X n0 w0 mi pc' ls' st' h') : WW p l e R s m args below meth c Q D dA X n0 w0 mi pc ls st h := by
  obtain ⟨hx, hb, hml, hown, hts, ⟨hfr, hlo⟩, hini, ⟨hK, hNW, hAO⟩, hX1, hX2, hEX⟩ := C0
  have hg := dec_n hi (n := 0) rfl
  obtain ⟨x, y, r, rfl, hs⟩ := pJJ_inv hs
  obtain ⟨rfl, rfl, rfl, rfl⟩ := nx_inv hs
  exact fun H locs lsS hP hS hl => lv_lmul hx hb hg (k H locs lsS hP hS hl)
theorem sd_land {pc len pc' : Nat} {ls st ls' st' : List Value} {h h' : AH} (C0 : Cx D dA X d mi n0 p R s m args meth c) (hi : ins mi pc = some (.land, len)) (hs : step mi (.land) pc ls st h = some (.inl (pc', ls', st', h'))) (hn0 : n0 ≤ hN h) (hw0 : w0 ≤ hW h) (hc1 : hN h' - n0 ≤ R.cells) (hc2 : hW h' - w0 ≤ R.slots) (hmx : hN h' ≤ 1000000) (hsc : hS h = X.2.2.2) (k : WW p l e R s m args below meth c Q D dA X n0 w0 mi pc' ls' st' h') : WW p l e R s m args below meth c Q D dA X n0 w0 mi pc ls st h := by
  obtain ⟨hx, hb, hml, hown, hts, ⟨hfr, hlo⟩, hini, ⟨hK, hNW, hAO⟩, hX1, hX2, hEX⟩ := C0
  have hg := dec_n hi (n := 0) rfl
  obtain ⟨x, y, r, rfl, hs⟩ := pJJ_inv hs
  obtain ⟨rfl, rfl, rfl, rfl⟩ := nx_inv hs
  exact fun H locs lsS hP hS hl => lv_land hx hb hg (k H locs lsS hP hS hl)
theorem sd_lor {pc len pc' : Nat} {ls st ls' st' : List Value} {h h' : AH} (C0 : Cx D dA X d mi n0 p R s m args meth c) (hi : ins mi pc = some (.lor, len)) (hs : step mi (.lor) pc ls st h = some (.inl (pc', ls', st', h'))) (hn0 : n0 ≤ hN h) (hw0 : w0 ≤ hW h) (hc1 : hN h' - n0 ≤ R.cells) (hc2 : hW h' - w0 ≤ R.slots) (hmx : hN h' ≤ 1000000) (hsc : hS h = X.2.2.2) (k : WW p l e R s m args below meth c Q D dA X n0 w0 mi pc' ls' st' h') : WW p l e R s m args below meth c Q D dA X n0 w0 mi pc ls st h := by
  obtain ⟨hx, hb, hml, hown, hts, ⟨hfr, hlo⟩, hini, ⟨hK, hNW, hAO⟩, hX1, hX2, hEX⟩ := C0
  have hg := dec_n hi (n := 0) rfl
  obtain ⟨x, y, r, rfl, hs⟩ := pJJ_inv hs
  obtain ⟨rfl, rfl, rfl, rfl⟩ := nx_inv hs
  exact fun H locs lsS hP hS hl => lv_lor hx hb hg (k H locs lsS hP hS hl)
theorem sd_lxor {pc len pc' : Nat} {ls st ls' st' : List Value} {h h' : AH} (C0 : Cx D dA X d mi n0 p R s m args meth c) (hi : ins mi pc = some (.lxor, len)) (hs : step mi (.lxor) pc ls st h = some (.inl (pc', ls', st', h'))) (hn0 : n0 ≤ hN h) (hw0 : w0 ≤ hW h) (hc1 : hN h' - n0 ≤ R.cells) (hc2 : hW h' - w0 ≤ R.slots) (hmx : hN h' ≤ 1000000) (hsc : hS h = X.2.2.2) (k : WW p l e R s m args below meth c Q D dA X n0 w0 mi pc' ls' st' h') : WW p l e R s m args below meth c Q D dA X n0 w0 mi pc ls st h := by
  obtain ⟨hx, hb, hml, hown, hts, ⟨hfr, hlo⟩, hini, ⟨hK, hNW, hAO⟩, hX1, hX2, hEX⟩ := C0
  have hg := dec_n hi (n := 0) rfl
  obtain ⟨x, y, r, rfl, hs⟩ := pJJ_inv hs
  obtain ⟨rfl, rfl, rfl, rfl⟩ := nx_inv hs
  exact fun H locs lsS hP hS hl => lv_lxor hx hb hg (k H locs lsS hP hS hl)
theorem sd_ldiv {pc len pc' : Nat} {ls st ls' st' : List Value} {h h' : AH} (C0 : Cx D dA X d mi n0 p R s m args meth c) (hi : ins mi pc = some (.ldiv, len)) (hs : step mi (.ldiv) pc ls st h = some (.inl (pc', ls', st', h'))) (hn0 : n0 ≤ hN h) (hw0 : w0 ≤ hW h) (hc1 : hN h' - n0 ≤ R.cells) (hc2 : hW h' - w0 ≤ R.slots) (hmx : hN h' ≤ 1000000) (hsc : hS h = X.2.2.2) (k : WW p l e R s m args below meth c Q D dA X n0 w0 mi pc' ls' st' h') : WW p l e R s m args below meth c Q D dA X n0 w0 mi pc ls st h := by
  obtain ⟨hx, hb, hml, hown, hts, ⟨hfr, hlo⟩, hini, ⟨hK, hNW, hAO⟩, hX1, hX2, hEX⟩ := C0
  have hg := dec_n hi (n := 0) rfl
  obtain ⟨x, y, r, rfl, hs⟩ := pJJ_inv hs
  obtain ⟨hne, hs⟩ := ck_inv hs
  obtain ⟨rfl, rfl, rfl, rfl⟩ := nx_inv hs
  exact fun H locs lsS hP hS hl => lv_ldiv hx hb hg hne (k H locs lsS hP hS hl)
theorem sd_lrem {pc len pc' : Nat} {ls st ls' st' : List Value} {h h' : AH} (C0 : Cx D dA X d mi n0 p R s m args meth c) (hi : ins mi pc = some (.lrem, len)) (hs : step mi (.lrem) pc ls st h = some (.inl (pc', ls', st', h'))) (hn0 : n0 ≤ hN h) (hw0 : w0 ≤ hW h) (hc1 : hN h' - n0 ≤ R.cells) (hc2 : hW h' - w0 ≤ R.slots) (hmx : hN h' ≤ 1000000) (hsc : hS h = X.2.2.2) (k : WW p l e R s m args below meth c Q D dA X n0 w0 mi pc' ls' st' h') : WW p l e R s m args below meth c Q D dA X n0 w0 mi pc ls st h := by
  obtain ⟨hx, hb, hml, hown, hts, ⟨hfr, hlo⟩, hini, ⟨hK, hNW, hAO⟩, hX1, hX2, hEX⟩ := C0
  have hg := dec_n hi (n := 0) rfl
  obtain ⟨x, y, r, rfl, hs⟩ := pJJ_inv hs
  obtain ⟨hne, hs⟩ := ck_inv hs
  obtain ⟨rfl, rfl, rfl, rfl⟩ := nx_inv hs
  exact fun H locs lsS hP hS hl => lv_lrem hx hb hg hne (k H locs lsS hP hS hl)
theorem sd_lcmp {pc len pc' : Nat} {ls st ls' st' : List Value} {h h' : AH} (C0 : Cx D dA X d mi n0 p R s m args meth c) (hi : ins mi pc = some (.lcmp, len)) (hs : step mi (.lcmp) pc ls st h = some (.inl (pc', ls', st', h'))) (hn0 : n0 ≤ hN h) (hw0 : w0 ≤ hW h) (hc1 : hN h' - n0 ≤ R.cells) (hc2 : hW h' - w0 ≤ R.slots) (hmx : hN h' ≤ 1000000) (hsc : hS h = X.2.2.2) (k : WW p l e R s m args below meth c Q D dA X n0 w0 mi pc' ls' st' h') : WW p l e R s m args below meth c Q D dA X n0 w0 mi pc ls st h := by
  obtain ⟨hx, hb, hml, hown, hts, ⟨hfr, hlo⟩, hini, ⟨hK, hNW, hAO⟩, hX1, hX2, hEX⟩ := C0
  have hg := dec_n hi (n := 0) rfl
  obtain ⟨x, y, r, rfl, hs⟩ := pJJ_inv hs
  obtain ⟨rfl, rfl, rfl, rfl⟩ := nx_inv hs
  exact fun H locs lsS hP hS hl => W.lcmp hx hb hg (k H locs lsS hP hS hl)
theorem sd_lshl {pc len pc' : Nat} {ls st ls' st' : List Value} {h h' : AH} (C0 : Cx D dA X d mi n0 p R s m args meth c) (hi : ins mi pc = some (.lshl, len)) (hs : step mi (.lshl) pc ls st h = some (.inl (pc', ls', st', h'))) (hn0 : n0 ≤ hN h) (hw0 : w0 ≤ hW h) (hc1 : hN h' - n0 ≤ R.cells) (hc2 : hW h' - w0 ≤ R.slots) (hmx : hN h' ≤ 1000000) (hsc : hS h = X.2.2.2) (k : WW p l e R s m args below meth c Q D dA X n0 w0 mi pc' ls' st' h') : WW p l e R s m args below meth c Q D dA X n0 w0 mi pc ls st h := by
  obtain ⟨hx, hb, hml, hown, hts, ⟨hfr, hlo⟩, hini, ⟨hK, hNW, hAO⟩, hX1, hX2, hEX⟩ := C0
  have hg := dec_n hi (n := 0) rfl
  obtain ⟨x, y, r, rfl, hs⟩ := pJI_inv hs
  obtain ⟨rfl, rfl, rfl, rfl⟩ := nx_inv hs
  exact fun H locs lsS hP hS hl => lv_lshl hx hb hg rfl (k H locs lsS hP hS hl)
theorem sd_lshr {pc len pc' : Nat} {ls st ls' st' : List Value} {h h' : AH} (C0 : Cx D dA X d mi n0 p R s m args meth c) (hi : ins mi pc = some (.lshr, len)) (hs : step mi (.lshr) pc ls st h = some (.inl (pc', ls', st', h'))) (hn0 : n0 ≤ hN h) (hw0 : w0 ≤ hW h) (hc1 : hN h' - n0 ≤ R.cells) (hc2 : hW h' - w0 ≤ R.slots) (hmx : hN h' ≤ 1000000) (hsc : hS h = X.2.2.2) (k : WW p l e R s m args below meth c Q D dA X n0 w0 mi pc' ls' st' h') : WW p l e R s m args below meth c Q D dA X n0 w0 mi pc ls st h := by
  obtain ⟨hx, hb, hml, hown, hts, ⟨hfr, hlo⟩, hini, ⟨hK, hNW, hAO⟩, hX1, hX2, hEX⟩ := C0
  have hg := dec_n hi (n := 0) rfl
  obtain ⟨x, y, r, rfl, hs⟩ := pJI_inv hs
  obtain ⟨rfl, rfl, rfl, rfl⟩ := nx_inv hs
  exact fun H locs lsS hP hS hl => lv_lshr hx hb hg rfl (k H locs lsS hP hS hl)
theorem sd_ineg {pc len pc' : Nat} {ls st ls' st' : List Value} {h h' : AH} (C0 : Cx D dA X d mi n0 p R s m args meth c) (hi : ins mi pc = some (.ineg, len)) (hs : step mi (.ineg) pc ls st h = some (.inl (pc', ls', st', h'))) (hn0 : n0 ≤ hN h) (hw0 : w0 ≤ hW h) (hc1 : hN h' - n0 ≤ R.cells) (hc2 : hW h' - w0 ≤ R.slots) (hmx : hN h' ≤ 1000000) (hsc : hS h = X.2.2.2) (k : WW p l e R s m args below meth c Q D dA X n0 w0 mi pc' ls' st' h') : WW p l e R s m args below meth c Q D dA X n0 w0 mi pc ls st h := by
  obtain ⟨hx, hb, hml, hown, hts, ⟨hfr, hlo⟩, hini, ⟨hK, hNW, hAO⟩, hX1, hX2, hEX⟩ := C0
  have hg := dec_n hi (n := 0) rfl
  obtain ⟨x, r, rfl, hs⟩ := pI_inv hs
  obtain ⟨rfl, rfl, rfl, rfl⟩ := nx_inv hs
  exact fun H locs lsS hP hS hl => lv_ineg hx hb hg (k H locs lsS hP hS hl)
theorem sd_i2l {pc len pc' : Nat} {ls st ls' st' : List Value} {h h' : AH} (C0 : Cx D dA X d mi n0 p R s m args meth c) (hi : ins mi pc = some (.i2l, len)) (hs : step mi (.i2l) pc ls st h = some (.inl (pc', ls', st', h'))) (hn0 : n0 ≤ hN h) (hw0 : w0 ≤ hW h) (hc1 : hN h' - n0 ≤ R.cells) (hc2 : hW h' - w0 ≤ R.slots) (hmx : hN h' ≤ 1000000) (hsc : hS h = X.2.2.2) (k : WW p l e R s m args below meth c Q D dA X n0 w0 mi pc' ls' st' h') : WW p l e R s m args below meth c Q D dA X n0 w0 mi pc ls st h := by
  obtain ⟨hx, hb, hml, hown, hts, ⟨hfr, hlo⟩, hini, ⟨hK, hNW, hAO⟩, hX1, hX2, hEX⟩ := C0
  have hg := dec_n hi (n := 0) rfl
  obtain ⟨x, r, rfl, hs⟩ := pI_inv hs
  obtain ⟨rfl, rfl, rfl, rfl⟩ := nx_inv hs
  exact fun H locs lsS hP hS hl => lv_i2l hx hb hg rfl (k H locs lsS hP hS hl)
theorem sd_i2b {pc len pc' : Nat} {ls st ls' st' : List Value} {h h' : AH} (C0 : Cx D dA X d mi n0 p R s m args meth c) (hi : ins mi pc = some (.i2b, len)) (hs : step mi (.i2b) pc ls st h = some (.inl (pc', ls', st', h'))) (hn0 : n0 ≤ hN h) (hw0 : w0 ≤ hW h) (hc1 : hN h' - n0 ≤ R.cells) (hc2 : hW h' - w0 ≤ R.slots) (hmx : hN h' ≤ 1000000) (hsc : hS h = X.2.2.2) (k : WW p l e R s m args below meth c Q D dA X n0 w0 mi pc' ls' st' h') : WW p l e R s m args below meth c Q D dA X n0 w0 mi pc ls st h := by
  obtain ⟨hx, hb, hml, hown, hts, ⟨hfr, hlo⟩, hini, ⟨hK, hNW, hAO⟩, hX1, hX2, hEX⟩ := C0
  have hg := dec_n hi (n := 0) rfl
  obtain ⟨x, r, rfl, hs⟩ := pI_inv hs
  obtain ⟨rfl, rfl, rfl, rfl⟩ := nx_inv hs
  exact fun H locs lsS hP hS hl => lv_i2b hx hb hg rfl (k H locs lsS hP hS hl)
theorem sd_i2c {pc len pc' : Nat} {ls st ls' st' : List Value} {h h' : AH} (C0 : Cx D dA X d mi n0 p R s m args meth c) (hi : ins mi pc = some (.i2c, len)) (hs : step mi (.i2c) pc ls st h = some (.inl (pc', ls', st', h'))) (hn0 : n0 ≤ hN h) (hw0 : w0 ≤ hW h) (hc1 : hN h' - n0 ≤ R.cells) (hc2 : hW h' - w0 ≤ R.slots) (hmx : hN h' ≤ 1000000) (hsc : hS h = X.2.2.2) (k : WW p l e R s m args below meth c Q D dA X n0 w0 mi pc' ls' st' h') : WW p l e R s m args below meth c Q D dA X n0 w0 mi pc ls st h := by
  obtain ⟨hx, hb, hml, hown, hts, ⟨hfr, hlo⟩, hini, ⟨hK, hNW, hAO⟩, hX1, hX2, hEX⟩ := C0
  have hg := dec_n hi (n := 0) rfl
  obtain ⟨x, r, rfl, hs⟩ := pI_inv hs
  obtain ⟨rfl, rfl, rfl, rfl⟩ := nx_inv hs
  exact fun H locs lsS hP hS hl => lv_i2c hx hb hg rfl (k H locs lsS hP hS hl)
theorem sd_l2i {pc len pc' : Nat} {ls st ls' st' : List Value} {h h' : AH} (C0 : Cx D dA X d mi n0 p R s m args meth c) (hi : ins mi pc = some (.l2i, len)) (hs : step mi (.l2i) pc ls st h = some (.inl (pc', ls', st', h'))) (hn0 : n0 ≤ hN h) (hw0 : w0 ≤ hW h) (hc1 : hN h' - n0 ≤ R.cells) (hc2 : hW h' - w0 ≤ R.slots) (hmx : hN h' ≤ 1000000) (hsc : hS h = X.2.2.2) (k : WW p l e R s m args below meth c Q D dA X n0 w0 mi pc' ls' st' h') : WW p l e R s m args below meth c Q D dA X n0 w0 mi pc ls st h := by
  obtain ⟨hx, hb, hml, hown, hts, ⟨hfr, hlo⟩, hini, ⟨hK, hNW, hAO⟩, hX1, hX2, hEX⟩ := C0
  have hg := dec_n hi (n := 0) rfl
  obtain ⟨x, r, rfl, hs⟩ := pJ_inv hs
  obtain ⟨rfl, rfl, rfl, rfl⟩ := nx_inv hs
  exact fun H locs lsS hP hS hl => lv_l2i hx hb hg rfl (k H locs lsS hP hS hl)
theorem sd_iconst {pc len pc' : Nat} {z : Int} {ls st ls' st' : List Value} {h h' : AH} (C0 : Cx D dA X d mi n0 p R s m args meth c) (hi : ins mi pc = some (.iconst z, len)) (hs : step mi (.iconst z) pc ls st h = some (.inl (pc', ls', st', h'))) (hn0 : n0 ≤ hN h) (hw0 : w0 ≤ hW h) (hc1 : hN h' - n0 ≤ R.cells) (hc2 : hW h' - w0 ≤ R.slots) (hmx : hN h' ≤ 1000000) (hsc : hS h = X.2.2.2) (k : WW p l e R s m args below meth c Q D dA X n0 w0 mi pc' ls' st' h') : WW p l e R s m args below meth c Q D dA X n0 w0 mi pc ls st h := by
  obtain ⟨hx, hb, hml, hown, hts, ⟨hfr, hlo⟩, hini, ⟨hK, hNW, hAO⟩, hX1, hX2, hEX⟩ := C0
  have hg := dec_n hi (n := 0) rfl
  obtain ⟨rfl, rfl, rfl, rfl⟩ := nx_inv hs
  exact fun H locs lsS hP hS hl => lv_iconst hx hb hg rfl (k H locs lsS hP hS hl)
theorem sd_bipush {pc len pc' : Nat} {z : Int} {ls st ls' st' : List Value} {h h' : AH} (C0 : Cx D dA X d mi n0 p R s m args meth c) (hi : ins mi pc = some (.bipush z, len)) (hs : step mi (.bipush z) pc ls st h = some (.inl (pc', ls', st', h'))) (hn0 : n0 ≤ hN h) (hw0 : w0 ≤ hW h) (hc1 : hN h' - n0 ≤ R.cells) (hc2 : hW h' - w0 ≤ R.slots) (hmx : hN h' ≤ 1000000) (hsc : hS h = X.2.2.2) (k : WW p l e R s m args below meth c Q D dA X n0 w0 mi pc' ls' st' h') : WW p l e R s m args below meth c Q D dA X n0 w0 mi pc ls st h := by
  obtain ⟨hx, hb, hml, hown, hts, ⟨hfr, hlo⟩, hini, ⟨hK, hNW, hAO⟩, hX1, hX2, hEX⟩ := C0
  have hg := dec_n hi (n := 1) rfl
  obtain ⟨rfl, rfl, rfl, rfl⟩ := nx_inv hs
  exact fun H locs lsS hP hS hl => lv_bipush hx hb hg rfl (k H locs lsS hP hS hl)
theorem sd_sipush {pc len pc' : Nat} {z : Int} {ls st ls' st' : List Value} {h h' : AH} (C0 : Cx D dA X d mi n0 p R s m args meth c) (hi : ins mi pc = some (.sipush z, len)) (hs : step mi (.sipush z) pc ls st h = some (.inl (pc', ls', st', h'))) (hn0 : n0 ≤ hN h) (hw0 : w0 ≤ hW h) (hc1 : hN h' - n0 ≤ R.cells) (hc2 : hW h' - w0 ≤ R.slots) (hmx : hN h' ≤ 1000000) (hsc : hS h = X.2.2.2) (k : WW p l e R s m args below meth c Q D dA X n0 w0 mi pc' ls' st' h') : WW p l e R s m args below meth c Q D dA X n0 w0 mi pc ls st h := by
  obtain ⟨hx, hb, hml, hown, hts, ⟨hfr, hlo⟩, hini, ⟨hK, hNW, hAO⟩, hX1, hX2, hEX⟩ := C0
  have hg := dec_n hi (n := 2) rfl
  obtain ⟨rfl, rfl, rfl, rfl⟩ := nx_inv hs
  exact fun H locs lsS hP hS hl => lv_sipush hx hb hg rfl (k H locs lsS hP hS hl)
theorem sd_lconst {pc len pc' : Nat} {z : Fin 2} {ls st ls' st' : List Value} {h h' : AH} (C0 : Cx D dA X d mi n0 p R s m args meth c) (hi : ins mi pc = some (.lconst z, len)) (hs : step mi (.lconst z) pc ls st h = some (.inl (pc', ls', st', h'))) (hn0 : n0 ≤ hN h) (hw0 : w0 ≤ hW h) (hc1 : hN h' - n0 ≤ R.cells) (hc2 : hW h' - w0 ≤ R.slots) (hmx : hN h' ≤ 1000000) (hsc : hS h = X.2.2.2) (k : WW p l e R s m args below meth c Q D dA X n0 w0 mi pc' ls' st' h') : WW p l e R s m args below meth c Q D dA X n0 w0 mi pc ls st h := by
  obtain ⟨hx, hb, hml, hown, hts, ⟨hfr, hlo⟩, hini, ⟨hK, hNW, hAO⟩, hX1, hX2, hEX⟩ := C0
  have hg := dec_n hi (n := 0) rfl
  obtain ⟨rfl, rfl, rfl, rfl⟩ := nx_inv hs
  exact fun H locs lsS hP hS hl => lv_lconst hx hb hg rfl (k H locs lsS hP hS hl)
theorem sd_iload {pc len pc' : Nat} {j : Nat} {ls st ls' st' : List Value} {h h' : AH} (C0 : Cx D dA X d mi n0 p R s m args meth c) (hi : ins mi pc = some (.iload j, len)) (hs : step mi (.iload j) pc ls st h = some (.inl (pc', ls', st', h'))) (hn0 : n0 ≤ hN h) (hw0 : w0 ≤ hW h) (hc1 : hN h' - n0 ≤ R.cells) (hc2 : hW h' - w0 ≤ R.slots) (hmx : hN h' ≤ 1000000) (hsc : hS h = X.2.2.2) (k : WW p l e R s m args below meth c Q D dA X n0 w0 mi pc' ls' st' h') : WW p l e R s m args below meth c Q D dA X n0 w0 mi pc ls st h := by
  obtain ⟨hx, hb, hml, hown, hts, ⟨hfr, hlo⟩, hini, ⟨hK, hNW, hAO⟩, hX1, hX2, hEX⟩ := C0
  have hg := dec_n hi (n := 1) rfl
  obtain ⟨x, hv, hs⟩ := ldI_inv hs
  obtain ⟨rfl, rfl, rfl, rfl⟩ := nx_inv hs
  exact fun H locs lsS hP hS hl => lv_iload hx hb hg (hl.get hv rfl) (k H locs lsS hP hS hl)
theorem sd_iload_n {pc len pc' : Nat} {j : Fin 4} {ls st ls' st' : List Value} {h h' : AH} (C0 : Cx D dA X d mi n0 p R s m args meth c) (hi : ins mi pc = some (.iload_n j, len)) (hs : step mi (.iload_n j) pc ls st h = some (.inl (pc', ls', st', h'))) (hn0 : n0 ≤ hN h) (hw0 : w0 ≤ hW h) (hc1 : hN h' - n0 ≤ R.cells) (hc2 : hW h' - w0 ≤ R.slots) (hmx : hN h' ≤ 1000000) (hsc : hS h = X.2.2.2) (k : WW p l e R s m args below meth c Q D dA X n0 w0 mi pc' ls' st' h') : WW p l e R s m args below meth c Q D dA X n0 w0 mi pc ls st h := by
  obtain ⟨hx, hb, hml, hown, hts, ⟨hfr, hlo⟩, hini, ⟨hK, hNW, hAO⟩, hX1, hX2, hEX⟩ := C0
  have hg := dec_n hi (n := 0) rfl
  obtain ⟨x, hv, hs⟩ := ldI_inv hs
  obtain ⟨rfl, rfl, rfl, rfl⟩ := nx_inv hs
  exact fun H locs lsS hP hS hl => lv_iload_n hx hb hg rfl (hl.get hv rfl) (k H locs lsS hP hS hl)
theorem sd_lload {pc len pc' : Nat} {j : Nat} {ls st ls' st' : List Value} {h h' : AH} (C0 : Cx D dA X d mi n0 p R s m args meth c) (hi : ins mi pc = some (.lload j, len)) (hs : step mi (.lload j) pc ls st h = some (.inl (pc', ls', st', h'))) (hn0 : n0 ≤ hN h) (hw0 : w0 ≤ hW h) (hc1 : hN h' - n0 ≤ R.cells) (hc2 : hW h' - w0 ≤ R.slots) (hmx : hN h' ≤ 1000000) (hsc : hS h = X.2.2.2) (k : WW p l e R s m args below meth c Q D dA X n0 w0 mi pc' ls' st' h') : WW p l e R s m args below meth c Q D dA X n0 w0 mi pc ls st h := by
  obtain ⟨hx, hb, hml, hown, hts, ⟨hfr, hlo⟩, hini, ⟨hK, hNW, hAO⟩, hX1, hX2, hEX⟩ := C0
  have hg := dec_n hi (n := 1) rfl
  obtain ⟨x, hv, hs⟩ := ldJ_inv hs
  obtain ⟨rfl, rfl, rfl, rfl⟩ := nx_inv hs
  exact fun H locs lsS hP hS hl => lv_lload hx hb hg (hl.get hv rfl) (k H locs lsS hP hS hl)
theorem sd_lload_n {pc len pc' : Nat} {j : Fin 4} {ls st ls' st' : List Value} {h h' : AH} (C0 : Cx D dA X d mi n0 p R s m args meth c) (hi : ins mi pc = some (.lload_n j, len)) (hs : step mi (.lload_n j) pc ls st h = some (.inl (pc', ls', st', h'))) (hn0 : n0 ≤ hN h) (hw0 : w0 ≤ hW h) (hc1 : hN h' - n0 ≤ R.cells) (hc2 : hW h' - w0 ≤ R.slots) (hmx : hN h' ≤ 1000000) (hsc : hS h = X.2.2.2) (k : WW p l e R s m args below meth c Q D dA X n0 w0 mi pc' ls' st' h') : WW p l e R s m args below meth c Q D dA X n0 w0 mi pc ls st h := by
  obtain ⟨hx, hb, hml, hown, hts, ⟨hfr, hlo⟩, hini, ⟨hK, hNW, hAO⟩, hX1, hX2, hEX⟩ := C0
  have hg := dec_n hi (n := 0) rfl
  obtain ⟨x, hv, hs⟩ := ldJ_inv hs
  obtain ⟨rfl, rfl, rfl, rfl⟩ := nx_inv hs
  exact fun H locs lsS hP hS hl => lv_lload_n hx hb hg rfl (hl.get hv rfl) (k H locs lsS hP hS hl)
theorem sd_aload_n {pc len pc' : Nat} {j : Fin 4} {ls st ls' st' : List Value} {h h' : AH} (C0 : Cx D dA X d mi n0 p R s m args meth c) (hi : ins mi pc = some (.aload_n j, len)) (hs : step mi (.aload_n j) pc ls st h = some (.inl (pc', ls', st', h'))) (hn0 : n0 ≤ hN h) (hw0 : w0 ≤ hW h) (hc1 : hN h' - n0 ≤ R.cells) (hc2 : hW h' - w0 ≤ R.slots) (hmx : hN h' ≤ 1000000) (hsc : hS h = X.2.2.2) (k : WW p l e R s m args below meth c Q D dA X n0 w0 mi pc' ls' st' h') : WW p l e R s m args below meth c Q D dA X n0 w0 mi pc ls st h := by
  obtain ⟨hx, hb, hml, hown, hts, ⟨hfr, hlo⟩, hini, ⟨hK, hNW, hAO⟩, hX1, hX2, hEX⟩ := C0
  have hg := dec_n hi (n := 0) rfl
  obtain ⟨x, hv, hs⟩ := ldR_inv hs
  obtain ⟨rfl, rfl, rfl, rfl⟩ := nx_inv hs
  exact fun H locs lsS hP hS hl => lv_aload_n hx hb hg rfl (hl.get hv rfl) (k H locs lsS hP hS hl)
theorem sd_istore {pc len pc' : Nat} {j : Nat} {ls st ls' st' : List Value} {h h' : AH} (C0 : Cx D dA X d mi n0 p R s m args meth c) (hi : ins mi pc = some (.istore j, len)) (hs : step mi (.istore j) pc ls st h = some (.inl (pc', ls', st', h'))) (hn0 : n0 ≤ hN h) (hw0 : w0 ≤ hW h) (hc1 : hN h' - n0 ≤ R.cells) (hc2 : hW h' - w0 ≤ R.slots) (hmx : hN h' ≤ 1000000) (hsc : hS h = X.2.2.2) (k : WW p l e R s m args below meth c Q D dA X n0 w0 mi pc' ls' st' h') : WW p l e R s m args below meth c Q D dA X n0 w0 mi pc ls st h := by
  obtain ⟨hx, hb, hml, hown, hts, ⟨hfr, hlo⟩, hini, ⟨hK, hNW, hAO⟩, hX1, hX2, hEX⟩ := C0
  have hg := dec_n hi (n := 1) rfl
  obtain ⟨x, r, rfl, hs⟩ := pI_inv hs
  obtain ⟨hlt, hs⟩ := ck_inv hs
  obtain ⟨rfl, rfl, rfl, rfl⟩ := nx_inv hs
  intro H locs lsS hP hS hl
  exact lv_istore hx hb hg hl.2 (by rw [← hl.1]; exact hlt) rfl (fun ls2 h2 => k H locs ls2 hP hS (LV_st1 hl h2))
theorem sd_istore_n {pc len pc' : Nat} {j : Fin 4} {ls st ls' st' : List Value} {h h' : AH} (C0 : Cx D dA X d mi n0 p R s m args meth c) (hi : ins mi pc = some (.istore_n j, len)) (hs : step mi (.istore_n j) pc ls st h = some (.inl (pc', ls', st', h'))) (hn0 : n0 ≤ hN h) (hw0 : w0 ≤ hW h) (hc1 : hN h' - n0 ≤ R.cells) (hc2 : hW h' - w0 ≤ R.slots) (hmx : hN h' ≤ 1000000) (hsc : hS h = X.2.2.2) (k : WW p l e R s m args below meth c Q D dA X n0 w0 mi pc' ls' st' h') : WW p l e R s m args below meth c Q D dA X n0 w0 mi pc ls st h := by
  obtain ⟨hx, hb, hml, hown, hts, ⟨hfr, hlo⟩, hini, ⟨hK, hNW, hAO⟩, hX1, hX2, hEX⟩ := C0
  have hg := dec_n hi (n := 0) rfl
  obtain ⟨x, r, rfl, hs⟩ := pI_inv hs
  obtain ⟨hlt, hs⟩ := ck_inv hs
  obtain ⟨rfl, rfl, rfl, rfl⟩ := nx_inv hs
  intro H locs lsS hP hS hl
  exact lv_istore_n hx hb hg rfl hl.2 (by rw [← hl.1]; exact hlt) rfl (fun ls2 h2 => k H locs ls2 hP hS (LV_st1 hl h2))
theorem sd_lstore {pc len pc' : Nat} {j : Nat} {ls st ls' st' : List Value} {h h' : AH} (C0 : Cx D dA X d mi n0 p R s m args meth c) (hi : ins mi pc = some (.lstore j, len)) (hs : step mi (.lstore j) pc ls st h = some (.inl (pc', ls', st', h'))) (hn0 : n0 ≤ hN h) (hw0 : w0 ≤ hW h) (hc1 : hN h' - n0 ≤ R.cells) (hc2 : hW h' - w0 ≤ R.slots) (hmx : hN h' ≤ 1000000) (hsc : hS h = X.2.2.2) (k : WW p l e R s m args below meth c Q D dA X n0 w0 mi pc' ls' st' h') : WW p l e R s m args below meth c Q D dA X n0 w0 mi pc ls st h := by
  obtain ⟨hx, hb, hml, hown, hts, ⟨hfr, hlo⟩, hini, ⟨hK, hNW, hAO⟩, hX1, hX2, hEX⟩ := C0
  have hg := dec_n hi (n := 1) rfl
  obtain ⟨x, r, rfl, hs⟩ := pJ_inv hs
  obtain ⟨hlt, hs⟩ := ck_inv hs
  obtain ⟨rfl, rfl, rfl, rfl⟩ := nx_inv hs
  intro H locs lsS hP hS hl
  exact lv_lstore hx hb hg hl.2 (by rw [← hl.1]; exact hlt) rfl (fun ls2 h2 => k H locs ls2 hP hS (LV_st2 hl h2))
theorem sd_lstore_n {pc len pc' : Nat} {j : Fin 4} {ls st ls' st' : List Value} {h h' : AH} (C0 : Cx D dA X d mi n0 p R s m args meth c) (hi : ins mi pc = some (.lstore_n j, len)) (hs : step mi (.lstore_n j) pc ls st h = some (.inl (pc', ls', st', h'))) (hn0 : n0 ≤ hN h) (hw0 : w0 ≤ hW h) (hc1 : hN h' - n0 ≤ R.cells) (hc2 : hW h' - w0 ≤ R.slots) (hmx : hN h' ≤ 1000000) (hsc : hS h = X.2.2.2) (k : WW p l e R s m args below meth c Q D dA X n0 w0 mi pc' ls' st' h') : WW p l e R s m args below meth c Q D dA X n0 w0 mi pc ls st h := by
  obtain ⟨hx, hb, hml, hown, hts, ⟨hfr, hlo⟩, hini, ⟨hK, hNW, hAO⟩, hX1, hX2, hEX⟩ := C0
  have hg := dec_n hi (n := 0) rfl
  obtain ⟨x, r, rfl, hs⟩ := pJ_inv hs
  obtain ⟨hlt, hs⟩ := ck_inv hs
  obtain ⟨rfl, rfl, rfl, rfl⟩ := nx_inv hs
  intro H locs lsS hP hS hl
  exact lv_lstore_n hx hb hg rfl hl.2 (by rw [← hl.1]; exact hlt) rfl (fun ls2 h2 => k H locs ls2 hP hS (LV_st2 hl h2))
theorem sd_astore_n {pc len pc' : Nat} {j : Fin 4} {ls st ls' st' : List Value} {h h' : AH} (C0 : Cx D dA X d mi n0 p R s m args meth c) (hi : ins mi pc = some (.astore_n j, len)) (hs : step mi (.astore_n j) pc ls st h = some (.inl (pc', ls', st', h'))) (hn0 : n0 ≤ hN h) (hw0 : w0 ≤ hW h) (hc1 : hN h' - n0 ≤ R.cells) (hc2 : hW h' - w0 ≤ R.slots) (hmx : hN h' ≤ 1000000) (hsc : hS h = X.2.2.2) (k : WW p l e R s m args below meth c Q D dA X n0 w0 mi pc' ls' st' h') : WW p l e R s m args below meth c Q D dA X n0 w0 mi pc ls st h := by
  obtain ⟨hx, hb, hml, hown, hts, ⟨hfr, hlo⟩, hini, ⟨hK, hNW, hAO⟩, hX1, hX2, hEX⟩ := C0
  have hg := dec_n hi (n := 0) rfl
  obtain ⟨x, r, rfl, hs⟩ := pR_inv hs
  obtain ⟨hlt, hs⟩ := ck_inv hs
  obtain ⟨rfl, rfl, rfl, rfl⟩ := nx_inv hs
  intro H locs lsS hP hS hl
  exact lv_astore_n hx hb hg rfl hl.2 (by rw [← hl.1]; exact hlt) rfl (fun ls2 h2 => k H locs ls2 hP hS (LV_st1 hl h2))
theorem sd_iinc {pc len pc' : Nat} {j : Nat} {z : Int} {ls st ls' st' : List Value} {h h' : AH} (C0 : Cx D dA X d mi n0 p R s m args meth c) (hi : ins mi pc = some (.iinc j z, len)) (hs : step mi (.iinc j z) pc ls st h = some (.inl (pc', ls', st', h'))) (hn0 : n0 ≤ hN h) (hw0 : w0 ≤ hW h) (hc1 : hN h' - n0 ≤ R.cells) (hc2 : hW h' - w0 ≤ R.slots) (hmx : hN h' ≤ 1000000) (hsc : hS h = X.2.2.2) (k : WW p l e R s m args below meth c Q D dA X n0 w0 mi pc' ls' st' h') : WW p l e R s m args below meth c Q D dA X n0 w0 mi pc ls st h := by
  obtain ⟨hx, hb, hml, hown, hts, ⟨hfr, hlo⟩, hini, ⟨hK, hNW, hAO⟩, hX1, hX2, hEX⟩ := C0
  have hg := dec_n hi (n := 2) rfl
  obtain ⟨x, hv, hs⟩ := ldI_inv hs
  obtain ⟨rfl, rfl, rfl, rfl⟩ := nx_inv hs
  intro H locs lsS hP hS hl
  obtain ⟨q, hq⟩ := List.getElem?_of_mem (lof_in (X := X) hv rfl)
  exact lv_iinc hx hb hg hl.2 hq rfl (by rw [← hl.1]; exact (List.getElem?_eq_some_iff.mp hv).1) rfl (fun ls2 h2 => k H locs ls2 hP hS (LV_st1 hl h2))
theorem sd_dup {pc len pc' : Nat} {ls st ls' st' : List Value} {h h' : AH} (C0 : Cx D dA X d mi n0 p R s m args meth c) (hi : ins mi pc = some (.dup, len)) (hs : step mi (.dup) pc ls st h = some (.inl (pc', ls', st', h'))) (hn0 : n0 ≤ hN h) (hw0 : w0 ≤ hW h) (hc1 : hN h' - n0 ≤ R.cells) (hc2 : hW h' - w0 ≤ R.slots) (hmx : hN h' ≤ 1000000) (hsc : hS h = X.2.2.2) (k : WW p l e R s m args below meth c Q D dA X n0 w0 mi pc' ls' st' h') : WW p l e R s m args below meth c Q D dA X n0 w0 mi pc ls st h := by
  obtain ⟨hx, hb, hml, hown, hts, ⟨hfr, hlo⟩, hini, ⟨hK, hNW, hAO⟩, hX1, hX2, hEX⟩ := C0
  have hg := dec_n hi (n := 0) rfl
  obtain ⟨v, r, rfl, h1, hs⟩ := p1_inv hs
  obtain ⟨rfl, rfl, rfl, rfl⟩ := nx_inv hs
  exact fun H locs lsS hP hS hl => lv_dup hx hb hg (is1_cat h1) (k H locs lsS hP hS hl)
theorem sd_dup2 {pc len pc' : Nat} {ls st ls' st' : List Value} {h h' : AH} (C0 : Cx D dA X d mi n0 p R s m args meth c) (hi : ins mi pc = some (.dup2, len)) (hs : step mi (.dup2) pc ls st h = some (.inl (pc', ls', st', h'))) (hn0 : n0 ≤ hN h) (hw0 : w0 ≤ hW h) (hc1 : hN h' - n0 ≤ R.cells) (hc2 : hW h' - w0 ≤ R.slots) (hmx : hN h' ≤ 1000000) (hsc : hS h = X.2.2.2) (k : WW p l e R s m args below meth c Q D dA X n0 w0 mi pc' ls' st' h') : WW p l e R s m args below meth c Q D dA X n0 w0 mi pc ls st h := by
  obtain ⟨hx, hb, hml, hown, hts, ⟨hfr, hlo⟩, hini, ⟨hK, hNW, hAO⟩, hX1, hX2, hEX⟩ := C0
  have hg := dec_n hi (n := 0) rfl
  obtain ⟨v, x, r, rfl, h1, h2, hs⟩ := p11_inv hs
  obtain ⟨rfl, rfl, rfl, rfl⟩ := nx_inv hs
  exact fun H locs lsS hP hS hl => lv_dup2_11 hx hb hg (is1_cat h1) (is1_cat h2) (k H locs lsS hP hS hl)
theorem sd_pop {pc len pc' : Nat} {ls st ls' st' : List Value} {h h' : AH} (C0 : Cx D dA X d mi n0 p R s m args meth c) (hi : ins mi pc = some (.pop, len)) (hs : step mi (.pop) pc ls st h = some (.inl (pc', ls', st', h'))) (hn0 : n0 ≤ hN h) (hw0 : w0 ≤ hW h) (hc1 : hN h' - n0 ≤ R.cells) (hc2 : hW h' - w0 ≤ R.slots) (hmx : hN h' ≤ 1000000) (hsc : hS h = X.2.2.2) (k : WW p l e R s m args below meth c Q D dA X n0 w0 mi pc' ls' st' h') : WW p l e R s m args below meth c Q D dA X n0 w0 mi pc ls st h := by
  obtain ⟨hx, hb, hml, hown, hts, ⟨hfr, hlo⟩, hini, ⟨hK, hNW, hAO⟩, hX1, hX2, hEX⟩ := C0
  have hg := dec_n hi (n := 0) rfl
  obtain ⟨v, r, rfl, h1, hs⟩ := p1_inv hs
  obtain ⟨rfl, rfl, rfl, rfl⟩ := nx_inv hs
  exact fun H locs lsS hP hS hl => lv_pop hx hb hg (is1_cat h1) (k H locs lsS hP hS hl)
theorem sd_goto {pc len pc' : Nat} {off : Int} {ls st ls' st' : List Value} {h h' : AH} (C0 : Cx D dA X d mi n0 p R s m args meth c) (hi : ins mi pc = some (.goto off, len)) (hs : step mi (.goto off) pc ls st h = some (.inl (pc', ls', st', h'))) (hn0 : n0 ≤ hN h) (hw0 : w0 ≤ hW h) (hc1 : hN h' - n0 ≤ R.cells) (hc2 : hW h' - w0 ≤ R.slots) (hmx : hN h' ≤ 1000000) (hsc : hS h = X.2.2.2) (k : WW p l e R s m args below meth c Q D dA X n0 w0 mi pc' ls' st' h') : WW p l e R s m args below meth c Q D dA X n0 w0 mi pc ls st h := by
  obtain ⟨hx, hb, hml, hown, hts, ⟨hfr, hlo⟩, hini, ⟨hK, hNW, hAO⟩, hX1, hX2, hEX⟩ := C0
  have hg := dec_n hi (n := 2) rfl
  have hs : jm pc off (fun t => nx t ls st h) = some (.inl (pc', ls', st', h')) := hs
  obtain ⟨t, ht, hs⟩ := jm_inv hs
  obtain ⟨rfl, rfl, rfl, rfl⟩ := nx_inv hs
  exact fun H locs lsS hP hS hl => lv_goto hx hb hg ht (k H locs lsS hP hS hl)
theorem sd_ifCond {pc len pc' : Nat} {cc : ClassFile.Cond} {off : Int} {ls st ls' st' : List Value} {h h' : AH} (C0 : Cx D dA X d mi n0 p R s m args meth c) (hi : ins mi pc = some (.ifCond cc off, len)) (hs : step mi (.ifCond cc off) pc ls st h = some (.inl (pc', ls', st', h'))) (hn0 : n0 ≤ hN h) (hw0 : w0 ≤ hW h) (hc1 : hN h' - n0 ≤ R.cells) (hc2 : hW h' - w0 ≤ R.slots) (hmx : hN h' ≤ 1000000) (hsc : hS h = X.2.2.2) (k : WW p l e R s m args below meth c Q D dA X n0 w0 mi pc' ls' st' h') : WW p l e R s m args below meth c Q D dA X n0 w0 mi pc ls st h := by
  obtain ⟨hx, hb, hml, hown, hts, ⟨hfr, hlo⟩, hini, ⟨hK, hNW, hAO⟩, hX1, hX2, hEX⟩ := C0
  have hg := dec_n hi (n := 2) rfl
  have hs : pI st (fun x r => jm pc off fun t => ccI cc x 0 (nx t ls r h) (nx (pc + 3) ls r h)) = some (.inl (pc', ls', st', h')) := hs
  obtain ⟨x, r, rfl, hs2⟩ := pI_inv hs
  obtain ⟨t, ht, hs3⟩ := jm_inv hs2
  cases cc
  case eq =>
    rcases br_inv hs3 with ⟨hc, hs4⟩ | ⟨hc, hs4⟩
    · obtain ⟨rfl, rfl, rfl, rfl⟩ := nx_inv hs4
      exact fun H locs lsS hP hS hl => lv_if_eq hx hb hg ht (fun _ => k H locs lsS hP hS hl) (fun z => absurd hc z)
    · obtain ⟨rfl, rfl, rfl, rfl⟩ := nx_inv hs4
      exact fun H locs lsS hP hS hl => lv_if_eq hx hb hg ht (fun z => absurd z hc) (fun _ => k H locs lsS hP hS hl)
  case ne =>
    rcases br_inv hs3 with ⟨hc, hs4⟩ | ⟨hc, hs4⟩
    · obtain ⟨rfl, rfl, rfl, rfl⟩ := nx_inv hs4
      exact fun H locs lsS hP hS hl => lv_if_ne hx hb hg ht (fun _ => k H locs lsS hP hS hl) (fun z => absurd z hc)
    · obtain ⟨rfl, rfl, rfl, rfl⟩ := nx_inv hs4
      exact fun H locs lsS hP hS hl => lv_if_ne hx hb hg ht (fun z => absurd z hc) (fun _ => k H locs lsS hP hS hl)
  case lt =>
    rcases br_inv hs3 with ⟨hc, hs4⟩ | ⟨hc, hs4⟩
    · obtain ⟨rfl, rfl, rfl, rfl⟩ := nx_inv hs4
      exact fun H locs lsS hP hS hl => lv_if_lt hx hb hg ht (fun _ => k H locs lsS hP hS hl) (fun z => absurd hc z)
    · obtain ⟨rfl, rfl, rfl, rfl⟩ := nx_inv hs4
      exact fun H locs lsS hP hS hl => lv_if_lt hx hb hg ht (fun z => absurd z hc) (fun _ => k H locs lsS hP hS hl)
  case ge =>
    rcases br_inv hs3 with ⟨hc, hs4⟩ | ⟨hc, hs4⟩
    · obtain ⟨rfl, rfl, rfl, rfl⟩ := nx_inv hs4
      exact fun H locs lsS hP hS hl => lv_if_ge hx hb hg ht (fun _ => k H locs lsS hP hS hl) (fun z => absurd hc z)
    · obtain ⟨rfl, rfl, rfl, rfl⟩ := nx_inv hs4
      exact fun H locs lsS hP hS hl => lv_if_ge hx hb hg ht (fun z => absurd z hc) (fun _ => k H locs lsS hP hS hl)
  case gt =>
    rcases br_inv hs3 with ⟨hc, hs4⟩ | ⟨hc, hs4⟩
    · obtain ⟨rfl, rfl, rfl, rfl⟩ := nx_inv hs4
      exact fun H locs lsS hP hS hl => lv_if_gt hx hb hg ht (fun _ => k H locs lsS hP hS hl) (fun z => absurd hc z)
    · obtain ⟨rfl, rfl, rfl, rfl⟩ := nx_inv hs4
      exact fun H locs lsS hP hS hl => lv_if_gt hx hb hg ht (fun z => absurd z hc) (fun _ => k H locs lsS hP hS hl)
  case le =>
    rcases br_inv hs3 with ⟨hc, hs4⟩ | ⟨hc, hs4⟩
    · obtain ⟨rfl, rfl, rfl, rfl⟩ := nx_inv hs4
      exact fun H locs lsS hP hS hl => lv_if_le hx hb hg ht (fun _ => k H locs lsS hP hS hl) (fun z => absurd hc z)
    · obtain ⟨rfl, rfl, rfl, rfl⟩ := nx_inv hs4
      exact fun H locs lsS hP hS hl => lv_if_le hx hb hg ht (fun z => absurd z hc) (fun _ => k H locs lsS hP hS hl)
theorem sd_if_icmp {pc len pc' : Nat} {cc : ClassFile.Cond} {off : Int} {ls st ls' st' : List Value} {h h' : AH} (C0 : Cx D dA X d mi n0 p R s m args meth c) (hi : ins mi pc = some (.if_icmp cc off, len)) (hs : step mi (.if_icmp cc off) pc ls st h = some (.inl (pc', ls', st', h'))) (hn0 : n0 ≤ hN h) (hw0 : w0 ≤ hW h) (hc1 : hN h' - n0 ≤ R.cells) (hc2 : hW h' - w0 ≤ R.slots) (hmx : hN h' ≤ 1000000) (hsc : hS h = X.2.2.2) (k : WW p l e R s m args below meth c Q D dA X n0 w0 mi pc' ls' st' h') : WW p l e R s m args below meth c Q D dA X n0 w0 mi pc ls st h := by
  obtain ⟨hx, hb, hml, hown, hts, ⟨hfr, hlo⟩, hini, ⟨hK, hNW, hAO⟩, hX1, hX2, hEX⟩ := C0
  have hg := dec_n hi (n := 2) rfl
  have hs : pII st (fun x y r => jm pc off fun t => ccI cc x y (nx t ls r h) (nx (pc + 3) ls r h)) = some (.inl (pc', ls', st', h')) := hs
  obtain ⟨x, y, r, rfl, hs2⟩ := pII_inv hs
  obtain ⟨t, ht, hs3⟩ := jm_inv hs2
  cases cc
  case eq =>
    rcases br_inv hs3 with ⟨hc, hs4⟩ | ⟨hc, hs4⟩
    · obtain ⟨rfl, rfl, rfl, rfl⟩ := nx_inv hs4
      exact fun H locs lsS hP hS hl => lv_icmp_eq hx hb hg ht (fun _ => k H locs lsS hP hS hl) (fun z => absurd hc z)
    · obtain ⟨rfl, rfl, rfl, rfl⟩ := nx_inv hs4
      exact fun H locs lsS hP hS hl => lv_icmp_eq hx hb hg ht (fun z => absurd z hc) (fun _ => k H locs lsS hP hS hl)
  case ne =>
    rcases br_inv hs3 with ⟨hc, hs4⟩ | ⟨hc, hs4⟩
    · obtain ⟨rfl, rfl, rfl, rfl⟩ := nx_inv hs4
      exact fun H locs lsS hP hS hl => lv_icmp_ne hx hb hg ht (fun _ => k H locs lsS hP hS hl) (fun z => absurd z hc)
    · obtain ⟨rfl, rfl, rfl, rfl⟩ := nx_inv hs4
      exact fun H locs lsS hP hS hl => lv_icmp_ne hx hb hg ht (fun z => absurd z hc) (fun _ => k H locs lsS hP hS hl)
  case lt =>
    rcases br_inv hs3 with ⟨hc, hs4⟩ | ⟨hc, hs4⟩
    · obtain ⟨rfl, rfl, rfl, rfl⟩ := nx_inv hs4
      exact fun H locs lsS hP hS hl => lv_icmp_lt hx hb hg ht (fun _ => k H locs lsS hP hS hl) (fun z => absurd hc z)
    · obtain ⟨rfl, rfl, rfl, rfl⟩ := nx_inv hs4
      exact fun H locs lsS hP hS hl => lv_icmp_lt hx hb hg ht (fun z => absurd z hc) (fun _ => k H locs lsS hP hS hl)
  case ge =>
    rcases br_inv hs3 with ⟨hc, hs4⟩ | ⟨hc, hs4⟩
    · obtain ⟨rfl, rfl, rfl, rfl⟩ := nx_inv hs4
      exact fun H locs lsS hP hS hl => lv_icmp_ge hx hb hg ht (fun _ => k H locs lsS hP hS hl) (fun z => absurd hc z)
    · obtain ⟨rfl, rfl, rfl, rfl⟩ := nx_inv hs4
      exact fun H locs lsS hP hS hl => lv_icmp_ge hx hb hg ht (fun z => absurd z hc) (fun _ => k H locs lsS hP hS hl)
  case gt =>
    rcases br_inv hs3 with ⟨hc, hs4⟩ | ⟨hc, hs4⟩
    · obtain ⟨rfl, rfl, rfl, rfl⟩ := nx_inv hs4
      exact fun H locs lsS hP hS hl => lv_icmp_gt hx hb hg ht (fun _ => k H locs lsS hP hS hl) (fun z => absurd hc z)
    · obtain ⟨rfl, rfl, rfl, rfl⟩ := nx_inv hs4
      exact fun H locs lsS hP hS hl => lv_icmp_gt hx hb hg ht (fun z => absurd z hc) (fun _ => k H locs lsS hP hS hl)
  case le =>
    rcases br_inv hs3 with ⟨hc, hs4⟩ | ⟨hc, hs4⟩
    · obtain ⟨rfl, rfl, rfl, rfl⟩ := nx_inv hs4
      exact fun H locs lsS hP hS hl => lv_icmp_le hx hb hg ht (fun _ => k H locs lsS hP hS hl) (fun z => absurd hc z)
    · obtain ⟨rfl, rfl, rfl, rfl⟩ := nx_inv hs4
      exact fun H locs lsS hP hS hl => lv_icmp_le hx hb hg ht (fun z => absurd z hc) (fun _ => k H locs lsS hP hS hl)
end ST
