section ST
variable {p : Program} {l : Launch} {e : Env} {R : Room} {s : State} {m : MethodId} {args : Array Value} {below : List Frame} {meth : Method} {c : Code} {Q : State → Prop} {D : va_G} {dA : Nat → ClassId} {X : XT} {n0 w0 d mi : Nat}
/-- a contract of a method, the class being one of those of which some methods run by an entry -/
theorem ofWF {y : MethodName} {ws ws' : List Jvm.Cond} {rm : Room} {Pc : Array Value → State → Prop} {Qc : Array Value → State → Outcome → State → Prop} {mc ms : Nat} {free : Addr → Prop} {cc : ByteArray} {maxL : Nat} {ret : Option FieldType}
    (hy : plainFor y = true) (hw : ws = Jvm.Cond.code y cc maxL ret :: ws')
    (body : ∀ p e s m args below meth c s₁, BodyLoose p l y (headSpec ws rm) cc maxL ret e s m args below meth c s₁ → c.maxLocals = maxL → Pc args s →
      W p l e (headSpec ws rm).room s m args below meth c s.heap [] 0 0 (MQ below Qc args s mc ms free) (entryFrame m args maxL)) : Met l y ws rm Pc Qc mc ms free := by
  refine MetFree.of_bodySF (code := cc) (maxLocals := maxL) (ret := ret) hy ?_ ?_
  · intro args s m h hn
    obtain ⟨meth, c, h1, h2, h3, h4, h5, h6, -, -⟩ := Cond.code_spec hn (atoms_spec (ws := ws) h _ (by rw [hw]; exact List.mem_cons_self))
    exact ⟨meth, c, h1, h2, h3, h4, h5, h6⟩
  · intro p e s m args below meth c s₁ B hml hP _
    have hh0 : s₁.heap = s.heap := by rw [B.state]; rfl
    obtain ⟨t, a1, o, b1, b2, b3⟩ := body p e s m args below meth c s₁ B hml hP s₁ hh0 (Stand.of_body B)
    exact ⟨t, o, a1, b1, b2, ⟨b3.1, b3.2⟩⟩
/-- what a call leaves -/
def QR (X : XT) (dA : Nat → ClassId) (D : va_G) (r : Option Value) (h1 : AH) : Array Value → State → Outcome → State → Prop := fun _ st o t => o = .returned (r.map (cv X)) ∧ va_P D vwCl (wl X dA h1) t.heap ∧ va_F (fun q => X.1 ≤ q) st t
def PR (X : XT) (dA : Nat → ClassId) (D : va_G) (h : AH) (as : List Value) : Array Value → State → Prop := va_Pc (as.map (cv X)) (fun U => va_P D vwCl (wl X dA h) U.heap ∧ Wrl D dA U ∧ X.1 ≤ U.heap.size ∧ U.heap.size ≤ X.1 + hN h ∧ EXT X U U.heap)
def RM (d : Nat) (h h1 : AH) : Room := { frames := d + 1, cells := hN h1 - hN h, slots := hW h1 - hW h, locals := 40 * (d + 1) }
/-- a call goes on -/
theorem cal_go {pc mc ms : Nat} {st0 rest : List Value} {lsS : Array Slot} {r : Option Value} {h1 : AH} {H : Heap} {locs : List Loc} {cells slots : Nat} {a : Array Value} (hr : va_Run p l e R s m args below meth c H locs cells slots mc ms (F0 m pc lsS (st0.map (cv X))) (rest.map (cv X)) (QR X dA D r h1 a) (fun q => X.1 ≤ q)) (hS : va_S (fun q => X.1 ≤ q) s.heap H locs)
    (kk : ∀ (H1 : Heap) (locs1 : List Loc), va_P D vwCl (wl X dA h1) H1 → va_S (fun q => X.1 ≤ q) s.heap H1 locs1 → W p l e R s m args below meth c H1 locs1 (cells + mc) (slots + ms) Q (F0 m (pc + 3) lsS ((r.toList ++ rest).map (cv X)))) : W p l e R s m args below meth c H locs cells slots Q (F0 m pc lsS (st0.map (cv X))) := by
  intro T hT Z
  obtain ⟨v, st₀, t, T', L, h0, X', hL, e1, e2, ⟨hv, hp, hz, hk⟩, st⟩ := hr T hT Z
  rw [h0] at hz hk
  have hv1 : v = r.map (cv X) := Outcome.returned.inj hv
  obtain ⟨t2, a1, b1⟩ := kk T'.heap (locs ++ L) (by rw [e1]; exact hp) ⟨Nat.le_trans hS.1 (by rw [e1]; exact hz), fun q h1 h2 => by rw [e1, hk q (Nat.lt_of_lt_of_le h1 hS.1) h2]; exact hS.2.1 q h1 h2, fun q hq => by
      rcases List.mem_append.mp hq with h | h
      · exact hS.2.2 q h
      · exact hL q h⟩ T' rfl X'
  refine ⟨t2, st t2 ?_, b1⟩
  have e3 : (r.toList ++ rest).map (cv X) = v.toList ++ rest.map (cv X) := by
    rw [List.map_append, hv1]
    cases r <;> rfl
  rw [e3] at a1
  exact a1
theorem Wrl.moved {U : State} (hW : s.WarmedH U.vm) (h : Wrl D dA s) : Wrl D dA U := by
  refine ⟨va_K.moved hW.alike h.1, fun w hw => ?_, va_AO.moved hW.alike h.2.2⟩
  have h2 := h.2.1 w hw
  have h3 := (List.mem_filter.mp hw).2
  cases w with
  | methodLinkNest a i x hh => exact va_Nw.warmM hW h2
  | _ => exact absurd h3 (by simp [isNst])
theorem nst_tab {w : Jvm.Cond} (h : isNst w = true) : w.onTables = true := by
  cases w with
  | methodLinkNest a i x hh => rfl
  | _ => exact absurd h (by simp [isNst])
theorem Wrl.same {U : State} (hvm : s.vm = U.vm) (h : Wrl D dA s) : Wrl D dA U :=
  ⟨va_K.moved (by rw [hvm]; exact Vm.Alike.refl U.vm) h.1, fun w hw => va_Nw.same (nst_tab (List.mem_filter.mp hw).2) hvm (h.2.1 w hw), va_AO.moved (by rw [hvm]; exact Vm.Alike.refl U.vm) h.2.2⟩
theorem PR_blind {h : AH} {as : List Value} : FrameBlind (PR X dA D h as) := fun a U g mk q => by
  obtain ⟨q0, q1, q2, q3, q4, q5⟩ := q
  exact ⟨q0, q1, Wrl.same (s := U) (U := U.calling g mk a) rfl q2, q3, q4, EXT.same (u := U) (U := U.calling g mk a) rfl q5⟩
theorem PR_at {h : AH} {as : List Value} {H : Heap} {locs : List Loc} (hP : va_P D vwCl (wl X dA h) H) (hWr : Wrl D dA s) (hEX : EXT X s s.heap) (hS : va_S (fun q => X.1 ≤ q) s.heap H locs) (h1 : X.1 ≤ H.size) (h2 : H.size ≤ X.1 + hN h) (U : State) (hU : U.heap = H) (hW : s.WarmedH U.vm) : PR X dA D h as (as.map (cv X)).toArray U :=
  ⟨rfl, by rw [hU]; exact hP, hWr.moved hW, by rw [hU]; exact h1, by rw [hU]; exact h2, by rw [hU]; exact hEX.go hS hW⟩
theorem GW_good {w : Jvm.Cond} (h : w ∈ GW) : goodWord w = true := (List.mem_filter.mp h).2
theorem mt_f {m' : Nat} (h : m' < 291) : (yOf m').cls = ownL.getD (oiOf m') "" ∧ (parseMethodDescriptor (yOf m').desc).map (fun d => d.parameters.length) = some (naOf m') ∧ mlOf m' ≤ 20 ∧ (if stOf m' then Jvm.Cond.static (yOf m') ∈ GW else Jvm.Cond.instanceMethod (yOf m') ∈ GW) := by
  have h1 := mt_at h
  simp only [mtOk, Bool.and_eq_true, decide_eq_true_eq] at h1
  refine ⟨h1.1.1.1, h1.1.1.2, h1.1.2, ?_⟩
  have h2 := h1.2
  unfold stOf
  split
  · rename_i hs
    rw [if_pos hs] at h2
    exact hasW_mem h2
  · rename_i hs
    rw [if_neg hs] at h2
    exact hasW_mem h2
theorem oi_at {m' : Nat} (h : m' < 292) : oiOf m' < 18 := by
  have h2 : ∀ q ∈ mOi, q < 18 := by decide +kernel
  exact h2 _ (List.mem_of_getElem? (i := m') (getD_some (by rw [mOi_len]; exact h)))
theorem ow_f {m' : Nat} (h : m' < 291) : ((yOf m').cls ≠ "java/lang/invoke/MethodHandle" ∧ (yOf m').cls ≠ "java/lang/invoke/VarHandle") ∧ Jvm.Cond.initialized (yOf m').cls ∈ GW := by
  rw [(mt_f h).1]
  have h1 := List.all_eq_true.mp ow_ok _ (List.mem_range.mpr (oi_at (m' := m') (by omega)))
  simp only [owOk, Bool.and_eq_true, decide_eq_true_eq] at h1
  exact ⟨h1.1, hasW_mem h1.2⟩
theorem cwG {m' : Nat} (h : m' < 291) : GoodIn GW (cwd m' :: GW) := by
  intro w hw
  rcases List.mem_cons.mp hw with rfl | hw
  · exact ⟨cws m' h, good_of_word (GW_good (cws m' h))⟩
  · exact ⟨hw, good_of_word (GW_good hw)⟩
theorem lk_f {o idx kd m' pl : Nat} (ho : o < 18) (h : mthT o idx = some (kd, m', pl)) : lkOk o (idx, (kd, m', pl)) = true := List.all_eq_true.mp (lk_at ho) _ (lookup_mem h)
theorem cat_sum : ∀ (r : List Value), ((r.map (cv X)).map fun v => v.category).sum ≤ 2 * r.length
  | [] => Nat.le_refl _
  | v :: r => by
    have h1 := cat_sum r
    have h2 : (cv X v).category ≤ 2 := by
      rcases lv_cat (cv X v) with z | z <;> omega
    simp only [List.map_cons, List.sum_cons, List.length_cons]
    simp only [List.map_map] at h1 ⊢
    omega
end ST
