/-! the reference: pieces of its state, what leaves them as they are -/
def RgAt (h : AH) (C : PC) (l : List PS) (f : Nat) : Prop := hI h 174 60 = nI f ∧ f < 20 ∧ hI h 174 61 = nI l.length ∧ l.length ≤ 20 ∧ ∀ k s, l[k]? = some s → ∃ u, Lay h (2 + (f + (l.length - 1 - k)) % 20) u ∧ SEq C s u
def SdAt (h : AH) (x : Int32) : Prop := hL h 174 62 = x.toInt64
def RfAt (h : AH) (r : Nat → Int32) : Prop := ∀ k, k < 6 → hI h 206 k = r k
def TpAt (h : AH) (n : Nat) (g : Nat → Int32) : Prop := hI h 174 1 = nI n ∧ n ≤ 1600 ∧ ∀ k, k < n → hI h 175 k = g k &&& nI 255
def FtAt (h : AH) (x y : Int32) : Prop := hI h 174 10 = x ∧ hI h 174 11 = y
def OtAt (h : AH) (n : Nat) (g : Nat → Int32) : Prop := hI h 174 78 = nI n ∧ n ≤ 227 ∧ ∀ k, k < n → hI h 219 k = g k &&& nI 255
def LsAt (h : AH) : Prop := ∀ v, v < 22 → ∃ u, Lay h v u
def nowA (A : AS) (s : PS) : AS := mkA A.C A.fn A.pn s A.past A.seed A.ref A.tn A.tp A.fk A.fp A.zn A.zb
def mdX (b _ : Nat) : Prop := 174 ≤ b ∧ b ≤ 219
section AG2
variable {h h' : AH} {bk m m' : Nat} {C : PC} {A A' : AS} {X : Nat → Nat → Prop}
theorem Rg_agm {l : List PS} {f : Nat} (hX : ∀ b j, X b j → ¬ unX b j ∧ ∀ v, 2 ≤ v → v < 22 → ¬ lyX v b j) (a : Agm X h h') (H : RgAt h C l f) : RgAt h' C l f := by
  obtain ⟨h1, h2, h3, h4, h5⟩ := H
  refine ⟨(Agm_I a (fun z => (hX _ _ z).1 ⟨rfl, Or.inl rfl⟩)).trans h1, h2, (Agm_I a (fun z => (hX _ _ z).1 ⟨rfl, Or.inr rfl⟩)).trans h3, h4, fun k s e => ?_⟩
  obtain ⟨u, hu, eu⟩ := h5 k s e
  exact ⟨u, Lay_agm (fun b j z => (hX b j z).2 _ (by omega) (by omega)) a hu, eu⟩
theorem Sd_agm {x : Int32} (hX : ∀ b j, X b j → ¬ (b = 174 ∧ j = 62)) (a : Agm X h h') (H : SdAt h x) : SdAt h' x := (Agm_L a (fun z => hX _ _ z ⟨rfl, rfl⟩)).trans H
theorem Rf_agm {r : Nat → Int32} (hX : ∀ b j, X b j → ¬ b = 206) (a : Agm X h h') (H : RfAt h r) : RfAt h' r := fun k hk => (Agm_I a (fun z => hX _ _ z rfl)).trans (H k hk)
theorem Tp_agm {n : Nat} {g : Nat → Int32} (hX : ∀ b j, X b j → ¬ (b = 174 ∧ j = 1) ∧ ¬ b = 175) (a : Agm X h h') (H : TpAt h n g) : TpAt h' n g := ⟨(Agm_I a (fun z => (hX _ _ z).1 ⟨rfl, rfl⟩)).trans H.1, H.2.1, fun k hk => (Agm_I a (fun z => (hX _ _ z).2 rfl)).trans (H.2.2 k hk)⟩
theorem Ft_agm {x y : Int32} (hX : ∀ b j, X b j → ¬ (b = 174 ∧ (j = 10 ∨ j = 11))) (a : Agm X h h') (H : FtAt h x y) : FtAt h' x y := ⟨(Agm_I a (fun z => hX _ _ z ⟨rfl, Or.inl rfl⟩)).trans H.1, (Agm_I a (fun z => hX _ _ z ⟨rfl, Or.inr rfl⟩)).trans H.2⟩
theorem Ot_agm {n : Nat} {g : Nat → Int32} (hX : ∀ b j, X b j → ¬ (b = 174 ∧ j = 78) ∧ ¬ b = 219) (a : Agm X h h') (H : OtAt h n g) : OtAt h' n g := ⟨(Agm_I a (fun z => (hX _ _ z).1 ⟨rfl, rfl⟩)).trans H.1, H.2.1, fun k hk => (Agm_I a (fun z => (hX _ _ z).2 rfl)).trans (H.2.2 k hk)⟩
theorem Ls_agm (hX : ∀ b j, X b j → ∀ v, v < 22 → ¬ lyX v b j) (a : Agm X h h') (H : LsAt h) : LsAt h' := fun v hv => by
  obtain ⟨u, hu⟩ := H v hv
  exact ⟨u, Lay_agm (fun b j z => hX b j z v hv) a hu⟩
theorem Ls_ly {v0 : Nat} {u0 : PS} (hX : ∀ b j, X b j → ∀ v, v < 22 → ¬ v = v0 → ¬ lyX v b j) (a : Agm X h h') (H : LsAt h) (H0 : Lay h' v0 u0) : LsAt h' := fun v hv => by
  by_cases c : v = v0
  · rw [c]
    exact ⟨u0, H0⟩
  · obtain ⟨u, hu⟩ := H v hv
    exact ⟨u, Lay_agm (fun b j z => hX b j z v hv c) a hu⟩
theorem Br_agm {b : Int32} {x : Int32} (hX : ∀ b j, X b j → ¬ (b = 174 ∧ 69 ≤ j ∧ j ≤ 73)) (a : Agm X h h') (H : BrAt h b x) : BrAt h' b x := ⟨(Agm_I a (fun z => hX _ _ z (by omega))).trans H.1, (Agm_I a (fun z => hX _ _ z (by omega))).trans H.2.1, (Agm_I a (fun z => hX _ _ z (by omega))).trans H.2.2.1, (Agm_I a (fun z => hX _ _ z (by omega))).trans H.2.2.2.1, (Agm_I a (fun z => hX _ _ z (by omega))).trans H.2.2.2.2⟩
theorem Nm_agm (hX : ∀ b j, X b j → ncX b j) (a : Agm X h h') (H : NmM h bk A) : NmM h' bk A := ⟨fun i hi => by
  rw [Agm_L a (fun z => (hX _ _ z).2 (by omega))]
  exact H.1 i hi, fun i hi => by
  rw [Agm_L a (fun z => (hX _ _ z).2 (by omega))]
  exact H.2 i hi⟩
theorem Mdl_put (hA : MdlAt h bk m A) (a : Agm X h h') (hX : ∀ b j, X b j → ncX b j) (eC : A'.C = A.C) (e1 : A'.fn = A.fn) (e2 : A'.pn = A.pn) (B : ∃ b x, BrAt h' (nI b) x ∧ b ≤ m') (L : ∃ t, Lay h' 0 t ∧ SEq A.C A'.now t) (Ls : LsAt h') (R : ∃ f, RgAt h' A.C A'.past f) (S : SdAt h' A'.seed) (F : RfAt h' A'.ref) (T : TpAt h' A'.tn A'.tp) (K : FtAt h' A'.fk A'.fp) (O : OtAt h' A'.zn A'.zb) : MdlAt h' bk m' A' := by
  obtain ⟨t, b, x0, f0, zM, zC, zS, zT, zN, ⟨zB, zb⟩, zL, zE, zA, ⟨zf, zf20, zu, zu20, zP⟩, zs, zr, ⟨ztn, ztn6, ztp⟩, ⟨zfk, zfp⟩, ⟨zo, zo7, zob⟩⟩ := hA
  obtain ⟨b', x', B1, B2⟩ := B
  obtain ⟨t', L1, L2⟩ := L
  obtain ⟨f', R⟩ := R
  refine ⟨t', b', x', f', Mo_agm a zM, ?_, ?_, ?_, ?_, ⟨B1, B2⟩, L1, ?_, Ls, ?_, S, F, T, K, O⟩
  · rw [eC]
    exact Mc_agm hX a zC
  · rw [eC]
    exact ⟨Cm_agm hX a (by omega) (by omega) zS.1, Cm_agm hX a (by omega) (by omega) zS.2⟩
  · exact trivial
  · have := Nm_agm hX a zN
    unfold NmM at this ⊢
    rw [eC, e1, e2]
    exact this
  · rw [eC]
    exact L2
  · rw [eC]
    exact R
/-- layer v alone, what is asked, breaches -/
theorem Mdl_lay {v : Nat} (hA : MdlAt h bk m A) (a : Agm (dyX v) h h') (hv : v = 0 ∨ v = 1) (hu : ∃ u, LayB h' v u ∧ (∃ b, u.brs = nI b ∧ b ≤ m') ∧ (v = 0 → SEq A.C A'.now u)) (e : A' = nowA A A'.now) (ev : v = 1 → A'.now = A.now) : MdlAt h' bk m' A' := by
  obtain ⟨u, hu1, ⟨b', eb, hb'⟩, hu2⟩ := hu
  have hA' := hA
  obtain ⟨t, b, x0, f0, zM, zC, zS, zT, zN, ⟨zB, zb⟩, zL, zE, zA, ⟨zf, zf20, zu, zu20, zP⟩, zs, zr, ⟨ztn, ztn6, ztp⟩, ⟨zfk, zfp⟩, ⟨zo, zo7, zob⟩⟩ := hA
  have br := LB_br hu1
  rw [eb] at br
  refine Mdl_put hA' a (fun _ _ => dy_nc) (by rw [e]; rfl) (by rw [e]; rfl) (by rw [e]; rfl) ⟨b', _, br, hb'⟩ ?_ (Ls_ly (v0 := v) (fun _ _ z w _ hw => dy_ly hw z) a zA hu1.1) ⟨f0, ?_⟩ ?_ ?_ ?_ ?_ ?_
  · rcases hv with rfl | rfl
    · exact ⟨u, hu1.1, hu2 rfl⟩
    · rw [ev rfl]
      exact ⟨t, Lay_agm (fun _ _ z => dy_ly (by omega) z) a zL, zE⟩
  · rw [show A'.past = A.past by rw [e]; rfl]
    refine Rg_agm (fun b j z => ⟨?_, fun w h1 h2 => dy_ly (by omega) z⟩) a ⟨zf, zf20, zu, zu20, zP⟩
    unfold dyX lyX at z
    unfold unX
    omega
  · rw [show A'.seed = A.seed by rw [e]; rfl]
    refine Sd_agm (fun b j z => ?_) a zs
    unfold dyX lyX at z
    omega
  · rw [show A'.ref = A.ref by rw [e]; rfl]
    refine Rf_agm (fun b j z => ?_) a zr
    unfold dyX lyX at z
    omega
  · rw [show A'.tn = A.tn by rw [e]; rfl, show A'.tp = A.tp by rw [e]; rfl]
    refine Tp_agm (fun b j z => ?_) a ⟨ztn, ztn6, ztp⟩
    unfold dyX lyX at z
    omega
  · rw [show A'.fk = A.fk by rw [e]; rfl, show A'.fp = A.fp by rw [e]; rfl]
    refine Ft_agm (fun b j z => ?_) a ⟨zfk, zfp⟩
    unfold dyX lyX at z
    omega
  · rw [show A'.zn = A.zn by rw [e]; rfl, show A'.zb = A.zb by rw [e]; rfl]
    refine Ot_agm (fun b j z => ?_) a ⟨zo, zo7, zob⟩
    unfold dyX lyX at z
    omega
theorem nowA_self : nowA A A.now = A := rfl
/-- scratch alone: what is asked, what fired, costs -/
def skX (b j : Nat) : Prop := (b = 174 ∧ (64 ≤ j ∧ j ≤ 68 ∨ j = 75)) ∨ b = 216 ∨ b = 217 ∨ b = 218
theorem as_sk {b j : Nat} (z : asX b j) : skX b j := by
  unfold asX at z
  unfold skX
  omega
theorem sk_nc {b j : Nat} (z : skX b j) : ncX b j := by
  unfold skX at z
  unfold ncX
  omega
theorem sk_ly {v b j : Nat} (z : skX b j) : ¬ lyX v b j ∧ ¬ (b = 174 ∧ 69 ≤ j ∧ j ≤ 73) := by
  unfold skX at z
  unfold lyX
  omega
theorem Mdl_sk (hA : MdlAt h bk m A) (a : Agm skX h h') : MdlAt h' bk m A := by
  have hA' := hA
  obtain ⟨t, b, x0, f0, zM, zC, zS, zT, zN, ⟨zB, zb⟩, zL, zE, zA, ⟨zf, zf20, zu, zu20, zP⟩, zs, zr, ⟨ztn, ztn6, ztp⟩, ⟨zfk, zfp⟩, ⟨zo, zo7, zob⟩⟩ := hA
  refine Mdl_put hA' a (fun _ _ => sk_nc) rfl rfl rfl ⟨b, x0, Br_agm (fun _ _ z => (sk_ly (v := 0) z).2) a zB, zb⟩ ⟨t, Lay_agm (fun _ _ z => (sk_ly z).1) a zL, zE⟩ (Ls_agm (fun _ _ z _ _ => (sk_ly z).1) a zA) ⟨f0, Rg_agm (fun b j z => ⟨?_, fun w h1 h2 => (sk_ly z).1⟩) a ⟨zf, zf20, zu, zu20, zP⟩⟩ (Sd_agm (fun b j z => ?_) a zs) (Rf_agm (fun b j z => ?_) a zr) (Tp_agm (fun b j z => ?_) a ⟨ztn, ztn6, ztp⟩) (Ft_agm (fun b j z => ?_) a ⟨zfk, zfp⟩) (Ot_agm (fun b j z => ?_) a ⟨zo, zo7, zob⟩)
  all_goals
    unfold skX at z
    first
      | omega
      | (unfold unX; omega)
theorem Mdl_up (hm : m ≤ m') (hA : MdlAt h bk m A) : MdlAt h bk m' A := by
  obtain ⟨t, b, x0, f0, zM, zC, zS, zT, zN, ⟨zB, zb⟩, zL, zE, zA, ⟨zf, zf20, zu, zu20, zP⟩, zs, zr, ⟨ztn, ztn6, ztp⟩, ⟨zfk, zfp⟩, ⟨zo, zo7, zob⟩⟩ := hA
  exact ⟨t, b, x0, f0, zM, zC, zS, zT, zN, ⟨zB, Nat.le_trans zb hm⟩, zL, zE, zA, ⟨zf, zf20, zu, zu20, zP⟩, zs, zr, ⟨ztn, ztn6, ztp⟩, ⟨zfk, zfp⟩, ⟨zo, zo7, zob⟩⟩
theorem md_sk {b j : Nat} (z : skX b j) : mdX b j := by
  unfold skX at z
  unfold mdX
  omega
theorem md_dy {v b j : Nat} (z : dyX v b j) : mdX b j := by
  unfold dyX lyX at z
  unfold mdX
  omega
theorem md_un {b j : Nat} (z : unX b j) : mdX b j := by
  unfold unX at z
  unfold mdX
  omega
end AG2
section MO14
variable {d bk m : Nat} {h : AH} {Q : Option Value → AH → Prop} {A : AS}
theorem Mdl_ref {k : Nat} (hk : k < 6) (hA : MdlAt h bk m A) : MdlAt (sI h 206 k (hI h 206 k + nI 1)) bk m (refA A k) := by
  have hA' := hA
  obtain ⟨t, b, x0, f0, zM, zC, zS, zT, zN, ⟨zB, zb⟩, zL, zE, zA, ⟨zf, zf20, zu, zu20, zP⟩, zs, zr, ⟨ztn, ztn6, ztp⟩, ⟨zfk, zfp⟩, ⟨zo, zo7, zob⟩⟩ := hA
  have a : Agm (fun b j => b = 206 ∧ j = k) h (sI h 206 k (hI h 206 k + nI 1)) := Agm_sI ⟨rfl, rfl⟩
  refine Mdl_put hA' a (fun b j z => ?_) rfl rfl rfl ⟨b, x0, Br_agm (fun b j z => ?_) a zB, zb⟩ ⟨t, Lay_agm (fun b j z => ?_) a zL, zE⟩ (Ls_agm (fun b j z _ _ => ?_) a zA) ⟨f0, Rg_agm (fun b j z => ⟨?_, fun w h1 h2 => ?_⟩) a ⟨zf, zf20, zu, zu20, zP⟩⟩ (Sd_agm (fun b j z => ?_) a zs) (fun j hj => ?_) (Tp_agm (fun b j z => ?_) a ⟨ztn, ztn6, ztp⟩) (Ft_agm (fun b j z => ?_) a ⟨zfk, zfp⟩) (Ot_agm (fun b j z => ?_) a ⟨zo, zo7, zob⟩)
  case refine_8 =>
    show hI (sI h 206 k (hI h 206 k + nI 1)) 206 j = upd A.ref k (A.ref k + nI 1) j
    rw [hI_sI, upd_a, zr k hk]
    by_cases c : j = k
    · rw [if_pos ⟨rfl, c⟩, if_pos c]
    · rw [if_neg (fun z => c z.2), if_neg c]
      exact zr j hj
  all_goals
    first
      | omega
      | (unfold ncX; omega)
      | (unfold lyX; omega)
      | (unfold unX; omega)
theorem Mo_refused {k : Nat} (hd : 1 ≤ d) (hk : k < 6) (hA : MdlAt h bk m A) (hQ : ∀ h', MdlAt h' bk m (refA A k) → Agm mdX h h' → Q (some (.int (-1))) h') : CL d 200 [.ref 174, .int (nI k)] h Q := by
  have hA' := hA
  obtain ⟨t, b, x0, f0, zM, zC, zS, zT, zN, ⟨zB, zb⟩, zL, zE, zA, ⟨zf, zf20, zu, zu20, zP⟩, zs, zr, ⟨ztn, ztn6, ztp⟩, ⟨zfk, zfp⟩, ⟨zo, zo7, zob⟩⟩ := hA
  exact Mo_refuses hd zM hk (hQ _ (Mdl_ref hk hA') (Agm_sI (by unfold mdX; omega)))
theorem Mo_keepsA (hd : 2 ≤ d) (hI0 : INV A) (hA : MdlAt h bk m A) (hQ : ∀ h', Agm mdX h h' → MdlAt h' bk m (remA A A.now) → Q none h') : CL d 210 [.ref 174] h Q := by
  have hA' := hA
  obtain ⟨t, b, x0, f0, zM, zC, zS, zT, zN, ⟨zB, zb⟩, zL, zE, zA, ⟨zf, zf20, zu, zu20, zP⟩, zs, zr, ⟨ztn, ztn6, ztp⟩, ⟨zfk, zfp⟩, ⟨zo, zo7, zob⟩⟩ := hA
  obtain ⟨-, ⟨-, D, M, -, -, -, ⟨w, hw, en⟩, -⟩, -⟩ := hI0
  have hv : 2 + (rgF f0 A.past.length + rgN A.past.length) % 20 < 22 := by omega
  obtain ⟨u, hu⟩ := zA _ hv
  have hB := LB_of hu zB
  refine Mo_keeps hd zM zf zf20 zu zu20 zL ((se_keeps zE).trans en) hw hB (fun h' a g60 g61 hB' => ?_)
  refine hQ h' (Agm_sub (fun b j z => z.elim md_un md_dy) a) ?_
  have hlen : (remA A A.now).past.length = rgN A.past.length + 1 := by
    show ((A.now :: A.past).take 20).length = _
    rw [List.length_take, List.length_cons, rgN]
    split <;> omega
  have br := LB_br hB'
  refine Mdl_put hA' a (fun b j z => ?_) rfl rfl rfl ⟨b, x0, br, zb⟩ ⟨t, Lay_agm (fun b j z => ?_) a zL, zE⟩ (Ls_ly (v0 := 2 + (rgF f0 A.past.length + rgN A.past.length) % 20) (fun b j z w _ hw => ?_) a zA hB'.1) ⟨rgF f0 A.past.length, g60, ?_, ?_, ?_, fun k s e => ?_⟩ (Sd_agm (fun b j z => ?_) a zs) (Rf_agm (fun b j z => ?_) a zr) (Tp_agm (fun b j z => ?_) a ⟨ztn, ztn6, ztp⟩) (Ft_agm (fun b j z => ?_) a ⟨zfk, zfp⟩) (Ot_agm (fun b j z => ?_) a ⟨zo, zo7, zob⟩)
  · exact z.elim un_nc dy_nc
  · rcases z with z | z
    · exact (un_ly z).1
    · exact dy_ly (by omega) z
  · rcases z with z | z
    · exact (un_ly z).1
    · exact dy_ly hw z
  · unfold rgF
    split
    · exact Nat.mod_lt _ (by omega)
    · exact zf20
  · rw [hlen]
    exact g61
  · rw [hlen]
    unfold rgN
    split <;> omega
  · rw [hlen]
    have hk : k < rgN A.past.length + 1 := by
      rw [← hlen]
      exact (List.getElem?_eq_some_iff.mp e).1
    have e' : (A.now :: A.past)[k]? = some s := by
      have : ((A.now :: A.past).take 20)[k]? = some s := e
      rw [List.getElem?_take_of_lt (by unfold rgN at hk; split at hk <;> omega)] at this
      exact this
    cases k with
    | zero =>
      have es : A.now = s := by simpa using e'
      subst es
      refine ⟨_, hB'.1, ?_⟩
      obtain ⟨pu, ke, b1, x1, rfl, e1, e2⟩ := zE
      refine ⟨pu, _, _, _, rfl, e1, fun k hk => ?_⟩
      have hk2 : k < w := by
        rw [en, nI_clamp (by omega)] at hk
        exact hk
      exact (if_pos hk2).trans (e2 k hk)
    | succ k =>
      rw [List.getElem?_cons_succ] at e'
      obtain ⟨u', hu', eu'⟩ := zP k s e'
      have hk3 : k < A.past.length := (List.getElem?_eq_some_iff.mp e').1
      refine ⟨u', ?_, eu'⟩
      have ei : 2 + (rgF f0 A.past.length + (rgN A.past.length + 1 - 1 - (k + 1))) % 20 = 2 + (f0 + (A.past.length - 1 - k)) % 20 := by
        unfold rgF rgN at *
        split <;> split at hk <;> omega
      have ne : ¬ 2 + (rgF f0 A.past.length + (rgN A.past.length + 1 - 1 - (k + 1))) % 20 = 2 + (rgF f0 A.past.length + rgN A.past.length) % 20 := by
        have : rgN A.past.length ≤ 19 := by
          unfold rgN
          split <;> omega
        omega
      rw [ei] at ne ⊢
      exact Lay_agm (fun b j z => z.elim (fun z => (un_ly z).1) (fun z => dy_ly ne z)) a hu'
  all_goals
    unfold dyX lyX unX at z
    omega
end MO14
