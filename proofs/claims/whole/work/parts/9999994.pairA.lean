/-! both sides in one heap -/
section PAIRA
variable {d bk m c e p q : Nat} {h h' : AH} {A : AS} {b tw : Nat → Int32} {r : Int32 × RS × XK}
theorem Cls_agm (a : Agm mdX h h') (hA : ClsAt h c e p q A) : ClsAt h' c e p q A := by
  obtain ⟨hF, hC, vfn, vpn, vnow, vkb, vpast, vseed, vref, ⟨vtn, vtn6⟩, vtp, vfk, vfp, ⟨vzn, vzn7⟩, vzb, vcd⟩ := hA
  have g : ∀ b, ¬ (174 ≤ b ∧ b ≤ 219) → hI h' b = hI h b := fun b hb => by
    funext j
    exact Agm_I a hb
  have hF' : FaAt h' c e p q := by
    have z := hF
    have a0 := a.1
    have a2 := a.2.2.1
    have a3 := a.2.2.2.1
    have a4 : hL h' 4 = hL h 4 := by
      funext j
      exact Agm_L a (by unfold mdX; omega)
    unfold FaAt PaAt QuAt PiAt CapAt StAt IA BA at *
    rw [a0, a2, a3, a4]
    exact z
  have hsc := (Fa_dj hF).2.2
  obtain ⟨o0, oN, o1, o2, o3, o4, o5, o6, o7, o8, o9, oA, ⟨oB, oC, oD⟩, ⟨oE, oF⟩, oG, oH, oI, oJ, oK, oL, oM, oP, oQ, oR⟩ := hF
  have hC' : CpAt h' c A.C := CpAt_eq a.1 a.2.2.1 a.2.2.2.1 (fun b b1 b2 => g b (by omega)) (fun b b1 => g b (by omega)) hC
  obtain ⟨n, p1, p2, p3, p4, p5⟩ := vpast
  refine ⟨hF', hC', ?_, ?_, NowAt_c (fun b h1 h2 => g b (by omega)) vnow, vkb, ⟨n, ?_, p2, ?_, p4, fun k s hk => ?_⟩, ?_, ?_, ⟨?_, vtn6⟩, ?_, ?_, ?_, ⟨?_, vzn7⟩, ?_, ?_⟩
  · rw [g _ (by omega)]
    exact vfn
  · rw [g _ (by omega)]
    exact vpn
  · rw [g _ (by omega)]
    exact p1
  · rw [g _ (by omega)]
    exact p3
  · obtain ⟨⟨x, y, z⟩, z2⟩ := p5 k s hk
    exact ⟨⟨x, y, NowAt_c (fun b h1 h2 => g b (by omega)) z⟩, z2⟩
  · rw [g _ (by omega)]
    exact vseed
  · rw [g _ (by omega)]
    exact vref
  · rw [g _ (by omega)]
    exact vtn
  · rw [g _ (by omega)]
    exact vtp
  · rw [g _ (by omega)]
    exact vfk
  · rw [g _ (by omega)]
    exact vfp
  · rw [g _ (by omega)]
    exact vzn
  · rw [g _ (by omega)]
    exact vzb
  · rw [g _ (by omega)]
    exact vcd
theorem Lay_e {v : Nat} {s : PS} (g : ∀ a, 207 ≤ a → a ≤ 215 → hI h' a = hI h a) (H : Lay h v s) : Lay h' v s := fun a j ha => by
  rw [g (207 + a) (by omega) (by omega)]
  exact H a j ha
theorem Mdl_frc (f : FrC h h') (hA : MdlAt h bk m A) : MdlAt h' bk m A := by
  obtain ⟨f1, f2, f3⟩ := f
  have e174 := (f3 174 (by omega) (by omega)).1
  have e175 := (f3 175 (by omega) (by omega)).1
  have e176 := (f3 176 (by omega) (by omega)).1
  have e177 := (f3 177 (by omega) (by omega)).1
  have e178 := (f3 178 (by omega) (by omega)).1
  have e179 := (f3 179 (by omega) (by omega)).1
  have e180 := (f3 180 (by omega) (by omega)).1
  have e181 := (f3 181 (by omega) (by omega)).1
  have e182 := (f3 182 (by omega) (by omega)).1
  have e183 := (f3 183 (by omega) (by omega)).1
  have e184 := (f3 184 (by omega) (by omega)).1
  have e185 := (f3 185 (by omega) (by omega)).1
  have e186 := (f3 186 (by omega) (by omega)).1
  have e187 := (f3 187 (by omega) (by omega)).1
  have e188 := (f3 188 (by omega) (by omega)).1
  have e189 := (f3 189 (by omega) (by omega)).1
  have e190 := (f3 190 (by omega) (by omega)).1
  have e191 := (f3 191 (by omega) (by omega)).1
  have e192 := (f3 192 (by omega) (by omega)).1
  have e193 := (f3 193 (by omega) (by omega)).1
  have e194 := (f3 194 (by omega) (by omega)).1
  have e195 := (f3 195 (by omega) (by omega)).1
  have e196 := (f3 196 (by omega) (by omega)).1
  have e197 := (f3 197 (by omega) (by omega)).1
  have e198 := (f3 198 (by omega) (by omega)).1
  have e199 := (f3 199 (by omega) (by omega)).1
  have e200 := (f3 200 (by omega) (by omega)).1
  have e201 := (f3 201 (by omega) (by omega)).1
  have e202 := (f3 202 (by omega) (by omega)).1
  have e203 := (f3 203 (by omega) (by omega)).1
  have e204 := (f3 204 (by omega) (by omega)).1
  have e205 := (f3 205 (by omega) (by omega)).1
  have e206 := (f3 206 (by omega) (by omega)).1
  have e207 := (f3 207 (by omega) (by omega)).1
  have e208 := (f3 208 (by omega) (by omega)).1
  have e209 := (f3 209 (by omega) (by omega)).1
  have e210 := (f3 210 (by omega) (by omega)).1
  have e211 := (f3 211 (by omega) (by omega)).1
  have e212 := (f3 212 (by omega) (by omega)).1
  have e213 := (f3 213 (by omega) (by omega)).1
  have e214 := (f3 214 (by omega) (by omega)).1
  have e215 := (f3 215 (by omega) (by omega)).1
  have e216 := (f3 216 (by omega) (by omega)).1
  have e217 := (f3 217 (by omega) (by omega)).1
  have e218 := (f3 218 (by omega) (by omega)).1
  have e219 := (f3 219 (by omega) (by omega)).1
  have n175 := (f3 175 (by omega) (by omega)).2.1
  have n176 := (f3 176 (by omega) (by omega)).2.1
  have n177 := (f3 177 (by omega) (by omega)).2.1
  have n178 := (f3 178 (by omega) (by omega)).2.1
  have n179 := (f3 179 (by omega) (by omega)).2.1
  have n180 := (f3 180 (by omega) (by omega)).2.1
  have n181 := (f3 181 (by omega) (by omega)).2.1
  have n182 := (f3 182 (by omega) (by omega)).2.1
  have n183 := (f3 183 (by omega) (by omega)).2.1
  have n184 := (f3 184 (by omega) (by omega)).2.1
  have n185 := (f3 185 (by omega) (by omega)).2.1
  have n186 := (f3 186 (by omega) (by omega)).2.1
  have n187 := (f3 187 (by omega) (by omega)).2.1
  have n188 := (f3 188 (by omega) (by omega)).2.1
  have n189 := (f3 189 (by omega) (by omega)).2.1
  have n190 := (f3 190 (by omega) (by omega)).2.1
  have n191 := (f3 191 (by omega) (by omega)).2.1
  have n192 := (f3 192 (by omega) (by omega)).2.1
  have n193 := (f3 193 (by omega) (by omega)).2.1
  have n194 := (f3 194 (by omega) (by omega)).2.1
  have n195 := (f3 195 (by omega) (by omega)).2.1
  have n196 := (f3 196 (by omega) (by omega)).2.1
  have n197 := (f3 197 (by omega) (by omega)).2.1
  have n198 := (f3 198 (by omega) (by omega)).2.1
  have n199 := (f3 199 (by omega) (by omega)).2.1
  have n200 := (f3 200 (by omega) (by omega)).2.1
  have n201 := (f3 201 (by omega) (by omega)).2.1
  have n202 := (f3 202 (by omega) (by omega)).2.1
  have n203 := (f3 203 (by omega) (by omega)).2.1
  have n204 := (f3 204 (by omega) (by omega)).2.1
  have n205 := (f3 205 (by omega) (by omega)).2.1
  have n206 := (f3 206 (by omega) (by omega)).2.1
  have n207 := (f3 207 (by omega) (by omega)).2.1
  have n208 := (f3 208 (by omega) (by omega)).2.1
  have n209 := (f3 209 (by omega) (by omega)).2.1
  have n210 := (f3 210 (by omega) (by omega)).2.1
  have n211 := (f3 211 (by omega) (by omega)).2.1
  have n212 := (f3 212 (by omega) (by omega)).2.1
  have n213 := (f3 213 (by omega) (by omega)).2.1
  have n214 := (f3 214 (by omega) (by omega)).2.1
  have n215 := (f3 215 (by omega) (by omega)).2.1
  have n216 := (f3 216 (by omega) (by omega)).2.1
  have n217 := (f3 217 (by omega) (by omega)).2.1
  have n218 := (f3 218 (by omega) (by omega)).2.1
  have n219 := (f3 219 (by omega) (by omega)).2.1
  have l174 := (f3 174 (by omega) (by omega)).2.2.1
  have l198 := (f3 198 (by omega) (by omega)).2.2.1
  have l199 := (f3 199 (by omega) (by omega)).2.2.1
  have r174 := (f3 174 (by omega) (by omega)).2.2.2
  have gl : ∀ a, 207 ≤ a → a ≤ 215 → hI h' a = hI h a := fun a h1 h2 => (f3 a (by omega) (by omega)).1
  obtain ⟨t, b, x0, f0, zM, zC, zS, zT, zN, ⟨zB, zb⟩, zL, zE, zA, ⟨zf, zf20, zu, zu20, zP⟩, zs, zr, ⟨ztn, ztn6, ztp⟩, ⟨zfk, zfp⟩, ⟨zo, zo7, zob⟩⟩ := hA
  refine ⟨t, b, x0, f0, ?_, ?_, ?_, trivial, ?_, ⟨?_, zb⟩, Lay_e gl zL, zE, fun v hv => ?_, ⟨?_, zf20, ?_, zu20, fun k s hk => ?_⟩, ?_, ?_, ⟨?_, ztn6, ?_⟩, ⟨?_, ?_⟩, ⟨?_, zo7, ?_⟩⟩
  · unfold MoAt at zM ⊢
    rw [r174, n175, n176, n177, n178, n179, n180, n181, n182, n183, n184, n185, n186, n187, n188, n189, n190, n191, n192, n193, n194, n195, n196, n197, n198, n199, n200, n201, n202, n203, n204, n205, n206, n207, n208, n209, n210, n211, n212, n213, n214, n215, n216, n217, n218, n219]
    have := zM.1
    exact ⟨by omega, zM.2⟩
  · unfold McAt at zC ⊢
    rw [e174, e176, e177, e178, e179, e180, e181, e182, e183, e184, e185, e186, e187, e188, e191]
    exact zC
  · unfold Cms CmAt at zS ⊢
    rw [e192, e193, e194, e195, e196, e197]
    exact zS
  · unfold NmM at zN ⊢
    rw [l198, l199]
    exact zN
  · unfold BrAt at zB ⊢
    rw [e174]
    exact zB
  · obtain ⟨u, hu⟩ := zA v hv
    exact ⟨u, Lay_e gl hu⟩
  · rw [e174]
    exact zf
  · rw [e174]
    exact zu
  · obtain ⟨u, hu, w⟩ := zP k s hk
    exact ⟨u, Lay_e gl hu, w⟩
  · rw [l174]
    exact zs
  · rw [e206]
    exact zr
  · rw [e174]
    exact ztn
  · rw [e175]
    exact ztp
  · rw [e174]
    exact zfk
  · rw [e174]
    exact zfp
  · rw [e174]
    exact zo
  · rw [e219]
    exact zob
theorem WT_mdl (hA : MdlAt h bk m A) : WT A.C := by
  obtain ⟨t, b, x0, f0, zM, zC, zS, zT, zN, ⟨zB, zb⟩, zL, zE, zA, ⟨zf, zf20, zu, zu20, zP⟩, zs, zr, ⟨ztn, ztn6, ztp⟩, ⟨zfk, zfp⟩, ⟨zo, zo7, zob⟩⟩ := hA
  exact WT_of zS.2
theorem INV_capF (hI0 : INV A) : INV (capF A b r) := hI0
theorem ct_le {v : Nat → Int32} : ∀ n, ctT v n ≤ n
  | 0 => Nat.le_refl _
  | n + 1 => by
    have := ct_le (v := v) n
    unfold ctT
    split <;> omega
theorem cn_ct {v w : Nat → Int32} : ∀ n, (∀ j, j < n → v j = w j) → cnT v (nI 0) n ≤ ctT w n
  | 0, _ => Nat.le_refl _
  | n + 1, hv => by
    have i1 := cn_ct n (fun j hj => hv j (by omega))
    unfold cnT ctT
    rw [hv n (by omega)]
    by_cases z : w n = -1
    · rw [if_pos z, if_pos (by rw [z]; decide)]
      exact i1
    · rw [if_neg z]
      split <;> omega
theorem nI_inj' {x y : Nat} (hx : x < 2147483648) (hy : y < 2147483648) (z : nI x = nI y) : x = y := by
  have := congrArg Int32.toInt z
  rw [nI_toInt hx, nI_toInt hy] at this
  omega
theorem eta_S {s : PS} : mkS s.day s.knows s.purse s.till s.valid s.kept s.keeps s.brs s.first = s := rfl
theorem out_brs {C : PC} {s : PS} : (dawnP (outP C s)).brs = nI 0 := rfl
/-- what a Capital begins with keeps the bounds -/
theorem Good_out {x : XK} {s : PS} (hK : WK x.1) (hT : WT (toPC x)) : GoodS (toPC x) (nextP (toPC x) (outP (toPC x) s)) := by
  have hW := WC_of hK
  have hTE := hK.2.2.2.2.2.1.1
  have hs := SI_out (C := toPC x) (s := s) (m := 0) (b0 := 0) (pu := (dawnP (outP (toPC x) s)).purse) (ke := (dawnP (outP (toPC x) s)).kept) (x := (dawnP (outP (toPC x) s)).first) (out_brs (C := toPC x) (s := s)) (Nat.le_refl 0) hTE
  rw [eta_S] at hs
  have ov := fun i (hi : i < 8) => out_valid (C := toPC x) (s := s) hi
  have ot := fun j (hj : j < 96) => out_till (C := toPC x) (s := s) hj
  have tl : (nextP (toPC x) (outP (toPC x) s)).till = (dawnP (outP (toPC x) s)).till := tl_next
  have hs2 := SI_meetAll hW hT (SI_dawnAll hW hs)
  have en : nextP (toPC x) (outP (toPC x) s) = meetAllP (toPC x) (inferAllP (toPC x) (hearAllP (toPC x) (dawnP (outP (toPC x) s)))) := rfl
  rw [← en] at hs2
  generalize nextP (toPC x) (outP (toPC x) s) = N at *
  generalize dawnP (outP (toPC x) s) = X at *
  have e1 := cv_cn ov
  have e2 := cn_ct (v := X.till) (w := (toPC x).til) 96 ot
  obtain ⟨k1, k2, hk, hk9, k16, k17⟩ := hK.2.1
  have k7 := hK.2.2.2.2.2.2
  have c9 := ct_le (v := x.1 12) 96
  have e3 : ctT (x.1 12) 96 = k1 := nI_inj' (by omega) (by omega) (k7.symm.trans k16)
  have e4 : cnT X.till (nI 0) 96 ≤ k1 := by
    rw [← e3]
    exact e2
  have hl : LOK (toPC x) X := by
    refine ⟨k2 - cnT X.till (nI 0) 96, by omega, ?_⟩
    rw [e1, show (toPC x).stock = nI k2 from k17, nI_subN (by omega)]
  exact ⟨LOK_same hW hs hs2 tl hl, 0, _, by omega, hs2⟩
theorem INV_capG (hK : WK r.2.2.1) (hT : WT (capG A b r).C) (hI0 : INV A) : INV (capG A b r) := ⟨WC_of hK, Good_out hK hT, fun s hs => (by cases hs), hI0.2.2.2⟩
theorem Ty_g {A' : AS} {g : Nat → Int32} (hT : TyI A) (hg : ∀ k, k < 1600 → g k = A.tp k) (e : A'.tp = g) : TyI A' := Ty_same hT (fun k hk => by rw [e]; exact hg k hk)
theorem Ty_fee {g : Nat → Int32} {x1 x2 x3 x4 x5 : Int32} (hT : TyI A) (hg : ∀ k, k < 1600 → g k = A.tp k) : TyI (feeZ A g x1 x2 x3 x4 x5).2 := by
  unfold feeZ
  split
  · exact hT
  · have h0 : ∀ k, k < 1600 → ∃ j, j < 256 ∧ ((A.tn, g) : TT).2 k = byM (nI j) := fun k hk => by
      obtain ⟨j, hj, ej⟩ := hT k hk
      exact ⟨j, hj, (hg k hk).trans ej⟩
    exact Ty_p4 (Ty_p4 (Ty_p4 (Ty_p4 (Ty_p4 h0))))
theorem Ty_end {g : Nat → Int32} {n : Int32} (hT : TyI A) (hg : ∀ k, k < 1600 → g k = A.tp k) : TyI (endZ A g n).2 := by
  unfold endZ
  split
  · exact hT
  · exact Ty_g hT hg rfl
theorem Ty_sed {x : Int32} (hT : TyI A) : TyI (sedA A x).2 := by
  unfold sedA
  split <;> exact hT
theorem Ty_buy {x f n : Int32} (hT : TyI A) : TyI (buyZ A x f n).2 := by
  unfold buyZ
  split
  · split <;> exact hT
  · exact hT
theorem Ty_bac {x f : Int32} (hT : TyI A) : TyI (bacZ A x f).2 := by
  unfold bacZ
  split <;> exact hT
theorem Ty_wor {x f : Int32} (hT : TyI A) : TyI (worZ A x f).2 := by
  unfold worZ
  split <;> exact hT
theorem Ty_day {n : Int32} (hT : TyI A) : TyI (dayZ A n).2 := by
  unfold dayZ
  split <;> exact hT
theorem Ty_rum {n : Int32} (hT : TyI A) : TyI (rumZ A n).2 := by
  unfold rumZ
  split <;> exact hT
theorem Ty_und (hT : TyI A) : TyI (undZ A).2 := by
  unfold undZ
  split <;> exact hT
theorem Ty_img {g : Nat → Int32} (hT : TyI A) : TyI (imgZ A g).2 := hT
theorem Ty_on {g : Nat → Int32} {s : PS} [Decidable (okIm A.C g A.tn s)] (hT : TyI A) (hg : ∀ k, k < 1600 → g k = A.tp k) : TyI (onZ A g s).2 := by
  unfold onZ
  split
  · exact Ty_g hT hg rfl
  · exact Ty_g hT hg rfl
end PAIRA
