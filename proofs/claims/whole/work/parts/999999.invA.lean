/-! what every act keeps -/
def cnT (till : Nat → Int32) (day : Int32) : Nat → Nat
  | 0 => 0
  | n + 1 => cnT till day n + (if till n < day then 0 else 1)
section CNT
variable {C : PC} {s t : PS} {D D' m m' : Nat} {till : Nat → Int32} {day : Int32}
theorem bc_cn {i : Nat} : ∀ q, q ≤ 12 → Sm (foN (fvF till day i) 0 q (nI 0)) ∧ bcM (foN (fvF till day i) 0 q (nI 0)) + nI (cnT till day (i * 12)) = nI (cnT till day (i * 12 + q))
  | 0, _ => ⟨⟨0, by omega, rfl⟩, by
    show bcM (nI 0) + nI (cnT till day (i * 12)) = nI (cnT till day (i * 12))
    rw [show bcM (nI 0) = nI 0 by decide, nI_add, Nat.zero_add]⟩
  | q + 1, hq => by
    obtain ⟨h1, h2⟩ := bc_cn (i := i) q (by omega)
    have hb := fv_bits (till := till) (day := day) (i := i) (f := q) (by omega) q 0 (nI 0) (by omega)
    rw [fo_snoc, Nat.zero_add]
    show Sm (fvF till day i q (foN (fvF till day i) 0 q (nI 0))) ∧ bcM (fvF till day i q (foN (fvF till day i) 0 q (nI 0))) + _ = nI (cnT till day (i * 12 + q) + (if till (i * 12 + q) < day then 0 else 1))
    generalize foN (fvF till day i) 0 q (nI 0) = X at *
    unfold fvF
    by_cases c : till (i * 12 + q) < day
    · rw [if_pos c, if_pos c]
      exact ⟨h1, h2⟩
    · rw [if_neg c, if_neg c]
      refine ⟨Sm_or h1 (Sm_bt (by omega)), ?_⟩
      have nb : ¬ hasB X (nI q) := fun z => by
        rcases hb.mp z with z | z
        · exact hasB_0 (by omega) z
        · omega
      rw [bc_or h1 (by omega) nb, i_arc, h2, nI_add]
theorem cv_cn {v : Nat → Int32} (hv : ∀ i, i < 8 → v i = fvM till day i) : cvM v = nI (cnT till day 96) := by
  have key : ∀ n, n ≤ 8 → foN (cvF v) 0 n (nI 0) = nI (cnT till day (n * 12)) := by
    intro n
    induction n with
    | zero => exact fun _ => rfl
    | succ n ih =>
      intro hn
      rw [fo_snoc, Nat.zero_add, ih (by omega)]
      unfold cvF
      rw [hv n (by omega), Int32.add_comm]
      have := (bc_cn (till := till) (day := day) (i := n) 12 (by omega)).2
      rw [show (n + 1) * 12 = n * 12 + 12 by omega]
      exact this
  exact key 8 (by omega)
theorem cn_mono {till' : Nat → Int32} {day' : Int32} : ∀ n, (∀ j, j < n → till j < day → till' j < day') → cnT till' day' n ≤ cnT till day n
  | 0, _ => Nat.le_refl _
  | n + 1, h => by
    have i1 := cn_mono n (fun j hj => h j (by omega))
    unfold cnT
    by_cases c : till n < day
    · rw [if_pos c, if_pos (h n (by omega) c)]
      exact i1
    · rw [if_neg c]
      split <;> omega
theorem cn_le : ∀ n, cnT till day n ≤ n
  | 0 => Nat.le_refl _
  | n + 1 => by
    have := cn_le n
    unfold cnT
    split <;> omega
/-- licences VALID grow no more as long as none is taken -/
theorem LOK_le (hW : WC C) (hs : SI C D m s) (ht : SI C D' m' t) (h : ∀ j, j < 96 → s.till j < s.day → t.till j < t.day) (hl : LOK C s) : LOK C t := by
  obtain ⟨n, hn, en⟩ := hl
  obtain ⟨k, hk, ek⟩ := hW.2.2.2.1
  have e1 := cv_cn (v := s.valid) (till := s.till) (day := s.day) hs.2.2.2.2.1
  have e2 := cv_cn (v := t.valid) (till := t.till) (day := t.day) ht.2.2.2.2.1
  have hle := cn_mono (till := s.till) (day := s.day) (till' := t.till) (day' := t.day) 96 h
  have b1 := cn_le (till := s.till) (day := s.day) 96
  generalize cnT s.till s.day 96 = a at *
  generalize cnT t.till t.day 96 = b at *
  rw [ek, e1] at en
  have : a ≤ k := by
    have h1 := congrArg Int32.toInt en
    rw [sub_int (by omega) (by omega), nI_toInt (by omega)] at h1
    omega
  refine ⟨k - b, by omega, ?_⟩
  rw [ek, e2, nI_subN (by omega)]
theorem tl_inr {i r : Nat} : (inrF C i r t).till = t.till := by
  unfold inrF
  split
  · exact infer_same.2.2.1
  · rfl
theorem tl_inf {i : Nat} : ∀ (n : Nat) (s : PS), (infM C i n s).till = s.till
  | 0, _ => rfl
  | n + 1, s => by
    have e1 : (inrM C i s).till = s.till := foN_pres (v := PS.till) (fun r t => tl_inr) C.nr 0 s
    unfold infM
    split
    · exact e1
    · rw [tl_inf n, e1]
theorem tl_meetF {dow : Int32} {k : Nat} : (meetF C dow k t).till = t.till := by
  unfold meetF
  split
  · exact tl_inf 12 _
  · rfl
theorem tl_next : (nextP C s).till = s.till := by
  have e1 : ∀ u : PS, (meetAllP C u).till = u.till := fun u => foN_pres (v := PS.till) (fun r t => tl_meetF) C.nm 0 u
  have e2 : ∀ u : PS, (inferAllP C u).till = u.till := fun u => foN_pres (v := PS.till) (F := fun q t => infM C q 12 t) (fun r t => tl_inf 12 t) C.np 0 u
  show (meetAllP C (inferAllP C (hearAllP C (dawnP s)))).till = s.till
  rw [e1, e2]
  rfl
theorem tl_hear {i k : Nat} : (hearP C s i k).till = s.till := tl_inf 12 _
theorem Good_next (hW : WC C) (hT : WT C) (hD : D + 1 ≤ 999) (hs : SI C D m s) (hl : LOK C s) : SI C (D + 1) (m + 7000) (nextP C s) ∧ LOK C (nextP C s) := by
  have h1 := SI_next hW hT (by omega) hs
  refine ⟨h1, LOK_le hW hs h1 (fun j hj z => ?_) hl⟩
  rw [tl_next, h1.1]
  rw [hs.1] at z
  rw [Int32.lt_iff_toInt_lt, nI_toInt (by omega)] at z ⊢
  omega
theorem fo_days {α : Type} {F : Nat → α → α} {P : Nat → α → Prop} (hs : ∀ i D s, D + 1 ≤ 999 → P D s → P (D + 1) (F i s)) : ∀ (k i D : Nat) (s : α), D + k ≤ 999 → P D s → P (D + k) (foN F i k s)
  | 0, _, _, _, _, h => h
  | k + 1, i, D, s, hD, h => by
    have h2 := fo_days hs k (i + 1) (D + 1) (F i s) (by omega) (hs i D s (by omega) h)
    rw [show D + (k + 1) = D + 1 + k by omega]
    exact h2
theorem Good_go (hW : WC C) (hT : WT C) (k i D m : Nat) (s : PS) (hD : D + k ≤ 999) (hs : SI C D m s) (hl : LOK C s) : (∃ M, SI C (D + k) M (foN (fun _ t => nextP C t) i k s)) ∧ LOK C (foN (fun _ t => nextP C t) i k s) :=
  fo_days (P := fun D s => (∃ M, SI C D M s) ∧ LOK C s) (fun _ D s hD h => by
    obtain ⟨⟨M, h1⟩, h2⟩ := h
    obtain ⟨h3, h4⟩ := Good_next hW hT hD h1 h2
    exact ⟨⟨_, h3⟩, h4⟩) k i D s hD ⟨⟨m, hs⟩, hl⟩
theorem LOK_same (hW : WC C) (hs : SI C D m s) (ht : SI C D m' t) (e : t.till = s.till) (hl : LOK C s) : LOK C t := LOK_le hW hs ht (fun j _ z => by
  rw [e, ht.1]
  rw [hs.1] at z
  exact z) hl
theorem Good_spr (hW : WC C) {x : Int32} (hs : SI C D m s) (hl : LOK C s) : SI C D (m + 192) (sprP C (s, x)).1 ∧ LOK C (sprP C (s, x)).1 := by
  have h1 := SI_spr (x := x) hW hs
  refine ⟨h1, LOK_same hW hs h1 ?_ hl⟩
  unfold sprP
  split
  · rfl
  · dsimp only
    split
    · exact tl_hear
    · rfl
theorem rum_eq {q : Nat} {a : PS × Int32} : rumF C q a = sprP C (nextP C a.1, a.2) := rfl
def GoodR (C : PC) (D : Nat) (a : PS × Int32) : Prop := (∃ M, SI C D M a.1) ∧ LOK C a.1
theorem GoodR_st (hW : WC C) (hT : WT C) (q D : Nat) (a : PS × Int32) (hD : D + 1 ≤ 999) (h : GoodR C D a) : GoodR C (D + 1) (rumF C q a) := by
  obtain ⟨⟨M, h1⟩, h2⟩ := h
  obtain ⟨h3, h4⟩ := Good_next hW hT hD h1 h2
  obtain ⟨h5, h6⟩ := Good_spr (x := a.2) hW h3 h4
  rw [rum_eq]
  exact ⟨⟨_, h5⟩, h6⟩
theorem Good_rum (hW : WC C) (hT : WT C) (k i D m : Nat) (a : PS × Int32) (hD : D + k ≤ 999) (hs : SI C D m a.1) (hl : LOK C a.1) : GoodR C (D + k) (foN (rumF C) i k a) := by
  have h0 : GoodR C D a := ⟨⟨m, hs⟩, hl⟩
  exact fo_days (GoodR_st hW hT) k i D a hD h0
theorem SI_anew (hs : SI C D m s) : SI C D 0 (countAnewP s) := ⟨hs.1, hs.2.1, hs.2.2.1, hs.2.2.2.1, hs.2.2.2.2.1, ⟨0, Nat.le_refl _, rfl⟩, hs.2.2.2.2.2.2⟩
end CNT
section INVA
variable {A : AS}
theorem INV_ref {k : Nat} (h : INV A) : INV (refA A k) := h
theorem INV_see {x : Int32} (h : INV A) (hx : 0 ≤ x) : INV (seeS A x) := ⟨h.1, h.2.1, h.2.2.1, hx⟩
theorem INV_sed {x : Int32} (h : INV A) : INV (sedA A x).2 := by
  unfold sedA
  split
  · exact INV_ref h
  · rename_i z
    exact INV_see h (Int32.not_lt.mp z)
theorem INV_fee {g : Nat → Int32} {x1 x2 x3 x4 x5 : Int32} (h : INV A) : INV (feeZ A g x1 x2 x3 x4 x5).2 := by
  unfold feeZ
  split
  · exact h
  · exact h
theorem INV_end {g : Nat → Int32} {n : Int32} (h : INV A) : INV (endZ A g n).2 := by
  unfold endZ
  split
  · exact h
  · exact h
theorem INV_img {g : Nat → Int32} (h : INV A) : INV (imgZ A g).2 := h
theorem in_lt {n : Nat} {x : Int32} (hn : n < 1000) (h : inR n x) : x.toNatClampNeg < n ∧ x = nI x.toNatClampNeg := by
  obtain ⟨h1, h2⟩ := h
  rw [Int32.lt_iff_toInt_lt] at h1 h2
  rw [nI_toInt (by omega)] at h2
  have e0 : (0 : Int32).toInt = 0 := by decide
  rw [e0] at h1
  have e : x = nI x.toInt.toNat := by
    apply Int32.toInt_inj.mp
    rw [nI_toInt (by omega)]
    omega
  have e2 : x.toNatClampNeg = x.toInt.toNat := rfl
  rw [e2]
  exact ⟨by omega, e⟩
theorem INV_buy {r f n : Int32} (h : INV A) : INV (buyZ A r f n).2 := by
  unfold buyZ
  split
  · rename_i hc
    split
    · exact INV_ref h
    · obtain ⟨hW, ⟨hl, D, M, hD, hs⟩, -⟩ := id h
      obtain ⟨c1, c2, ⟨c3, c4⟩, c5, c6, c7, c8⟩ := hc
      have np := hW.1.2.2.1
      have nf := hW.1.1
      obtain ⟨r1, r2⟩ := in_lt (by omega) c1
      obtain ⟨f1, f2⟩ := in_lt (by omega) c2
      rw [f2] at c4
      have en : ∃ k, 1 ≤ k ∧ k ≤ 99 ∧ n = nI k := by
        rw [Int32.lt_iff_toInt_lt, nI_toInt (by omega)] at c5 c6
        refine ⟨n.toInt.toNat, by omega, by omega, ?_⟩
        apply Int32.toInt_inj.mp
        rw [nI_toInt (by omega)]
        omega
      obtain ⟨k, k1, k2, rfl⟩ := en
      have hv : Sm (A.now.valid r.toNatClampNeg) := by
        rw [hs.2.2.2.2.1 _ (by omega)]
        exact Sm_fv
      exact INV_rem h ⟨LOK_takeP (by omega) (by omega) hv c4 hl c8, D, M, hD, SI_takeP r1 np f1 nf k1 k2 hs⟩
  · exact INV_ref h
theorem INV_bac {r f : Int32} (h : INV A) : INV (bacZ A r f).2 := by
  unfold bacZ
  split
  · rename_i hc
    obtain ⟨hW, ⟨hl, D, M, hD, hs⟩, -⟩ := id h
    obtain ⟨c1, c2, c3⟩ := hc
    have np := hW.1.2.2.1
    have nf := hW.1.1
    obtain ⟨r1, r2⟩ := in_lt (by omega) c1
    obtain ⟨f1, f2⟩ := in_lt (by omega) c2
    have hs2 : SI A.C D M (givP A.now r.toNatClampNeg f.toNatClampNeg) := by
      refine SI_till (x := -1) (y := A.now.valid r.toNatClampNeg &&& (bt (nI f.toNatClampNeg) ^^^ -1)) r1 np f1 nf hs ?_ ⟨rfl, rfl, rfl, rfl, rfl, rfl⟩
      rw [hs.1, fv_give (by omega) (m1_lt hs.2.1), ← hs.1, ← hs.2.2.2.2.1 _ (by omega)]
    refine INV_rem h ⟨LOK_le hW hs hs2 (fun j hj z => ?_) hl, D, M, hD, hs2⟩
    show upd A.now.till (r.toNatClampNeg * 12 + f.toNatClampNeg) (-1) j < A.now.day
    rw [upd_a]
    split
    · rw [hs.1]
      exact m1_lt hs.2.1
    · exact z
  · exact INV_ref h
theorem INV_wor {r f : Int32} (h : INV A) : INV (worZ A r f).2 := by
  unfold worZ
  split
  · rename_i hc
    obtain ⟨hW, ⟨hl, D, M, hD, hs⟩, -⟩ := id h
    obtain ⟨c1, c2, c3⟩ := hc
    have np := hW.1.2.2.1
    have nf := hW.1.1
    obtain ⟨r1, r2⟩ := in_lt (by omega) c1
    obtain ⟨f1, f2⟩ := in_lt (by omega) c2
    have hs2 := SI_hear hW r1 f1 hs
    exact INV_rem h ⟨LOK_same hW hs hs2 tl_hear hl, D, _, hD, hs2⟩
  · exact INV_ref h
theorem INV_day {n : Int32} (h : INV A) (hT : WT A.C) : INV (dayZ A n).2 := by
  unfold dayZ
  split
  · rename_i hc
    obtain ⟨hW, ⟨hl, D, M, hD, hs⟩, -⟩ := id h
    rw [hs.1] at hc
    obtain ⟨k, k1, k2, rfl, k3⟩ := gob_n rfl hD hc
    have ck : (nI k).toNatClampNeg = k := nI_clamp (by omega)
    rw [ck]
    obtain ⟨⟨M', g1⟩, g2⟩ := Good_go hW hT k 0 D 0 _ k3 (SI_anew hs) hl
    exact INV_rem h ⟨g2, D + k, M', k3, g1⟩
  · exact INV_ref h
theorem drM_pos (x : Int32) : 0 ≤ drM x := by
  obtain ⟨k, hk, e⟩ := drM_n x
  rw [e]
  exact nI_pos' hk
theorem spr_pos {C : PC} {a : PS × Int32} (h : 0 ≤ a.2) : 0 ≤ (sprP C a).2 := by
  unfold sprP
  split
  · exact h
  · exact drM_pos _
theorem rum_pos {C : PC} : ∀ (k i : Nat) (a : PS × Int32), 0 ≤ a.2 → 0 ≤ (foN (rumF C) i k a).2
  | 0, _, _, h => h
  | k + 1, i, a, h => rum_pos k (i + 1) (rumF C i a) (spr_pos (a := (nextP C a.1, a.2)) h)
theorem INV_rum {n : Int32} (h : INV A) (hT : WT A.C) : INV (rumZ A n).2 := by
  unfold rumZ
  split
  · rename_i hc
    obtain ⟨hW, ⟨hl, D, M, hD, hs⟩, -, hse⟩ := id h
    rw [hs.1] at hc
    obtain ⟨k, k1, k2, rfl, k3⟩ := gob_n rfl hD hc
    have ck : (nI k).toNatClampNeg = k := nI_clamp (by omega)
    rw [ck]
    obtain ⟨⟨M', g1⟩, g2⟩ := Good_rum hW hT k 0 D 0 (countAnewP A.now, A.seed) k3 (SI_anew hs) hl
    exact INV_see (INV_rem h ⟨g2, D + k, M', k3, g1⟩) (rum_pos k 0 (countAnewP A.now, A.seed) hse)
  · exact INV_ref h
theorem INV_und (h : INV A) : INV (undZ A).2 := by
  unfold undZ
  obtain ⟨hW, ⟨hl, D, M, hD, hs⟩, hp, hse⟩ := id h
  cases e : A.past with
  | nil =>
    show INV (refA A 4)
    exact ⟨hW, ⟨hl, D, M, hD, hs⟩, hp, hse⟩
  | cons s l =>
    obtain ⟨hl', D', M', hD', hs'⟩ := hp s (by rw [e]; exact List.mem_cons_self ..)
    obtain ⟨b, hb, eb⟩ := hs.2.2.2.2.2.1
    exact ⟨hW, ⟨hl', D', M, hD', hs'.1, hs'.2.1, hs'.2.2.1, hs'.2.2.2.1, hs'.2.2.2.2.1, ⟨b, hb, eb⟩, hs'.2.2.2.2.2.2⟩, fun u hu => hp u (by rw [e]; exact List.mem_cons_of_mem _ hu), hse⟩
theorem SI_clear {C : PC} {s : PS} : SI C 0 0 (clearP s) := by
  refine ⟨rfl, by omega, ⟨0, Nat.zero_le _, rfl⟩, fun i f hi hf _ => if_pos (by omega), fun i hi => ?_, ⟨0, Nat.le_refl _, rfl⟩, fun i hi => ?_, fun i _ hi => if_pos hi⟩
  · rw [fv_none (fun f hf => by
      show (if i * 12 + f < 96 then -1 else s.till (i * 12 + f)) < nI 0
      rw [if_pos (by omega)]
      decide)]
    exact if_pos hi
  · have e : (clearP s).knows i = nI 0 := if_pos hi
    rw [e]
    exact Kn_0
theorem INV_on {g : Nat → Int32} {s0 : PS} (h : INV A) [Decidable (okIm A.C g A.tn (clearP s0))] : INV (onZ A g (clearP s0)).2 := by
  unfold onZ
  split
  · rename_i hc
    obtain ⟨hW, ⟨hl, D, M, hD, hs⟩, hp, hse⟩ := id h
    obtain ⟨-, -, o1, o2, o3⟩ := hc
    have np := hW.1.2.2.1
    have nf := hW.1.1
    have ei : imS A.C g (clearP s0) = findValidP (imT A.C g (clearP s0)) := rfl
    obtain ⟨D', hD1, eD⟩ := twoM_n g 0
    have p0 := (im_p (b := g) (s := clearP s0) nf).1
    have o2' : ¬ nI 999 < nI D' := by
      rw [← eD, ← p0]
      exact o2
    have hD' : D' ≤ 999 := Nat.le_of_not_lt (fun z => o2' ((nI_ltI (by omega) (by omega)).mpr z))
    have hi := SI_im nf np (SI_clear (C := A.C) (s := s0)) eD (by omega) o1
    rw [← ei] at hi
    obtain ⟨b, hb, eb⟩ := hs.2.2.2.2.2.1
    have hi2 : SI A.C D' M (onS A g (clearP s0)) := ⟨hi.1, hi.2.1, hi.2.2.1, hi.2.2.2.1, hi.2.2.2.2.1, ⟨b, hb, eb⟩, hi.2.2.2.2.2.2⟩
    obtain ⟨k, hk, ek⟩ := hW.2.2.2.1
    have e1 := cv_cn (v := (imS A.C g (clearP s0)).valid) (till := (imS A.C g (clearP s0)).till) (day := (imS A.C g (clearP s0)).day) hi.2.2.2.2.1
    have b1 := cn_le (till := (imS A.C g (clearP s0)).till) (day := (imS A.C g (clearP s0)).day) 96
    refine ⟨hW, ⟨?_, D', M, hD', hi2⟩, fun u hu => (by cases hu), hse⟩
    show ∃ n, n ≤ 99 ∧ A.C.stock - cvM (imS A.C g (clearP s0)).valid = nI n
    rw [e1] at o3 ⊢
    generalize cnT (imS A.C g (clearP s0)).till (imS A.C g (clearP s0)).day 96 = a at *
    rw [ek] at o3 ⊢
    have : a ≤ k := Nat.le_of_not_lt (fun z => o3 ((nI_ltI (by omega) (by omega)).mpr z))
    exact ⟨k - a, by omega, nI_subN this⟩
  · exact h
/-- the bytes of the tape are bytes -/
def TyI (A : AS) : Prop := ∀ k, k < 1600 → ∃ j, j < 256 ∧ A.tp k = byM (nI j)
theorem Ty_same {A' : AS} (h : TyI A) (e : ∀ k, k < 1600 → A'.tp k = A.tp k) : TyI A' := fun k hk => by
  obtain ⟨j, hj, ej⟩ := h k hk
  exact ⟨j, hj, (e k hk).trans ej⟩
theorem Ty_p1 {x : Int32} {t : TT} (h : ∀ k, k < 1600 → ∃ j, j < 256 ∧ t.2 k = byM (nI j)) : ∀ k, k < 1600 → ∃ j, j < 256 ∧ (p1T x t).2 k = byM (nI j) := fun k hk => by
  show ∃ j, j < 256 ∧ upd t.2 t.1 (byM x) k = byM (nI j)
  rw [upd_a]
  split
  · obtain ⟨j, hj, ej, -⟩ := by_form x
    exact ⟨j, hj, ej⟩
  · exact h k hk
theorem Ty_p4 {x : Int32} {t : TT} (h : ∀ k, k < 1600 → ∃ j, j < 256 ∧ t.2 k = byM (nI j)) : ∀ k, k < 1600 → ∃ j, j < 256 ∧ (p4T x t).2 k = byM (nI j) := Ty_p1 (Ty_p1 (Ty_p1 (Ty_p1 h)))
theorem Tp_b {h : AH} {b : Nat → Int32} (hT : TyI A) (hb : ∀ k, k < 1600 → b k = A.tp k) (ht : A.tn ≤ 1600) (hp : ∀ k, k < A.tn → hI h 175 k = A.tp k &&& nI 255) : TpB h b A.tn := fun k hk => by
  obtain ⟨j, hj, ej⟩ := hT k (by omega)
  refine ⟨j, hj, (hb k (by omega)).trans ej, ?_⟩
  rw [hp k hk, ej]
  exact by_and hj
end INVA
