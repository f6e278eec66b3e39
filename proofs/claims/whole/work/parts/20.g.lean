/-! A RUN AS A CONDITION ON ITS END: 'G d m pc ls st h Q': from here method m, at depth d, comes to its end, and Q holds of its answer and heap -/
theorem exec_fuel1 : ∀ (f d mi pc : Nat) (ls st : List Value) (h : AH) (x : Option Value × AH), exec f d mi pc ls st h = some x → exec (f + 1) d mi pc ls st h = some x
  | 0, _, _, _, _, _, _, _, hx => by cases hx
  | f + 1, d, mi, pc, ls, st, h, x, hx => by
    rw [exec] at hx ⊢
    cases hi : ins mi pc with
    | none => rw [hi] at hx; cases hx
    | some q =>
      obtain ⟨i, len⟩ := q
      rw [hi] at hx
      dsimp only at hx ⊢
      cases hs : step mi i pc ls st h with
      | none => rw [hs] at hx; cases hx
      | some q =>
        rw [hs] at hx
        rcases q with ⟨pc1, ls1, st1, h1⟩ | ⟨m', as, rest⟩ | r1
        · dsimp only at hx ⊢
          exact exec_fuel1 f _ _ _ _ _ _ _ hx
        · dsimp only at hx ⊢
          cases d with
          | zero => cases hx
          | succ d' =>
            dsimp only at hx ⊢
            cases hc : exec f d' m' 0 (ent (mlOf m') as) [] h with
            | none => rw [hc] at hx; cases hx
            | some q =>
              rw [hc] at hx
              rw [exec_fuel1 f _ _ _ _ _ _ _ hc]
              dsimp only at hx ⊢
              exact exec_fuel1 f _ _ _ _ _ _ _ hx
        · dsimp only at hx ⊢
          exact hx
theorem exec_fuel {f g d mi pc : Nat} {ls st : List Value} {h : AH} {x : Option Value × AH} (hx : exec f d mi pc ls st h = some x) (hg : f ≤ g) : exec g d mi pc ls st h = some x := by
  obtain ⟨k, rfl⟩ := Nat.exists_eq_add_of_le hg
  induction k with
  | zero => exact hx
  | succ k ih => exact exec_fuel1 _ _ _ _ _ _ _ _ (ih (Nat.le_add_right _ _))
def G (d mi pc : Nat) (ls st : List Value) (h : AH) (Q : Option Value → AH → Prop) : Prop := ∃ f r h', exec f d mi pc ls st h = some (r, h') ∧ Q r h'
/-- a call of method m with these arguments -/
def CL (d m : Nat) (as : List Value) (h : AH) (Q : Option Value → AH → Prop) : Prop := (flt as).length ≤ mlOf m ∧ ∃ d', d = d' + 1 ∧ G d' m 0 (ent (mlOf m) as) [] h Q
def GN (d mi pc : Nat) (ls : List Value) (h : AH) (z : Option NX) (Q : Option Value → AH → Prop) : Prop := match z with
  | some (.inl q) => G d mi q.1 q.2.1 q.2.2.1 q.2.2.2 Q
  | some (.inr (.inl q)) => ∃ d', d = d' + 1 ∧ G d' q.1 0 (ent (mlOf q.1) q.2.1) [] h (fun r h1 => G d mi (pc + 3) ls (r.toList ++ q.2.2) h1 Q)
  | some (.inr (.inr r)) => Q r h
  | none => False
section GG
variable {d mi pc : Nat} {ls st : List Value} {h : AH} {Q : Option Value → AH → Prop}
theorem G_unf {i : Instr} {l : Nat} {z : Option NX} (hi : ins mi pc = some (i, l)) (hz : step mi i pc ls st h = z) : G d mi pc ls st h Q ↔ GN d mi pc ls h z Q := by
  subst hz
  constructor
  · rintro ⟨f, r, h', hx, hQ⟩
    cases f with
    | zero => cases hx
    | succ f =>
      rw [exec, hi] at hx
      dsimp only at hx
      cases hs : step mi i pc ls st h with
      | none => rw [hs] at hx; cases hx
      | some q =>
        rw [hs] at hx
        rcases q with ⟨pc1, ls1, st1, h1⟩ | ⟨m', as, rest⟩ | r1
        · exact ⟨f, r, h', hx, hQ⟩
        · dsimp only at hx
          cases d with
          | zero => cases hx
          | succ d' =>
            dsimp only at hx
            cases hc : exec f d' m' 0 (ent (mlOf m') as) [] h with
            | none => rw [hc] at hx; cases hx
            | some q =>
              rw [hc] at hx
              exact ⟨d', rfl, f, q.1, q.2, hc, f, r, h', hx, hQ⟩
        · cases hx
          exact hQ
  · intro hg
    cases hs : step mi i pc ls st h with
    | none => rw [hs] at hg; exact hg.elim
    | some q =>
      rw [hs] at hg
      rcases q with ⟨pc1, ls1, st1, h1⟩ | ⟨m', as, rest⟩ | r1
      · obtain ⟨f, r, h', hx, hQ⟩ := hg
        refine ⟨f + 1, r, h', ?_, hQ⟩
        rw [exec, hi]
        dsimp only
        rw [hs]
        exact hx
      · obtain ⟨d', rfl, f, r2, h2, hc, g, r, h', hx, hQ⟩ := hg
        refine ⟨max f g + 1, r, h', ?_, hQ⟩
        rw [exec, hi]
        dsimp only
        rw [hs]
        dsimp only
        rw [exec_fuel hc (Nat.le_max_left f g)]
        exact exec_fuel hx (Nat.le_max_right f g)
      · refine ⟨1, r1, h, ?_, hg⟩
        rw [exec, hi]
        dsimp only
        rw [hs]
theorem GN_nx {pc' : Nat} {ls' st' : List Value} {h' : AH} : GN d mi pc ls h (nx pc' ls' st' h') Q = G d mi pc' ls' st' h' Q := rfl
theorem GN_rtn {r : Option Value} : GN d mi pc ls h (rtn r) Q = Q r h := rfl
theorem GN_ck {c : Prop} [Decidable c] {z : Option NX} : GN d mi pc ls h (ck c z) Q ↔ c ∧ GN d mi pc ls h z Q := by
  unfold ck
  split
  · rename_i hc
    simp [hc]
  · rename_i hc
    simp [hc, GN]
theorem GN_br {c : Prop} [Decidable c] {a b : Option NX} : GN d mi pc ls h (br c a b) Q ↔ (c → GN d mi pc ls h a Q) ∧ (¬ c → GN d mi pc ls h b Q) := by
  unfold br
  split
  · rename_i hc
    simp [hc]
  · rename_i hc
    simp [hc]
theorem GN_cll {m : Nat} {as r : List Value} : GN d mi pc ls h (cll m as r) Q ↔ CL d m as h (fun v h1 => G d mi (pc + 3) ls (v.toList ++ r) h1 Q) := by
  unfold cll CL
  split
  · rename_i hc
    simp [hc, GN]
  · rename_i hc
    simp [hc, GN]
theorem ldI_0 {x : Int32} {r : List Value} {k : Int32 → Option NX} : ldI (.int x :: r) 0 k = k x := rfl
theorem ldJ_0 {x : Int64} {r : List Value} {k : Int64 → Option NX} : ldJ (.long x :: r) 0 k = k x := rfl
theorem ldR_0 {x : Nat} {r : List Value} {k : Nat → Option NX} : ldR (.ref x :: r) 0 k = k x := rfl
theorem ldI_s {v : Value} {r : List Value} {i : Nat} {k : Int32 → Option NX} : ldI (v :: r) (i + 1) k = ldI r i k := rfl
theorem ldJ_s {v : Value} {r : List Value} {i : Nat} {k : Int64 → Option NX} : ldJ (v :: r) (i + 1) k = ldJ r i k := rfl
theorem ldR_s {v : Value} {r : List Value} {i : Nat} {k : Nat → Option NX} : ldR (v :: r) (i + 1) k = ldR r i k := rfl
theorem pI_c {x : Int32} {r : List Value} {k} : pI (.int x :: r) k = k x r := rfl
theorem pII_c {x y : Int32} {r : List Value} {k} : pII (.int y :: .int x :: r) k = k x y r := rfl
theorem pJ_c {x : Int64} {r : List Value} {k} : pJ (.long x :: r) k = k x r := rfl
theorem pJJ_c {x y : Int64} {r : List Value} {k} : pJJ (.long y :: .long x :: r) k = k x y r := rfl
theorem pJI_c {x : Int64} {y : Int32} {r : List Value} {k} : pJI (.int y :: .long x :: r) k = k x y r := rfl
theorem pR_c {x : Nat} {r : List Value} {k} : pR (.ref x :: r) k = k x r := rfl
theorem pRI_c {a : Nat} {i : Int32} {r : List Value} {k} : pRI (.int i :: .ref a :: r) k = k a i r := rfl
theorem pRJ_c {a : Nat} {i : Int64} {r : List Value} {k} : pRJ (.long i :: .ref a :: r) k = k a i r := rfl
theorem pRR_c {a v : Nat} {r : List Value} {k} : pRR (.ref v :: .ref a :: r) k = k a v r := rfl
theorem pRII_c {a : Nat} {i x : Int32} {r : List Value} {k} : pRII (.int x :: .int i :: .ref a :: r) k = k a i x r := rfl
theorem pRIJ_c {a : Nat} {i : Int32} {x : Int64} {r : List Value} {k} : pRIJ (.long x :: .int i :: .ref a :: r) k = k a i x r := rfl
theorem pRIR_c {a v : Nat} {i : Int32} {r : List Value} {k} : pRIR (.ref v :: .int i :: .ref a :: r) k = k a i v r := rfl
theorem pCopy_c {a0 a : Nat} {sp dp n : Int32} {r : List Value} {k} : pCopy (.int n :: .int dp :: .ref a :: .int sp :: .ref a0 :: r) k = k a0 sp a dp n r := rfl
theorem pIe_c {x : Int32} {k} : pIe [.int x] k = k x := rfl
theorem pJe_c {x : Int64} {k} : pJe [.long x] k = k x := rfl
theorem pRe_c {x : Nat} {k} : pRe [.ref x] k = k x := rfl
theorem pE_c {z} : pE [] z = z := rfl
theorem p1_i {x : Int32} {r : List Value} {k} : p1 (.int x :: r) k = k (.int x) r := rfl
theorem p1_r {x : Nat} {r : List Value} {k} : p1 (.ref x :: r) k = k (.ref x) r := rfl
theorem p11_ir {x : Int32} {a : Nat} {r : List Value} {k} : p11 (.int x :: .ref a :: r) k = k (.int x) (.ref a) r := rfl
theorem pA_0 {st : List Value} {k} : pA 0 st k = k [] st := rfl
theorem pA_1 {a : Value} {st : List Value} {k} : pA 1 (a :: st) k = k [a] st := rfl
theorem pA_2 {a b : Value} {st : List Value} {k} : pA 2 (a :: b :: st) k = k [b, a] st := rfl
theorem pA_3 {a b c : Value} {st : List Value} {k} : pA 3 (a :: b :: c :: st) k = k [c, b, a] st := rfl
theorem pA_4 {a b c e : Value} {st : List Value} {k} : pA 4 (a :: b :: c :: e :: st) k = k [e, c, b, a] st := rfl
theorem pA_5 {a b c e f : Value} {st : List Value} {k} : pA 5 (a :: b :: c :: e :: f :: st) k = k [f, e, c, b, a] st := rfl
theorem st1_0 {a v : Value} {r : List Value} : st1 (a :: r) 0 v = v :: r := rfl
theorem st1_i {x : Int32} {b v : Value} {r : List Value} : st1 (.int x :: b :: r) 1 v = .int x :: v :: r := rfl
theorem st1_r {x : Nat} {b v : Value} {r : List Value} : st1 (.ref x :: b :: r) 1 v = .ref x :: v :: r := rfl
theorem st1_n {b v : Value} {r : List Value} : st1 (.null :: b :: r) 1 v = .null :: v :: r := rfl
theorem st1_u {b v : Value} {r : List Value} : st1 (uu :: b :: r) 1 v = uu :: v :: r := rfl
theorem st1_j {x : Int64} {b v : Value} {r : List Value} : st1 (.long x :: b :: r) 1 v = uu :: v :: r := rfl
theorem kl_s {a b : Value} {r : List Value} {i : Nat} : kl (a :: b :: r) (i + 2) = a :: kl (b :: r) (i + 1) := by
  rw [kl_succ, kl_succ]
  show ((match (b :: r)[i]? with
    | some (.long _) => (a :: b :: r).set (i + 1) uu
    | some (.double _) => (a :: b :: r).set (i + 1) uu
    | _ => a :: b :: r) : List Value) = _
  cases (b :: r)[i]? with
  | none => rfl
  | some z => cases z <;> rfl
theorem st1_s {a b v : Value} {r : List Value} {i : Nat} : st1 (a :: b :: r) (i + 2) v = a :: st1 (b :: r) (i + 1) v := by
  unfold st1
  rw [kl_s]
  rfl
theorem st2_0 {a b v : Value} {r : List Value} : st2 (a :: b :: r) 0 v = v :: uu :: r := rfl
theorem st2_i {x : Int32} {b c v : Value} {r : List Value} : st2 (.int x :: b :: c :: r) 1 v = .int x :: v :: uu :: r := rfl
theorem st2_r {x : Nat} {b c v : Value} {r : List Value} : st2 (.ref x :: b :: c :: r) 1 v = .ref x :: v :: uu :: r := rfl
theorem st2_n {b c v : Value} {r : List Value} : st2 (.null :: b :: c :: r) 1 v = .null :: v :: uu :: r := rfl
theorem st2_u {b c v : Value} {r : List Value} : st2 (uu :: b :: c :: r) 1 v = uu :: v :: uu :: r := rfl
theorem st2_j {x : Int64} {b c v : Value} {r : List Value} : st2 (.long x :: b :: c :: r) 1 v = uu :: v :: uu :: r := rfl
theorem st2_s {a b v : Value} {r : List Value} {i : Nat} : st2 (a :: b :: r) (i + 2) v = a :: st2 (b :: r) (i + 1) v := by
  have e1 : ∀ (l : List Value) (i : Nat), st2 l i v = (st1 l i v).set (i + 1) uu := fun _ _ => rfl
  rw [e1, e1, st1_s]
  rfl
theorem flt_i {x : Int32} {r : List Value} : flt (.int x :: r) = .int x :: flt r := rfl
theorem flt_r {x : Nat} {r : List Value} : flt (.ref x :: r) = .ref x :: flt r := rfl
theorem flt_j {x : Int64} {r : List Value} : flt (.long x :: r) = .long x :: uu :: flt r := rfl
theorem flt_0 : flt [] = [] := rfl
end GG

