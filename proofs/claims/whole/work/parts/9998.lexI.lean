/-! the reference: what is ahead, asked for a sign or a word -/
section MO9998
variable {d L : Nat} {h : AH} {Q : Option Value → AH → Prop} {b : Nat → Int32} {s : RS}
theorem b2i_c {p q : Prop} [Decidable p] [Decidable q] (e : p ↔ q) : b2i p = b2i q := by
  by_cases z : p
  · rw [b2i_t z, b2i_t (e.mp z)]
  · rw [b2i_f z, b2i_f (fun y => z (e.mpr y))]
theorem Px_tok (hP : Px h b L (true, s)) : ∃ st, TokAt h s st ∧ hI h 174 4 = nI st ∧ s.1 8 = nI st := by
  rcases hP with ⟨-, ⟨st, a, -, g8, -, -, -, -, g4, -, hTk, -⟩, -⟩ | ⟨z, -⟩
  · exact ⟨st, hTk, g4, g8⟩
  · cases z
theorem Mo_sg {c : Nat} (hd : 1 ≤ d) (hM : MoAt h) (hc : c < 256) (hP : Px h b L (true, s)) (h29 : ¬ s.1 6 = nI 29) (hQ : Q (some (.int (b2i (s.1 6 = nI (100 + c))))) h) : CL d 165 [.ref 174, .int (nI c)] h Q := by
  obtain ⟨st, hTk, -, -⟩ := Px_tok hP
  refine Mo_isSign hd hM ?_
  rw [b2i_c (Tok_sign hc hTk h29)]
  exact hQ
theorem Mo_wd {k c : Nat} (hd : 1 ≤ d) (hM : MoAt h) (hk : k < 26) (e : pk8 (ownW k) = c) (hP : Px h b L (true, s)) (h29 : ¬ s.1 6 = nI 29) (hQ : Q (some (.int (b2i (s.1 6 = nI k)))) h) : CL d 166 [.ref 174, .long (lN c)] h Q := by
  obtain ⟨st, hTk, -, -⟩ := Px_tok hP
  subst e
  refine Mo_isWord hd hM ?_
  rw [b2i_c (Tok_word hk hTk h29)]
  exact hQ
end MO9998
