/-! the law's rows, by the pieces of its table -/
theorem look_ok {t : List (Nat × (Instr × Nat))} (ht : (t.all fun q => decide (ins 291 q.1 = some q.2)) = true) {r pc l : Nat} {i : Instr} (h : t[r]? = some (pc, (i, l))) : ins 291 pc = some (i, l) := of_decide_eq_true (List.all_eq_true.mp ht _ (List.mem_of_getElem? h))
theorem lk_0 : (tbL_law_0.all fun q => decide (ins 291 q.1 = some q.2)) = true := by decide +kernel
theorem lk_1 : (tbL_law_1.all fun q => decide (ins 291 q.1 = some q.2)) = true := by decide +kernel
theorem lk_2 : (tbL_law_2.all fun q => decide (ins 291 q.1 = some q.2)) = true := by decide +kernel
theorem lk_3 : (tbL_law_3.all fun q => decide (ins 291 q.1 = some q.2)) = true := by decide +kernel
theorem lk_4 : (tbL_law_4.all fun q => decide (ins 291 q.1 = some q.2)) = true := by decide +kernel
theorem lk_5 : (tbL_law_5.all fun q => decide (ins 291 q.1 = some q.2)) = true := by decide +kernel
theorem lk_6 : (tbL_law_6.all fun q => decide (ins 291 q.1 = some q.2)) = true := by decide +kernel
theorem lk_7 : (tbL_law_7.all fun q => decide (ins 291 q.1 = some q.2)) = true := by decide +kernel
theorem lk_8 : (tbL_law_8.all fun q => decide (ins 291 q.1 = some q.2)) = true := by decide +kernel
theorem lk_9 : (tbL_law_9.all fun q => decide (ins 291 q.1 = some q.2)) = true := by decide +kernel
theorem lk_10 : (tbL_law_10.all fun q => decide (ins 291 q.1 = some q.2)) = true := by decide +kernel
theorem lk_11 : (tbL_law_11.all fun q => decide (ins 291 q.1 = some q.2)) = true := by decide +kernel
theorem lk_12 : (tbL_law_12.all fun q => decide (ins 291 q.1 = some q.2)) = true := by decide +kernel
theorem lk_13 : (tbL_law_13.all fun q => decide (ins 291 q.1 = some q.2)) = true := by decide +kernel
theorem lk_14 : (tbL_law_14.all fun q => decide (ins 291 q.1 = some q.2)) = true := by decide +kernel
theorem lk_15 : (tbL_law_15.all fun q => decide (ins 291 q.1 = some q.2)) = true := by decide +kernel
theorem lk_16 : (tbL_law_16.all fun q => decide (ins 291 q.1 = some q.2)) = true := by decide +kernel
theorem lk_17 : (tbL_law_17.all fun q => decide (ins 291 q.1 = some q.2)) = true := by decide +kernel
theorem lk_18 : (tbL_law_18.all fun q => decide (ins 291 q.1 = some q.2)) = true := by decide +kernel
theorem lk_19 : (tbL_law_19.all fun q => decide (ins 291 q.1 = some q.2)) = true := by decide +kernel
theorem lk_20 : (tbL_law_20.all fun q => decide (ins 291 q.1 = some q.2)) = true := by decide +kernel
theorem lk_21 : (tbL_law_21.all fun q => decide (ins 291 q.1 = some q.2)) = true := by decide +kernel
theorem lk_22 : (tbL_law_22.all fun q => decide (ins 291 q.1 = some q.2)) = true := by decide +kernel
theorem lk_23 : (tbL_law_23.all fun q => decide (ins 291 q.1 = some q.2)) = true := by decide +kernel
theorem lk_24 : (tbL_law_24.all fun q => decide (ins 291 q.1 = some q.2)) = true := by decide +kernel
theorem lk_25 : (tbL_law_25.all fun q => decide (ins 291 q.1 = some q.2)) = true := by decide +kernel
theorem lk_26 : (tbL_law_26.all fun q => decide (ins 291 q.1 = some q.2)) = true := by decide +kernel
theorem lk_27 : (tbL_law_27.all fun q => decide (ins 291 q.1 = some q.2)) = true := by decide +kernel
theorem lk_28 : (tbL_law_28.all fun q => decide (ins 291 q.1 = some q.2)) = true := by decide +kernel
theorem lk_29 : (tbL_law_29.all fun q => decide (ins 291 q.1 = some q.2)) = true := by decide +kernel
theorem lk_30 : (tbL_law_30.all fun q => decide (ins 291 q.1 = some q.2)) = true := by decide +kernel
theorem lk_31 : (tbL_law_31.all fun q => decide (ins 291 q.1 = some q.2)) = true := by decide +kernel
theorem lk_32 : (tbL_law_32.all fun q => decide (ins 291 q.1 = some q.2)) = true := by decide +kernel
theorem lk_33 : (tbL_law_33.all fun q => decide (ins 291 q.1 = some q.2)) = true := by decide +kernel
theorem lk_34 : (tbL_law_34.all fun q => decide (ins 291 q.1 = some q.2)) = true := by decide +kernel
theorem lk_35 : (tbL_law_35.all fun q => decide (ins 291 q.1 = some q.2)) = true := by decide +kernel
theorem lk_36 : (tbL_law_36.all fun q => decide (ins 291 q.1 = some q.2)) = true := by decide +kernel
theorem lk_37 : (tbL_law_37.all fun q => decide (ins 291 q.1 = some q.2)) = true := by decide +kernel
theorem lk_38 : (tbL_law_38.all fun q => decide (ins 291 q.1 = some q.2)) = true := by decide +kernel
theorem lk_39 : (tbL_law_39.all fun q => decide (ins 291 q.1 = some q.2)) = true := by decide +kernel
theorem lk_40 : (tbL_law_40.all fun q => decide (ins 291 q.1 = some q.2)) = true := by decide +kernel
theorem lk_41 : (tbL_law_41.all fun q => decide (ins 291 q.1 = some q.2)) = true := by decide +kernel
theorem lk_42 : (tbL_law_42.all fun q => decide (ins 291 q.1 = some q.2)) = true := by decide +kernel
theorem lk_43 : (tbL_law_43.all fun q => decide (ins 291 q.1 = some q.2)) = true := by decide +kernel
theorem lk_44 : (tbL_law_44.all fun q => decide (ins 291 q.1 = some q.2)) = true := by decide +kernel
theorem lk_45 : (tbL_law_45.all fun q => decide (ins 291 q.1 = some q.2)) = true := by decide +kernel
theorem lk_46 : (tbL_law_46.all fun q => decide (ins 291 q.1 = some q.2)) = true := by decide +kernel
theorem lk_47 : (tbL_law_47.all fun q => decide (ins 291 q.1 = some q.2)) = true := by decide +kernel
theorem lk_48 : (tbL_law_48.all fun q => decide (ins 291 q.1 = some q.2)) = true := by decide +kernel
theorem lk_49 : (tbL_law_49.all fun q => decide (ins 291 q.1 = some q.2)) = true := by decide +kernel
theorem lk_50 : (tbL_law_50.all fun q => decide (ins 291 q.1 = some q.2)) = true := by decide +kernel
theorem lk_51 : (tbL_law_51.all fun q => decide (ins 291 q.1 = some q.2)) = true := by decide +kernel
theorem lk_52 : (tbL_law_52.all fun q => decide (ins 291 q.1 = some q.2)) = true := by decide +kernel
theorem lk_53 : (tbL_law_53.all fun q => decide (ins 291 q.1 = some q.2)) = true := by decide +kernel
section G291a
variable {d : Nat} {ls st : List Value} {h : AH} {Q : Option Value → AH → Prop}
theorem g291_0 : G d 291 0 ls st h Q ↔ GN d 291 0 ls h (ck (lay (hN h) = 8) (nx 3 ls (.ref (hN h) :: st) (alc h 0 12))) Q := G_unf (look_ok lk_0 (r := 0) rfl) rfl
theorem g291_3 : G d 291 3 ls st h Q ↔ GN d 291 3 ls h (p1 st fun v r => nx 4 ls (v :: v :: r) h) Q := G_unf (look_ok lk_0 (r := 1) rfl) rfl
theorem g291_4 : G d 291 4 ls st h Q ↔ GN d 291 4 ls h (pA 0 st fun as r => pR r fun a r => ck (r.length ≤ 4 ∧ arr h a 8) (cll 104 (.ref a :: as) r)) Q := G_unf (look_ok lk_0 (r := 2) rfl) rfl
theorem g291_7 : G d 291 7 ls st h Q ↔ GN d 291 7 ls h (pR st fun a r => ck (1 < ls.length) (nx 8 (st1 ls 1 (.ref a)) r h)) Q := G_unf (look_ok lk_0 (r := 3) rfl) rfl
theorem g291_8 : G d 291 8 ls st h Q ↔ GN d 291 8 ls h (ck (lay (hN h) = 9) (nx 11 ls (.ref (hN h) :: st) (alc h 0 79))) Q := G_unf (look_ok lk_0 (r := 4) rfl) rfl
theorem g291_11 : G d 291 11 ls st h Q ↔ GN d 291 11 ls h (p1 st fun v r => nx 12 ls (v :: v :: r) h) Q := G_unf (look_ok lk_0 (r := 5) rfl) rfl
theorem g291_12 : G d 291 12 ls st h Q ↔ GN d 291 12 ls h (pA 0 st fun as r => pR r fun a r => ck (r.length ≤ 4 ∧ arr h a 9) (cll 155 (.ref a :: as) r)) Q := G_unf (look_ok lk_0 (r := 6) rfl) rfl
theorem g291_15 : G d 291 15 ls st h Q ↔ GN d 291 15 ls h (pR st fun a r => ck (2 < ls.length) (nx 16 (st1 ls 2 (.ref a)) r h)) Q := G_unf (look_ok lk_0 (r := 7) rfl) rfl
theorem g291_16 : G d 291 16 ls st h Q ↔ GN d 291 16 ls h (nx 17 ls (.int (nI 0) :: st) h) Q := G_unf (look_ok lk_0 (r := 8) rfl) rfl
theorem g291_17 : G d 291 17 ls st h Q ↔ GN d 291 17 ls h (pI st fun x r => ck (3 < ls.length) (nx 18 (st1 ls 3 (.int x)) r h)) Q := G_unf (look_ok lk_0 (r := 9) rfl) rfl
theorem g291_18 : G d 291 18 ls st h Q ↔ GN d 291 18 ls h (ldI ls 3 fun x => nx 19 ls (.int x :: st) h) Q := G_unf (look_ok lk_0 (r := 10) rfl) rfl
theorem g291_19 : G d 291 19 ls st h Q ↔ GN d 291 19 ls h (ldR ls 0 fun a => nx 20 ls (.ref a :: st) h) Q := G_unf (look_ok lk_0 (r := 11) rfl) rfl
theorem g291_20 : G d 291 20 ls st h Q ↔ GN d 291 20 ls h (pR st fun a r => br (a = 1000000) (nx 21 ls (.int (nI 0) :: r) h) (br (a = 1000002) (nx 21 ls (.int (nI 208) :: r) h) (br (a = 1000003) (nx 21 ls (.int (nI (hS h).1) :: r) h) (ck (a < hN h ∧ 10 ≤ lay a) (nx 21 ls (.int (nI (hLn h a)) :: r) h))))) Q := G_unf (look_ok lk_0 (r := 12) rfl) rfl
theorem g291_21 : G d 291 21 ls st h Q ↔ GN d 291 21 ls h (nx 23 ls (.int (nI 6) :: st) h) Q := G_unf (look_ok lk_0 (r := 13) rfl) rfl
theorem g291_23 : G d 291 23 ls st h Q ↔ GN d 291 23 ls h (pII st fun x y r => nx 24 ls (.int (x - y) :: r) h) Q := G_unf (look_ok lk_0 (r := 14) rfl) rfl
theorem g291_24 : G d 291 24 ls st h Q ↔ GN d 291 24 ls h (pII st fun x y r => br (y < x) (nx 1232 ls r h) (nx 27 ls r h)) Q := G_unf (look_ok lk_0 (r := 15) rfl) rfl
theorem g291_27 : G d 291 27 ls st h Q ↔ GN d 291 27 ls h (ldR ls 0 fun a => nx 28 ls (.ref a :: st) h) Q := G_unf (look_ok lk_1 (r := 0) rfl) rfl
theorem g291_28 : G d 291 28 ls st h Q ↔ GN d 291 28 ls h (ldI ls 3 fun x => nx 29 ls (.int x :: st) h) Q := G_unf (look_ok lk_1 (r := 1) rfl) rfl
theorem g291_29 : G d 291 29 ls st h Q ↔ GN d 291 29 ls h (pRI st fun a i r => br (a = 1000003) (ck (inb i (hS h).1) (nx 30 ls (.int ((hS h).2 i.toNatClampNeg) :: r) h)) (ck (arr h a 10 ∧ inb i (hLn h a)) (nx 30 ls (.int (hI h a i.toNatClampNeg) :: r) h))) Q := G_unf (look_ok lk_1 (r := 2) rfl) rfl
theorem g291_30 : G d 291 30 ls st h Q ↔ GN d 291 30 ls h (nx 32 ls (.int (nI 63) :: st) h) Q := G_unf (look_ok lk_1 (r := 3) rfl) rfl
theorem g291_32 : G d 291 32 ls st h Q ↔ GN d 291 32 ls h (pII st fun x y r => nx 33 ls (.int (x &&& y) :: r) h) Q := G_unf (look_ok lk_1 (r := 4) rfl) rfl
theorem g291_33 : G d 291 33 ls st h Q ↔ GN d 291 33 ls h (pI st fun x r => br (x.toInt = 0) (nx 184 ls r h) (br (x.toInt = 1) (nx 247 ls r h) (br (x.toInt = 2) (nx 270 ls r h) (br (x.toInt = 3) (nx 283 ls r h) (br (x.toInt = 4) (nx 306 ls r h) (br (x.toInt = 5) (nx 329 ls r h) (br (x.toInt = 6) (nx 372 ls r h) (br (x.toInt = 7) (nx 405 ls r h) (br (x.toInt = 8) (nx 438 ls r h) (br (x.toInt = 9) (nx 471 ls r h) (br (x.toInt = 10) (nx 504 ls r h) (br (x.toInt = 11) (nx 547 ls r h) (br (x.toInt = 12) (nx 590 ls r h) (br (x.toInt = 13) (nx 623 ls r h) (br (x.toInt = 14) (nx 656 ls r h) (br (x.toInt = 15) (nx 679 ls r h) (br (x.toInt = 16) (nx 702 ls r h) (br (x.toInt = 17) (nx 715 ls r h) (br (x.toInt = 18) (nx 738 ls r h) (br (x.toInt = 19) (nx 771 ls r h) (br (x.toInt = 20) (nx 804 ls r h) (br (x.toInt = 21) (nx 827 ls r h) (br (x.toInt = 22) (nx 860 ls r h) (br (x.toInt = 23) (nx 903 ls r h) (br (x.toInt = 24) (nx 926 ls r h) (br (x.toInt = 25) (nx 969 ls r h) (br (x.toInt = 26) (nx 1012 ls r h) (br (x.toInt = 27) (nx 1065 ls r h) (br (x.toInt = 28) (nx 1098 ls r h) (br (x.toInt = 29) (nx 1131 ls r h) (br (x.toInt = 30) (nx 1154 ls r h) (br (x.toInt = 31) (nx 1167 ls r h) (br (x.toInt = 32) (nx 1190 ls r h) (br (x.toInt = 33) (nx 1203 ls r h) (nx 1226 ls r h))))))))))))))))))))))))))))))))))) Q := G_unf (look_ok lk_1 (r := 5) rfl) rfl
theorem g291_184 : G d 291 184 ls st h Q ↔ GN d 291 184 ls h (ldR ls 1 fun a => nx 185 ls (.ref a :: st) h) Q := G_unf (look_ok lk_1 (r := 6) rfl) rfl
theorem g291_185 : G d 291 185 ls st h Q ↔ GN d 291 185 ls h (ldR ls 0 fun a => nx 186 ls (.ref a :: st) h) Q := G_unf (look_ok lk_1 (r := 7) rfl) rfl
theorem g291_186 : G d 291 186 ls st h Q ↔ GN d 291 186 ls h (ldI ls 3 fun x => nx 187 ls (.int x :: st) h) Q := G_unf (look_ok lk_1 (r := 8) rfl) rfl
theorem g291_187 : G d 291 187 ls st h Q ↔ GN d 291 187 ls h (nx 188 ls (.int (nI 1) :: st) h) Q := G_unf (look_ok lk_1 (r := 9) rfl) rfl
theorem g291_188 : G d 291 188 ls st h Q ↔ GN d 291 188 ls h (pII st fun x y r => nx 189 ls (.int (x + y) :: r) h) Q := G_unf (look_ok lk_1 (r := 10) rfl) rfl
theorem g291_189 : G d 291 189 ls st h Q ↔ GN d 291 189 ls h (pRI st fun a i r => br (a = 1000003) (ck (inb i (hS h).1) (nx 190 ls (.int ((hS h).2 i.toNatClampNeg) :: r) h)) (ck (arr h a 10 ∧ inb i (hLn h a)) (nx 190 ls (.int (hI h a i.toNatClampNeg) :: r) h))) Q := G_unf (look_ok lk_1 (r := 11) rfl) rfl
theorem g291_190 : G d 291 190 ls st h Q ↔ GN d 291 190 ls h (ldR ls 0 fun a => nx 191 ls (.ref a :: st) h) Q := G_unf (look_ok lk_1 (r := 12) rfl) rfl
theorem g291_191 : G d 291 191 ls st h Q ↔ GN d 291 191 ls h (ldI ls 3 fun x => nx 192 ls (.int x :: st) h) Q := G_unf (look_ok lk_1 (r := 13) rfl) rfl
theorem g291_192 : G d 291 192 ls st h Q ↔ GN d 291 192 ls h (nx 193 ls (.int (nI 2) :: st) h) Q := G_unf (look_ok lk_1 (r := 14) rfl) rfl
theorem g291_193 : G d 291 193 ls st h Q ↔ GN d 291 193 ls h (pII st fun x y r => nx 194 ls (.int (x + y) :: r) h) Q := G_unf (look_ok lk_1 (r := 15) rfl) rfl
theorem g291_194 : G d 291 194 ls st h Q ↔ GN d 291 194 ls h (pRI st fun a i r => br (a = 1000003) (ck (inb i (hS h).1) (nx 195 ls (.int ((hS h).2 i.toNatClampNeg) :: r) h)) (ck (arr h a 10 ∧ inb i (hLn h a)) (nx 195 ls (.int (hI h a i.toNatClampNeg) :: r) h))) Q := G_unf (look_ok lk_2 (r := 0) rfl) rfl
theorem g291_195 : G d 291 195 ls st h Q ↔ GN d 291 195 ls h (ldR ls 0 fun a => nx 196 ls (.ref a :: st) h) Q := G_unf (look_ok lk_2 (r := 1) rfl) rfl
theorem g291_196 : G d 291 196 ls st h Q ↔ GN d 291 196 ls h (ldI ls 3 fun x => nx 197 ls (.int x :: st) h) Q := G_unf (look_ok lk_2 (r := 2) rfl) rfl
theorem g291_197 : G d 291 197 ls st h Q ↔ GN d 291 197 ls h (nx 198 ls (.int (nI 3) :: st) h) Q := G_unf (look_ok lk_2 (r := 3) rfl) rfl
theorem g291_198 : G d 291 198 ls st h Q ↔ GN d 291 198 ls h (pII st fun x y r => nx 199 ls (.int (x + y) :: r) h) Q := G_unf (look_ok lk_2 (r := 4) rfl) rfl
theorem g291_199 : G d 291 199 ls st h Q ↔ GN d 291 199 ls h (pRI st fun a i r => br (a = 1000003) (ck (inb i (hS h).1) (nx 200 ls (.int ((hS h).2 i.toNatClampNeg) :: r) h)) (ck (arr h a 10 ∧ inb i (hLn h a)) (nx 200 ls (.int (hI h a i.toNatClampNeg) :: r) h))) Q := G_unf (look_ok lk_2 (r := 5) rfl) rfl
theorem g291_200 : G d 291 200 ls st h Q ↔ GN d 291 200 ls h (ldR ls 0 fun a => nx 201 ls (.ref a :: st) h) Q := G_unf (look_ok lk_2 (r := 6) rfl) rfl
theorem g291_201 : G d 291 201 ls st h Q ↔ GN d 291 201 ls h (ldI ls 3 fun x => nx 202 ls (.int x :: st) h) Q := G_unf (look_ok lk_2 (r := 7) rfl) rfl
theorem g291_202 : G d 291 202 ls st h Q ↔ GN d 291 202 ls h (nx 203 ls (.int (nI 4) :: st) h) Q := G_unf (look_ok lk_2 (r := 8) rfl) rfl
theorem g291_203 : G d 291 203 ls st h Q ↔ GN d 291 203 ls h (pII st fun x y r => nx 204 ls (.int (x + y) :: r) h) Q := G_unf (look_ok lk_2 (r := 9) rfl) rfl
theorem g291_204 : G d 291 204 ls st h Q ↔ GN d 291 204 ls h (pRI st fun a i r => br (a = 1000003) (ck (inb i (hS h).1) (nx 205 ls (.int ((hS h).2 i.toNatClampNeg) :: r) h)) (ck (arr h a 10 ∧ inb i (hLn h a)) (nx 205 ls (.int (hI h a i.toNatClampNeg) :: r) h))) Q := G_unf (look_ok lk_2 (r := 10) rfl) rfl
theorem g291_205 : G d 291 205 ls st h Q ↔ GN d 291 205 ls h (ldR ls 0 fun a => nx 206 ls (.ref a :: st) h) Q := G_unf (look_ok lk_2 (r := 11) rfl) rfl
theorem g291_206 : G d 291 206 ls st h Q ↔ GN d 291 206 ls h (ldI ls 3 fun x => nx 207 ls (.int x :: st) h) Q := G_unf (look_ok lk_2 (r := 12) rfl) rfl
theorem g291_207 : G d 291 207 ls st h Q ↔ GN d 291 207 ls h (nx 208 ls (.int (nI 5) :: st) h) Q := G_unf (look_ok lk_2 (r := 13) rfl) rfl
theorem g291_208 : G d 291 208 ls st h Q ↔ GN d 291 208 ls h (pII st fun x y r => nx 209 ls (.int (x + y) :: r) h) Q := G_unf (look_ok lk_2 (r := 14) rfl) rfl
theorem g291_209 : G d 291 209 ls st h Q ↔ GN d 291 209 ls h (pRI st fun a i r => br (a = 1000003) (ck (inb i (hS h).1) (nx 210 ls (.int ((hS h).2 i.toNatClampNeg) :: r) h)) (ck (arr h a 10 ∧ inb i (hLn h a)) (nx 210 ls (.int (hI h a i.toNatClampNeg) :: r) h))) Q := G_unf (look_ok lk_2 (r := 15) rfl) rfl
theorem g291_210 : G d 291 210 ls st h Q ↔ GN d 291 210 ls h (pA 5 st fun as r => pR r fun a r => ck (r.length ≤ 4 ∧ arr h a 8) (cll 105 (.ref a :: as) r)) Q := G_unf (look_ok lk_3 (r := 0) rfl) rfl
theorem g291_213 : G d 291 213 ls st h Q ↔ GN d 291 213 ls h (ldR ls 2 fun a => nx 214 ls (.ref a :: st) h) Q := G_unf (look_ok lk_3 (r := 1) rfl) rfl
theorem g291_214 : G d 291 214 ls st h Q ↔ GN d 291 214 ls h (ldR ls 0 fun a => nx 215 ls (.ref a :: st) h) Q := G_unf (look_ok lk_3 (r := 2) rfl) rfl
theorem g291_215 : G d 291 215 ls st h Q ↔ GN d 291 215 ls h (ldI ls 3 fun x => nx 216 ls (.int x :: st) h) Q := G_unf (look_ok lk_3 (r := 3) rfl) rfl
theorem g291_216 : G d 291 216 ls st h Q ↔ GN d 291 216 ls h (nx 217 ls (.int (nI 1) :: st) h) Q := G_unf (look_ok lk_3 (r := 4) rfl) rfl
theorem g291_217 : G d 291 217 ls st h Q ↔ GN d 291 217 ls h (pII st fun x y r => nx 218 ls (.int (x + y) :: r) h) Q := G_unf (look_ok lk_3 (r := 5) rfl) rfl
theorem g291_218 : G d 291 218 ls st h Q ↔ GN d 291 218 ls h (pRI st fun a i r => br (a = 1000003) (ck (inb i (hS h).1) (nx 219 ls (.int ((hS h).2 i.toNatClampNeg) :: r) h)) (ck (arr h a 10 ∧ inb i (hLn h a)) (nx 219 ls (.int (hI h a i.toNatClampNeg) :: r) h))) Q := G_unf (look_ok lk_3 (r := 6) rfl) rfl
theorem g291_219 : G d 291 219 ls st h Q ↔ GN d 291 219 ls h (ldR ls 0 fun a => nx 220 ls (.ref a :: st) h) Q := G_unf (look_ok lk_3 (r := 7) rfl) rfl
theorem g291_220 : G d 291 220 ls st h Q ↔ GN d 291 220 ls h (ldI ls 3 fun x => nx 221 ls (.int x :: st) h) Q := G_unf (look_ok lk_3 (r := 8) rfl) rfl
theorem g291_221 : G d 291 221 ls st h Q ↔ GN d 291 221 ls h (nx 222 ls (.int (nI 2) :: st) h) Q := G_unf (look_ok lk_3 (r := 9) rfl) rfl
theorem g291_222 : G d 291 222 ls st h Q ↔ GN d 291 222 ls h (pII st fun x y r => nx 223 ls (.int (x + y) :: r) h) Q := G_unf (look_ok lk_3 (r := 10) rfl) rfl
theorem g291_223 : G d 291 223 ls st h Q ↔ GN d 291 223 ls h (pRI st fun a i r => br (a = 1000003) (ck (inb i (hS h).1) (nx 224 ls (.int ((hS h).2 i.toNatClampNeg) :: r) h)) (ck (arr h a 10 ∧ inb i (hLn h a)) (nx 224 ls (.int (hI h a i.toNatClampNeg) :: r) h))) Q := G_unf (look_ok lk_3 (r := 11) rfl) rfl
theorem g291_224 : G d 291 224 ls st h Q ↔ GN d 291 224 ls h (ldR ls 0 fun a => nx 225 ls (.ref a :: st) h) Q := G_unf (look_ok lk_3 (r := 12) rfl) rfl
theorem g291_225 : G d 291 225 ls st h Q ↔ GN d 291 225 ls h (ldI ls 3 fun x => nx 226 ls (.int x :: st) h) Q := G_unf (look_ok lk_3 (r := 13) rfl) rfl
theorem g291_226 : G d 291 226 ls st h Q ↔ GN d 291 226 ls h (nx 227 ls (.int (nI 3) :: st) h) Q := G_unf (look_ok lk_3 (r := 14) rfl) rfl
theorem g291_227 : G d 291 227 ls st h Q ↔ GN d 291 227 ls h (pII st fun x y r => nx 228 ls (.int (x + y) :: r) h) Q := G_unf (look_ok lk_3 (r := 15) rfl) rfl
theorem g291_228 : G d 291 228 ls st h Q ↔ GN d 291 228 ls h (pRI st fun a i r => br (a = 1000003) (ck (inb i (hS h).1) (nx 229 ls (.int ((hS h).2 i.toNatClampNeg) :: r) h)) (ck (arr h a 10 ∧ inb i (hLn h a)) (nx 229 ls (.int (hI h a i.toNatClampNeg) :: r) h))) Q := G_unf (look_ok lk_4 (r := 0) rfl) rfl
theorem g291_229 : G d 291 229 ls st h Q ↔ GN d 291 229 ls h (ldR ls 0 fun a => nx 230 ls (.ref a :: st) h) Q := G_unf (look_ok lk_4 (r := 1) rfl) rfl
theorem g291_230 : G d 291 230 ls st h Q ↔ GN d 291 230 ls h (ldI ls 3 fun x => nx 231 ls (.int x :: st) h) Q := G_unf (look_ok lk_4 (r := 2) rfl) rfl
theorem g291_231 : G d 291 231 ls st h Q ↔ GN d 291 231 ls h (nx 232 ls (.int (nI 4) :: st) h) Q := G_unf (look_ok lk_4 (r := 3) rfl) rfl
theorem g291_232 : G d 291 232 ls st h Q ↔ GN d 291 232 ls h (pII st fun x y r => nx 233 ls (.int (x + y) :: r) h) Q := G_unf (look_ok lk_4 (r := 4) rfl) rfl
theorem g291_233 : G d 291 233 ls st h Q ↔ GN d 291 233 ls h (pRI st fun a i r => br (a = 1000003) (ck (inb i (hS h).1) (nx 234 ls (.int ((hS h).2 i.toNatClampNeg) :: r) h)) (ck (arr h a 10 ∧ inb i (hLn h a)) (nx 234 ls (.int (hI h a i.toNatClampNeg) :: r) h))) Q := G_unf (look_ok lk_4 (r := 5) rfl) rfl
theorem g291_234 : G d 291 234 ls st h Q ↔ GN d 291 234 ls h (ldR ls 0 fun a => nx 235 ls (.ref a :: st) h) Q := G_unf (look_ok lk_4 (r := 6) rfl) rfl
theorem g291_235 : G d 291 235 ls st h Q ↔ GN d 291 235 ls h (ldI ls 3 fun x => nx 236 ls (.int x :: st) h) Q := G_unf (look_ok lk_4 (r := 7) rfl) rfl
theorem g291_236 : G d 291 236 ls st h Q ↔ GN d 291 236 ls h (nx 237 ls (.int (nI 5) :: st) h) Q := G_unf (look_ok lk_4 (r := 8) rfl) rfl
theorem g291_237 : G d 291 237 ls st h Q ↔ GN d 291 237 ls h (pII st fun x y r => nx 238 ls (.int (x + y) :: r) h) Q := G_unf (look_ok lk_4 (r := 9) rfl) rfl
theorem g291_238 : G d 291 238 ls st h Q ↔ GN d 291 238 ls h (pRI st fun a i r => br (a = 1000003) (ck (inb i (hS h).1) (nx 239 ls (.int ((hS h).2 i.toNatClampNeg) :: r) h)) (ck (arr h a 10 ∧ inb i (hLn h a)) (nx 239 ls (.int (hI h a i.toNatClampNeg) :: r) h))) Q := G_unf (look_ok lk_4 (r := 10) rfl) rfl
theorem g291_239 : G d 291 239 ls st h Q ↔ GN d 291 239 ls h (pA 5 st fun as r => pR r fun a r => ck (r.length ≤ 4 ∧ arr h a 9) (cll 158 (.ref a :: as) r)) Q := G_unf (look_ok lk_4 (r := 11) rfl) rfl
theorem g291_242 : G d 291 242 ls st h Q ↔ GN d 291 242 ls h (pII st fun x y r => br (x = y) (nx 1226 ls r h) (nx 245 ls r h)) Q := G_unf (look_ok lk_4 (r := 12) rfl) rfl
theorem g291_247 : G d 291 247 ls st h Q ↔ GN d 291 247 ls h (ldR ls 1 fun a => nx 248 ls (.ref a :: st) h) Q := G_unf (look_ok lk_4 (r := 15) rfl) rfl
theorem g291_248 : G d 291 248 ls st h Q ↔ GN d 291 248 ls h (ldR ls 0 fun a => nx 249 ls (.ref a :: st) h) Q := G_unf (look_ok lk_5 (r := 0) rfl) rfl
theorem g291_249 : G d 291 249 ls st h Q ↔ GN d 291 249 ls h (ldI ls 3 fun x => nx 250 ls (.int x :: st) h) Q := G_unf (look_ok lk_5 (r := 1) rfl) rfl
theorem g291_250 : G d 291 250 ls st h Q ↔ GN d 291 250 ls h (nx 251 ls (.int (nI 1) :: st) h) Q := G_unf (look_ok lk_5 (r := 2) rfl) rfl
theorem g291_251 : G d 291 251 ls st h Q ↔ GN d 291 251 ls h (pII st fun x y r => nx 252 ls (.int (x + y) :: r) h) Q := G_unf (look_ok lk_5 (r := 3) rfl) rfl
theorem g291_252 : G d 291 252 ls st h Q ↔ GN d 291 252 ls h (pRI st fun a i r => br (a = 1000003) (ck (inb i (hS h).1) (nx 253 ls (.int ((hS h).2 i.toNatClampNeg) :: r) h)) (ck (arr h a 10 ∧ inb i (hLn h a)) (nx 253 ls (.int (hI h a i.toNatClampNeg) :: r) h))) Q := G_unf (look_ok lk_5 (r := 4) rfl) rfl
theorem g291_253 : G d 291 253 ls st h Q ↔ GN d 291 253 ls h (pA 1 st fun as r => pR r fun a r => ck (r.length ≤ 4 ∧ arr h a 8) (cll 106 (.ref a :: as) r)) Q := G_unf (look_ok lk_5 (r := 5) rfl) rfl
theorem g291_256 : G d 291 256 ls st h Q ↔ GN d 291 256 ls h (ldR ls 2 fun a => nx 257 ls (.ref a :: st) h) Q := G_unf (look_ok lk_5 (r := 6) rfl) rfl
theorem g291_257 : G d 291 257 ls st h Q ↔ GN d 291 257 ls h (ldR ls 0 fun a => nx 258 ls (.ref a :: st) h) Q := G_unf (look_ok lk_5 (r := 7) rfl) rfl
theorem g291_258 : G d 291 258 ls st h Q ↔ GN d 291 258 ls h (ldI ls 3 fun x => nx 259 ls (.int x :: st) h) Q := G_unf (look_ok lk_5 (r := 8) rfl) rfl
theorem g291_259 : G d 291 259 ls st h Q ↔ GN d 291 259 ls h (nx 260 ls (.int (nI 1) :: st) h) Q := G_unf (look_ok lk_5 (r := 9) rfl) rfl
theorem g291_260 : G d 291 260 ls st h Q ↔ GN d 291 260 ls h (pII st fun x y r => nx 261 ls (.int (x + y) :: r) h) Q := G_unf (look_ok lk_5 (r := 10) rfl) rfl
theorem g291_261 : G d 291 261 ls st h Q ↔ GN d 291 261 ls h (pRI st fun a i r => br (a = 1000003) (ck (inb i (hS h).1) (nx 262 ls (.int ((hS h).2 i.toNatClampNeg) :: r) h)) (ck (arr h a 10 ∧ inb i (hLn h a)) (nx 262 ls (.int (hI h a i.toNatClampNeg) :: r) h))) Q := G_unf (look_ok lk_5 (r := 11) rfl) rfl
theorem g291_262 : G d 291 262 ls st h Q ↔ GN d 291 262 ls h (pA 1 st fun as r => pR r fun a r => ck (r.length ≤ 4 ∧ arr h a 9) (cll 159 (.ref a :: as) r)) Q := G_unf (look_ok lk_5 (r := 12) rfl) rfl
theorem g291_265 : G d 291 265 ls st h Q ↔ GN d 291 265 ls h (pII st fun x y r => br (x = y) (nx 1226 ls r h) (nx 268 ls r h)) Q := G_unf (look_ok lk_5 (r := 13) rfl) rfl
theorem g291_270 : G d 291 270 ls st h Q ↔ GN d 291 270 ls h (ldR ls 1 fun a => nx 271 ls (.ref a :: st) h) Q := G_unf (look_ok lk_6 (r := 0) rfl) rfl
theorem g291_271 : G d 291 271 ls st h Q ↔ GN d 291 271 ls h (pA 0 st fun as r => pR r fun a r => ck (r.length ≤ 4 ∧ arr h a 8) (cll 107 (.ref a :: as) r)) Q := G_unf (look_ok lk_6 (r := 1) rfl) rfl
theorem g291_274 : G d 291 274 ls st h Q ↔ GN d 291 274 ls h (ldR ls 2 fun a => nx 275 ls (.ref a :: st) h) Q := G_unf (look_ok lk_6 (r := 2) rfl) rfl
theorem g291_275 : G d 291 275 ls st h Q ↔ GN d 291 275 ls h (pA 0 st fun as r => pR r fun a r => ck (r.length ≤ 4 ∧ arr h a 9) (cll 198 (.ref a :: as) r)) Q := G_unf (look_ok lk_6 (r := 3) rfl) rfl
theorem g291_278 : G d 291 278 ls st h Q ↔ GN d 291 278 ls h (pII st fun x y r => br (x = y) (nx 1226 ls r h) (nx 281 ls r h)) Q := G_unf (look_ok lk_6 (r := 4) rfl) rfl
theorem g291_283 : G d 291 283 ls st h Q ↔ GN d 291 283 ls h (ldR ls 1 fun a => nx 284 ls (.ref a :: st) h) Q := G_unf (look_ok lk_6 (r := 7) rfl) rfl
theorem g291_284 : G d 291 284 ls st h Q ↔ GN d 291 284 ls h (ldR ls 0 fun a => nx 285 ls (.ref a :: st) h) Q := G_unf (look_ok lk_6 (r := 8) rfl) rfl
theorem g291_285 : G d 291 285 ls st h Q ↔ GN d 291 285 ls h (ldI ls 3 fun x => nx 286 ls (.int x :: st) h) Q := G_unf (look_ok lk_6 (r := 9) rfl) rfl
theorem g291_286 : G d 291 286 ls st h Q ↔ GN d 291 286 ls h (nx 287 ls (.int (nI 1) :: st) h) Q := G_unf (look_ok lk_6 (r := 10) rfl) rfl
theorem g291_287 : G d 291 287 ls st h Q ↔ GN d 291 287 ls h (pII st fun x y r => nx 288 ls (.int (x + y) :: r) h) Q := G_unf (look_ok lk_6 (r := 11) rfl) rfl
theorem g291_288 : G d 291 288 ls st h Q ↔ GN d 291 288 ls h (pRI st fun a i r => br (a = 1000003) (ck (inb i (hS h).1) (nx 289 ls (.int ((hS h).2 i.toNatClampNeg) :: r) h)) (ck (arr h a 10 ∧ inb i (hLn h a)) (nx 289 ls (.int (hI h a i.toNatClampNeg) :: r) h))) Q := G_unf (look_ok lk_6 (r := 12) rfl) rfl
theorem g291_289 : G d 291 289 ls st h Q ↔ GN d 291 289 ls h (pA 1 st fun as r => pR r fun a r => ck (r.length ≤ 4 ∧ arr h a 8) (cll 108 (.ref a :: as) r)) Q := G_unf (look_ok lk_6 (r := 13) rfl) rfl
theorem g291_292 : G d 291 292 ls st h Q ↔ GN d 291 292 ls h (ldR ls 2 fun a => nx 293 ls (.ref a :: st) h) Q := G_unf (look_ok lk_6 (r := 14) rfl) rfl
theorem g291_293 : G d 291 293 ls st h Q ↔ GN d 291 293 ls h (ldR ls 0 fun a => nx 294 ls (.ref a :: st) h) Q := G_unf (look_ok lk_6 (r := 15) rfl) rfl
theorem g291_294 : G d 291 294 ls st h Q ↔ GN d 291 294 ls h (ldI ls 3 fun x => nx 295 ls (.int x :: st) h) Q := G_unf (look_ok lk_7 (r := 0) rfl) rfl
theorem g291_295 : G d 291 295 ls st h Q ↔ GN d 291 295 ls h (nx 296 ls (.int (nI 1) :: st) h) Q := G_unf (look_ok lk_7 (r := 1) rfl) rfl
theorem g291_296 : G d 291 296 ls st h Q ↔ GN d 291 296 ls h (pII st fun x y r => nx 297 ls (.int (x + y) :: r) h) Q := G_unf (look_ok lk_7 (r := 2) rfl) rfl
theorem g291_297 : G d 291 297 ls st h Q ↔ GN d 291 297 ls h (pRI st fun a i r => br (a = 1000003) (ck (inb i (hS h).1) (nx 298 ls (.int ((hS h).2 i.toNatClampNeg) :: r) h)) (ck (arr h a 10 ∧ inb i (hLn h a)) (nx 298 ls (.int (hI h a i.toNatClampNeg) :: r) h))) Q := G_unf (look_ok lk_7 (r := 3) rfl) rfl
theorem g291_298 : G d 291 298 ls st h Q ↔ GN d 291 298 ls h (pA 1 st fun as r => pR r fun a r => ck (r.length ≤ 4 ∧ arr h a 9) (cll 199 (.ref a :: as) r)) Q := G_unf (look_ok lk_7 (r := 4) rfl) rfl
theorem g291_301 : G d 291 301 ls st h Q ↔ GN d 291 301 ls h (pII st fun x y r => br (x = y) (nx 1226 ls r h) (nx 304 ls r h)) Q := G_unf (look_ok lk_7 (r := 5) rfl) rfl
theorem g291_306 : G d 291 306 ls st h Q ↔ GN d 291 306 ls h (ldR ls 1 fun a => nx 307 ls (.ref a :: st) h) Q := G_unf (look_ok lk_7 (r := 8) rfl) rfl
theorem g291_307 : G d 291 307 ls st h Q ↔ GN d 291 307 ls h (ldR ls 0 fun a => nx 308 ls (.ref a :: st) h) Q := G_unf (look_ok lk_7 (r := 9) rfl) rfl
theorem g291_308 : G d 291 308 ls st h Q ↔ GN d 291 308 ls h (ldI ls 3 fun x => nx 309 ls (.int x :: st) h) Q := G_unf (look_ok lk_7 (r := 10) rfl) rfl
theorem g291_309 : G d 291 309 ls st h Q ↔ GN d 291 309 ls h (nx 310 ls (.int (nI 1) :: st) h) Q := G_unf (look_ok lk_7 (r := 11) rfl) rfl
theorem g291_310 : G d 291 310 ls st h Q ↔ GN d 291 310 ls h (pII st fun x y r => nx 311 ls (.int (x + y) :: r) h) Q := G_unf (look_ok lk_7 (r := 12) rfl) rfl
theorem g291_311 : G d 291 311 ls st h Q ↔ GN d 291 311 ls h (pRI st fun a i r => br (a = 1000003) (ck (inb i (hS h).1) (nx 312 ls (.int ((hS h).2 i.toNatClampNeg) :: r) h)) (ck (arr h a 10 ∧ inb i (hLn h a)) (nx 312 ls (.int (hI h a i.toNatClampNeg) :: r) h))) Q := G_unf (look_ok lk_7 (r := 13) rfl) rfl
theorem g291_312 : G d 291 312 ls st h Q ↔ GN d 291 312 ls h (pA 1 st fun as r => pR r fun a r => ck (r.length ≤ 4 ∧ arr h a 8) (cll 109 (.ref a :: as) r)) Q := G_unf (look_ok lk_7 (r := 14) rfl) rfl
theorem g291_315 : G d 291 315 ls st h Q ↔ GN d 291 315 ls h (ldR ls 2 fun a => nx 316 ls (.ref a :: st) h) Q := G_unf (look_ok lk_7 (r := 15) rfl) rfl
theorem g291_316 : G d 291 316 ls st h Q ↔ GN d 291 316 ls h (ldR ls 0 fun a => nx 317 ls (.ref a :: st) h) Q := G_unf (look_ok lk_8 (r := 0) rfl) rfl
theorem g291_317 : G d 291 317 ls st h Q ↔ GN d 291 317 ls h (ldI ls 3 fun x => nx 318 ls (.int x :: st) h) Q := G_unf (look_ok lk_8 (r := 1) rfl) rfl
theorem g291_318 : G d 291 318 ls st h Q ↔ GN d 291 318 ls h (nx 319 ls (.int (nI 1) :: st) h) Q := G_unf (look_ok lk_8 (r := 2) rfl) rfl
theorem g291_319 : G d 291 319 ls st h Q ↔ GN d 291 319 ls h (pII st fun x y r => nx 320 ls (.int (x + y) :: r) h) Q := G_unf (look_ok lk_8 (r := 3) rfl) rfl
theorem g291_320 : G d 291 320 ls st h Q ↔ GN d 291 320 ls h (pRI st fun a i r => br (a = 1000003) (ck (inb i (hS h).1) (nx 321 ls (.int ((hS h).2 i.toNatClampNeg) :: r) h)) (ck (arr h a 10 ∧ inb i (hLn h a)) (nx 321 ls (.int (hI h a i.toNatClampNeg) :: r) h))) Q := G_unf (look_ok lk_8 (r := 4) rfl) rfl
theorem g291_321 : G d 291 321 ls st h Q ↔ GN d 291 321 ls h (pA 1 st fun as r => pR r fun a r => ck (r.length ≤ 4 ∧ arr h a 9) (cll 231 (.ref a :: as) r)) Q := G_unf (look_ok lk_8 (r := 5) rfl) rfl
theorem g291_324 : G d 291 324 ls st h Q ↔ GN d 291 324 ls h (pII st fun x y r => br (x = y) (nx 1226 ls r h) (nx 327 ls r h)) Q := G_unf (look_ok lk_8 (r := 6) rfl) rfl
theorem g291_329 : G d 291 329 ls st h Q ↔ GN d 291 329 ls h (ldR ls 1 fun a => nx 330 ls (.ref a :: st) h) Q := G_unf (look_ok lk_8 (r := 9) rfl) rfl
theorem g291_330 : G d 291 330 ls st h Q ↔ GN d 291 330 ls h (ldR ls 0 fun a => nx 331 ls (.ref a :: st) h) Q := G_unf (look_ok lk_8 (r := 10) rfl) rfl
theorem g291_331 : G d 291 331 ls st h Q ↔ GN d 291 331 ls h (ldI ls 3 fun x => nx 332 ls (.int x :: st) h) Q := G_unf (look_ok lk_8 (r := 11) rfl) rfl
theorem g291_332 : G d 291 332 ls st h Q ↔ GN d 291 332 ls h (nx 333 ls (.int (nI 1) :: st) h) Q := G_unf (look_ok lk_8 (r := 12) rfl) rfl
theorem g291_333 : G d 291 333 ls st h Q ↔ GN d 291 333 ls h (pII st fun x y r => nx 334 ls (.int (x + y) :: r) h) Q := G_unf (look_ok lk_8 (r := 13) rfl) rfl
theorem g291_334 : G d 291 334 ls st h Q ↔ GN d 291 334 ls h (pRI st fun a i r => br (a = 1000003) (ck (inb i (hS h).1) (nx 335 ls (.int ((hS h).2 i.toNatClampNeg) :: r) h)) (ck (arr h a 10 ∧ inb i (hLn h a)) (nx 335 ls (.int (hI h a i.toNatClampNeg) :: r) h))) Q := G_unf (look_ok lk_8 (r := 14) rfl) rfl
theorem g291_335 : G d 291 335 ls st h Q ↔ GN d 291 335 ls h (ldR ls 0 fun a => nx 336 ls (.ref a :: st) h) Q := G_unf (look_ok lk_8 (r := 15) rfl) rfl
theorem g291_336 : G d 291 336 ls st h Q ↔ GN d 291 336 ls h (ldI ls 3 fun x => nx 337 ls (.int x :: st) h) Q := G_unf (look_ok lk_9 (r := 0) rfl) rfl
theorem g291_337 : G d 291 337 ls st h Q ↔ GN d 291 337 ls h (nx 338 ls (.int (nI 2) :: st) h) Q := G_unf (look_ok lk_9 (r := 1) rfl) rfl
theorem g291_338 : G d 291 338 ls st h Q ↔ GN d 291 338 ls h (pII st fun x y r => nx 339 ls (.int (x + y) :: r) h) Q := G_unf (look_ok lk_9 (r := 2) rfl) rfl
theorem g291_339 : G d 291 339 ls st h Q ↔ GN d 291 339 ls h (pRI st fun a i r => br (a = 1000003) (ck (inb i (hS h).1) (nx 340 ls (.int ((hS h).2 i.toNatClampNeg) :: r) h)) (ck (arr h a 10 ∧ inb i (hLn h a)) (nx 340 ls (.int (hI h a i.toNatClampNeg) :: r) h))) Q := G_unf (look_ok lk_9 (r := 3) rfl) rfl
theorem g291_340 : G d 291 340 ls st h Q ↔ GN d 291 340 ls h (ldR ls 0 fun a => nx 341 ls (.ref a :: st) h) Q := G_unf (look_ok lk_9 (r := 4) rfl) rfl
theorem g291_341 : G d 291 341 ls st h Q ↔ GN d 291 341 ls h (ldI ls 3 fun x => nx 342 ls (.int x :: st) h) Q := G_unf (look_ok lk_9 (r := 5) rfl) rfl
theorem g291_342 : G d 291 342 ls st h Q ↔ GN d 291 342 ls h (nx 343 ls (.int (nI 3) :: st) h) Q := G_unf (look_ok lk_9 (r := 6) rfl) rfl
theorem g291_343 : G d 291 343 ls st h Q ↔ GN d 291 343 ls h (pII st fun x y r => nx 344 ls (.int (x + y) :: r) h) Q := G_unf (look_ok lk_9 (r := 7) rfl) rfl
theorem g291_344 : G d 291 344 ls st h Q ↔ GN d 291 344 ls h (pRI st fun a i r => br (a = 1000003) (ck (inb i (hS h).1) (nx 345 ls (.int ((hS h).2 i.toNatClampNeg) :: r) h)) (ck (arr h a 10 ∧ inb i (hLn h a)) (nx 345 ls (.int (hI h a i.toNatClampNeg) :: r) h))) Q := G_unf (look_ok lk_9 (r := 8) rfl) rfl
theorem g291_345 : G d 291 345 ls st h Q ↔ GN d 291 345 ls h (pA 3 st fun as r => pR r fun a r => ck (r.length ≤ 4 ∧ arr h a 8) (cll 110 (.ref a :: as) r)) Q := G_unf (look_ok lk_9 (r := 9) rfl) rfl
theorem g291_348 : G d 291 348 ls st h Q ↔ GN d 291 348 ls h (ldR ls 2 fun a => nx 349 ls (.ref a :: st) h) Q := G_unf (look_ok lk_9 (r := 10) rfl) rfl
theorem g291_349 : G d 291 349 ls st h Q ↔ GN d 291 349 ls h (ldR ls 0 fun a => nx 350 ls (.ref a :: st) h) Q := G_unf (look_ok lk_9 (r := 11) rfl) rfl
theorem g291_350 : G d 291 350 ls st h Q ↔ GN d 291 350 ls h (ldI ls 3 fun x => nx 351 ls (.int x :: st) h) Q := G_unf (look_ok lk_9 (r := 12) rfl) rfl
theorem g291_351 : G d 291 351 ls st h Q ↔ GN d 291 351 ls h (nx 352 ls (.int (nI 1) :: st) h) Q := G_unf (look_ok lk_9 (r := 13) rfl) rfl
theorem g291_352 : G d 291 352 ls st h Q ↔ GN d 291 352 ls h (pII st fun x y r => nx 353 ls (.int (x + y) :: r) h) Q := G_unf (look_ok lk_9 (r := 14) rfl) rfl
theorem g291_353 : G d 291 353 ls st h Q ↔ GN d 291 353 ls h (pRI st fun a i r => br (a = 1000003) (ck (inb i (hS h).1) (nx 354 ls (.int ((hS h).2 i.toNatClampNeg) :: r) h)) (ck (arr h a 10 ∧ inb i (hLn h a)) (nx 354 ls (.int (hI h a i.toNatClampNeg) :: r) h))) Q := G_unf (look_ok lk_9 (r := 15) rfl) rfl
theorem g291_354 : G d 291 354 ls st h Q ↔ GN d 291 354 ls h (ldR ls 0 fun a => nx 355 ls (.ref a :: st) h) Q := G_unf (look_ok lk_10 (r := 0) rfl) rfl
theorem g291_355 : G d 291 355 ls st h Q ↔ GN d 291 355 ls h (ldI ls 3 fun x => nx 356 ls (.int x :: st) h) Q := G_unf (look_ok lk_10 (r := 1) rfl) rfl
theorem g291_356 : G d 291 356 ls st h Q ↔ GN d 291 356 ls h (nx 357 ls (.int (nI 2) :: st) h) Q := G_unf (look_ok lk_10 (r := 2) rfl) rfl
theorem g291_357 : G d 291 357 ls st h Q ↔ GN d 291 357 ls h (pII st fun x y r => nx 358 ls (.int (x + y) :: r) h) Q := G_unf (look_ok lk_10 (r := 3) rfl) rfl
theorem g291_358 : G d 291 358 ls st h Q ↔ GN d 291 358 ls h (pRI st fun a i r => br (a = 1000003) (ck (inb i (hS h).1) (nx 359 ls (.int ((hS h).2 i.toNatClampNeg) :: r) h)) (ck (arr h a 10 ∧ inb i (hLn h a)) (nx 359 ls (.int (hI h a i.toNatClampNeg) :: r) h))) Q := G_unf (look_ok lk_10 (r := 4) rfl) rfl
theorem g291_359 : G d 291 359 ls st h Q ↔ GN d 291 359 ls h (ldR ls 0 fun a => nx 360 ls (.ref a :: st) h) Q := G_unf (look_ok lk_10 (r := 5) rfl) rfl
theorem g291_360 : G d 291 360 ls st h Q ↔ GN d 291 360 ls h (ldI ls 3 fun x => nx 361 ls (.int x :: st) h) Q := G_unf (look_ok lk_10 (r := 6) rfl) rfl
theorem g291_361 : G d 291 361 ls st h Q ↔ GN d 291 361 ls h (nx 362 ls (.int (nI 3) :: st) h) Q := G_unf (look_ok lk_10 (r := 7) rfl) rfl
theorem g291_362 : G d 291 362 ls st h Q ↔ GN d 291 362 ls h (pII st fun x y r => nx 363 ls (.int (x + y) :: r) h) Q := G_unf (look_ok lk_10 (r := 8) rfl) rfl
theorem g291_363 : G d 291 363 ls st h Q ↔ GN d 291 363 ls h (pRI st fun a i r => br (a = 1000003) (ck (inb i (hS h).1) (nx 364 ls (.int ((hS h).2 i.toNatClampNeg) :: r) h)) (ck (arr h a 10 ∧ inb i (hLn h a)) (nx 364 ls (.int (hI h a i.toNatClampNeg) :: r) h))) Q := G_unf (look_ok lk_10 (r := 9) rfl) rfl
theorem g291_364 : G d 291 364 ls st h Q ↔ GN d 291 364 ls h (pA 3 st fun as r => pR r fun a r => ck (r.length ≤ 4 ∧ arr h a 9) (cll 232 (.ref a :: as) r)) Q := G_unf (look_ok lk_10 (r := 10) rfl) rfl
theorem g291_367 : G d 291 367 ls st h Q ↔ GN d 291 367 ls h (pII st fun x y r => br (x = y) (nx 1226 ls r h) (nx 370 ls r h)) Q := G_unf (look_ok lk_10 (r := 11) rfl) rfl
theorem g291_372 : G d 291 372 ls st h Q ↔ GN d 291 372 ls h (ldR ls 1 fun a => nx 373 ls (.ref a :: st) h) Q := G_unf (look_ok lk_10 (r := 14) rfl) rfl
theorem g291_373 : G d 291 373 ls st h Q ↔ GN d 291 373 ls h (ldR ls 0 fun a => nx 374 ls (.ref a :: st) h) Q := G_unf (look_ok lk_10 (r := 15) rfl) rfl
theorem g291_374 : G d 291 374 ls st h Q ↔ GN d 291 374 ls h (ldI ls 3 fun x => nx 375 ls (.int x :: st) h) Q := G_unf (look_ok lk_11 (r := 0) rfl) rfl
theorem g291_375 : G d 291 375 ls st h Q ↔ GN d 291 375 ls h (nx 376 ls (.int (nI 1) :: st) h) Q := G_unf (look_ok lk_11 (r := 1) rfl) rfl
theorem g291_376 : G d 291 376 ls st h Q ↔ GN d 291 376 ls h (pII st fun x y r => nx 377 ls (.int (x + y) :: r) h) Q := G_unf (look_ok lk_11 (r := 2) rfl) rfl
theorem g291_377 : G d 291 377 ls st h Q ↔ GN d 291 377 ls h (pRI st fun a i r => br (a = 1000003) (ck (inb i (hS h).1) (nx 378 ls (.int ((hS h).2 i.toNatClampNeg) :: r) h)) (ck (arr h a 10 ∧ inb i (hLn h a)) (nx 378 ls (.int (hI h a i.toNatClampNeg) :: r) h))) Q := G_unf (look_ok lk_11 (r := 3) rfl) rfl
theorem g291_378 : G d 291 378 ls st h Q ↔ GN d 291 378 ls h (ldR ls 0 fun a => nx 379 ls (.ref a :: st) h) Q := G_unf (look_ok lk_11 (r := 4) rfl) rfl
theorem g291_379 : G d 291 379 ls st h Q ↔ GN d 291 379 ls h (ldI ls 3 fun x => nx 380 ls (.int x :: st) h) Q := G_unf (look_ok lk_11 (r := 5) rfl) rfl
theorem g291_380 : G d 291 380 ls st h Q ↔ GN d 291 380 ls h (nx 381 ls (.int (nI 2) :: st) h) Q := G_unf (look_ok lk_11 (r := 6) rfl) rfl
theorem g291_381 : G d 291 381 ls st h Q ↔ GN d 291 381 ls h (pII st fun x y r => nx 382 ls (.int (x + y) :: r) h) Q := G_unf (look_ok lk_11 (r := 7) rfl) rfl
theorem g291_382 : G d 291 382 ls st h Q ↔ GN d 291 382 ls h (pRI st fun a i r => br (a = 1000003) (ck (inb i (hS h).1) (nx 383 ls (.int ((hS h).2 i.toNatClampNeg) :: r) h)) (ck (arr h a 10 ∧ inb i (hLn h a)) (nx 383 ls (.int (hI h a i.toNatClampNeg) :: r) h))) Q := G_unf (look_ok lk_11 (r := 8) rfl) rfl
theorem g291_383 : G d 291 383 ls st h Q ↔ GN d 291 383 ls h (pA 2 st fun as r => pR r fun a r => ck (r.length ≤ 4 ∧ arr h a 8) (cll 111 (.ref a :: as) r)) Q := G_unf (look_ok lk_11 (r := 9) rfl) rfl
theorem g291_386 : G d 291 386 ls st h Q ↔ GN d 291 386 ls h (ldR ls 2 fun a => nx 387 ls (.ref a :: st) h) Q := G_unf (look_ok lk_11 (r := 10) rfl) rfl
theorem g291_387 : G d 291 387 ls st h Q ↔ GN d 291 387 ls h (ldR ls 0 fun a => nx 388 ls (.ref a :: st) h) Q := G_unf (look_ok lk_11 (r := 11) rfl) rfl
theorem g291_388 : G d 291 388 ls st h Q ↔ GN d 291 388 ls h (ldI ls 3 fun x => nx 389 ls (.int x :: st) h) Q := G_unf (look_ok lk_11 (r := 12) rfl) rfl
theorem g291_389 : G d 291 389 ls st h Q ↔ GN d 291 389 ls h (nx 390 ls (.int (nI 1) :: st) h) Q := G_unf (look_ok lk_11 (r := 13) rfl) rfl
theorem g291_390 : G d 291 390 ls st h Q ↔ GN d 291 390 ls h (pII st fun x y r => nx 391 ls (.int (x + y) :: r) h) Q := G_unf (look_ok lk_11 (r := 14) rfl) rfl
theorem g291_391 : G d 291 391 ls st h Q ↔ GN d 291 391 ls h (pRI st fun a i r => br (a = 1000003) (ck (inb i (hS h).1) (nx 392 ls (.int ((hS h).2 i.toNatClampNeg) :: r) h)) (ck (arr h a 10 ∧ inb i (hLn h a)) (nx 392 ls (.int (hI h a i.toNatClampNeg) :: r) h))) Q := G_unf (look_ok lk_11 (r := 15) rfl) rfl
theorem g291_392 : G d 291 392 ls st h Q ↔ GN d 291 392 ls h (ldR ls 0 fun a => nx 393 ls (.ref a :: st) h) Q := G_unf (look_ok lk_12 (r := 0) rfl) rfl
theorem g291_393 : G d 291 393 ls st h Q ↔ GN d 291 393 ls h (ldI ls 3 fun x => nx 394 ls (.int x :: st) h) Q := G_unf (look_ok lk_12 (r := 1) rfl) rfl
theorem g291_394 : G d 291 394 ls st h Q ↔ GN d 291 394 ls h (nx 395 ls (.int (nI 2) :: st) h) Q := G_unf (look_ok lk_12 (r := 2) rfl) rfl
theorem g291_395 : G d 291 395 ls st h Q ↔ GN d 291 395 ls h (pII st fun x y r => nx 396 ls (.int (x + y) :: r) h) Q := G_unf (look_ok lk_12 (r := 3) rfl) rfl
theorem g291_396 : G d 291 396 ls st h Q ↔ GN d 291 396 ls h (pRI st fun a i r => br (a = 1000003) (ck (inb i (hS h).1) (nx 397 ls (.int ((hS h).2 i.toNatClampNeg) :: r) h)) (ck (arr h a 10 ∧ inb i (hLn h a)) (nx 397 ls (.int (hI h a i.toNatClampNeg) :: r) h))) Q := G_unf (look_ok lk_12 (r := 4) rfl) rfl
theorem g291_397 : G d 291 397 ls st h Q ↔ GN d 291 397 ls h (pA 2 st fun as r => pR r fun a r => ck (r.length ≤ 4 ∧ arr h a 9) (cll 233 (.ref a :: as) r)) Q := G_unf (look_ok lk_12 (r := 5) rfl) rfl
theorem g291_400 : G d 291 400 ls st h Q ↔ GN d 291 400 ls h (pII st fun x y r => br (x = y) (nx 1226 ls r h) (nx 403 ls r h)) Q := G_unf (look_ok lk_12 (r := 6) rfl) rfl
theorem g291_405 : G d 291 405 ls st h Q ↔ GN d 291 405 ls h (ldR ls 1 fun a => nx 406 ls (.ref a :: st) h) Q := G_unf (look_ok lk_12 (r := 9) rfl) rfl
theorem g291_406 : G d 291 406 ls st h Q ↔ GN d 291 406 ls h (ldR ls 0 fun a => nx 407 ls (.ref a :: st) h) Q := G_unf (look_ok lk_12 (r := 10) rfl) rfl
theorem g291_407 : G d 291 407 ls st h Q ↔ GN d 291 407 ls h (ldI ls 3 fun x => nx 408 ls (.int x :: st) h) Q := G_unf (look_ok lk_12 (r := 11) rfl) rfl
theorem g291_408 : G d 291 408 ls st h Q ↔ GN d 291 408 ls h (nx 409 ls (.int (nI 1) :: st) h) Q := G_unf (look_ok lk_12 (r := 12) rfl) rfl
theorem g291_409 : G d 291 409 ls st h Q ↔ GN d 291 409 ls h (pII st fun x y r => nx 410 ls (.int (x + y) :: r) h) Q := G_unf (look_ok lk_12 (r := 13) rfl) rfl
theorem g291_410 : G d 291 410 ls st h Q ↔ GN d 291 410 ls h (pRI st fun a i r => br (a = 1000003) (ck (inb i (hS h).1) (nx 411 ls (.int ((hS h).2 i.toNatClampNeg) :: r) h)) (ck (arr h a 10 ∧ inb i (hLn h a)) (nx 411 ls (.int (hI h a i.toNatClampNeg) :: r) h))) Q := G_unf (look_ok lk_12 (r := 14) rfl) rfl
theorem g291_411 : G d 291 411 ls st h Q ↔ GN d 291 411 ls h (ldR ls 0 fun a => nx 412 ls (.ref a :: st) h) Q := G_unf (look_ok lk_12 (r := 15) rfl) rfl
theorem g291_412 : G d 291 412 ls st h Q ↔ GN d 291 412 ls h (ldI ls 3 fun x => nx 413 ls (.int x :: st) h) Q := G_unf (look_ok lk_13 (r := 0) rfl) rfl
theorem g291_413 : G d 291 413 ls st h Q ↔ GN d 291 413 ls h (nx 414 ls (.int (nI 2) :: st) h) Q := G_unf (look_ok lk_13 (r := 1) rfl) rfl
theorem g291_414 : G d 291 414 ls st h Q ↔ GN d 291 414 ls h (pII st fun x y r => nx 415 ls (.int (x + y) :: r) h) Q := G_unf (look_ok lk_13 (r := 2) rfl) rfl
theorem g291_415 : G d 291 415 ls st h Q ↔ GN d 291 415 ls h (pRI st fun a i r => br (a = 1000003) (ck (inb i (hS h).1) (nx 416 ls (.int ((hS h).2 i.toNatClampNeg) :: r) h)) (ck (arr h a 10 ∧ inb i (hLn h a)) (nx 416 ls (.int (hI h a i.toNatClampNeg) :: r) h))) Q := G_unf (look_ok lk_13 (r := 3) rfl) rfl
theorem g291_416 : G d 291 416 ls st h Q ↔ GN d 291 416 ls h (pA 2 st fun as r => pR r fun a r => ck (r.length ≤ 4 ∧ arr h a 8) (cll 112 (.ref a :: as) r)) Q := G_unf (look_ok lk_13 (r := 4) rfl) rfl
theorem g291_419 : G d 291 419 ls st h Q ↔ GN d 291 419 ls h (ldR ls 2 fun a => nx 420 ls (.ref a :: st) h) Q := G_unf (look_ok lk_13 (r := 5) rfl) rfl
theorem g291_420 : G d 291 420 ls st h Q ↔ GN d 291 420 ls h (ldR ls 0 fun a => nx 421 ls (.ref a :: st) h) Q := G_unf (look_ok lk_13 (r := 6) rfl) rfl
theorem g291_421 : G d 291 421 ls st h Q ↔ GN d 291 421 ls h (ldI ls 3 fun x => nx 422 ls (.int x :: st) h) Q := G_unf (look_ok lk_13 (r := 7) rfl) rfl
theorem g291_422 : G d 291 422 ls st h Q ↔ GN d 291 422 ls h (nx 423 ls (.int (nI 1) :: st) h) Q := G_unf (look_ok lk_13 (r := 8) rfl) rfl
theorem g291_423 : G d 291 423 ls st h Q ↔ GN d 291 423 ls h (pII st fun x y r => nx 424 ls (.int (x + y) :: r) h) Q := G_unf (look_ok lk_13 (r := 9) rfl) rfl
theorem g291_424 : G d 291 424 ls st h Q ↔ GN d 291 424 ls h (pRI st fun a i r => br (a = 1000003) (ck (inb i (hS h).1) (nx 425 ls (.int ((hS h).2 i.toNatClampNeg) :: r) h)) (ck (arr h a 10 ∧ inb i (hLn h a)) (nx 425 ls (.int (hI h a i.toNatClampNeg) :: r) h))) Q := G_unf (look_ok lk_13 (r := 10) rfl) rfl
theorem g291_425 : G d 291 425 ls st h Q ↔ GN d 291 425 ls h (ldR ls 0 fun a => nx 426 ls (.ref a :: st) h) Q := G_unf (look_ok lk_13 (r := 11) rfl) rfl
theorem g291_426 : G d 291 426 ls st h Q ↔ GN d 291 426 ls h (ldI ls 3 fun x => nx 427 ls (.int x :: st) h) Q := G_unf (look_ok lk_13 (r := 12) rfl) rfl
theorem g291_427 : G d 291 427 ls st h Q ↔ GN d 291 427 ls h (nx 428 ls (.int (nI 2) :: st) h) Q := G_unf (look_ok lk_13 (r := 13) rfl) rfl
theorem g291_428 : G d 291 428 ls st h Q ↔ GN d 291 428 ls h (pII st fun x y r => nx 429 ls (.int (x + y) :: r) h) Q := G_unf (look_ok lk_13 (r := 14) rfl) rfl
theorem g291_429 : G d 291 429 ls st h Q ↔ GN d 291 429 ls h (pRI st fun a i r => br (a = 1000003) (ck (inb i (hS h).1) (nx 430 ls (.int ((hS h).2 i.toNatClampNeg) :: r) h)) (ck (arr h a 10 ∧ inb i (hLn h a)) (nx 430 ls (.int (hI h a i.toNatClampNeg) :: r) h))) Q := G_unf (look_ok lk_13 (r := 15) rfl) rfl
theorem g291_430 : G d 291 430 ls st h Q ↔ GN d 291 430 ls h (pA 2 st fun as r => pR r fun a r => ck (r.length ≤ 4 ∧ arr h a 9) (cll 234 (.ref a :: as) r)) Q := G_unf (look_ok lk_14 (r := 0) rfl) rfl
theorem g291_433 : G d 291 433 ls st h Q ↔ GN d 291 433 ls h (pII st fun x y r => br (x = y) (nx 1226 ls r h) (nx 436 ls r h)) Q := G_unf (look_ok lk_14 (r := 1) rfl) rfl
theorem g291_438 : G d 291 438 ls st h Q ↔ GN d 291 438 ls h (ldR ls 1 fun a => nx 439 ls (.ref a :: st) h) Q := G_unf (look_ok lk_14 (r := 4) rfl) rfl
theorem g291_439 : G d 291 439 ls st h Q ↔ GN d 291 439 ls h (ldR ls 0 fun a => nx 440 ls (.ref a :: st) h) Q := G_unf (look_ok lk_14 (r := 5) rfl) rfl
theorem g291_440 : G d 291 440 ls st h Q ↔ GN d 291 440 ls h (ldI ls 3 fun x => nx 441 ls (.int x :: st) h) Q := G_unf (look_ok lk_14 (r := 6) rfl) rfl
theorem g291_441 : G d 291 441 ls st h Q ↔ GN d 291 441 ls h (nx 442 ls (.int (nI 1) :: st) h) Q := G_unf (look_ok lk_14 (r := 7) rfl) rfl
theorem g291_442 : G d 291 442 ls st h Q ↔ GN d 291 442 ls h (pII st fun x y r => nx 443 ls (.int (x + y) :: r) h) Q := G_unf (look_ok lk_14 (r := 8) rfl) rfl
theorem g291_443 : G d 291 443 ls st h Q ↔ GN d 291 443 ls h (pRI st fun a i r => br (a = 1000003) (ck (inb i (hS h).1) (nx 444 ls (.int ((hS h).2 i.toNatClampNeg) :: r) h)) (ck (arr h a 10 ∧ inb i (hLn h a)) (nx 444 ls (.int (hI h a i.toNatClampNeg) :: r) h))) Q := G_unf (look_ok lk_14 (r := 9) rfl) rfl
theorem g291_444 : G d 291 444 ls st h Q ↔ GN d 291 444 ls h (ldR ls 0 fun a => nx 445 ls (.ref a :: st) h) Q := G_unf (look_ok lk_14 (r := 10) rfl) rfl
theorem g291_445 : G d 291 445 ls st h Q ↔ GN d 291 445 ls h (ldI ls 3 fun x => nx 446 ls (.int x :: st) h) Q := G_unf (look_ok lk_14 (r := 11) rfl) rfl
theorem g291_446 : G d 291 446 ls st h Q ↔ GN d 291 446 ls h (nx 447 ls (.int (nI 2) :: st) h) Q := G_unf (look_ok lk_14 (r := 12) rfl) rfl
theorem g291_447 : G d 291 447 ls st h Q ↔ GN d 291 447 ls h (pII st fun x y r => nx 448 ls (.int (x + y) :: r) h) Q := G_unf (look_ok lk_14 (r := 13) rfl) rfl
theorem g291_448 : G d 291 448 ls st h Q ↔ GN d 291 448 ls h (pRI st fun a i r => br (a = 1000003) (ck (inb i (hS h).1) (nx 449 ls (.int ((hS h).2 i.toNatClampNeg) :: r) h)) (ck (arr h a 10 ∧ inb i (hLn h a)) (nx 449 ls (.int (hI h a i.toNatClampNeg) :: r) h))) Q := G_unf (look_ok lk_14 (r := 14) rfl) rfl
theorem g291_449 : G d 291 449 ls st h Q ↔ GN d 291 449 ls h (pA 2 st fun as r => pR r fun a r => ck (r.length ≤ 4 ∧ arr h a 8) (cll 113 (.ref a :: as) r)) Q := G_unf (look_ok lk_14 (r := 15) rfl) rfl
theorem g291_452 : G d 291 452 ls st h Q ↔ GN d 291 452 ls h (ldR ls 2 fun a => nx 453 ls (.ref a :: st) h) Q := G_unf (look_ok lk_15 (r := 0) rfl) rfl
theorem g291_453 : G d 291 453 ls st h Q ↔ GN d 291 453 ls h (ldR ls 0 fun a => nx 454 ls (.ref a :: st) h) Q := G_unf (look_ok lk_15 (r := 1) rfl) rfl
theorem g291_454 : G d 291 454 ls st h Q ↔ GN d 291 454 ls h (ldI ls 3 fun x => nx 455 ls (.int x :: st) h) Q := G_unf (look_ok lk_15 (r := 2) rfl) rfl
theorem g291_455 : G d 291 455 ls st h Q ↔ GN d 291 455 ls h (nx 456 ls (.int (nI 1) :: st) h) Q := G_unf (look_ok lk_15 (r := 3) rfl) rfl
theorem g291_456 : G d 291 456 ls st h Q ↔ GN d 291 456 ls h (pII st fun x y r => nx 457 ls (.int (x + y) :: r) h) Q := G_unf (look_ok lk_15 (r := 4) rfl) rfl
theorem g291_457 : G d 291 457 ls st h Q ↔ GN d 291 457 ls h (pRI st fun a i r => br (a = 1000003) (ck (inb i (hS h).1) (nx 458 ls (.int ((hS h).2 i.toNatClampNeg) :: r) h)) (ck (arr h a 10 ∧ inb i (hLn h a)) (nx 458 ls (.int (hI h a i.toNatClampNeg) :: r) h))) Q := G_unf (look_ok lk_15 (r := 5) rfl) rfl
theorem g291_458 : G d 291 458 ls st h Q ↔ GN d 291 458 ls h (ldR ls 0 fun a => nx 459 ls (.ref a :: st) h) Q := G_unf (look_ok lk_15 (r := 6) rfl) rfl
theorem g291_459 : G d 291 459 ls st h Q ↔ GN d 291 459 ls h (ldI ls 3 fun x => nx 460 ls (.int x :: st) h) Q := G_unf (look_ok lk_15 (r := 7) rfl) rfl
theorem g291_460 : G d 291 460 ls st h Q ↔ GN d 291 460 ls h (nx 461 ls (.int (nI 2) :: st) h) Q := G_unf (look_ok lk_15 (r := 8) rfl) rfl
theorem g291_461 : G d 291 461 ls st h Q ↔ GN d 291 461 ls h (pII st fun x y r => nx 462 ls (.int (x + y) :: r) h) Q := G_unf (look_ok lk_15 (r := 9) rfl) rfl
theorem g291_462 : G d 291 462 ls st h Q ↔ GN d 291 462 ls h (pRI st fun a i r => br (a = 1000003) (ck (inb i (hS h).1) (nx 463 ls (.int ((hS h).2 i.toNatClampNeg) :: r) h)) (ck (arr h a 10 ∧ inb i (hLn h a)) (nx 463 ls (.int (hI h a i.toNatClampNeg) :: r) h))) Q := G_unf (look_ok lk_15 (r := 10) rfl) rfl
theorem g291_463 : G d 291 463 ls st h Q ↔ GN d 291 463 ls h (pA 2 st fun as r => pR r fun a r => ck (r.length ≤ 4 ∧ arr h a 9) (cll 235 (.ref a :: as) r)) Q := G_unf (look_ok lk_15 (r := 11) rfl) rfl
theorem g291_466 : G d 291 466 ls st h Q ↔ GN d 291 466 ls h (pII st fun x y r => br (x = y) (nx 1226 ls r h) (nx 469 ls r h)) Q := G_unf (look_ok lk_15 (r := 12) rfl) rfl
theorem g291_471 : G d 291 471 ls st h Q ↔ GN d 291 471 ls h (ldR ls 1 fun a => nx 472 ls (.ref a :: st) h) Q := G_unf (look_ok lk_15 (r := 15) rfl) rfl
theorem g291_472 : G d 291 472 ls st h Q ↔ GN d 291 472 ls h (ldR ls 0 fun a => nx 473 ls (.ref a :: st) h) Q := G_unf (look_ok lk_16 (r := 0) rfl) rfl
theorem g291_473 : G d 291 473 ls st h Q ↔ GN d 291 473 ls h (ldI ls 3 fun x => nx 474 ls (.int x :: st) h) Q := G_unf (look_ok lk_16 (r := 1) rfl) rfl
theorem g291_474 : G d 291 474 ls st h Q ↔ GN d 291 474 ls h (nx 475 ls (.int (nI 1) :: st) h) Q := G_unf (look_ok lk_16 (r := 2) rfl) rfl
theorem g291_475 : G d 291 475 ls st h Q ↔ GN d 291 475 ls h (pII st fun x y r => nx 476 ls (.int (x + y) :: r) h) Q := G_unf (look_ok lk_16 (r := 3) rfl) rfl
theorem g291_476 : G d 291 476 ls st h Q ↔ GN d 291 476 ls h (pRI st fun a i r => br (a = 1000003) (ck (inb i (hS h).1) (nx 477 ls (.int ((hS h).2 i.toNatClampNeg) :: r) h)) (ck (arr h a 10 ∧ inb i (hLn h a)) (nx 477 ls (.int (hI h a i.toNatClampNeg) :: r) h))) Q := G_unf (look_ok lk_16 (r := 4) rfl) rfl
theorem g291_477 : G d 291 477 ls st h Q ↔ GN d 291 477 ls h (ldR ls 0 fun a => nx 478 ls (.ref a :: st) h) Q := G_unf (look_ok lk_16 (r := 5) rfl) rfl
theorem g291_478 : G d 291 478 ls st h Q ↔ GN d 291 478 ls h (ldI ls 3 fun x => nx 479 ls (.int x :: st) h) Q := G_unf (look_ok lk_16 (r := 6) rfl) rfl
theorem g291_479 : G d 291 479 ls st h Q ↔ GN d 291 479 ls h (nx 480 ls (.int (nI 2) :: st) h) Q := G_unf (look_ok lk_16 (r := 7) rfl) rfl
theorem g291_480 : G d 291 480 ls st h Q ↔ GN d 291 480 ls h (pII st fun x y r => nx 481 ls (.int (x + y) :: r) h) Q := G_unf (look_ok lk_16 (r := 8) rfl) rfl
theorem g291_481 : G d 291 481 ls st h Q ↔ GN d 291 481 ls h (pRI st fun a i r => br (a = 1000003) (ck (inb i (hS h).1) (nx 482 ls (.int ((hS h).2 i.toNatClampNeg) :: r) h)) (ck (arr h a 10 ∧ inb i (hLn h a)) (nx 482 ls (.int (hI h a i.toNatClampNeg) :: r) h))) Q := G_unf (look_ok lk_16 (r := 9) rfl) rfl
theorem g291_482 : G d 291 482 ls st h Q ↔ GN d 291 482 ls h (pA 2 st fun as r => pR r fun a r => ck (r.length ≤ 4 ∧ arr h a 8) (cll 114 (.ref a :: as) r)) Q := G_unf (look_ok lk_16 (r := 10) rfl) rfl
theorem g291_485 : G d 291 485 ls st h Q ↔ GN d 291 485 ls h (ldR ls 2 fun a => nx 486 ls (.ref a :: st) h) Q := G_unf (look_ok lk_16 (r := 11) rfl) rfl
theorem g291_486 : G d 291 486 ls st h Q ↔ GN d 291 486 ls h (ldR ls 0 fun a => nx 487 ls (.ref a :: st) h) Q := G_unf (look_ok lk_16 (r := 12) rfl) rfl
theorem g291_487 : G d 291 487 ls st h Q ↔ GN d 291 487 ls h (ldI ls 3 fun x => nx 488 ls (.int x :: st) h) Q := G_unf (look_ok lk_16 (r := 13) rfl) rfl
theorem g291_488 : G d 291 488 ls st h Q ↔ GN d 291 488 ls h (nx 489 ls (.int (nI 1) :: st) h) Q := G_unf (look_ok lk_16 (r := 14) rfl) rfl
theorem g291_489 : G d 291 489 ls st h Q ↔ GN d 291 489 ls h (pII st fun x y r => nx 490 ls (.int (x + y) :: r) h) Q := G_unf (look_ok lk_16 (r := 15) rfl) rfl
theorem g291_490 : G d 291 490 ls st h Q ↔ GN d 291 490 ls h (pRI st fun a i r => br (a = 1000003) (ck (inb i (hS h).1) (nx 491 ls (.int ((hS h).2 i.toNatClampNeg) :: r) h)) (ck (arr h a 10 ∧ inb i (hLn h a)) (nx 491 ls (.int (hI h a i.toNatClampNeg) :: r) h))) Q := G_unf (look_ok lk_17 (r := 0) rfl) rfl
theorem g291_491 : G d 291 491 ls st h Q ↔ GN d 291 491 ls h (ldR ls 0 fun a => nx 492 ls (.ref a :: st) h) Q := G_unf (look_ok lk_17 (r := 1) rfl) rfl
theorem g291_492 : G d 291 492 ls st h Q ↔ GN d 291 492 ls h (ldI ls 3 fun x => nx 493 ls (.int x :: st) h) Q := G_unf (look_ok lk_17 (r := 2) rfl) rfl
theorem g291_493 : G d 291 493 ls st h Q ↔ GN d 291 493 ls h (nx 494 ls (.int (nI 2) :: st) h) Q := G_unf (look_ok lk_17 (r := 3) rfl) rfl
theorem g291_494 : G d 291 494 ls st h Q ↔ GN d 291 494 ls h (pII st fun x y r => nx 495 ls (.int (x + y) :: r) h) Q := G_unf (look_ok lk_17 (r := 4) rfl) rfl
theorem g291_495 : G d 291 495 ls st h Q ↔ GN d 291 495 ls h (pRI st fun a i r => br (a = 1000003) (ck (inb i (hS h).1) (nx 496 ls (.int ((hS h).2 i.toNatClampNeg) :: r) h)) (ck (arr h a 10 ∧ inb i (hLn h a)) (nx 496 ls (.int (hI h a i.toNatClampNeg) :: r) h))) Q := G_unf (look_ok lk_17 (r := 5) rfl) rfl
theorem g291_496 : G d 291 496 ls st h Q ↔ GN d 291 496 ls h (pA 2 st fun as r => pR r fun a r => ck (r.length ≤ 4 ∧ arr h a 9) (cll 236 (.ref a :: as) r)) Q := G_unf (look_ok lk_17 (r := 6) rfl) rfl
theorem g291_499 : G d 291 499 ls st h Q ↔ GN d 291 499 ls h (pII st fun x y r => br (x = y) (nx 1226 ls r h) (nx 502 ls r h)) Q := G_unf (look_ok lk_17 (r := 7) rfl) rfl
theorem g291_504 : G d 291 504 ls st h Q ↔ GN d 291 504 ls h (ldR ls 1 fun a => nx 505 ls (.ref a :: st) h) Q := G_unf (look_ok lk_17 (r := 10) rfl) rfl
theorem g291_505 : G d 291 505 ls st h Q ↔ GN d 291 505 ls h (ldR ls 0 fun a => nx 506 ls (.ref a :: st) h) Q := G_unf (look_ok lk_17 (r := 11) rfl) rfl
theorem g291_506 : G d 291 506 ls st h Q ↔ GN d 291 506 ls h (ldI ls 3 fun x => nx 507 ls (.int x :: st) h) Q := G_unf (look_ok lk_17 (r := 12) rfl) rfl
theorem g291_507 : G d 291 507 ls st h Q ↔ GN d 291 507 ls h (nx 508 ls (.int (nI 1) :: st) h) Q := G_unf (look_ok lk_17 (r := 13) rfl) rfl
theorem g291_508 : G d 291 508 ls st h Q ↔ GN d 291 508 ls h (pII st fun x y r => nx 509 ls (.int (x + y) :: r) h) Q := G_unf (look_ok lk_17 (r := 14) rfl) rfl
theorem g291_509 : G d 291 509 ls st h Q ↔ GN d 291 509 ls h (pRI st fun a i r => br (a = 1000003) (ck (inb i (hS h).1) (nx 510 ls (.int ((hS h).2 i.toNatClampNeg) :: r) h)) (ck (arr h a 10 ∧ inb i (hLn h a)) (nx 510 ls (.int (hI h a i.toNatClampNeg) :: r) h))) Q := G_unf (look_ok lk_17 (r := 15) rfl) rfl
theorem g291_510 : G d 291 510 ls st h Q ↔ GN d 291 510 ls h (ldR ls 0 fun a => nx 511 ls (.ref a :: st) h) Q := G_unf (look_ok lk_18 (r := 0) rfl) rfl
theorem g291_511 : G d 291 511 ls st h Q ↔ GN d 291 511 ls h (ldI ls 3 fun x => nx 512 ls (.int x :: st) h) Q := G_unf (look_ok lk_18 (r := 1) rfl) rfl
theorem g291_512 : G d 291 512 ls st h Q ↔ GN d 291 512 ls h (nx 513 ls (.int (nI 2) :: st) h) Q := G_unf (look_ok lk_18 (r := 2) rfl) rfl
theorem g291_513 : G d 291 513 ls st h Q ↔ GN d 291 513 ls h (pII st fun x y r => nx 514 ls (.int (x + y) :: r) h) Q := G_unf (look_ok lk_18 (r := 3) rfl) rfl
theorem g291_514 : G d 291 514 ls st h Q ↔ GN d 291 514 ls h (pRI st fun a i r => br (a = 1000003) (ck (inb i (hS h).1) (nx 515 ls (.int ((hS h).2 i.toNatClampNeg) :: r) h)) (ck (arr h a 10 ∧ inb i (hLn h a)) (nx 515 ls (.int (hI h a i.toNatClampNeg) :: r) h))) Q := G_unf (look_ok lk_18 (r := 4) rfl) rfl
theorem g291_515 : G d 291 515 ls st h Q ↔ GN d 291 515 ls h (ldR ls 0 fun a => nx 516 ls (.ref a :: st) h) Q := G_unf (look_ok lk_18 (r := 5) rfl) rfl
theorem g291_516 : G d 291 516 ls st h Q ↔ GN d 291 516 ls h (ldI ls 3 fun x => nx 517 ls (.int x :: st) h) Q := G_unf (look_ok lk_18 (r := 6) rfl) rfl
theorem g291_517 : G d 291 517 ls st h Q ↔ GN d 291 517 ls h (nx 518 ls (.int (nI 3) :: st) h) Q := G_unf (look_ok lk_18 (r := 7) rfl) rfl
theorem g291_518 : G d 291 518 ls st h Q ↔ GN d 291 518 ls h (pII st fun x y r => nx 519 ls (.int (x + y) :: r) h) Q := G_unf (look_ok lk_18 (r := 8) rfl) rfl
theorem g291_519 : G d 291 519 ls st h Q ↔ GN d 291 519 ls h (pRI st fun a i r => br (a = 1000003) (ck (inb i (hS h).1) (nx 520 ls (.int ((hS h).2 i.toNatClampNeg) :: r) h)) (ck (arr h a 10 ∧ inb i (hLn h a)) (nx 520 ls (.int (hI h a i.toNatClampNeg) :: r) h))) Q := G_unf (look_ok lk_18 (r := 9) rfl) rfl
theorem g291_520 : G d 291 520 ls st h Q ↔ GN d 291 520 ls h (pA 3 st fun as r => pR r fun a r => ck (r.length ≤ 4 ∧ arr h a 8) (cll 115 (.ref a :: as) r)) Q := G_unf (look_ok lk_18 (r := 10) rfl) rfl
theorem g291_523 : G d 291 523 ls st h Q ↔ GN d 291 523 ls h (ldR ls 2 fun a => nx 524 ls (.ref a :: st) h) Q := G_unf (look_ok lk_18 (r := 11) rfl) rfl
theorem g291_524 : G d 291 524 ls st h Q ↔ GN d 291 524 ls h (ldR ls 0 fun a => nx 525 ls (.ref a :: st) h) Q := G_unf (look_ok lk_18 (r := 12) rfl) rfl
theorem g291_525 : G d 291 525 ls st h Q ↔ GN d 291 525 ls h (ldI ls 3 fun x => nx 526 ls (.int x :: st) h) Q := G_unf (look_ok lk_18 (r := 13) rfl) rfl
theorem g291_526 : G d 291 526 ls st h Q ↔ GN d 291 526 ls h (nx 527 ls (.int (nI 1) :: st) h) Q := G_unf (look_ok lk_18 (r := 14) rfl) rfl
theorem g291_527 : G d 291 527 ls st h Q ↔ GN d 291 527 ls h (pII st fun x y r => nx 528 ls (.int (x + y) :: r) h) Q := G_unf (look_ok lk_18 (r := 15) rfl) rfl
theorem g291_528 : G d 291 528 ls st h Q ↔ GN d 291 528 ls h (pRI st fun a i r => br (a = 1000003) (ck (inb i (hS h).1) (nx 529 ls (.int ((hS h).2 i.toNatClampNeg) :: r) h)) (ck (arr h a 10 ∧ inb i (hLn h a)) (nx 529 ls (.int (hI h a i.toNatClampNeg) :: r) h))) Q := G_unf (look_ok lk_19 (r := 0) rfl) rfl
theorem g291_529 : G d 291 529 ls st h Q ↔ GN d 291 529 ls h (ldR ls 0 fun a => nx 530 ls (.ref a :: st) h) Q := G_unf (look_ok lk_19 (r := 1) rfl) rfl
theorem g291_530 : G d 291 530 ls st h Q ↔ GN d 291 530 ls h (ldI ls 3 fun x => nx 531 ls (.int x :: st) h) Q := G_unf (look_ok lk_19 (r := 2) rfl) rfl
theorem g291_531 : G d 291 531 ls st h Q ↔ GN d 291 531 ls h (nx 532 ls (.int (nI 2) :: st) h) Q := G_unf (look_ok lk_19 (r := 3) rfl) rfl
theorem g291_532 : G d 291 532 ls st h Q ↔ GN d 291 532 ls h (pII st fun x y r => nx 533 ls (.int (x + y) :: r) h) Q := G_unf (look_ok lk_19 (r := 4) rfl) rfl
theorem g291_533 : G d 291 533 ls st h Q ↔ GN d 291 533 ls h (pRI st fun a i r => br (a = 1000003) (ck (inb i (hS h).1) (nx 534 ls (.int ((hS h).2 i.toNatClampNeg) :: r) h)) (ck (arr h a 10 ∧ inb i (hLn h a)) (nx 534 ls (.int (hI h a i.toNatClampNeg) :: r) h))) Q := G_unf (look_ok lk_19 (r := 5) rfl) rfl
theorem g291_534 : G d 291 534 ls st h Q ↔ GN d 291 534 ls h (ldR ls 0 fun a => nx 535 ls (.ref a :: st) h) Q := G_unf (look_ok lk_19 (r := 6) rfl) rfl
theorem g291_535 : G d 291 535 ls st h Q ↔ GN d 291 535 ls h (ldI ls 3 fun x => nx 536 ls (.int x :: st) h) Q := G_unf (look_ok lk_19 (r := 7) rfl) rfl
theorem g291_536 : G d 291 536 ls st h Q ↔ GN d 291 536 ls h (nx 537 ls (.int (nI 3) :: st) h) Q := G_unf (look_ok lk_19 (r := 8) rfl) rfl
theorem g291_537 : G d 291 537 ls st h Q ↔ GN d 291 537 ls h (pII st fun x y r => nx 538 ls (.int (x + y) :: r) h) Q := G_unf (look_ok lk_19 (r := 9) rfl) rfl
theorem g291_538 : G d 291 538 ls st h Q ↔ GN d 291 538 ls h (pRI st fun a i r => br (a = 1000003) (ck (inb i (hS h).1) (nx 539 ls (.int ((hS h).2 i.toNatClampNeg) :: r) h)) (ck (arr h a 10 ∧ inb i (hLn h a)) (nx 539 ls (.int (hI h a i.toNatClampNeg) :: r) h))) Q := G_unf (look_ok lk_19 (r := 10) rfl) rfl
theorem g291_539 : G d 291 539 ls st h Q ↔ GN d 291 539 ls h (pA 3 st fun as r => pR r fun a r => ck (r.length ≤ 4 ∧ arr h a 9) (cll 237 (.ref a :: as) r)) Q := G_unf (look_ok lk_19 (r := 11) rfl) rfl
theorem g291_542 : G d 291 542 ls st h Q ↔ GN d 291 542 ls h (pII st fun x y r => br (x = y) (nx 1226 ls r h) (nx 545 ls r h)) Q := G_unf (look_ok lk_19 (r := 12) rfl) rfl
theorem g291_547 : G d 291 547 ls st h Q ↔ GN d 291 547 ls h (ldR ls 1 fun a => nx 548 ls (.ref a :: st) h) Q := G_unf (look_ok lk_19 (r := 15) rfl) rfl
theorem g291_548 : G d 291 548 ls st h Q ↔ GN d 291 548 ls h (ldR ls 0 fun a => nx 549 ls (.ref a :: st) h) Q := G_unf (look_ok lk_20 (r := 0) rfl) rfl
theorem g291_549 : G d 291 549 ls st h Q ↔ GN d 291 549 ls h (ldI ls 3 fun x => nx 550 ls (.int x :: st) h) Q := G_unf (look_ok lk_20 (r := 1) rfl) rfl
theorem g291_550 : G d 291 550 ls st h Q ↔ GN d 291 550 ls h (nx 551 ls (.int (nI 1) :: st) h) Q := G_unf (look_ok lk_20 (r := 2) rfl) rfl
theorem g291_551 : G d 291 551 ls st h Q ↔ GN d 291 551 ls h (pII st fun x y r => nx 552 ls (.int (x + y) :: r) h) Q := G_unf (look_ok lk_20 (r := 3) rfl) rfl
theorem g291_552 : G d 291 552 ls st h Q ↔ GN d 291 552 ls h (pRI st fun a i r => br (a = 1000003) (ck (inb i (hS h).1) (nx 553 ls (.int ((hS h).2 i.toNatClampNeg) :: r) h)) (ck (arr h a 10 ∧ inb i (hLn h a)) (nx 553 ls (.int (hI h a i.toNatClampNeg) :: r) h))) Q := G_unf (look_ok lk_20 (r := 4) rfl) rfl
theorem g291_553 : G d 291 553 ls st h Q ↔ GN d 291 553 ls h (ldR ls 0 fun a => nx 554 ls (.ref a :: st) h) Q := G_unf (look_ok lk_20 (r := 5) rfl) rfl
theorem g291_554 : G d 291 554 ls st h Q ↔ GN d 291 554 ls h (ldI ls 3 fun x => nx 555 ls (.int x :: st) h) Q := G_unf (look_ok lk_20 (r := 6) rfl) rfl
theorem g291_555 : G d 291 555 ls st h Q ↔ GN d 291 555 ls h (nx 556 ls (.int (nI 2) :: st) h) Q := G_unf (look_ok lk_20 (r := 7) rfl) rfl
theorem g291_556 : G d 291 556 ls st h Q ↔ GN d 291 556 ls h (pII st fun x y r => nx 557 ls (.int (x + y) :: r) h) Q := G_unf (look_ok lk_20 (r := 8) rfl) rfl
theorem g291_557 : G d 291 557 ls st h Q ↔ GN d 291 557 ls h (pRI st fun a i r => br (a = 1000003) (ck (inb i (hS h).1) (nx 558 ls (.int ((hS h).2 i.toNatClampNeg) :: r) h)) (ck (arr h a 10 ∧ inb i (hLn h a)) (nx 558 ls (.int (hI h a i.toNatClampNeg) :: r) h))) Q := G_unf (look_ok lk_20 (r := 9) rfl) rfl
theorem g291_558 : G d 291 558 ls st h Q ↔ GN d 291 558 ls h (ldR ls 0 fun a => nx 559 ls (.ref a :: st) h) Q := G_unf (look_ok lk_20 (r := 10) rfl) rfl
theorem g291_559 : G d 291 559 ls st h Q ↔ GN d 291 559 ls h (ldI ls 3 fun x => nx 560 ls (.int x :: st) h) Q := G_unf (look_ok lk_20 (r := 11) rfl) rfl
theorem g291_560 : G d 291 560 ls st h Q ↔ GN d 291 560 ls h (nx 561 ls (.int (nI 3) :: st) h) Q := G_unf (look_ok lk_20 (r := 12) rfl) rfl
theorem g291_561 : G d 291 561 ls st h Q ↔ GN d 291 561 ls h (pII st fun x y r => nx 562 ls (.int (x + y) :: r) h) Q := G_unf (look_ok lk_20 (r := 13) rfl) rfl
theorem g291_562 : G d 291 562 ls st h Q ↔ GN d 291 562 ls h (pRI st fun a i r => br (a = 1000003) (ck (inb i (hS h).1) (nx 563 ls (.int ((hS h).2 i.toNatClampNeg) :: r) h)) (ck (arr h a 10 ∧ inb i (hLn h a)) (nx 563 ls (.int (hI h a i.toNatClampNeg) :: r) h))) Q := G_unf (look_ok lk_20 (r := 14) rfl) rfl
theorem g291_563 : G d 291 563 ls st h Q ↔ GN d 291 563 ls h (pA 3 st fun as r => pR r fun a r => ck (r.length ≤ 4 ∧ arr h a 8) (cll 116 (.ref a :: as) r)) Q := G_unf (look_ok lk_20 (r := 15) rfl) rfl
theorem g291_566 : G d 291 566 ls st h Q ↔ GN d 291 566 ls h (ldR ls 2 fun a => nx 567 ls (.ref a :: st) h) Q := G_unf (look_ok lk_21 (r := 0) rfl) rfl
theorem g291_567 : G d 291 567 ls st h Q ↔ GN d 291 567 ls h (ldR ls 0 fun a => nx 568 ls (.ref a :: st) h) Q := G_unf (look_ok lk_21 (r := 1) rfl) rfl
theorem g291_568 : G d 291 568 ls st h Q ↔ GN d 291 568 ls h (ldI ls 3 fun x => nx 569 ls (.int x :: st) h) Q := G_unf (look_ok lk_21 (r := 2) rfl) rfl
theorem g291_569 : G d 291 569 ls st h Q ↔ GN d 291 569 ls h (nx 570 ls (.int (nI 1) :: st) h) Q := G_unf (look_ok lk_21 (r := 3) rfl) rfl
theorem g291_570 : G d 291 570 ls st h Q ↔ GN d 291 570 ls h (pII st fun x y r => nx 571 ls (.int (x + y) :: r) h) Q := G_unf (look_ok lk_21 (r := 4) rfl) rfl
theorem g291_571 : G d 291 571 ls st h Q ↔ GN d 291 571 ls h (pRI st fun a i r => br (a = 1000003) (ck (inb i (hS h).1) (nx 572 ls (.int ((hS h).2 i.toNatClampNeg) :: r) h)) (ck (arr h a 10 ∧ inb i (hLn h a)) (nx 572 ls (.int (hI h a i.toNatClampNeg) :: r) h))) Q := G_unf (look_ok lk_21 (r := 5) rfl) rfl
theorem g291_572 : G d 291 572 ls st h Q ↔ GN d 291 572 ls h (ldR ls 0 fun a => nx 573 ls (.ref a :: st) h) Q := G_unf (look_ok lk_21 (r := 6) rfl) rfl
theorem g291_573 : G d 291 573 ls st h Q ↔ GN d 291 573 ls h (ldI ls 3 fun x => nx 574 ls (.int x :: st) h) Q := G_unf (look_ok lk_21 (r := 7) rfl) rfl
theorem g291_574 : G d 291 574 ls st h Q ↔ GN d 291 574 ls h (nx 575 ls (.int (nI 2) :: st) h) Q := G_unf (look_ok lk_21 (r := 8) rfl) rfl
theorem g291_575 : G d 291 575 ls st h Q ↔ GN d 291 575 ls h (pII st fun x y r => nx 576 ls (.int (x + y) :: r) h) Q := G_unf (look_ok lk_21 (r := 9) rfl) rfl
theorem g291_576 : G d 291 576 ls st h Q ↔ GN d 291 576 ls h (pRI st fun a i r => br (a = 1000003) (ck (inb i (hS h).1) (nx 577 ls (.int ((hS h).2 i.toNatClampNeg) :: r) h)) (ck (arr h a 10 ∧ inb i (hLn h a)) (nx 577 ls (.int (hI h a i.toNatClampNeg) :: r) h))) Q := G_unf (look_ok lk_21 (r := 10) rfl) rfl
theorem g291_577 : G d 291 577 ls st h Q ↔ GN d 291 577 ls h (ldR ls 0 fun a => nx 578 ls (.ref a :: st) h) Q := G_unf (look_ok lk_21 (r := 11) rfl) rfl
theorem g291_578 : G d 291 578 ls st h Q ↔ GN d 291 578 ls h (ldI ls 3 fun x => nx 579 ls (.int x :: st) h) Q := G_unf (look_ok lk_21 (r := 12) rfl) rfl
theorem g291_579 : G d 291 579 ls st h Q ↔ GN d 291 579 ls h (nx 580 ls (.int (nI 3) :: st) h) Q := G_unf (look_ok lk_21 (r := 13) rfl) rfl
theorem g291_580 : G d 291 580 ls st h Q ↔ GN d 291 580 ls h (pII st fun x y r => nx 581 ls (.int (x + y) :: r) h) Q := G_unf (look_ok lk_21 (r := 14) rfl) rfl
theorem g291_581 : G d 291 581 ls st h Q ↔ GN d 291 581 ls h (pRI st fun a i r => br (a = 1000003) (ck (inb i (hS h).1) (nx 582 ls (.int ((hS h).2 i.toNatClampNeg) :: r) h)) (ck (arr h a 10 ∧ inb i (hLn h a)) (nx 582 ls (.int (hI h a i.toNatClampNeg) :: r) h))) Q := G_unf (look_ok lk_21 (r := 15) rfl) rfl
theorem g291_582 : G d 291 582 ls st h Q ↔ GN d 291 582 ls h (pA 3 st fun as r => pR r fun a r => ck (r.length ≤ 4 ∧ arr h a 9) (cll 238 (.ref a :: as) r)) Q := G_unf (look_ok lk_22 (r := 0) rfl) rfl
theorem g291_585 : G d 291 585 ls st h Q ↔ GN d 291 585 ls h (pII st fun x y r => br (x = y) (nx 1226 ls r h) (nx 588 ls r h)) Q := G_unf (look_ok lk_22 (r := 1) rfl) rfl
theorem g291_590 : G d 291 590 ls st h Q ↔ GN d 291 590 ls h (ldR ls 1 fun a => nx 591 ls (.ref a :: st) h) Q := G_unf (look_ok lk_22 (r := 4) rfl) rfl
theorem g291_591 : G d 291 591 ls st h Q ↔ GN d 291 591 ls h (ldR ls 0 fun a => nx 592 ls (.ref a :: st) h) Q := G_unf (look_ok lk_22 (r := 5) rfl) rfl
theorem g291_592 : G d 291 592 ls st h Q ↔ GN d 291 592 ls h (ldI ls 3 fun x => nx 593 ls (.int x :: st) h) Q := G_unf (look_ok lk_22 (r := 6) rfl) rfl
theorem g291_593 : G d 291 593 ls st h Q ↔ GN d 291 593 ls h (nx 594 ls (.int (nI 1) :: st) h) Q := G_unf (look_ok lk_22 (r := 7) rfl) rfl
theorem g291_594 : G d 291 594 ls st h Q ↔ GN d 291 594 ls h (pII st fun x y r => nx 595 ls (.int (x + y) :: r) h) Q := G_unf (look_ok lk_22 (r := 8) rfl) rfl
theorem g291_595 : G d 291 595 ls st h Q ↔ GN d 291 595 ls h (pRI st fun a i r => br (a = 1000003) (ck (inb i (hS h).1) (nx 596 ls (.int ((hS h).2 i.toNatClampNeg) :: r) h)) (ck (arr h a 10 ∧ inb i (hLn h a)) (nx 596 ls (.int (hI h a i.toNatClampNeg) :: r) h))) Q := G_unf (look_ok lk_22 (r := 9) rfl) rfl
theorem g291_596 : G d 291 596 ls st h Q ↔ GN d 291 596 ls h (ldR ls 0 fun a => nx 597 ls (.ref a :: st) h) Q := G_unf (look_ok lk_22 (r := 10) rfl) rfl
theorem g291_597 : G d 291 597 ls st h Q ↔ GN d 291 597 ls h (ldI ls 3 fun x => nx 598 ls (.int x :: st) h) Q := G_unf (look_ok lk_22 (r := 11) rfl) rfl
theorem g291_598 : G d 291 598 ls st h Q ↔ GN d 291 598 ls h (nx 599 ls (.int (nI 2) :: st) h) Q := G_unf (look_ok lk_22 (r := 12) rfl) rfl
theorem g291_599 : G d 291 599 ls st h Q ↔ GN d 291 599 ls h (pII st fun x y r => nx 600 ls (.int (x + y) :: r) h) Q := G_unf (look_ok lk_22 (r := 13) rfl) rfl
theorem g291_600 : G d 291 600 ls st h Q ↔ GN d 291 600 ls h (pRI st fun a i r => br (a = 1000003) (ck (inb i (hS h).1) (nx 601 ls (.int ((hS h).2 i.toNatClampNeg) :: r) h)) (ck (arr h a 10 ∧ inb i (hLn h a)) (nx 601 ls (.int (hI h a i.toNatClampNeg) :: r) h))) Q := G_unf (look_ok lk_22 (r := 14) rfl) rfl
theorem g291_601 : G d 291 601 ls st h Q ↔ GN d 291 601 ls h (pA 2 st fun as r => pR r fun a r => ck (r.length ≤ 4 ∧ arr h a 8) (cll 117 (.ref a :: as) r)) Q := G_unf (look_ok lk_22 (r := 15) rfl) rfl
theorem g291_604 : G d 291 604 ls st h Q ↔ GN d 291 604 ls h (ldR ls 2 fun a => nx 605 ls (.ref a :: st) h) Q := G_unf (look_ok lk_23 (r := 0) rfl) rfl
theorem g291_605 : G d 291 605 ls st h Q ↔ GN d 291 605 ls h (ldR ls 0 fun a => nx 606 ls (.ref a :: st) h) Q := G_unf (look_ok lk_23 (r := 1) rfl) rfl
theorem g291_606 : G d 291 606 ls st h Q ↔ GN d 291 606 ls h (ldI ls 3 fun x => nx 607 ls (.int x :: st) h) Q := G_unf (look_ok lk_23 (r := 2) rfl) rfl
theorem g291_607 : G d 291 607 ls st h Q ↔ GN d 291 607 ls h (nx 608 ls (.int (nI 1) :: st) h) Q := G_unf (look_ok lk_23 (r := 3) rfl) rfl
theorem g291_608 : G d 291 608 ls st h Q ↔ GN d 291 608 ls h (pII st fun x y r => nx 609 ls (.int (x + y) :: r) h) Q := G_unf (look_ok lk_23 (r := 4) rfl) rfl
theorem g291_609 : G d 291 609 ls st h Q ↔ GN d 291 609 ls h (pRI st fun a i r => br (a = 1000003) (ck (inb i (hS h).1) (nx 610 ls (.int ((hS h).2 i.toNatClampNeg) :: r) h)) (ck (arr h a 10 ∧ inb i (hLn h a)) (nx 610 ls (.int (hI h a i.toNatClampNeg) :: r) h))) Q := G_unf (look_ok lk_23 (r := 5) rfl) rfl
theorem g291_610 : G d 291 610 ls st h Q ↔ GN d 291 610 ls h (ldR ls 0 fun a => nx 611 ls (.ref a :: st) h) Q := G_unf (look_ok lk_23 (r := 6) rfl) rfl
theorem g291_611 : G d 291 611 ls st h Q ↔ GN d 291 611 ls h (ldI ls 3 fun x => nx 612 ls (.int x :: st) h) Q := G_unf (look_ok lk_23 (r := 7) rfl) rfl
theorem g291_612 : G d 291 612 ls st h Q ↔ GN d 291 612 ls h (nx 613 ls (.int (nI 2) :: st) h) Q := G_unf (look_ok lk_23 (r := 8) rfl) rfl
theorem g291_613 : G d 291 613 ls st h Q ↔ GN d 291 613 ls h (pII st fun x y r => nx 614 ls (.int (x + y) :: r) h) Q := G_unf (look_ok lk_23 (r := 9) rfl) rfl
theorem g291_614 : G d 291 614 ls st h Q ↔ GN d 291 614 ls h (pRI st fun a i r => br (a = 1000003) (ck (inb i (hS h).1) (nx 615 ls (.int ((hS h).2 i.toNatClampNeg) :: r) h)) (ck (arr h a 10 ∧ inb i (hLn h a)) (nx 615 ls (.int (hI h a i.toNatClampNeg) :: r) h))) Q := G_unf (look_ok lk_23 (r := 10) rfl) rfl
theorem g291_615 : G d 291 615 ls st h Q ↔ GN d 291 615 ls h (pA 2 st fun as r => pR r fun a r => ck (r.length ≤ 4 ∧ arr h a 9) (cll 239 (.ref a :: as) r)) Q := G_unf (look_ok lk_23 (r := 11) rfl) rfl
theorem g291_618 : G d 291 618 ls st h Q ↔ GN d 291 618 ls h (pII st fun x y r => br (x = y) (nx 1226 ls r h) (nx 621 ls r h)) Q := G_unf (look_ok lk_23 (r := 12) rfl) rfl
theorem g291_623 : G d 291 623 ls st h Q ↔ GN d 291 623 ls h (ldR ls 1 fun a => nx 624 ls (.ref a :: st) h) Q := G_unf (look_ok lk_23 (r := 15) rfl) rfl
theorem g291_624 : G d 291 624 ls st h Q ↔ GN d 291 624 ls h (ldR ls 0 fun a => nx 625 ls (.ref a :: st) h) Q := G_unf (look_ok lk_24 (r := 0) rfl) rfl
theorem g291_625 : G d 291 625 ls st h Q ↔ GN d 291 625 ls h (ldI ls 3 fun x => nx 626 ls (.int x :: st) h) Q := G_unf (look_ok lk_24 (r := 1) rfl) rfl
theorem g291_626 : G d 291 626 ls st h Q ↔ GN d 291 626 ls h (nx 627 ls (.int (nI 1) :: st) h) Q := G_unf (look_ok lk_24 (r := 2) rfl) rfl
theorem g291_627 : G d 291 627 ls st h Q ↔ GN d 291 627 ls h (pII st fun x y r => nx 628 ls (.int (x + y) :: r) h) Q := G_unf (look_ok lk_24 (r := 3) rfl) rfl
theorem g291_628 : G d 291 628 ls st h Q ↔ GN d 291 628 ls h (pRI st fun a i r => br (a = 1000003) (ck (inb i (hS h).1) (nx 629 ls (.int ((hS h).2 i.toNatClampNeg) :: r) h)) (ck (arr h a 10 ∧ inb i (hLn h a)) (nx 629 ls (.int (hI h a i.toNatClampNeg) :: r) h))) Q := G_unf (look_ok lk_24 (r := 4) rfl) rfl
theorem g291_629 : G d 291 629 ls st h Q ↔ GN d 291 629 ls h (ldR ls 0 fun a => nx 630 ls (.ref a :: st) h) Q := G_unf (look_ok lk_24 (r := 5) rfl) rfl
theorem g291_630 : G d 291 630 ls st h Q ↔ GN d 291 630 ls h (ldI ls 3 fun x => nx 631 ls (.int x :: st) h) Q := G_unf (look_ok lk_24 (r := 6) rfl) rfl
theorem g291_631 : G d 291 631 ls st h Q ↔ GN d 291 631 ls h (nx 632 ls (.int (nI 2) :: st) h) Q := G_unf (look_ok lk_24 (r := 7) rfl) rfl
theorem g291_632 : G d 291 632 ls st h Q ↔ GN d 291 632 ls h (pII st fun x y r => nx 633 ls (.int (x + y) :: r) h) Q := G_unf (look_ok lk_24 (r := 8) rfl) rfl
theorem g291_633 : G d 291 633 ls st h Q ↔ GN d 291 633 ls h (pRI st fun a i r => br (a = 1000003) (ck (inb i (hS h).1) (nx 634 ls (.int ((hS h).2 i.toNatClampNeg) :: r) h)) (ck (arr h a 10 ∧ inb i (hLn h a)) (nx 634 ls (.int (hI h a i.toNatClampNeg) :: r) h))) Q := G_unf (look_ok lk_24 (r := 9) rfl) rfl
theorem g291_634 : G d 291 634 ls st h Q ↔ GN d 291 634 ls h (pA 2 st fun as r => pR r fun a r => ck (r.length ≤ 4 ∧ arr h a 8) (cll 118 (.ref a :: as) r)) Q := G_unf (look_ok lk_24 (r := 10) rfl) rfl
theorem g291_637 : G d 291 637 ls st h Q ↔ GN d 291 637 ls h (ldR ls 2 fun a => nx 638 ls (.ref a :: st) h) Q := G_unf (look_ok lk_24 (r := 11) rfl) rfl
theorem g291_638 : G d 291 638 ls st h Q ↔ GN d 291 638 ls h (ldR ls 0 fun a => nx 639 ls (.ref a :: st) h) Q := G_unf (look_ok lk_24 (r := 12) rfl) rfl
theorem g291_639 : G d 291 639 ls st h Q ↔ GN d 291 639 ls h (ldI ls 3 fun x => nx 640 ls (.int x :: st) h) Q := G_unf (look_ok lk_24 (r := 13) rfl) rfl
theorem g291_640 : G d 291 640 ls st h Q ↔ GN d 291 640 ls h (nx 641 ls (.int (nI 1) :: st) h) Q := G_unf (look_ok lk_24 (r := 14) rfl) rfl
theorem g291_641 : G d 291 641 ls st h Q ↔ GN d 291 641 ls h (pII st fun x y r => nx 642 ls (.int (x + y) :: r) h) Q := G_unf (look_ok lk_24 (r := 15) rfl) rfl
theorem g291_642 : G d 291 642 ls st h Q ↔ GN d 291 642 ls h (pRI st fun a i r => br (a = 1000003) (ck (inb i (hS h).1) (nx 643 ls (.int ((hS h).2 i.toNatClampNeg) :: r) h)) (ck (arr h a 10 ∧ inb i (hLn h a)) (nx 643 ls (.int (hI h a i.toNatClampNeg) :: r) h))) Q := G_unf (look_ok lk_25 (r := 0) rfl) rfl
theorem g291_643 : G d 291 643 ls st h Q ↔ GN d 291 643 ls h (ldR ls 0 fun a => nx 644 ls (.ref a :: st) h) Q := G_unf (look_ok lk_25 (r := 1) rfl) rfl
theorem g291_644 : G d 291 644 ls st h Q ↔ GN d 291 644 ls h (ldI ls 3 fun x => nx 645 ls (.int x :: st) h) Q := G_unf (look_ok lk_25 (r := 2) rfl) rfl
theorem g291_645 : G d 291 645 ls st h Q ↔ GN d 291 645 ls h (nx 646 ls (.int (nI 2) :: st) h) Q := G_unf (look_ok lk_25 (r := 3) rfl) rfl
theorem g291_646 : G d 291 646 ls st h Q ↔ GN d 291 646 ls h (pII st fun x y r => nx 647 ls (.int (x + y) :: r) h) Q := G_unf (look_ok lk_25 (r := 4) rfl) rfl
theorem g291_647 : G d 291 647 ls st h Q ↔ GN d 291 647 ls h (pRI st fun a i r => br (a = 1000003) (ck (inb i (hS h).1) (nx 648 ls (.int ((hS h).2 i.toNatClampNeg) :: r) h)) (ck (arr h a 10 ∧ inb i (hLn h a)) (nx 648 ls (.int (hI h a i.toNatClampNeg) :: r) h))) Q := G_unf (look_ok lk_25 (r := 5) rfl) rfl
theorem g291_648 : G d 291 648 ls st h Q ↔ GN d 291 648 ls h (pA 2 st fun as r => pR r fun a r => ck (r.length ≤ 4 ∧ arr h a 9) (cll 241 (.ref a :: as) r)) Q := G_unf (look_ok lk_25 (r := 6) rfl) rfl
theorem g291_651 : G d 291 651 ls st h Q ↔ GN d 291 651 ls h (pII st fun x y r => br (x = y) (nx 1226 ls r h) (nx 654 ls r h)) Q := G_unf (look_ok lk_25 (r := 7) rfl) rfl
theorem g291_656 : G d 291 656 ls st h Q ↔ GN d 291 656 ls h (ldR ls 1 fun a => nx 657 ls (.ref a :: st) h) Q := G_unf (look_ok lk_25 (r := 10) rfl) rfl
theorem g291_657 : G d 291 657 ls st h Q ↔ GN d 291 657 ls h (ldR ls 0 fun a => nx 658 ls (.ref a :: st) h) Q := G_unf (look_ok lk_25 (r := 11) rfl) rfl
theorem g291_658 : G d 291 658 ls st h Q ↔ GN d 291 658 ls h (ldI ls 3 fun x => nx 659 ls (.int x :: st) h) Q := G_unf (look_ok lk_25 (r := 12) rfl) rfl
theorem g291_659 : G d 291 659 ls st h Q ↔ GN d 291 659 ls h (nx 660 ls (.int (nI 1) :: st) h) Q := G_unf (look_ok lk_25 (r := 13) rfl) rfl
theorem g291_660 : G d 291 660 ls st h Q ↔ GN d 291 660 ls h (pII st fun x y r => nx 661 ls (.int (x + y) :: r) h) Q := G_unf (look_ok lk_25 (r := 14) rfl) rfl
theorem g291_661 : G d 291 661 ls st h Q ↔ GN d 291 661 ls h (pRI st fun a i r => br (a = 1000003) (ck (inb i (hS h).1) (nx 662 ls (.int ((hS h).2 i.toNatClampNeg) :: r) h)) (ck (arr h a 10 ∧ inb i (hLn h a)) (nx 662 ls (.int (hI h a i.toNatClampNeg) :: r) h))) Q := G_unf (look_ok lk_25 (r := 15) rfl) rfl
theorem g291_662 : G d 291 662 ls st h Q ↔ GN d 291 662 ls h (pA 1 st fun as r => pR r fun a r => ck (r.length ≤ 4 ∧ arr h a 8) (cll 119 (.ref a :: as) r)) Q := G_unf (look_ok lk_26 (r := 0) rfl) rfl
theorem g291_665 : G d 291 665 ls st h Q ↔ GN d 291 665 ls h (ldR ls 2 fun a => nx 666 ls (.ref a :: st) h) Q := G_unf (look_ok lk_26 (r := 1) rfl) rfl
theorem g291_666 : G d 291 666 ls st h Q ↔ GN d 291 666 ls h (ldR ls 0 fun a => nx 667 ls (.ref a :: st) h) Q := G_unf (look_ok lk_26 (r := 2) rfl) rfl
theorem g291_667 : G d 291 667 ls st h Q ↔ GN d 291 667 ls h (ldI ls 3 fun x => nx 668 ls (.int x :: st) h) Q := G_unf (look_ok lk_26 (r := 3) rfl) rfl
theorem g291_668 : G d 291 668 ls st h Q ↔ GN d 291 668 ls h (nx 669 ls (.int (nI 1) :: st) h) Q := G_unf (look_ok lk_26 (r := 4) rfl) rfl
theorem g291_669 : G d 291 669 ls st h Q ↔ GN d 291 669 ls h (pII st fun x y r => nx 670 ls (.int (x + y) :: r) h) Q := G_unf (look_ok lk_26 (r := 5) rfl) rfl
theorem g291_670 : G d 291 670 ls st h Q ↔ GN d 291 670 ls h (pRI st fun a i r => br (a = 1000003) (ck (inb i (hS h).1) (nx 671 ls (.int ((hS h).2 i.toNatClampNeg) :: r) h)) (ck (arr h a 10 ∧ inb i (hLn h a)) (nx 671 ls (.int (hI h a i.toNatClampNeg) :: r) h))) Q := G_unf (look_ok lk_26 (r := 6) rfl) rfl
theorem g291_671 : G d 291 671 ls st h Q ↔ GN d 291 671 ls h (pA 1 st fun as r => pR r fun a r => ck (r.length ≤ 4 ∧ arr h a 9) (cll 242 (.ref a :: as) r)) Q := G_unf (look_ok lk_26 (r := 7) rfl) rfl
theorem g291_674 : G d 291 674 ls st h Q ↔ GN d 291 674 ls h (pII st fun x y r => br (x = y) (nx 1226 ls r h) (nx 677 ls r h)) Q := G_unf (look_ok lk_26 (r := 8) rfl) rfl
theorem g291_679 : G d 291 679 ls st h Q ↔ GN d 291 679 ls h (ldR ls 1 fun a => nx 680 ls (.ref a :: st) h) Q := G_unf (look_ok lk_26 (r := 11) rfl) rfl
end G291a
