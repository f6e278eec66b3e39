section GI
variable {d : Nat} {ls st : List Value} {h : AH} {Q : Option Value → AH → Prop}
theorem g291_0 : G d 291 0 ls st h Q ↔ GN d 291 0 ls h (ck (lay (hN h) = 8) (nx 3 ls (.ref (hN h) :: st) (alc h 0 12))) Q := G_unf rfl rfl
theorem g291_3 : G d 291 3 ls st h Q ↔ GN d 291 3 ls h (p1 st fun v r => nx 4 ls (v :: v :: r) h) Q := G_unf rfl rfl
theorem g291_4 : G d 291 4 ls st h Q ↔ GN d 291 4 ls h (pA 0 st fun as r => pR r fun a r => ck (r.length ≤ 4 ∧ arr h a 8) (cll 104 (.ref a :: as) r)) Q := G_unf rfl rfl
theorem g291_7 : G d 291 7 ls st h Q ↔ GN d 291 7 ls h (pR st fun a r => ck (1 < ls.length) (nx 8 (st1 ls 1 (.ref a)) r h)) Q := G_unf rfl rfl
theorem g291_8 : G d 291 8 ls st h Q ↔ GN d 291 8 ls h (ck (lay (hN h) = 9) (nx 11 ls (.ref (hN h) :: st) (alc h 0 79))) Q := G_unf rfl rfl
theorem g291_11 : G d 291 11 ls st h Q ↔ GN d 291 11 ls h (p1 st fun v r => nx 12 ls (v :: v :: r) h) Q := G_unf rfl rfl
theorem g291_12 : G d 291 12 ls st h Q ↔ GN d 291 12 ls h (pA 0 st fun as r => pR r fun a r => ck (r.length ≤ 4 ∧ arr h a 9) (cll 155 (.ref a :: as) r)) Q := G_unf rfl rfl
theorem g291_15 : G d 291 15 ls st h Q ↔ GN d 291 15 ls h (pR st fun a r => ck (2 < ls.length) (nx 16 (st1 ls 2 (.ref a)) r h)) Q := G_unf rfl rfl
theorem g291_16 : G d 291 16 ls st h Q ↔ GN d 291 16 ls h (nx 17 ls (.int (nI 0) :: st) h) Q := G_unf rfl rfl
theorem g291_17 : G d 291 17 ls st h Q ↔ GN d 291 17 ls h (pI st fun x r => ck (3 < ls.length) (nx 18 (st1 ls 3 (.int x)) r h)) Q := G_unf rfl rfl
theorem g291_18 : G d 291 18 ls st h Q ↔ GN d 291 18 ls h (ldI ls 3 fun x => nx 19 ls (.int x :: st) h) Q := G_unf rfl rfl
theorem g291_19 : G d 291 19 ls st h Q ↔ GN d 291 19 ls h (ldR ls 0 fun a => nx 20 ls (.ref a :: st) h) Q := G_unf rfl rfl
theorem g291_20 : G d 291 20 ls st h Q ↔ GN d 291 20 ls h (pR st fun a r => br (a = 1000000) (nx 21 ls (.int (nI 0) :: r) h) (br (a = 1000002) (nx 21 ls (.int (nI 208) :: r) h) (br (a = 1000003) (nx 21 ls (.int (nI (hS h).1) :: r) h) (ck (a < hN h ∧ 10 ≤ lay a) (nx 21 ls (.int (nI (hLn h a)) :: r) h))))) Q := G_unf rfl rfl
theorem g291_21 : G d 291 21 ls st h Q ↔ GN d 291 21 ls h (nx 23 ls (.int (nI 6) :: st) h) Q := G_unf rfl rfl
theorem g291_23 : G d 291 23 ls st h Q ↔ GN d 291 23 ls h (pII st fun x y r => nx 24 ls (.int (x - y) :: r) h) Q := G_unf rfl rfl
theorem g291_24 : G d 291 24 ls st h Q ↔ GN d 291 24 ls h (pII st fun x y r => br (y < x) (nx 1232 ls r h) (nx 27 ls r h)) Q := G_unf rfl rfl
theorem g291_27 : G d 291 27 ls st h Q ↔ GN d 291 27 ls h (ldR ls 0 fun a => nx 28 ls (.ref a :: st) h) Q := G_unf rfl rfl
theorem g291_28 : G d 291 28 ls st h Q ↔ GN d 291 28 ls h (ldI ls 3 fun x => nx 29 ls (.int x :: st) h) Q := G_unf rfl rfl
theorem g291_29 : G d 291 29 ls st h Q ↔ GN d 291 29 ls h (pRI st fun a i r => br (a = 1000003) (ck (inb i (hS h).1) (nx 30 ls (.int ((hS h).2 i.toNatClampNeg) :: r) h)) (ck (arr h a 10 ∧ inb i (hLn h a)) (nx 30 ls (.int (hI h a i.toNatClampNeg) :: r) h))) Q := G_unf rfl rfl
theorem g291_30 : G d 291 30 ls st h Q ↔ GN d 291 30 ls h (nx 32 ls (.int (nI 63) :: st) h) Q := G_unf rfl rfl
theorem g291_32 : G d 291 32 ls st h Q ↔ GN d 291 32 ls h (pII st fun x y r => nx 33 ls (.int (x &&& y) :: r) h) Q := G_unf rfl rfl
theorem g291_33 : G d 291 33 ls st h Q ↔ GN d 291 33 ls h (pI st fun x r => br (x.toInt = 0) (nx 184 ls r h) (br (x.toInt = 1) (nx 247 ls r h) (br (x.toInt = 2) (nx 270 ls r h) (br (x.toInt = 3) (nx 283 ls r h) (br (x.toInt = 4) (nx 306 ls r h) (br (x.toInt = 5) (nx 329 ls r h) (br (x.toInt = 6) (nx 372 ls r h) (br (x.toInt = 7) (nx 405 ls r h) (br (x.toInt = 8) (nx 438 ls r h) (br (x.toInt = 9) (nx 471 ls r h) (br (x.toInt = 10) (nx 504 ls r h) (br (x.toInt = 11) (nx 547 ls r h) (br (x.toInt = 12) (nx 590 ls r h) (br (x.toInt = 13) (nx 623 ls r h) (br (x.toInt = 14) (nx 656 ls r h) (br (x.toInt = 15) (nx 679 ls r h) (br (x.toInt = 16) (nx 702 ls r h) (br (x.toInt = 17) (nx 715 ls r h) (br (x.toInt = 18) (nx 738 ls r h) (br (x.toInt = 19) (nx 771 ls r h) (br (x.toInt = 20) (nx 804 ls r h) (br (x.toInt = 21) (nx 827 ls r h) (br (x.toInt = 22) (nx 860 ls r h) (br (x.toInt = 23) (nx 903 ls r h) (br (x.toInt = 24) (nx 926 ls r h) (br (x.toInt = 25) (nx 969 ls r h) (br (x.toInt = 26) (nx 1012 ls r h) (br (x.toInt = 27) (nx 1065 ls r h) (br (x.toInt = 28) (nx 1098 ls r h) (br (x.toInt = 29) (nx 1131 ls r h) (br (x.toInt = 30) (nx 1154 ls r h) (br (x.toInt = 31) (nx 1167 ls r h) (br (x.toInt = 32) (nx 1190 ls r h) (br (x.toInt = 33) (nx 1203 ls r h) (nx 1226 ls r h))))))))))))))))))))))))))))))))))) Q := G_unf rfl rfl
theorem g291_184 : G d 291 184 ls st h Q ↔ GN d 291 184 ls h (ldR ls 1 fun a => nx 185 ls (.ref a :: st) h) Q := G_unf rfl rfl
theorem g291_185 : G d 291 185 ls st h Q ↔ GN d 291 185 ls h (ldR ls 0 fun a => nx 186 ls (.ref a :: st) h) Q := G_unf rfl rfl
theorem g291_186 : G d 291 186 ls st h Q ↔ GN d 291 186 ls h (ldI ls 3 fun x => nx 187 ls (.int x :: st) h) Q := G_unf rfl rfl
theorem g291_187 : G d 291 187 ls st h Q ↔ GN d 291 187 ls h (nx 188 ls (.int (nI 1) :: st) h) Q := G_unf rfl rfl
theorem g291_188 : G d 291 188 ls st h Q ↔ GN d 291 188 ls h (pII st fun x y r => nx 189 ls (.int (x + y) :: r) h) Q := G_unf rfl rfl
theorem g291_189 : G d 291 189 ls st h Q ↔ GN d 291 189 ls h (pRI st fun a i r => br (a = 1000003) (ck (inb i (hS h).1) (nx 190 ls (.int ((hS h).2 i.toNatClampNeg) :: r) h)) (ck (arr h a 10 ∧ inb i (hLn h a)) (nx 190 ls (.int (hI h a i.toNatClampNeg) :: r) h))) Q := G_unf rfl rfl
theorem g291_190 : G d 291 190 ls st h Q ↔ GN d 291 190 ls h (ldR ls 0 fun a => nx 191 ls (.ref a :: st) h) Q := G_unf rfl rfl
theorem g291_191 : G d 291 191 ls st h Q ↔ GN d 291 191 ls h (ldI ls 3 fun x => nx 192 ls (.int x :: st) h) Q := G_unf rfl rfl
theorem g291_192 : G d 291 192 ls st h Q ↔ GN d 291 192 ls h (nx 193 ls (.int (nI 2) :: st) h) Q := G_unf rfl rfl
theorem g291_193 : G d 291 193 ls st h Q ↔ GN d 291 193 ls h (pII st fun x y r => nx 194 ls (.int (x + y) :: r) h) Q := G_unf rfl rfl
theorem g291_194 : G d 291 194 ls st h Q ↔ GN d 291 194 ls h (pRI st fun a i r => br (a = 1000003) (ck (inb i (hS h).1) (nx 195 ls (.int ((hS h).2 i.toNatClampNeg) :: r) h)) (ck (arr h a 10 ∧ inb i (hLn h a)) (nx 195 ls (.int (hI h a i.toNatClampNeg) :: r) h))) Q := G_unf rfl rfl
theorem g291_195 : G d 291 195 ls st h Q ↔ GN d 291 195 ls h (ldR ls 0 fun a => nx 196 ls (.ref a :: st) h) Q := G_unf rfl rfl
theorem g291_196 : G d 291 196 ls st h Q ↔ GN d 291 196 ls h (ldI ls 3 fun x => nx 197 ls (.int x :: st) h) Q := G_unf rfl rfl
theorem g291_197 : G d 291 197 ls st h Q ↔ GN d 291 197 ls h (nx 198 ls (.int (nI 3) :: st) h) Q := G_unf rfl rfl
theorem g291_198 : G d 291 198 ls st h Q ↔ GN d 291 198 ls h (pII st fun x y r => nx 199 ls (.int (x + y) :: r) h) Q := G_unf rfl rfl
theorem g291_199 : G d 291 199 ls st h Q ↔ GN d 291 199 ls h (pRI st fun a i r => br (a = 1000003) (ck (inb i (hS h).1) (nx 200 ls (.int ((hS h).2 i.toNatClampNeg) :: r) h)) (ck (arr h a 10 ∧ inb i (hLn h a)) (nx 200 ls (.int (hI h a i.toNatClampNeg) :: r) h))) Q := G_unf rfl rfl
theorem g291_200 : G d 291 200 ls st h Q ↔ GN d 291 200 ls h (ldR ls 0 fun a => nx 201 ls (.ref a :: st) h) Q := G_unf rfl rfl
theorem g291_201 : G d 291 201 ls st h Q ↔ GN d 291 201 ls h (ldI ls 3 fun x => nx 202 ls (.int x :: st) h) Q := G_unf rfl rfl
theorem g291_202 : G d 291 202 ls st h Q ↔ GN d 291 202 ls h (nx 203 ls (.int (nI 4) :: st) h) Q := G_unf rfl rfl
theorem g291_203 : G d 291 203 ls st h Q ↔ GN d 291 203 ls h (pII st fun x y r => nx 204 ls (.int (x + y) :: r) h) Q := G_unf rfl rfl
theorem g291_204 : G d 291 204 ls st h Q ↔ GN d 291 204 ls h (pRI st fun a i r => br (a = 1000003) (ck (inb i (hS h).1) (nx 205 ls (.int ((hS h).2 i.toNatClampNeg) :: r) h)) (ck (arr h a 10 ∧ inb i (hLn h a)) (nx 205 ls (.int (hI h a i.toNatClampNeg) :: r) h))) Q := G_unf rfl rfl
theorem g291_205 : G d 291 205 ls st h Q ↔ GN d 291 205 ls h (ldR ls 0 fun a => nx 206 ls (.ref a :: st) h) Q := G_unf rfl rfl
theorem g291_206 : G d 291 206 ls st h Q ↔ GN d 291 206 ls h (ldI ls 3 fun x => nx 207 ls (.int x :: st) h) Q := G_unf rfl rfl
theorem g291_207 : G d 291 207 ls st h Q ↔ GN d 291 207 ls h (nx 208 ls (.int (nI 5) :: st) h) Q := G_unf rfl rfl
theorem g291_208 : G d 291 208 ls st h Q ↔ GN d 291 208 ls h (pII st fun x y r => nx 209 ls (.int (x + y) :: r) h) Q := G_unf rfl rfl
theorem g291_209 : G d 291 209 ls st h Q ↔ GN d 291 209 ls h (pRI st fun a i r => br (a = 1000003) (ck (inb i (hS h).1) (nx 210 ls (.int ((hS h).2 i.toNatClampNeg) :: r) h)) (ck (arr h a 10 ∧ inb i (hLn h a)) (nx 210 ls (.int (hI h a i.toNatClampNeg) :: r) h))) Q := G_unf rfl rfl
theorem g291_210 : G d 291 210 ls st h Q ↔ GN d 291 210 ls h (pA 5 st fun as r => pR r fun a r => ck (r.length ≤ 4 ∧ arr h a 8) (cll 105 (.ref a :: as) r)) Q := G_unf rfl rfl
theorem g291_213 : G d 291 213 ls st h Q ↔ GN d 291 213 ls h (ldR ls 2 fun a => nx 214 ls (.ref a :: st) h) Q := G_unf rfl rfl
theorem g291_214 : G d 291 214 ls st h Q ↔ GN d 291 214 ls h (ldR ls 0 fun a => nx 215 ls (.ref a :: st) h) Q := G_unf rfl rfl
theorem g291_215 : G d 291 215 ls st h Q ↔ GN d 291 215 ls h (ldI ls 3 fun x => nx 216 ls (.int x :: st) h) Q := G_unf rfl rfl
theorem g291_216 : G d 291 216 ls st h Q ↔ GN d 291 216 ls h (nx 217 ls (.int (nI 1) :: st) h) Q := G_unf rfl rfl
theorem g291_217 : G d 291 217 ls st h Q ↔ GN d 291 217 ls h (pII st fun x y r => nx 218 ls (.int (x + y) :: r) h) Q := G_unf rfl rfl
theorem g291_218 : G d 291 218 ls st h Q ↔ GN d 291 218 ls h (pRI st fun a i r => br (a = 1000003) (ck (inb i (hS h).1) (nx 219 ls (.int ((hS h).2 i.toNatClampNeg) :: r) h)) (ck (arr h a 10 ∧ inb i (hLn h a)) (nx 219 ls (.int (hI h a i.toNatClampNeg) :: r) h))) Q := G_unf rfl rfl
theorem g291_219 : G d 291 219 ls st h Q ↔ GN d 291 219 ls h (ldR ls 0 fun a => nx 220 ls (.ref a :: st) h) Q := G_unf rfl rfl
theorem g291_220 : G d 291 220 ls st h Q ↔ GN d 291 220 ls h (ldI ls 3 fun x => nx 221 ls (.int x :: st) h) Q := G_unf rfl rfl
theorem g291_221 : G d 291 221 ls st h Q ↔ GN d 291 221 ls h (nx 222 ls (.int (nI 2) :: st) h) Q := G_unf rfl rfl
theorem g291_222 : G d 291 222 ls st h Q ↔ GN d 291 222 ls h (pII st fun x y r => nx 223 ls (.int (x + y) :: r) h) Q := G_unf rfl rfl
theorem g291_223 : G d 291 223 ls st h Q ↔ GN d 291 223 ls h (pRI st fun a i r => br (a = 1000003) (ck (inb i (hS h).1) (nx 224 ls (.int ((hS h).2 i.toNatClampNeg) :: r) h)) (ck (arr h a 10 ∧ inb i (hLn h a)) (nx 224 ls (.int (hI h a i.toNatClampNeg) :: r) h))) Q := G_unf rfl rfl
theorem g291_224 : G d 291 224 ls st h Q ↔ GN d 291 224 ls h (ldR ls 0 fun a => nx 225 ls (.ref a :: st) h) Q := G_unf rfl rfl
theorem g291_225 : G d 291 225 ls st h Q ↔ GN d 291 225 ls h (ldI ls 3 fun x => nx 226 ls (.int x :: st) h) Q := G_unf rfl rfl
theorem g291_226 : G d 291 226 ls st h Q ↔ GN d 291 226 ls h (nx 227 ls (.int (nI 3) :: st) h) Q := G_unf rfl rfl
theorem g291_227 : G d 291 227 ls st h Q ↔ GN d 291 227 ls h (pII st fun x y r => nx 228 ls (.int (x + y) :: r) h) Q := G_unf rfl rfl
theorem g291_228 : G d 291 228 ls st h Q ↔ GN d 291 228 ls h (pRI st fun a i r => br (a = 1000003) (ck (inb i (hS h).1) (nx 229 ls (.int ((hS h).2 i.toNatClampNeg) :: r) h)) (ck (arr h a 10 ∧ inb i (hLn h a)) (nx 229 ls (.int (hI h a i.toNatClampNeg) :: r) h))) Q := G_unf rfl rfl
theorem g291_229 : G d 291 229 ls st h Q ↔ GN d 291 229 ls h (ldR ls 0 fun a => nx 230 ls (.ref a :: st) h) Q := G_unf rfl rfl
theorem g291_230 : G d 291 230 ls st h Q ↔ GN d 291 230 ls h (ldI ls 3 fun x => nx 231 ls (.int x :: st) h) Q := G_unf rfl rfl
theorem g291_231 : G d 291 231 ls st h Q ↔ GN d 291 231 ls h (nx 232 ls (.int (nI 4) :: st) h) Q := G_unf rfl rfl
theorem g291_232 : G d 291 232 ls st h Q ↔ GN d 291 232 ls h (pII st fun x y r => nx 233 ls (.int (x + y) :: r) h) Q := G_unf rfl rfl
theorem g291_233 : G d 291 233 ls st h Q ↔ GN d 291 233 ls h (pRI st fun a i r => br (a = 1000003) (ck (inb i (hS h).1) (nx 234 ls (.int ((hS h).2 i.toNatClampNeg) :: r) h)) (ck (arr h a 10 ∧ inb i (hLn h a)) (nx 234 ls (.int (hI h a i.toNatClampNeg) :: r) h))) Q := G_unf rfl rfl
theorem g291_234 : G d 291 234 ls st h Q ↔ GN d 291 234 ls h (ldR ls 0 fun a => nx 235 ls (.ref a :: st) h) Q := G_unf rfl rfl
theorem g291_235 : G d 291 235 ls st h Q ↔ GN d 291 235 ls h (ldI ls 3 fun x => nx 236 ls (.int x :: st) h) Q := G_unf rfl rfl
theorem g291_236 : G d 291 236 ls st h Q ↔ GN d 291 236 ls h (nx 237 ls (.int (nI 5) :: st) h) Q := G_unf rfl rfl
theorem g291_237 : G d 291 237 ls st h Q ↔ GN d 291 237 ls h (pII st fun x y r => nx 238 ls (.int (x + y) :: r) h) Q := G_unf rfl rfl
theorem g291_238 : G d 291 238 ls st h Q ↔ GN d 291 238 ls h (pRI st fun a i r => br (a = 1000003) (ck (inb i (hS h).1) (nx 239 ls (.int ((hS h).2 i.toNatClampNeg) :: r) h)) (ck (arr h a 10 ∧ inb i (hLn h a)) (nx 239 ls (.int (hI h a i.toNatClampNeg) :: r) h))) Q := G_unf rfl rfl
theorem g291_239 : G d 291 239 ls st h Q ↔ GN d 291 239 ls h (pA 5 st fun as r => pR r fun a r => ck (r.length ≤ 4 ∧ arr h a 9) (cll 158 (.ref a :: as) r)) Q := G_unf rfl rfl
theorem g291_242 : G d 291 242 ls st h Q ↔ GN d 291 242 ls h (pII st fun x y r => br (x = y) (nx 1226 ls r h) (nx 245 ls r h)) Q := G_unf rfl rfl
theorem g291_245 : G d 291 245 ls st h Q ↔ GN d 291 245 ls h (nx 246 ls (.int (nI 0) :: st) h) Q := G_unf rfl rfl
theorem g291_246 : G d 291 246 ls st h Q ↔ GN d 291 246 ls h (pIe st fun x => ck (x = 0 ∨ x = 1) (rtn (some (.int x)))) Q := G_unf rfl rfl
theorem g291_247 : G d 291 247 ls st h Q ↔ GN d 291 247 ls h (ldR ls 1 fun a => nx 248 ls (.ref a :: st) h) Q := G_unf rfl rfl
theorem g291_248 : G d 291 248 ls st h Q ↔ GN d 291 248 ls h (ldR ls 0 fun a => nx 249 ls (.ref a :: st) h) Q := G_unf rfl rfl
set_option maxRecDepth 100000 in
theorem g291_249 : G d 291 249 ls st h Q ↔ GN d 291 249 ls h (ldI ls 3 fun x => nx 250 ls (.int x :: st) h) Q := G_unf rfl rfl
set_option maxRecDepth 100000 in
theorem g291_250 : G d 291 250 ls st h Q ↔ GN d 291 250 ls h (nx 251 ls (.int (nI 1) :: st) h) Q := G_unf rfl rfl
set_option maxRecDepth 100000 in
theorem g291_251 : G d 291 251 ls st h Q ↔ GN d 291 251 ls h (pII st fun x y r => nx 252 ls (.int (x + y) :: r) h) Q := G_unf rfl rfl
set_option maxRecDepth 100000 in
theorem g291_252 : G d 291 252 ls st h Q ↔ GN d 291 252 ls h (pRI st fun a i r => br (a = 1000003) (ck (inb i (hS h).1) (nx 253 ls (.int ((hS h).2 i.toNatClampNeg) :: r) h)) (ck (arr h a 10 ∧ inb i (hLn h a)) (nx 253 ls (.int (hI h a i.toNatClampNeg) :: r) h))) Q := G_unf rfl rfl
set_option maxRecDepth 100000 in
theorem g291_253 : G d 291 253 ls st h Q ↔ GN d 291 253 ls h (pA 1 st fun as r => pR r fun a r => ck (r.length ≤ 4 ∧ arr h a 8) (cll 106 (.ref a :: as) r)) Q := G_unf rfl rfl
set_option maxRecDepth 100000 in
theorem g291_256 : G d 291 256 ls st h Q ↔ GN d 291 256 ls h (ldR ls 2 fun a => nx 257 ls (.ref a :: st) h) Q := G_unf rfl rfl
set_option maxRecDepth 100000 in
theorem g291_257 : G d 291 257 ls st h Q ↔ GN d 291 257 ls h (ldR ls 0 fun a => nx 258 ls (.ref a :: st) h) Q := G_unf rfl rfl
set_option maxRecDepth 100000 in
theorem g291_258 : G d 291 258 ls st h Q ↔ GN d 291 258 ls h (ldI ls 3 fun x => nx 259 ls (.int x :: st) h) Q := G_unf rfl rfl
set_option maxRecDepth 100000 in
theorem g291_259 : G d 291 259 ls st h Q ↔ GN d 291 259 ls h (nx 260 ls (.int (nI 1) :: st) h) Q := G_unf rfl rfl
set_option maxRecDepth 100000 in
theorem g291_260 : G d 291 260 ls st h Q ↔ GN d 291 260 ls h (pII st fun x y r => nx 261 ls (.int (x + y) :: r) h) Q := G_unf rfl rfl
set_option maxRecDepth 100000 in
theorem g291_261 : G d 291 261 ls st h Q ↔ GN d 291 261 ls h (pRI st fun a i r => br (a = 1000003) (ck (inb i (hS h).1) (nx 262 ls (.int ((hS h).2 i.toNatClampNeg) :: r) h)) (ck (arr h a 10 ∧ inb i (hLn h a)) (nx 262 ls (.int (hI h a i.toNatClampNeg) :: r) h))) Q := G_unf rfl rfl
set_option maxRecDepth 100000 in
theorem g291_262 : G d 291 262 ls st h Q ↔ GN d 291 262 ls h (pA 1 st fun as r => pR r fun a r => ck (r.length ≤ 4 ∧ arr h a 9) (cll 159 (.ref a :: as) r)) Q := G_unf rfl rfl
set_option maxRecDepth 100000 in
theorem g291_265 : G d 291 265 ls st h Q ↔ GN d 291 265 ls h (pII st fun x y r => br (x = y) (nx 1226 ls r h) (nx 268 ls r h)) Q := G_unf rfl rfl
set_option maxRecDepth 100000 in
theorem g291_268 : G d 291 268 ls st h Q ↔ GN d 291 268 ls h (nx 269 ls (.int (nI 0) :: st) h) Q := G_unf rfl rfl
set_option maxRecDepth 100000 in
theorem g291_269 : G d 291 269 ls st h Q ↔ GN d 291 269 ls h (pIe st fun x => ck (x = 0 ∨ x = 1) (rtn (some (.int x)))) Q := G_unf rfl rfl
set_option maxRecDepth 100000 in
theorem g291_270 : G d 291 270 ls st h Q ↔ GN d 291 270 ls h (ldR ls 1 fun a => nx 271 ls (.ref a :: st) h) Q := G_unf rfl rfl
set_option maxRecDepth 100000 in
theorem g291_271 : G d 291 271 ls st h Q ↔ GN d 291 271 ls h (pA 0 st fun as r => pR r fun a r => ck (r.length ≤ 4 ∧ arr h a 8) (cll 107 (.ref a :: as) r)) Q := G_unf rfl rfl
set_option maxRecDepth 100000 in
theorem g291_274 : G d 291 274 ls st h Q ↔ GN d 291 274 ls h (ldR ls 2 fun a => nx 275 ls (.ref a :: st) h) Q := G_unf rfl rfl
set_option maxRecDepth 100000 in
theorem g291_275 : G d 291 275 ls st h Q ↔ GN d 291 275 ls h (pA 0 st fun as r => pR r fun a r => ck (r.length ≤ 4 ∧ arr h a 9) (cll 198 (.ref a :: as) r)) Q := G_unf rfl rfl
set_option maxRecDepth 100000 in
theorem g291_278 : G d 291 278 ls st h Q ↔ GN d 291 278 ls h (pII st fun x y r => br (x = y) (nx 1226 ls r h) (nx 281 ls r h)) Q := G_unf rfl rfl
set_option maxRecDepth 100000 in
theorem g291_281 : G d 291 281 ls st h Q ↔ GN d 291 281 ls h (nx 282 ls (.int (nI 0) :: st) h) Q := G_unf rfl rfl
set_option maxRecDepth 100000 in
theorem g291_282 : G d 291 282 ls st h Q ↔ GN d 291 282 ls h (pIe st fun x => ck (x = 0 ∨ x = 1) (rtn (some (.int x)))) Q := G_unf rfl rfl
set_option maxRecDepth 100000 in
theorem g291_283 : G d 291 283 ls st h Q ↔ GN d 291 283 ls h (ldR ls 1 fun a => nx 284 ls (.ref a :: st) h) Q := G_unf rfl rfl
set_option maxRecDepth 100000 in
theorem g291_284 : G d 291 284 ls st h Q ↔ GN d 291 284 ls h (ldR ls 0 fun a => nx 285 ls (.ref a :: st) h) Q := G_unf rfl rfl
set_option maxRecDepth 100000 in
theorem g291_285 : G d 291 285 ls st h Q ↔ GN d 291 285 ls h (ldI ls 3 fun x => nx 286 ls (.int x :: st) h) Q := G_unf rfl rfl
set_option maxRecDepth 100000 in
theorem g291_286 : G d 291 286 ls st h Q ↔ GN d 291 286 ls h (nx 287 ls (.int (nI 1) :: st) h) Q := G_unf rfl rfl
set_option maxRecDepth 100000 in
theorem g291_287 : G d 291 287 ls st h Q ↔ GN d 291 287 ls h (pII st fun x y r => nx 288 ls (.int (x + y) :: r) h) Q := G_unf rfl rfl
set_option maxRecDepth 100000 in
theorem g291_288 : G d 291 288 ls st h Q ↔ GN d 291 288 ls h (pRI st fun a i r => br (a = 1000003) (ck (inb i (hS h).1) (nx 289 ls (.int ((hS h).2 i.toNatClampNeg) :: r) h)) (ck (arr h a 10 ∧ inb i (hLn h a)) (nx 289 ls (.int (hI h a i.toNatClampNeg) :: r) h))) Q := G_unf rfl rfl
set_option maxRecDepth 100000 in
theorem g291_289 : G d 291 289 ls st h Q ↔ GN d 291 289 ls h (pA 1 st fun as r => pR r fun a r => ck (r.length ≤ 4 ∧ arr h a 8) (cll 108 (.ref a :: as) r)) Q := G_unf rfl rfl
set_option maxRecDepth 100000 in
theorem g291_292 : G d 291 292 ls st h Q ↔ GN d 291 292 ls h (ldR ls 2 fun a => nx 293 ls (.ref a :: st) h) Q := G_unf rfl rfl
set_option maxRecDepth 100000 in
theorem g291_293 : G d 291 293 ls st h Q ↔ GN d 291 293 ls h (ldR ls 0 fun a => nx 294 ls (.ref a :: st) h) Q := G_unf rfl rfl
set_option maxRecDepth 100000 in
theorem g291_294 : G d 291 294 ls st h Q ↔ GN d 291 294 ls h (ldI ls 3 fun x => nx 295 ls (.int x :: st) h) Q := G_unf rfl rfl
set_option maxRecDepth 100000 in
theorem g291_295 : G d 291 295 ls st h Q ↔ GN d 291 295 ls h (nx 296 ls (.int (nI 1) :: st) h) Q := G_unf rfl rfl
set_option maxRecDepth 100000 in
theorem g291_296 : G d 291 296 ls st h Q ↔ GN d 291 296 ls h (pII st fun x y r => nx 297 ls (.int (x + y) :: r) h) Q := G_unf rfl rfl
set_option maxRecDepth 100000 in
theorem g291_297 : G d 291 297 ls st h Q ↔ GN d 291 297 ls h (pRI st fun a i r => br (a = 1000003) (ck (inb i (hS h).1) (nx 298 ls (.int ((hS h).2 i.toNatClampNeg) :: r) h)) (ck (arr h a 10 ∧ inb i (hLn h a)) (nx 298 ls (.int (hI h a i.toNatClampNeg) :: r) h))) Q := G_unf rfl rfl
set_option maxRecDepth 100000 in
theorem g291_298 : G d 291 298 ls st h Q ↔ GN d 291 298 ls h (pA 1 st fun as r => pR r fun a r => ck (r.length ≤ 4 ∧ arr h a 9) (cll 199 (.ref a :: as) r)) Q := G_unf rfl rfl
set_option maxRecDepth 100000 in
theorem g291_301 : G d 291 301 ls st h Q ↔ GN d 291 301 ls h (pII st fun x y r => br (x = y) (nx 1226 ls r h) (nx 304 ls r h)) Q := G_unf rfl rfl
set_option maxRecDepth 100000 in
theorem g291_304 : G d 291 304 ls st h Q ↔ GN d 291 304 ls h (nx 305 ls (.int (nI 0) :: st) h) Q := G_unf rfl rfl
set_option maxRecDepth 100000 in
theorem g291_305 : G d 291 305 ls st h Q ↔ GN d 291 305 ls h (pIe st fun x => ck (x = 0 ∨ x = 1) (rtn (some (.int x)))) Q := G_unf rfl rfl
set_option maxRecDepth 100000 in
theorem g291_306 : G d 291 306 ls st h Q ↔ GN d 291 306 ls h (ldR ls 1 fun a => nx 307 ls (.ref a :: st) h) Q := G_unf rfl rfl
set_option maxRecDepth 100000 in
theorem g291_307 : G d 291 307 ls st h Q ↔ GN d 291 307 ls h (ldR ls 0 fun a => nx 308 ls (.ref a :: st) h) Q := G_unf rfl rfl
set_option maxRecDepth 100000 in
theorem g291_308 : G d 291 308 ls st h Q ↔ GN d 291 308 ls h (ldI ls 3 fun x => nx 309 ls (.int x :: st) h) Q := G_unf rfl rfl
set_option maxRecDepth 100000 in
theorem g291_309 : G d 291 309 ls st h Q ↔ GN d 291 309 ls h (nx 310 ls (.int (nI 1) :: st) h) Q := G_unf rfl rfl
set_option maxRecDepth 100000 in
theorem g291_310 : G d 291 310 ls st h Q ↔ GN d 291 310 ls h (pII st fun x y r => nx 311 ls (.int (x + y) :: r) h) Q := G_unf rfl rfl
set_option maxRecDepth 100000 in
theorem g291_311 : G d 291 311 ls st h Q ↔ GN d 291 311 ls h (pRI st fun a i r => br (a = 1000003) (ck (inb i (hS h).1) (nx 312 ls (.int ((hS h).2 i.toNatClampNeg) :: r) h)) (ck (arr h a 10 ∧ inb i (hLn h a)) (nx 312 ls (.int (hI h a i.toNatClampNeg) :: r) h))) Q := G_unf rfl rfl
set_option maxRecDepth 100000 in
theorem g291_312 : G d 291 312 ls st h Q ↔ GN d 291 312 ls h (pA 1 st fun as r => pR r fun a r => ck (r.length ≤ 4 ∧ arr h a 8) (cll 109 (.ref a :: as) r)) Q := G_unf rfl rfl
set_option maxRecDepth 100000 in
theorem g291_315 : G d 291 315 ls st h Q ↔ GN d 291 315 ls h (ldR ls 2 fun a => nx 316 ls (.ref a :: st) h) Q := G_unf rfl rfl
set_option maxRecDepth 100000 in
theorem g291_316 : G d 291 316 ls st h Q ↔ GN d 291 316 ls h (ldR ls 0 fun a => nx 317 ls (.ref a :: st) h) Q := G_unf rfl rfl
set_option maxRecDepth 100000 in
theorem g291_317 : G d 291 317 ls st h Q ↔ GN d 291 317 ls h (ldI ls 3 fun x => nx 318 ls (.int x :: st) h) Q := G_unf rfl rfl
set_option maxRecDepth 100000 in
theorem g291_318 : G d 291 318 ls st h Q ↔ GN d 291 318 ls h (nx 319 ls (.int (nI 1) :: st) h) Q := G_unf rfl rfl
set_option maxRecDepth 100000 in
theorem g291_319 : G d 291 319 ls st h Q ↔ GN d 291 319 ls h (pII st fun x y r => nx 320 ls (.int (x + y) :: r) h) Q := G_unf rfl rfl
set_option maxRecDepth 100000 in
theorem g291_320 : G d 291 320 ls st h Q ↔ GN d 291 320 ls h (pRI st fun a i r => br (a = 1000003) (ck (inb i (hS h).1) (nx 321 ls (.int ((hS h).2 i.toNatClampNeg) :: r) h)) (ck (arr h a 10 ∧ inb i (hLn h a)) (nx 321 ls (.int (hI h a i.toNatClampNeg) :: r) h))) Q := G_unf rfl rfl
set_option maxRecDepth 100000 in
theorem g291_321 : G d 291 321 ls st h Q ↔ GN d 291 321 ls h (pA 1 st fun as r => pR r fun a r => ck (r.length ≤ 4 ∧ arr h a 9) (cll 231 (.ref a :: as) r)) Q := G_unf rfl rfl
set_option maxRecDepth 100000 in
theorem g291_324 : G d 291 324 ls st h Q ↔ GN d 291 324 ls h (pII st fun x y r => br (x = y) (nx 1226 ls r h) (nx 327 ls r h)) Q := G_unf rfl rfl
set_option maxRecDepth 100000 in
theorem g291_327 : G d 291 327 ls st h Q ↔ GN d 291 327 ls h (nx 328 ls (.int (nI 0) :: st) h) Q := G_unf rfl rfl
set_option maxRecDepth 100000 in
theorem g291_328 : G d 291 328 ls st h Q ↔ GN d 291 328 ls h (pIe st fun x => ck (x = 0 ∨ x = 1) (rtn (some (.int x)))) Q := G_unf rfl rfl
set_option maxRecDepth 100000 in
theorem g291_329 : G d 291 329 ls st h Q ↔ GN d 291 329 ls h (ldR ls 1 fun a => nx 330 ls (.ref a :: st) h) Q := G_unf rfl rfl
set_option maxRecDepth 100000 in
theorem g291_330 : G d 291 330 ls st h Q ↔ GN d 291 330 ls h (ldR ls 0 fun a => nx 331 ls (.ref a :: st) h) Q := G_unf rfl rfl
set_option maxRecDepth 100000 in
theorem g291_331 : G d 291 331 ls st h Q ↔ GN d 291 331 ls h (ldI ls 3 fun x => nx 332 ls (.int x :: st) h) Q := G_unf rfl rfl
set_option maxRecDepth 100000 in
theorem g291_332 : G d 291 332 ls st h Q ↔ GN d 291 332 ls h (nx 333 ls (.int (nI 1) :: st) h) Q := G_unf rfl rfl
set_option maxRecDepth 100000 in
theorem g291_333 : G d 291 333 ls st h Q ↔ GN d 291 333 ls h (pII st fun x y r => nx 334 ls (.int (x + y) :: r) h) Q := G_unf rfl rfl
set_option maxRecDepth 100000 in
theorem g291_334 : G d 291 334 ls st h Q ↔ GN d 291 334 ls h (pRI st fun a i r => br (a = 1000003) (ck (inb i (hS h).1) (nx 335 ls (.int ((hS h).2 i.toNatClampNeg) :: r) h)) (ck (arr h a 10 ∧ inb i (hLn h a)) (nx 335 ls (.int (hI h a i.toNatClampNeg) :: r) h))) Q := G_unf rfl rfl
set_option maxRecDepth 100000 in
theorem g291_335 : G d 291 335 ls st h Q ↔ GN d 291 335 ls h (ldR ls 0 fun a => nx 336 ls (.ref a :: st) h) Q := G_unf rfl rfl
set_option maxRecDepth 100000 in
theorem g291_336 : G d 291 336 ls st h Q ↔ GN d 291 336 ls h (ldI ls 3 fun x => nx 337 ls (.int x :: st) h) Q := G_unf rfl rfl
set_option maxRecDepth 100000 in
theorem g291_337 : G d 291 337 ls st h Q ↔ GN d 291 337 ls h (nx 338 ls (.int (nI 2) :: st) h) Q := G_unf rfl rfl
set_option maxRecDepth 100000 in
theorem g291_338 : G d 291 338 ls st h Q ↔ GN d 291 338 ls h (pII st fun x y r => nx 339 ls (.int (x + y) :: r) h) Q := G_unf rfl rfl
set_option maxRecDepth 100000 in
theorem g291_339 : G d 291 339 ls st h Q ↔ GN d 291 339 ls h (pRI st fun a i r => br (a = 1000003) (ck (inb i (hS h).1) (nx 340 ls (.int ((hS h).2 i.toNatClampNeg) :: r) h)) (ck (arr h a 10 ∧ inb i (hLn h a)) (nx 340 ls (.int (hI h a i.toNatClampNeg) :: r) h))) Q := G_unf rfl rfl
set_option maxRecDepth 100000 in
theorem g291_340 : G d 291 340 ls st h Q ↔ GN d 291 340 ls h (ldR ls 0 fun a => nx 341 ls (.ref a :: st) h) Q := G_unf rfl rfl
set_option maxRecDepth 100000 in
theorem g291_341 : G d 291 341 ls st h Q ↔ GN d 291 341 ls h (ldI ls 3 fun x => nx 342 ls (.int x :: st) h) Q := G_unf rfl rfl
set_option maxRecDepth 100000 in
theorem g291_342 : G d 291 342 ls st h Q ↔ GN d 291 342 ls h (nx 343 ls (.int (nI 3) :: st) h) Q := G_unf rfl rfl
set_option maxRecDepth 100000 in
theorem g291_343 : G d 291 343 ls st h Q ↔ GN d 291 343 ls h (pII st fun x y r => nx 344 ls (.int (x + y) :: r) h) Q := G_unf rfl rfl
set_option maxRecDepth 100000 in
theorem g291_344 : G d 291 344 ls st h Q ↔ GN d 291 344 ls h (pRI st fun a i r => br (a = 1000003) (ck (inb i (hS h).1) (nx 345 ls (.int ((hS h).2 i.toNatClampNeg) :: r) h)) (ck (arr h a 10 ∧ inb i (hLn h a)) (nx 345 ls (.int (hI h a i.toNatClampNeg) :: r) h))) Q := G_unf rfl rfl
set_option maxRecDepth 100000 in
theorem g291_345 : G d 291 345 ls st h Q ↔ GN d 291 345 ls h (pA 3 st fun as r => pR r fun a r => ck (r.length ≤ 4 ∧ arr h a 8) (cll 110 (.ref a :: as) r)) Q := G_unf rfl rfl
set_option maxRecDepth 100000 in
theorem g291_348 : G d 291 348 ls st h Q ↔ GN d 291 348 ls h (ldR ls 2 fun a => nx 349 ls (.ref a :: st) h) Q := G_unf rfl rfl
set_option maxRecDepth 100000 in
theorem g291_349 : G d 291 349 ls st h Q ↔ GN d 291 349 ls h (ldR ls 0 fun a => nx 350 ls (.ref a :: st) h) Q := G_unf rfl rfl
set_option maxRecDepth 100000 in
theorem g291_350 : G d 291 350 ls st h Q ↔ GN d 291 350 ls h (ldI ls 3 fun x => nx 351 ls (.int x :: st) h) Q := G_unf rfl rfl
set_option maxRecDepth 100000 in
theorem g291_351 : G d 291 351 ls st h Q ↔ GN d 291 351 ls h (nx 352 ls (.int (nI 1) :: st) h) Q := G_unf rfl rfl
set_option maxRecDepth 100000 in
theorem g291_352 : G d 291 352 ls st h Q ↔ GN d 291 352 ls h (pII st fun x y r => nx 353 ls (.int (x + y) :: r) h) Q := G_unf rfl rfl
set_option maxRecDepth 100000 in
theorem g291_353 : G d 291 353 ls st h Q ↔ GN d 291 353 ls h (pRI st fun a i r => br (a = 1000003) (ck (inb i (hS h).1) (nx 354 ls (.int ((hS h).2 i.toNatClampNeg) :: r) h)) (ck (arr h a 10 ∧ inb i (hLn h a)) (nx 354 ls (.int (hI h a i.toNatClampNeg) :: r) h))) Q := G_unf rfl rfl
set_option maxRecDepth 100000 in
theorem g291_354 : G d 291 354 ls st h Q ↔ GN d 291 354 ls h (ldR ls 0 fun a => nx 355 ls (.ref a :: st) h) Q := G_unf rfl rfl
set_option maxRecDepth 100000 in
theorem g291_355 : G d 291 355 ls st h Q ↔ GN d 291 355 ls h (ldI ls 3 fun x => nx 356 ls (.int x :: st) h) Q := G_unf rfl rfl
set_option maxRecDepth 100000 in
theorem g291_356 : G d 291 356 ls st h Q ↔ GN d 291 356 ls h (nx 357 ls (.int (nI 2) :: st) h) Q := G_unf rfl rfl
set_option maxRecDepth 100000 in
theorem g291_357 : G d 291 357 ls st h Q ↔ GN d 291 357 ls h (pII st fun x y r => nx 358 ls (.int (x + y) :: r) h) Q := G_unf rfl rfl
set_option maxRecDepth 100000 in
theorem g291_358 : G d 291 358 ls st h Q ↔ GN d 291 358 ls h (pRI st fun a i r => br (a = 1000003) (ck (inb i (hS h).1) (nx 359 ls (.int ((hS h).2 i.toNatClampNeg) :: r) h)) (ck (arr h a 10 ∧ inb i (hLn h a)) (nx 359 ls (.int (hI h a i.toNatClampNeg) :: r) h))) Q := G_unf rfl rfl
set_option maxRecDepth 100000 in
theorem g291_359 : G d 291 359 ls st h Q ↔ GN d 291 359 ls h (ldR ls 0 fun a => nx 360 ls (.ref a :: st) h) Q := G_unf rfl rfl
set_option maxRecDepth 100000 in
theorem g291_360 : G d 291 360 ls st h Q ↔ GN d 291 360 ls h (ldI ls 3 fun x => nx 361 ls (.int x :: st) h) Q := G_unf rfl rfl
set_option maxRecDepth 100000 in
theorem g291_361 : G d 291 361 ls st h Q ↔ GN d 291 361 ls h (nx 362 ls (.int (nI 3) :: st) h) Q := G_unf rfl rfl
set_option maxRecDepth 100000 in
theorem g291_362 : G d 291 362 ls st h Q ↔ GN d 291 362 ls h (pII st fun x y r => nx 363 ls (.int (x + y) :: r) h) Q := G_unf rfl rfl
set_option maxRecDepth 100000 in
theorem g291_363 : G d 291 363 ls st h Q ↔ GN d 291 363 ls h (pRI st fun a i r => br (a = 1000003) (ck (inb i (hS h).1) (nx 364 ls (.int ((hS h).2 i.toNatClampNeg) :: r) h)) (ck (arr h a 10 ∧ inb i (hLn h a)) (nx 364 ls (.int (hI h a i.toNatClampNeg) :: r) h))) Q := G_unf rfl rfl
set_option maxRecDepth 100000 in
theorem g291_364 : G d 291 364 ls st h Q ↔ GN d 291 364 ls h (pA 3 st fun as r => pR r fun a r => ck (r.length ≤ 4 ∧ arr h a 9) (cll 232 (.ref a :: as) r)) Q := G_unf rfl rfl
set_option maxRecDepth 100000 in
theorem g291_367 : G d 291 367 ls st h Q ↔ GN d 291 367 ls h (pII st fun x y r => br (x = y) (nx 1226 ls r h) (nx 370 ls r h)) Q := G_unf rfl rfl
set_option maxRecDepth 100000 in
theorem g291_370 : G d 291 370 ls st h Q ↔ GN d 291 370 ls h (nx 371 ls (.int (nI 0) :: st) h) Q := G_unf rfl rfl
set_option maxRecDepth 100000 in
theorem g291_371 : G d 291 371 ls st h Q ↔ GN d 291 371 ls h (pIe st fun x => ck (x = 0 ∨ x = 1) (rtn (some (.int x)))) Q := G_unf rfl rfl
set_option maxRecDepth 100000 in
theorem g291_372 : G d 291 372 ls st h Q ↔ GN d 291 372 ls h (ldR ls 1 fun a => nx 373 ls (.ref a :: st) h) Q := G_unf rfl rfl
set_option maxRecDepth 100000 in
theorem g291_373 : G d 291 373 ls st h Q ↔ GN d 291 373 ls h (ldR ls 0 fun a => nx 374 ls (.ref a :: st) h) Q := G_unf rfl rfl
set_option maxRecDepth 100000 in
theorem g291_374 : G d 291 374 ls st h Q ↔ GN d 291 374 ls h (ldI ls 3 fun x => nx 375 ls (.int x :: st) h) Q := G_unf rfl rfl
set_option maxRecDepth 100000 in
theorem g291_375 : G d 291 375 ls st h Q ↔ GN d 291 375 ls h (nx 376 ls (.int (nI 1) :: st) h) Q := G_unf rfl rfl
set_option maxRecDepth 100000 in
theorem g291_376 : G d 291 376 ls st h Q ↔ GN d 291 376 ls h (pII st fun x y r => nx 377 ls (.int (x + y) :: r) h) Q := G_unf rfl rfl
set_option maxRecDepth 100000 in
theorem g291_377 : G d 291 377 ls st h Q ↔ GN d 291 377 ls h (pRI st fun a i r => br (a = 1000003) (ck (inb i (hS h).1) (nx 378 ls (.int ((hS h).2 i.toNatClampNeg) :: r) h)) (ck (arr h a 10 ∧ inb i (hLn h a)) (nx 378 ls (.int (hI h a i.toNatClampNeg) :: r) h))) Q := G_unf rfl rfl
set_option maxRecDepth 100000 in
theorem g291_378 : G d 291 378 ls st h Q ↔ GN d 291 378 ls h (ldR ls 0 fun a => nx 379 ls (.ref a :: st) h) Q := G_unf rfl rfl
set_option maxRecDepth 100000 in
theorem g291_379 : G d 291 379 ls st h Q ↔ GN d 291 379 ls h (ldI ls 3 fun x => nx 380 ls (.int x :: st) h) Q := G_unf rfl rfl
set_option maxRecDepth 100000 in
theorem g291_380 : G d 291 380 ls st h Q ↔ GN d 291 380 ls h (nx 381 ls (.int (nI 2) :: st) h) Q := G_unf rfl rfl
set_option maxRecDepth 100000 in
theorem g291_381 : G d 291 381 ls st h Q ↔ GN d 291 381 ls h (pII st fun x y r => nx 382 ls (.int (x + y) :: r) h) Q := G_unf rfl rfl
set_option maxRecDepth 100000 in
theorem g291_382 : G d 291 382 ls st h Q ↔ GN d 291 382 ls h (pRI st fun a i r => br (a = 1000003) (ck (inb i (hS h).1) (nx 383 ls (.int ((hS h).2 i.toNatClampNeg) :: r) h)) (ck (arr h a 10 ∧ inb i (hLn h a)) (nx 383 ls (.int (hI h a i.toNatClampNeg) :: r) h))) Q := G_unf rfl rfl
set_option maxRecDepth 100000 in
theorem g291_383 : G d 291 383 ls st h Q ↔ GN d 291 383 ls h (pA 2 st fun as r => pR r fun a r => ck (r.length ≤ 4 ∧ arr h a 8) (cll 111 (.ref a :: as) r)) Q := G_unf rfl rfl
set_option maxRecDepth 100000 in
theorem g291_386 : G d 291 386 ls st h Q ↔ GN d 291 386 ls h (ldR ls 2 fun a => nx 387 ls (.ref a :: st) h) Q := G_unf rfl rfl
set_option maxRecDepth 100000 in
theorem g291_387 : G d 291 387 ls st h Q ↔ GN d 291 387 ls h (ldR ls 0 fun a => nx 388 ls (.ref a :: st) h) Q := G_unf rfl rfl
set_option maxRecDepth 100000 in
theorem g291_388 : G d 291 388 ls st h Q ↔ GN d 291 388 ls h (ldI ls 3 fun x => nx 389 ls (.int x :: st) h) Q := G_unf rfl rfl
set_option maxRecDepth 100000 in
theorem g291_389 : G d 291 389 ls st h Q ↔ GN d 291 389 ls h (nx 390 ls (.int (nI 1) :: st) h) Q := G_unf rfl rfl
set_option maxRecDepth 100000 in
theorem g291_390 : G d 291 390 ls st h Q ↔ GN d 291 390 ls h (pII st fun x y r => nx 391 ls (.int (x + y) :: r) h) Q := G_unf rfl rfl
set_option maxRecDepth 100000 in
theorem g291_391 : G d 291 391 ls st h Q ↔ GN d 291 391 ls h (pRI st fun a i r => br (a = 1000003) (ck (inb i (hS h).1) (nx 392 ls (.int ((hS h).2 i.toNatClampNeg) :: r) h)) (ck (arr h a 10 ∧ inb i (hLn h a)) (nx 392 ls (.int (hI h a i.toNatClampNeg) :: r) h))) Q := G_unf rfl rfl
set_option maxRecDepth 100000 in
theorem g291_392 : G d 291 392 ls st h Q ↔ GN d 291 392 ls h (ldR ls 0 fun a => nx 393 ls (.ref a :: st) h) Q := G_unf rfl rfl
set_option maxRecDepth 100000 in
theorem g291_393 : G d 291 393 ls st h Q ↔ GN d 291 393 ls h (ldI ls 3 fun x => nx 394 ls (.int x :: st) h) Q := G_unf rfl rfl
set_option maxRecDepth 100000 in
theorem g291_394 : G d 291 394 ls st h Q ↔ GN d 291 394 ls h (nx 395 ls (.int (nI 2) :: st) h) Q := G_unf rfl rfl
set_option maxRecDepth 100000 in
theorem g291_395 : G d 291 395 ls st h Q ↔ GN d 291 395 ls h (pII st fun x y r => nx 396 ls (.int (x + y) :: r) h) Q := G_unf rfl rfl
set_option maxRecDepth 100000 in
theorem g291_396 : G d 291 396 ls st h Q ↔ GN d 291 396 ls h (pRI st fun a i r => br (a = 1000003) (ck (inb i (hS h).1) (nx 397 ls (.int ((hS h).2 i.toNatClampNeg) :: r) h)) (ck (arr h a 10 ∧ inb i (hLn h a)) (nx 397 ls (.int (hI h a i.toNatClampNeg) :: r) h))) Q := G_unf rfl rfl
set_option maxRecDepth 100000 in
theorem g291_397 : G d 291 397 ls st h Q ↔ GN d 291 397 ls h (pA 2 st fun as r => pR r fun a r => ck (r.length ≤ 4 ∧ arr h a 9) (cll 233 (.ref a :: as) r)) Q := G_unf rfl rfl
set_option maxRecDepth 100000 in
theorem g291_400 : G d 291 400 ls st h Q ↔ GN d 291 400 ls h (pII st fun x y r => br (x = y) (nx 1226 ls r h) (nx 403 ls r h)) Q := G_unf rfl rfl
set_option maxRecDepth 100000 in
theorem g291_403 : G d 291 403 ls st h Q ↔ GN d 291 403 ls h (nx 404 ls (.int (nI 0) :: st) h) Q := G_unf rfl rfl
set_option maxRecDepth 100000 in
theorem g291_404 : G d 291 404 ls st h Q ↔ GN d 291 404 ls h (pIe st fun x => ck (x = 0 ∨ x = 1) (rtn (some (.int x)))) Q := G_unf rfl rfl
set_option maxRecDepth 100000 in
theorem g291_405 : G d 291 405 ls st h Q ↔ GN d 291 405 ls h (ldR ls 1 fun a => nx 406 ls (.ref a :: st) h) Q := G_unf rfl rfl
set_option maxRecDepth 100000 in
theorem g291_406 : G d 291 406 ls st h Q ↔ GN d 291 406 ls h (ldR ls 0 fun a => nx 407 ls (.ref a :: st) h) Q := G_unf rfl rfl
set_option maxRecDepth 100000 in
theorem g291_407 : G d 291 407 ls st h Q ↔ GN d 291 407 ls h (ldI ls 3 fun x => nx 408 ls (.int x :: st) h) Q := G_unf rfl rfl
set_option maxRecDepth 100000 in
theorem g291_408 : G d 291 408 ls st h Q ↔ GN d 291 408 ls h (nx 409 ls (.int (nI 1) :: st) h) Q := G_unf rfl rfl
set_option maxRecDepth 100000 in
theorem g291_409 : G d 291 409 ls st h Q ↔ GN d 291 409 ls h (pII st fun x y r => nx 410 ls (.int (x + y) :: r) h) Q := G_unf rfl rfl
set_option maxRecDepth 100000 in
theorem g291_410 : G d 291 410 ls st h Q ↔ GN d 291 410 ls h (pRI st fun a i r => br (a = 1000003) (ck (inb i (hS h).1) (nx 411 ls (.int ((hS h).2 i.toNatClampNeg) :: r) h)) (ck (arr h a 10 ∧ inb i (hLn h a)) (nx 411 ls (.int (hI h a i.toNatClampNeg) :: r) h))) Q := G_unf rfl rfl
set_option maxRecDepth 100000 in
theorem g291_411 : G d 291 411 ls st h Q ↔ GN d 291 411 ls h (ldR ls 0 fun a => nx 412 ls (.ref a :: st) h) Q := G_unf rfl rfl
set_option maxRecDepth 100000 in
theorem g291_412 : G d 291 412 ls st h Q ↔ GN d 291 412 ls h (ldI ls 3 fun x => nx 413 ls (.int x :: st) h) Q := G_unf rfl rfl
set_option maxRecDepth 100000 in
theorem g291_413 : G d 291 413 ls st h Q ↔ GN d 291 413 ls h (nx 414 ls (.int (nI 2) :: st) h) Q := G_unf rfl rfl
set_option maxRecDepth 100000 in
theorem g291_414 : G d 291 414 ls st h Q ↔ GN d 291 414 ls h (pII st fun x y r => nx 415 ls (.int (x + y) :: r) h) Q := G_unf rfl rfl
set_option maxRecDepth 100000 in
theorem g291_415 : G d 291 415 ls st h Q ↔ GN d 291 415 ls h (pRI st fun a i r => br (a = 1000003) (ck (inb i (hS h).1) (nx 416 ls (.int ((hS h).2 i.toNatClampNeg) :: r) h)) (ck (arr h a 10 ∧ inb i (hLn h a)) (nx 416 ls (.int (hI h a i.toNatClampNeg) :: r) h))) Q := G_unf rfl rfl
set_option maxRecDepth 100000 in
theorem g291_416 : G d 291 416 ls st h Q ↔ GN d 291 416 ls h (pA 2 st fun as r => pR r fun a r => ck (r.length ≤ 4 ∧ arr h a 8) (cll 112 (.ref a :: as) r)) Q := G_unf rfl rfl
set_option maxRecDepth 100000 in
theorem g291_419 : G d 291 419 ls st h Q ↔ GN d 291 419 ls h (ldR ls 2 fun a => nx 420 ls (.ref a :: st) h) Q := G_unf rfl rfl
set_option maxRecDepth 100000 in
theorem g291_420 : G d 291 420 ls st h Q ↔ GN d 291 420 ls h (ldR ls 0 fun a => nx 421 ls (.ref a :: st) h) Q := G_unf rfl rfl
set_option maxRecDepth 100000 in
theorem g291_421 : G d 291 421 ls st h Q ↔ GN d 291 421 ls h (ldI ls 3 fun x => nx 422 ls (.int x :: st) h) Q := G_unf rfl rfl
set_option maxRecDepth 100000 in
theorem g291_422 : G d 291 422 ls st h Q ↔ GN d 291 422 ls h (nx 423 ls (.int (nI 1) :: st) h) Q := G_unf rfl rfl
set_option maxRecDepth 100000 in
theorem g291_423 : G d 291 423 ls st h Q ↔ GN d 291 423 ls h (pII st fun x y r => nx 424 ls (.int (x + y) :: r) h) Q := G_unf rfl rfl
set_option maxRecDepth 100000 in
theorem g291_424 : G d 291 424 ls st h Q ↔ GN d 291 424 ls h (pRI st fun a i r => br (a = 1000003) (ck (inb i (hS h).1) (nx 425 ls (.int ((hS h).2 i.toNatClampNeg) :: r) h)) (ck (arr h a 10 ∧ inb i (hLn h a)) (nx 425 ls (.int (hI h a i.toNatClampNeg) :: r) h))) Q := G_unf rfl rfl
set_option maxRecDepth 100000 in
theorem g291_425 : G d 291 425 ls st h Q ↔ GN d 291 425 ls h (ldR ls 0 fun a => nx 426 ls (.ref a :: st) h) Q := G_unf rfl rfl
set_option maxRecDepth 100000 in
theorem g291_426 : G d 291 426 ls st h Q ↔ GN d 291 426 ls h (ldI ls 3 fun x => nx 427 ls (.int x :: st) h) Q := G_unf rfl rfl
set_option maxRecDepth 100000 in
theorem g291_427 : G d 291 427 ls st h Q ↔ GN d 291 427 ls h (nx 428 ls (.int (nI 2) :: st) h) Q := G_unf rfl rfl
set_option maxRecDepth 100000 in
theorem g291_428 : G d 291 428 ls st h Q ↔ GN d 291 428 ls h (pII st fun x y r => nx 429 ls (.int (x + y) :: r) h) Q := G_unf rfl rfl
set_option maxRecDepth 100000 in
theorem g291_429 : G d 291 429 ls st h Q ↔ GN d 291 429 ls h (pRI st fun a i r => br (a = 1000003) (ck (inb i (hS h).1) (nx 430 ls (.int ((hS h).2 i.toNatClampNeg) :: r) h)) (ck (arr h a 10 ∧ inb i (hLn h a)) (nx 430 ls (.int (hI h a i.toNatClampNeg) :: r) h))) Q := G_unf rfl rfl
set_option maxRecDepth 100000 in
theorem g291_430 : G d 291 430 ls st h Q ↔ GN d 291 430 ls h (pA 2 st fun as r => pR r fun a r => ck (r.length ≤ 4 ∧ arr h a 9) (cll 234 (.ref a :: as) r)) Q := G_unf rfl rfl
set_option maxRecDepth 100000 in
theorem g291_433 : G d 291 433 ls st h Q ↔ GN d 291 433 ls h (pII st fun x y r => br (x = y) (nx 1226 ls r h) (nx 436 ls r h)) Q := G_unf rfl rfl
set_option maxRecDepth 100000 in
theorem g291_436 : G d 291 436 ls st h Q ↔ GN d 291 436 ls h (nx 437 ls (.int (nI 0) :: st) h) Q := G_unf rfl rfl
set_option maxRecDepth 100000 in
theorem g291_437 : G d 291 437 ls st h Q ↔ GN d 291 437 ls h (pIe st fun x => ck (x = 0 ∨ x = 1) (rtn (some (.int x)))) Q := G_unf rfl rfl
set_option maxRecDepth 100000 in
theorem g291_438 : G d 291 438 ls st h Q ↔ GN d 291 438 ls h (ldR ls 1 fun a => nx 439 ls (.ref a :: st) h) Q := G_unf rfl rfl
set_option maxRecDepth 100000 in
theorem g291_439 : G d 291 439 ls st h Q ↔ GN d 291 439 ls h (ldR ls 0 fun a => nx 440 ls (.ref a :: st) h) Q := G_unf rfl rfl
set_option maxRecDepth 100000 in
theorem g291_440 : G d 291 440 ls st h Q ↔ GN d 291 440 ls h (ldI ls 3 fun x => nx 441 ls (.int x :: st) h) Q := G_unf rfl rfl
set_option maxRecDepth 100000 in
theorem g291_441 : G d 291 441 ls st h Q ↔ GN d 291 441 ls h (nx 442 ls (.int (nI 1) :: st) h) Q := G_unf rfl rfl
set_option maxRecDepth 100000 in
theorem g291_442 : G d 291 442 ls st h Q ↔ GN d 291 442 ls h (pII st fun x y r => nx 443 ls (.int (x + y) :: r) h) Q := G_unf rfl rfl
set_option maxRecDepth 100000 in
theorem g291_443 : G d 291 443 ls st h Q ↔ GN d 291 443 ls h (pRI st fun a i r => br (a = 1000003) (ck (inb i (hS h).1) (nx 444 ls (.int ((hS h).2 i.toNatClampNeg) :: r) h)) (ck (arr h a 10 ∧ inb i (hLn h a)) (nx 444 ls (.int (hI h a i.toNatClampNeg) :: r) h))) Q := G_unf rfl rfl
set_option maxRecDepth 100000 in
theorem g291_444 : G d 291 444 ls st h Q ↔ GN d 291 444 ls h (ldR ls 0 fun a => nx 445 ls (.ref a :: st) h) Q := G_unf rfl rfl
set_option maxRecDepth 100000 in
theorem g291_445 : G d 291 445 ls st h Q ↔ GN d 291 445 ls h (ldI ls 3 fun x => nx 446 ls (.int x :: st) h) Q := G_unf rfl rfl
set_option maxRecDepth 100000 in
theorem g291_446 : G d 291 446 ls st h Q ↔ GN d 291 446 ls h (nx 447 ls (.int (nI 2) :: st) h) Q := G_unf rfl rfl
set_option maxRecDepth 100000 in
theorem g291_447 : G d 291 447 ls st h Q ↔ GN d 291 447 ls h (pII st fun x y r => nx 448 ls (.int (x + y) :: r) h) Q := G_unf rfl rfl
set_option maxRecDepth 100000 in
theorem g291_448 : G d 291 448 ls st h Q ↔ GN d 291 448 ls h (pRI st fun a i r => br (a = 1000003) (ck (inb i (hS h).1) (nx 449 ls (.int ((hS h).2 i.toNatClampNeg) :: r) h)) (ck (arr h a 10 ∧ inb i (hLn h a)) (nx 449 ls (.int (hI h a i.toNatClampNeg) :: r) h))) Q := G_unf rfl rfl
set_option maxRecDepth 100000 in
theorem g291_449 : G d 291 449 ls st h Q ↔ GN d 291 449 ls h (pA 2 st fun as r => pR r fun a r => ck (r.length ≤ 4 ∧ arr h a 8) (cll 113 (.ref a :: as) r)) Q := G_unf rfl rfl
set_option maxRecDepth 100000 in
theorem g291_452 : G d 291 452 ls st h Q ↔ GN d 291 452 ls h (ldR ls 2 fun a => nx 453 ls (.ref a :: st) h) Q := G_unf rfl rfl
set_option maxRecDepth 100000 in
theorem g291_453 : G d 291 453 ls st h Q ↔ GN d 291 453 ls h (ldR ls 0 fun a => nx 454 ls (.ref a :: st) h) Q := G_unf rfl rfl
set_option maxRecDepth 100000 in
theorem g291_454 : G d 291 454 ls st h Q ↔ GN d 291 454 ls h (ldI ls 3 fun x => nx 455 ls (.int x :: st) h) Q := G_unf rfl rfl
set_option maxRecDepth 100000 in
theorem g291_455 : G d 291 455 ls st h Q ↔ GN d 291 455 ls h (nx 456 ls (.int (nI 1) :: st) h) Q := G_unf rfl rfl
set_option maxRecDepth 100000 in
theorem g291_456 : G d 291 456 ls st h Q ↔ GN d 291 456 ls h (pII st fun x y r => nx 457 ls (.int (x + y) :: r) h) Q := G_unf rfl rfl
set_option maxRecDepth 100000 in
theorem g291_457 : G d 291 457 ls st h Q ↔ GN d 291 457 ls h (pRI st fun a i r => br (a = 1000003) (ck (inb i (hS h).1) (nx 458 ls (.int ((hS h).2 i.toNatClampNeg) :: r) h)) (ck (arr h a 10 ∧ inb i (hLn h a)) (nx 458 ls (.int (hI h a i.toNatClampNeg) :: r) h))) Q := G_unf rfl rfl
set_option maxRecDepth 100000 in
theorem g291_458 : G d 291 458 ls st h Q ↔ GN d 291 458 ls h (ldR ls 0 fun a => nx 459 ls (.ref a :: st) h) Q := G_unf rfl rfl
set_option maxRecDepth 100000 in
theorem g291_459 : G d 291 459 ls st h Q ↔ GN d 291 459 ls h (ldI ls 3 fun x => nx 460 ls (.int x :: st) h) Q := G_unf rfl rfl
set_option maxRecDepth 100000 in
theorem g291_460 : G d 291 460 ls st h Q ↔ GN d 291 460 ls h (nx 461 ls (.int (nI 2) :: st) h) Q := G_unf rfl rfl
set_option maxRecDepth 100000 in
theorem g291_461 : G d 291 461 ls st h Q ↔ GN d 291 461 ls h (pII st fun x y r => nx 462 ls (.int (x + y) :: r) h) Q := G_unf rfl rfl
set_option maxRecDepth 100000 in
theorem g291_462 : G d 291 462 ls st h Q ↔ GN d 291 462 ls h (pRI st fun a i r => br (a = 1000003) (ck (inb i (hS h).1) (nx 463 ls (.int ((hS h).2 i.toNatClampNeg) :: r) h)) (ck (arr h a 10 ∧ inb i (hLn h a)) (nx 463 ls (.int (hI h a i.toNatClampNeg) :: r) h))) Q := G_unf rfl rfl
set_option maxRecDepth 100000 in
theorem g291_463 : G d 291 463 ls st h Q ↔ GN d 291 463 ls h (pA 2 st fun as r => pR r fun a r => ck (r.length ≤ 4 ∧ arr h a 9) (cll 235 (.ref a :: as) r)) Q := G_unf rfl rfl
set_option maxRecDepth 100000 in
theorem g291_466 : G d 291 466 ls st h Q ↔ GN d 291 466 ls h (pII st fun x y r => br (x = y) (nx 1226 ls r h) (nx 469 ls r h)) Q := G_unf rfl rfl
set_option maxRecDepth 100000 in
theorem g291_469 : G d 291 469 ls st h Q ↔ GN d 291 469 ls h (nx 470 ls (.int (nI 0) :: st) h) Q := G_unf rfl rfl
set_option maxRecDepth 100000 in
theorem g291_470 : G d 291 470 ls st h Q ↔ GN d 291 470 ls h (pIe st fun x => ck (x = 0 ∨ x = 1) (rtn (some (.int x)))) Q := G_unf rfl rfl
set_option maxRecDepth 100000 in
theorem g291_471 : G d 291 471 ls st h Q ↔ GN d 291 471 ls h (ldR ls 1 fun a => nx 472 ls (.ref a :: st) h) Q := G_unf rfl rfl
set_option maxRecDepth 100000 in
theorem g291_472 : G d 291 472 ls st h Q ↔ GN d 291 472 ls h (ldR ls 0 fun a => nx 473 ls (.ref a :: st) h) Q := G_unf rfl rfl
set_option maxRecDepth 100000 in
theorem g291_473 : G d 291 473 ls st h Q ↔ GN d 291 473 ls h (ldI ls 3 fun x => nx 474 ls (.int x :: st) h) Q := G_unf rfl rfl
set_option maxRecDepth 100000 in
theorem g291_474 : G d 291 474 ls st h Q ↔ GN d 291 474 ls h (nx 475 ls (.int (nI 1) :: st) h) Q := G_unf rfl rfl
set_option maxRecDepth 100000 in
theorem g291_475 : G d 291 475 ls st h Q ↔ GN d 291 475 ls h (pII st fun x y r => nx 476 ls (.int (x + y) :: r) h) Q := G_unf rfl rfl
set_option maxRecDepth 100000 in
theorem g291_476 : G d 291 476 ls st h Q ↔ GN d 291 476 ls h (pRI st fun a i r => br (a = 1000003) (ck (inb i (hS h).1) (nx 477 ls (.int ((hS h).2 i.toNatClampNeg) :: r) h)) (ck (arr h a 10 ∧ inb i (hLn h a)) (nx 477 ls (.int (hI h a i.toNatClampNeg) :: r) h))) Q := G_unf rfl rfl
set_option maxRecDepth 100000 in
theorem g291_477 : G d 291 477 ls st h Q ↔ GN d 291 477 ls h (ldR ls 0 fun a => nx 478 ls (.ref a :: st) h) Q := G_unf rfl rfl
set_option maxRecDepth 100000 in
theorem g291_478 : G d 291 478 ls st h Q ↔ GN d 291 478 ls h (ldI ls 3 fun x => nx 479 ls (.int x :: st) h) Q := G_unf rfl rfl
set_option maxRecDepth 100000 in
theorem g291_479 : G d 291 479 ls st h Q ↔ GN d 291 479 ls h (nx 480 ls (.int (nI 2) :: st) h) Q := G_unf rfl rfl
set_option maxRecDepth 100000 in
theorem g291_480 : G d 291 480 ls st h Q ↔ GN d 291 480 ls h (pII st fun x y r => nx 481 ls (.int (x + y) :: r) h) Q := G_unf rfl rfl
set_option maxRecDepth 100000 in
theorem g291_481 : G d 291 481 ls st h Q ↔ GN d 291 481 ls h (pRI st fun a i r => br (a = 1000003) (ck (inb i (hS h).1) (nx 482 ls (.int ((hS h).2 i.toNatClampNeg) :: r) h)) (ck (arr h a 10 ∧ inb i (hLn h a)) (nx 482 ls (.int (hI h a i.toNatClampNeg) :: r) h))) Q := G_unf rfl rfl
set_option maxRecDepth 100000 in
theorem g291_482 : G d 291 482 ls st h Q ↔ GN d 291 482 ls h (pA 2 st fun as r => pR r fun a r => ck (r.length ≤ 4 ∧ arr h a 8) (cll 114 (.ref a :: as) r)) Q := G_unf rfl rfl
set_option maxRecDepth 100000 in
theorem g291_485 : G d 291 485 ls st h Q ↔ GN d 291 485 ls h (ldR ls 2 fun a => nx 486 ls (.ref a :: st) h) Q := G_unf rfl rfl
set_option maxRecDepth 100000 in
theorem g291_486 : G d 291 486 ls st h Q ↔ GN d 291 486 ls h (ldR ls 0 fun a => nx 487 ls (.ref a :: st) h) Q := G_unf rfl rfl
set_option maxRecDepth 100000 in
theorem g291_487 : G d 291 487 ls st h Q ↔ GN d 291 487 ls h (ldI ls 3 fun x => nx 488 ls (.int x :: st) h) Q := G_unf rfl rfl
set_option maxRecDepth 100000 in
theorem g291_488 : G d 291 488 ls st h Q ↔ GN d 291 488 ls h (nx 489 ls (.int (nI 1) :: st) h) Q := G_unf rfl rfl
set_option maxRecDepth 100000 in
theorem g291_489 : G d 291 489 ls st h Q ↔ GN d 291 489 ls h (pII st fun x y r => nx 490 ls (.int (x + y) :: r) h) Q := G_unf rfl rfl
set_option maxRecDepth 100000 in
theorem g291_490 : G d 291 490 ls st h Q ↔ GN d 291 490 ls h (pRI st fun a i r => br (a = 1000003) (ck (inb i (hS h).1) (nx 491 ls (.int ((hS h).2 i.toNatClampNeg) :: r) h)) (ck (arr h a 10 ∧ inb i (hLn h a)) (nx 491 ls (.int (hI h a i.toNatClampNeg) :: r) h))) Q := G_unf rfl rfl
set_option maxRecDepth 100000 in
theorem g291_491 : G d 291 491 ls st h Q ↔ GN d 291 491 ls h (ldR ls 0 fun a => nx 492 ls (.ref a :: st) h) Q := G_unf rfl rfl
set_option maxRecDepth 100000 in
theorem g291_492 : G d 291 492 ls st h Q ↔ GN d 291 492 ls h (ldI ls 3 fun x => nx 493 ls (.int x :: st) h) Q := G_unf rfl rfl
set_option maxRecDepth 100000 in
theorem g291_493 : G d 291 493 ls st h Q ↔ GN d 291 493 ls h (nx 494 ls (.int (nI 2) :: st) h) Q := G_unf rfl rfl
set_option maxRecDepth 100000 in
theorem g291_494 : G d 291 494 ls st h Q ↔ GN d 291 494 ls h (pII st fun x y r => nx 495 ls (.int (x + y) :: r) h) Q := G_unf rfl rfl
set_option maxRecDepth 100000 in
theorem g291_495 : G d 291 495 ls st h Q ↔ GN d 291 495 ls h (pRI st fun a i r => br (a = 1000003) (ck (inb i (hS h).1) (nx 496 ls (.int ((hS h).2 i.toNatClampNeg) :: r) h)) (ck (arr h a 10 ∧ inb i (hLn h a)) (nx 496 ls (.int (hI h a i.toNatClampNeg) :: r) h))) Q := G_unf rfl rfl
set_option maxRecDepth 100000 in
theorem g291_496 : G d 291 496 ls st h Q ↔ GN d 291 496 ls h (pA 2 st fun as r => pR r fun a r => ck (r.length ≤ 4 ∧ arr h a 9) (cll 236 (.ref a :: as) r)) Q := G_unf rfl rfl
set_option maxRecDepth 100000 in
theorem g291_499 : G d 291 499 ls st h Q ↔ GN d 291 499 ls h (pII st fun x y r => br (x = y) (nx 1226 ls r h) (nx 502 ls r h)) Q := G_unf rfl rfl
set_option maxRecDepth 100000 in
theorem g291_502 : G d 291 502 ls st h Q ↔ GN d 291 502 ls h (nx 503 ls (.int (nI 0) :: st) h) Q := G_unf rfl rfl
set_option maxRecDepth 100000 in
theorem g291_503 : G d 291 503 ls st h Q ↔ GN d 291 503 ls h (pIe st fun x => ck (x = 0 ∨ x = 1) (rtn (some (.int x)))) Q := G_unf rfl rfl
set_option maxRecDepth 100000 in
theorem g291_504 : G d 291 504 ls st h Q ↔ GN d 291 504 ls h (ldR ls 1 fun a => nx 505 ls (.ref a :: st) h) Q := G_unf rfl rfl
set_option maxRecDepth 100000 in
theorem g291_505 : G d 291 505 ls st h Q ↔ GN d 291 505 ls h (ldR ls 0 fun a => nx 506 ls (.ref a :: st) h) Q := G_unf rfl rfl
set_option maxRecDepth 100000 in
theorem g291_506 : G d 291 506 ls st h Q ↔ GN d 291 506 ls h (ldI ls 3 fun x => nx 507 ls (.int x :: st) h) Q := G_unf rfl rfl
set_option maxRecDepth 100000 in
theorem g291_507 : G d 291 507 ls st h Q ↔ GN d 291 507 ls h (nx 508 ls (.int (nI 1) :: st) h) Q := G_unf rfl rfl
set_option maxRecDepth 100000 in
theorem g291_508 : G d 291 508 ls st h Q ↔ GN d 291 508 ls h (pII st fun x y r => nx 509 ls (.int (x + y) :: r) h) Q := G_unf rfl rfl
set_option maxRecDepth 100000 in
theorem g291_509 : G d 291 509 ls st h Q ↔ GN d 291 509 ls h (pRI st fun a i r => br (a = 1000003) (ck (inb i (hS h).1) (nx 510 ls (.int ((hS h).2 i.toNatClampNeg) :: r) h)) (ck (arr h a 10 ∧ inb i (hLn h a)) (nx 510 ls (.int (hI h a i.toNatClampNeg) :: r) h))) Q := G_unf rfl rfl
set_option maxRecDepth 100000 in
theorem g291_510 : G d 291 510 ls st h Q ↔ GN d 291 510 ls h (ldR ls 0 fun a => nx 511 ls (.ref a :: st) h) Q := G_unf rfl rfl
set_option maxRecDepth 100000 in
theorem g291_511 : G d 291 511 ls st h Q ↔ GN d 291 511 ls h (ldI ls 3 fun x => nx 512 ls (.int x :: st) h) Q := G_unf rfl rfl
set_option maxRecDepth 100000 in
theorem g291_512 : G d 291 512 ls st h Q ↔ GN d 291 512 ls h (nx 513 ls (.int (nI 2) :: st) h) Q := G_unf rfl rfl
set_option maxRecDepth 100000 in
theorem g291_513 : G d 291 513 ls st h Q ↔ GN d 291 513 ls h (pII st fun x y r => nx 514 ls (.int (x + y) :: r) h) Q := G_unf rfl rfl
set_option maxRecDepth 100000 in
theorem g291_514 : G d 291 514 ls st h Q ↔ GN d 291 514 ls h (pRI st fun a i r => br (a = 1000003) (ck (inb i (hS h).1) (nx 515 ls (.int ((hS h).2 i.toNatClampNeg) :: r) h)) (ck (arr h a 10 ∧ inb i (hLn h a)) (nx 515 ls (.int (hI h a i.toNatClampNeg) :: r) h))) Q := G_unf rfl rfl
set_option maxRecDepth 100000 in
theorem g291_515 : G d 291 515 ls st h Q ↔ GN d 291 515 ls h (ldR ls 0 fun a => nx 516 ls (.ref a :: st) h) Q := G_unf rfl rfl
set_option maxRecDepth 100000 in
theorem g291_516 : G d 291 516 ls st h Q ↔ GN d 291 516 ls h (ldI ls 3 fun x => nx 517 ls (.int x :: st) h) Q := G_unf rfl rfl
set_option maxRecDepth 100000 in
theorem g291_517 : G d 291 517 ls st h Q ↔ GN d 291 517 ls h (nx 518 ls (.int (nI 3) :: st) h) Q := G_unf rfl rfl
set_option maxRecDepth 100000 in
theorem g291_518 : G d 291 518 ls st h Q ↔ GN d 291 518 ls h (pII st fun x y r => nx 519 ls (.int (x + y) :: r) h) Q := G_unf rfl rfl
set_option maxRecDepth 100000 in
theorem g291_519 : G d 291 519 ls st h Q ↔ GN d 291 519 ls h (pRI st fun a i r => br (a = 1000003) (ck (inb i (hS h).1) (nx 520 ls (.int ((hS h).2 i.toNatClampNeg) :: r) h)) (ck (arr h a 10 ∧ inb i (hLn h a)) (nx 520 ls (.int (hI h a i.toNatClampNeg) :: r) h))) Q := G_unf rfl rfl
set_option maxRecDepth 100000 in
theorem g291_520 : G d 291 520 ls st h Q ↔ GN d 291 520 ls h (pA 3 st fun as r => pR r fun a r => ck (r.length ≤ 4 ∧ arr h a 8) (cll 115 (.ref a :: as) r)) Q := G_unf rfl rfl
set_option maxRecDepth 100000 in
theorem g291_523 : G d 291 523 ls st h Q ↔ GN d 291 523 ls h (ldR ls 2 fun a => nx 524 ls (.ref a :: st) h) Q := G_unf rfl rfl
set_option maxRecDepth 100000 in
theorem g291_524 : G d 291 524 ls st h Q ↔ GN d 291 524 ls h (ldR ls 0 fun a => nx 525 ls (.ref a :: st) h) Q := G_unf rfl rfl
set_option maxRecDepth 100000 in
theorem g291_525 : G d 291 525 ls st h Q ↔ GN d 291 525 ls h (ldI ls 3 fun x => nx 526 ls (.int x :: st) h) Q := G_unf rfl rfl
set_option maxRecDepth 100000 in
theorem g291_526 : G d 291 526 ls st h Q ↔ GN d 291 526 ls h (nx 527 ls (.int (nI 1) :: st) h) Q := G_unf rfl rfl
set_option maxRecDepth 100000 in
theorem g291_527 : G d 291 527 ls st h Q ↔ GN d 291 527 ls h (pII st fun x y r => nx 528 ls (.int (x + y) :: r) h) Q := G_unf rfl rfl
set_option maxRecDepth 100000 in
theorem g291_528 : G d 291 528 ls st h Q ↔ GN d 291 528 ls h (pRI st fun a i r => br (a = 1000003) (ck (inb i (hS h).1) (nx 529 ls (.int ((hS h).2 i.toNatClampNeg) :: r) h)) (ck (arr h a 10 ∧ inb i (hLn h a)) (nx 529 ls (.int (hI h a i.toNatClampNeg) :: r) h))) Q := G_unf rfl rfl
set_option maxRecDepth 100000 in
theorem g291_529 : G d 291 529 ls st h Q ↔ GN d 291 529 ls h (ldR ls 0 fun a => nx 530 ls (.ref a :: st) h) Q := G_unf rfl rfl
set_option maxRecDepth 100000 in
theorem g291_530 : G d 291 530 ls st h Q ↔ GN d 291 530 ls h (ldI ls 3 fun x => nx 531 ls (.int x :: st) h) Q := G_unf rfl rfl
set_option maxRecDepth 100000 in
theorem g291_531 : G d 291 531 ls st h Q ↔ GN d 291 531 ls h (nx 532 ls (.int (nI 2) :: st) h) Q := G_unf rfl rfl
set_option maxRecDepth 100000 in
theorem g291_532 : G d 291 532 ls st h Q ↔ GN d 291 532 ls h (pII st fun x y r => nx 533 ls (.int (x + y) :: r) h) Q := G_unf rfl rfl
set_option maxRecDepth 100000 in
theorem g291_533 : G d 291 533 ls st h Q ↔ GN d 291 533 ls h (pRI st fun a i r => br (a = 1000003) (ck (inb i (hS h).1) (nx 534 ls (.int ((hS h).2 i.toNatClampNeg) :: r) h)) (ck (arr h a 10 ∧ inb i (hLn h a)) (nx 534 ls (.int (hI h a i.toNatClampNeg) :: r) h))) Q := G_unf rfl rfl
set_option maxRecDepth 100000 in
theorem g291_534 : G d 291 534 ls st h Q ↔ GN d 291 534 ls h (ldR ls 0 fun a => nx 535 ls (.ref a :: st) h) Q := G_unf rfl rfl
set_option maxRecDepth 100000 in
theorem g291_535 : G d 291 535 ls st h Q ↔ GN d 291 535 ls h (ldI ls 3 fun x => nx 536 ls (.int x :: st) h) Q := G_unf rfl rfl
set_option maxRecDepth 100000 in
theorem g291_536 : G d 291 536 ls st h Q ↔ GN d 291 536 ls h (nx 537 ls (.int (nI 3) :: st) h) Q := G_unf rfl rfl
set_option maxRecDepth 100000 in
theorem g291_537 : G d 291 537 ls st h Q ↔ GN d 291 537 ls h (pII st fun x y r => nx 538 ls (.int (x + y) :: r) h) Q := G_unf rfl rfl
set_option maxRecDepth 100000 in
theorem g291_538 : G d 291 538 ls st h Q ↔ GN d 291 538 ls h (pRI st fun a i r => br (a = 1000003) (ck (inb i (hS h).1) (nx 539 ls (.int ((hS h).2 i.toNatClampNeg) :: r) h)) (ck (arr h a 10 ∧ inb i (hLn h a)) (nx 539 ls (.int (hI h a i.toNatClampNeg) :: r) h))) Q := G_unf rfl rfl
set_option maxRecDepth 100000 in
theorem g291_539 : G d 291 539 ls st h Q ↔ GN d 291 539 ls h (pA 3 st fun as r => pR r fun a r => ck (r.length ≤ 4 ∧ arr h a 9) (cll 237 (.ref a :: as) r)) Q := G_unf rfl rfl
set_option maxRecDepth 100000 in
theorem g291_542 : G d 291 542 ls st h Q ↔ GN d 291 542 ls h (pII st fun x y r => br (x = y) (nx 1226 ls r h) (nx 545 ls r h)) Q := G_unf rfl rfl
set_option maxRecDepth 100000 in
theorem g291_545 : G d 291 545 ls st h Q ↔ GN d 291 545 ls h (nx 546 ls (.int (nI 0) :: st) h) Q := G_unf rfl rfl
set_option maxRecDepth 100000 in
theorem g291_546 : G d 291 546 ls st h Q ↔ GN d 291 546 ls h (pIe st fun x => ck (x = 0 ∨ x = 1) (rtn (some (.int x)))) Q := G_unf rfl rfl
set_option maxRecDepth 100000 in
theorem g291_547 : G d 291 547 ls st h Q ↔ GN d 291 547 ls h (ldR ls 1 fun a => nx 548 ls (.ref a :: st) h) Q := G_unf rfl rfl
set_option maxRecDepth 100000 in
theorem g291_548 : G d 291 548 ls st h Q ↔ GN d 291 548 ls h (ldR ls 0 fun a => nx 549 ls (.ref a :: st) h) Q := G_unf rfl rfl
set_option maxRecDepth 100000 in
theorem g291_549 : G d 291 549 ls st h Q ↔ GN d 291 549 ls h (ldI ls 3 fun x => nx 550 ls (.int x :: st) h) Q := G_unf rfl rfl
set_option maxRecDepth 100000 in
theorem g291_550 : G d 291 550 ls st h Q ↔ GN d 291 550 ls h (nx 551 ls (.int (nI 1) :: st) h) Q := G_unf rfl rfl
set_option maxRecDepth 100000 in
theorem g291_551 : G d 291 551 ls st h Q ↔ GN d 291 551 ls h (pII st fun x y r => nx 552 ls (.int (x + y) :: r) h) Q := G_unf rfl rfl
set_option maxRecDepth 100000 in
theorem g291_552 : G d 291 552 ls st h Q ↔ GN d 291 552 ls h (pRI st fun a i r => br (a = 1000003) (ck (inb i (hS h).1) (nx 553 ls (.int ((hS h).2 i.toNatClampNeg) :: r) h)) (ck (arr h a 10 ∧ inb i (hLn h a)) (nx 553 ls (.int (hI h a i.toNatClampNeg) :: r) h))) Q := G_unf rfl rfl
set_option maxRecDepth 100000 in
theorem g291_553 : G d 291 553 ls st h Q ↔ GN d 291 553 ls h (ldR ls 0 fun a => nx 554 ls (.ref a :: st) h) Q := G_unf rfl rfl
set_option maxRecDepth 100000 in
theorem g291_554 : G d 291 554 ls st h Q ↔ GN d 291 554 ls h (ldI ls 3 fun x => nx 555 ls (.int x :: st) h) Q := G_unf rfl rfl
set_option maxRecDepth 100000 in
theorem g291_555 : G d 291 555 ls st h Q ↔ GN d 291 555 ls h (nx 556 ls (.int (nI 2) :: st) h) Q := G_unf rfl rfl
set_option maxRecDepth 100000 in
theorem g291_556 : G d 291 556 ls st h Q ↔ GN d 291 556 ls h (pII st fun x y r => nx 557 ls (.int (x + y) :: r) h) Q := G_unf rfl rfl
set_option maxRecDepth 100000 in
theorem g291_557 : G d 291 557 ls st h Q ↔ GN d 291 557 ls h (pRI st fun a i r => br (a = 1000003) (ck (inb i (hS h).1) (nx 558 ls (.int ((hS h).2 i.toNatClampNeg) :: r) h)) (ck (arr h a 10 ∧ inb i (hLn h a)) (nx 558 ls (.int (hI h a i.toNatClampNeg) :: r) h))) Q := G_unf rfl rfl
set_option maxRecDepth 100000 in
theorem g291_558 : G d 291 558 ls st h Q ↔ GN d 291 558 ls h (ldR ls 0 fun a => nx 559 ls (.ref a :: st) h) Q := G_unf rfl rfl
set_option maxRecDepth 100000 in
theorem g291_559 : G d 291 559 ls st h Q ↔ GN d 291 559 ls h (ldI ls 3 fun x => nx 560 ls (.int x :: st) h) Q := G_unf rfl rfl
set_option maxRecDepth 100000 in
theorem g291_560 : G d 291 560 ls st h Q ↔ GN d 291 560 ls h (nx 561 ls (.int (nI 3) :: st) h) Q := G_unf rfl rfl
set_option maxRecDepth 100000 in
theorem g291_561 : G d 291 561 ls st h Q ↔ GN d 291 561 ls h (pII st fun x y r => nx 562 ls (.int (x + y) :: r) h) Q := G_unf rfl rfl
set_option maxRecDepth 100000 in
theorem g291_562 : G d 291 562 ls st h Q ↔ GN d 291 562 ls h (pRI st fun a i r => br (a = 1000003) (ck (inb i (hS h).1) (nx 563 ls (.int ((hS h).2 i.toNatClampNeg) :: r) h)) (ck (arr h a 10 ∧ inb i (hLn h a)) (nx 563 ls (.int (hI h a i.toNatClampNeg) :: r) h))) Q := G_unf rfl rfl
set_option maxRecDepth 100000 in
theorem g291_563 : G d 291 563 ls st h Q ↔ GN d 291 563 ls h (pA 3 st fun as r => pR r fun a r => ck (r.length ≤ 4 ∧ arr h a 8) (cll 116 (.ref a :: as) r)) Q := G_unf rfl rfl
set_option maxRecDepth 100000 in
theorem g291_566 : G d 291 566 ls st h Q ↔ GN d 291 566 ls h (ldR ls 2 fun a => nx 567 ls (.ref a :: st) h) Q := G_unf rfl rfl
set_option maxRecDepth 100000 in
theorem g291_567 : G d 291 567 ls st h Q ↔ GN d 291 567 ls h (ldR ls 0 fun a => nx 568 ls (.ref a :: st) h) Q := G_unf rfl rfl
set_option maxRecDepth 100000 in
theorem g291_568 : G d 291 568 ls st h Q ↔ GN d 291 568 ls h (ldI ls 3 fun x => nx 569 ls (.int x :: st) h) Q := G_unf rfl rfl
set_option maxRecDepth 100000 in
theorem g291_569 : G d 291 569 ls st h Q ↔ GN d 291 569 ls h (nx 570 ls (.int (nI 1) :: st) h) Q := G_unf rfl rfl
set_option maxRecDepth 100000 in
theorem g291_570 : G d 291 570 ls st h Q ↔ GN d 291 570 ls h (pII st fun x y r => nx 571 ls (.int (x + y) :: r) h) Q := G_unf rfl rfl
set_option maxRecDepth 100000 in
theorem g291_571 : G d 291 571 ls st h Q ↔ GN d 291 571 ls h (pRI st fun a i r => br (a = 1000003) (ck (inb i (hS h).1) (nx 572 ls (.int ((hS h).2 i.toNatClampNeg) :: r) h)) (ck (arr h a 10 ∧ inb i (hLn h a)) (nx 572 ls (.int (hI h a i.toNatClampNeg) :: r) h))) Q := G_unf rfl rfl
set_option maxRecDepth 100000 in
theorem g291_572 : G d 291 572 ls st h Q ↔ GN d 291 572 ls h (ldR ls 0 fun a => nx 573 ls (.ref a :: st) h) Q := G_unf rfl rfl
set_option maxRecDepth 100000 in
theorem g291_573 : G d 291 573 ls st h Q ↔ GN d 291 573 ls h (ldI ls 3 fun x => nx 574 ls (.int x :: st) h) Q := G_unf rfl rfl
set_option maxRecDepth 100000 in
theorem g291_574 : G d 291 574 ls st h Q ↔ GN d 291 574 ls h (nx 575 ls (.int (nI 2) :: st) h) Q := G_unf rfl rfl
set_option maxRecDepth 100000 in
theorem g291_575 : G d 291 575 ls st h Q ↔ GN d 291 575 ls h (pII st fun x y r => nx 576 ls (.int (x + y) :: r) h) Q := G_unf rfl rfl
set_option maxRecDepth 100000 in
theorem g291_576 : G d 291 576 ls st h Q ↔ GN d 291 576 ls h (pRI st fun a i r => br (a = 1000003) (ck (inb i (hS h).1) (nx 577 ls (.int ((hS h).2 i.toNatClampNeg) :: r) h)) (ck (arr h a 10 ∧ inb i (hLn h a)) (nx 577 ls (.int (hI h a i.toNatClampNeg) :: r) h))) Q := G_unf rfl rfl
set_option maxRecDepth 100000 in
theorem g291_577 : G d 291 577 ls st h Q ↔ GN d 291 577 ls h (ldR ls 0 fun a => nx 578 ls (.ref a :: st) h) Q := G_unf rfl rfl
set_option maxRecDepth 100000 in
theorem g291_578 : G d 291 578 ls st h Q ↔ GN d 291 578 ls h (ldI ls 3 fun x => nx 579 ls (.int x :: st) h) Q := G_unf rfl rfl
set_option maxRecDepth 100000 in
theorem g291_579 : G d 291 579 ls st h Q ↔ GN d 291 579 ls h (nx 580 ls (.int (nI 3) :: st) h) Q := G_unf rfl rfl
set_option maxRecDepth 100000 in
theorem g291_580 : G d 291 580 ls st h Q ↔ GN d 291 580 ls h (pII st fun x y r => nx 581 ls (.int (x + y) :: r) h) Q := G_unf rfl rfl
set_option maxRecDepth 100000 in
theorem g291_581 : G d 291 581 ls st h Q ↔ GN d 291 581 ls h (pRI st fun a i r => br (a = 1000003) (ck (inb i (hS h).1) (nx 582 ls (.int ((hS h).2 i.toNatClampNeg) :: r) h)) (ck (arr h a 10 ∧ inb i (hLn h a)) (nx 582 ls (.int (hI h a i.toNatClampNeg) :: r) h))) Q := G_unf rfl rfl
set_option maxRecDepth 100000 in
theorem g291_582 : G d 291 582 ls st h Q ↔ GN d 291 582 ls h (pA 3 st fun as r => pR r fun a r => ck (r.length ≤ 4 ∧ arr h a 9) (cll 238 (.ref a :: as) r)) Q := G_unf rfl rfl
set_option maxRecDepth 100000 in
theorem g291_585 : G d 291 585 ls st h Q ↔ GN d 291 585 ls h (pII st fun x y r => br (x = y) (nx 1226 ls r h) (nx 588 ls r h)) Q := G_unf rfl rfl
set_option maxRecDepth 100000 in
theorem g291_588 : G d 291 588 ls st h Q ↔ GN d 291 588 ls h (nx 589 ls (.int (nI 0) :: st) h) Q := G_unf rfl rfl
set_option maxRecDepth 100000 in
theorem g291_589 : G d 291 589 ls st h Q ↔ GN d 291 589 ls h (pIe st fun x => ck (x = 0 ∨ x = 1) (rtn (some (.int x)))) Q := G_unf rfl rfl
set_option maxRecDepth 100000 in
theorem g291_590 : G d 291 590 ls st h Q ↔ GN d 291 590 ls h (ldR ls 1 fun a => nx 591 ls (.ref a :: st) h) Q := G_unf rfl rfl
set_option maxRecDepth 100000 in
theorem g291_591 : G d 291 591 ls st h Q ↔ GN d 291 591 ls h (ldR ls 0 fun a => nx 592 ls (.ref a :: st) h) Q := G_unf rfl rfl
set_option maxRecDepth 100000 in
theorem g291_592 : G d 291 592 ls st h Q ↔ GN d 291 592 ls h (ldI ls 3 fun x => nx 593 ls (.int x :: st) h) Q := G_unf rfl rfl
set_option maxRecDepth 100000 in
theorem g291_593 : G d 291 593 ls st h Q ↔ GN d 291 593 ls h (nx 594 ls (.int (nI 1) :: st) h) Q := G_unf rfl rfl
set_option maxRecDepth 100000 in
theorem g291_594 : G d 291 594 ls st h Q ↔ GN d 291 594 ls h (pII st fun x y r => nx 595 ls (.int (x + y) :: r) h) Q := G_unf rfl rfl
set_option maxRecDepth 100000 in
theorem g291_595 : G d 291 595 ls st h Q ↔ GN d 291 595 ls h (pRI st fun a i r => br (a = 1000003) (ck (inb i (hS h).1) (nx 596 ls (.int ((hS h).2 i.toNatClampNeg) :: r) h)) (ck (arr h a 10 ∧ inb i (hLn h a)) (nx 596 ls (.int (hI h a i.toNatClampNeg) :: r) h))) Q := G_unf rfl rfl
set_option maxRecDepth 100000 in
theorem g291_596 : G d 291 596 ls st h Q ↔ GN d 291 596 ls h (ldR ls 0 fun a => nx 597 ls (.ref a :: st) h) Q := G_unf rfl rfl
set_option maxRecDepth 100000 in
theorem g291_597 : G d 291 597 ls st h Q ↔ GN d 291 597 ls h (ldI ls 3 fun x => nx 598 ls (.int x :: st) h) Q := G_unf rfl rfl
set_option maxRecDepth 100000 in
theorem g291_598 : G d 291 598 ls st h Q ↔ GN d 291 598 ls h (nx 599 ls (.int (nI 2) :: st) h) Q := G_unf rfl rfl
set_option maxRecDepth 100000 in
theorem g291_599 : G d 291 599 ls st h Q ↔ GN d 291 599 ls h (pII st fun x y r => nx 600 ls (.int (x + y) :: r) h) Q := G_unf rfl rfl
set_option maxRecDepth 100000 in
theorem g291_600 : G d 291 600 ls st h Q ↔ GN d 291 600 ls h (pRI st fun a i r => br (a = 1000003) (ck (inb i (hS h).1) (nx 601 ls (.int ((hS h).2 i.toNatClampNeg) :: r) h)) (ck (arr h a 10 ∧ inb i (hLn h a)) (nx 601 ls (.int (hI h a i.toNatClampNeg) :: r) h))) Q := G_unf rfl rfl
set_option maxRecDepth 100000 in
theorem g291_601 : G d 291 601 ls st h Q ↔ GN d 291 601 ls h (pA 2 st fun as r => pR r fun a r => ck (r.length ≤ 4 ∧ arr h a 8) (cll 117 (.ref a :: as) r)) Q := G_unf rfl rfl
set_option maxRecDepth 100000 in
theorem g291_604 : G d 291 604 ls st h Q ↔ GN d 291 604 ls h (ldR ls 2 fun a => nx 605 ls (.ref a :: st) h) Q := G_unf rfl rfl
set_option maxRecDepth 100000 in
theorem g291_605 : G d 291 605 ls st h Q ↔ GN d 291 605 ls h (ldR ls 0 fun a => nx 606 ls (.ref a :: st) h) Q := G_unf rfl rfl
set_option maxRecDepth 100000 in
theorem g291_606 : G d 291 606 ls st h Q ↔ GN d 291 606 ls h (ldI ls 3 fun x => nx 607 ls (.int x :: st) h) Q := G_unf rfl rfl
set_option maxRecDepth 100000 in
theorem g291_607 : G d 291 607 ls st h Q ↔ GN d 291 607 ls h (nx 608 ls (.int (nI 1) :: st) h) Q := G_unf rfl rfl
set_option maxRecDepth 100000 in
theorem g291_608 : G d 291 608 ls st h Q ↔ GN d 291 608 ls h (pII st fun x y r => nx 609 ls (.int (x + y) :: r) h) Q := G_unf rfl rfl
set_option maxRecDepth 100000 in
theorem g291_609 : G d 291 609 ls st h Q ↔ GN d 291 609 ls h (pRI st fun a i r => br (a = 1000003) (ck (inb i (hS h).1) (nx 610 ls (.int ((hS h).2 i.toNatClampNeg) :: r) h)) (ck (arr h a 10 ∧ inb i (hLn h a)) (nx 610 ls (.int (hI h a i.toNatClampNeg) :: r) h))) Q := G_unf rfl rfl
set_option maxRecDepth 100000 in
theorem g291_610 : G d 291 610 ls st h Q ↔ GN d 291 610 ls h (ldR ls 0 fun a => nx 611 ls (.ref a :: st) h) Q := G_unf rfl rfl
set_option maxRecDepth 100000 in
theorem g291_611 : G d 291 611 ls st h Q ↔ GN d 291 611 ls h (ldI ls 3 fun x => nx 612 ls (.int x :: st) h) Q := G_unf rfl rfl
set_option maxRecDepth 100000 in
theorem g291_612 : G d 291 612 ls st h Q ↔ GN d 291 612 ls h (nx 613 ls (.int (nI 2) :: st) h) Q := G_unf rfl rfl
set_option maxRecDepth 100000 in
theorem g291_613 : G d 291 613 ls st h Q ↔ GN d 291 613 ls h (pII st fun x y r => nx 614 ls (.int (x + y) :: r) h) Q := G_unf rfl rfl
set_option maxRecDepth 100000 in
theorem g291_614 : G d 291 614 ls st h Q ↔ GN d 291 614 ls h (pRI st fun a i r => br (a = 1000003) (ck (inb i (hS h).1) (nx 615 ls (.int ((hS h).2 i.toNatClampNeg) :: r) h)) (ck (arr h a 10 ∧ inb i (hLn h a)) (nx 615 ls (.int (hI h a i.toNatClampNeg) :: r) h))) Q := G_unf rfl rfl
set_option maxRecDepth 100000 in
theorem g291_615 : G d 291 615 ls st h Q ↔ GN d 291 615 ls h (pA 2 st fun as r => pR r fun a r => ck (r.length ≤ 4 ∧ arr h a 9) (cll 239 (.ref a :: as) r)) Q := G_unf rfl rfl
set_option maxRecDepth 100000 in
theorem g291_618 : G d 291 618 ls st h Q ↔ GN d 291 618 ls h (pII st fun x y r => br (x = y) (nx 1226 ls r h) (nx 621 ls r h)) Q := G_unf rfl rfl
set_option maxRecDepth 100000 in
theorem g291_621 : G d 291 621 ls st h Q ↔ GN d 291 621 ls h (nx 622 ls (.int (nI 0) :: st) h) Q := G_unf rfl rfl
set_option maxRecDepth 100000 in
theorem g291_622 : G d 291 622 ls st h Q ↔ GN d 291 622 ls h (pIe st fun x => ck (x = 0 ∨ x = 1) (rtn (some (.int x)))) Q := G_unf rfl rfl
set_option maxRecDepth 100000 in
theorem g291_623 : G d 291 623 ls st h Q ↔ GN d 291 623 ls h (ldR ls 1 fun a => nx 624 ls (.ref a :: st) h) Q := G_unf rfl rfl
set_option maxRecDepth 100000 in
theorem g291_624 : G d 291 624 ls st h Q ↔ GN d 291 624 ls h (ldR ls 0 fun a => nx 625 ls (.ref a :: st) h) Q := G_unf rfl rfl
set_option maxRecDepth 100000 in
theorem g291_625 : G d 291 625 ls st h Q ↔ GN d 291 625 ls h (ldI ls 3 fun x => nx 626 ls (.int x :: st) h) Q := G_unf rfl rfl
set_option maxRecDepth 100000 in
theorem g291_626 : G d 291 626 ls st h Q ↔ GN d 291 626 ls h (nx 627 ls (.int (nI 1) :: st) h) Q := G_unf rfl rfl
set_option maxRecDepth 100000 in
theorem g291_627 : G d 291 627 ls st h Q ↔ GN d 291 627 ls h (pII st fun x y r => nx 628 ls (.int (x + y) :: r) h) Q := G_unf rfl rfl
set_option maxRecDepth 100000 in
theorem g291_628 : G d 291 628 ls st h Q ↔ GN d 291 628 ls h (pRI st fun a i r => br (a = 1000003) (ck (inb i (hS h).1) (nx 629 ls (.int ((hS h).2 i.toNatClampNeg) :: r) h)) (ck (arr h a 10 ∧ inb i (hLn h a)) (nx 629 ls (.int (hI h a i.toNatClampNeg) :: r) h))) Q := G_unf rfl rfl
set_option maxRecDepth 100000 in
theorem g291_629 : G d 291 629 ls st h Q ↔ GN d 291 629 ls h (ldR ls 0 fun a => nx 630 ls (.ref a :: st) h) Q := G_unf rfl rfl
set_option maxRecDepth 100000 in
theorem g291_630 : G d 291 630 ls st h Q ↔ GN d 291 630 ls h (ldI ls 3 fun x => nx 631 ls (.int x :: st) h) Q := G_unf rfl rfl
set_option maxRecDepth 100000 in
theorem g291_631 : G d 291 631 ls st h Q ↔ GN d 291 631 ls h (nx 632 ls (.int (nI 2) :: st) h) Q := G_unf rfl rfl
set_option maxRecDepth 100000 in
theorem g291_632 : G d 291 632 ls st h Q ↔ GN d 291 632 ls h (pII st fun x y r => nx 633 ls (.int (x + y) :: r) h) Q := G_unf rfl rfl
set_option maxRecDepth 100000 in
theorem g291_633 : G d 291 633 ls st h Q ↔ GN d 291 633 ls h (pRI st fun a i r => br (a = 1000003) (ck (inb i (hS h).1) (nx 634 ls (.int ((hS h).2 i.toNatClampNeg) :: r) h)) (ck (arr h a 10 ∧ inb i (hLn h a)) (nx 634 ls (.int (hI h a i.toNatClampNeg) :: r) h))) Q := G_unf rfl rfl
set_option maxRecDepth 100000 in
theorem g291_634 : G d 291 634 ls st h Q ↔ GN d 291 634 ls h (pA 2 st fun as r => pR r fun a r => ck (r.length ≤ 4 ∧ arr h a 8) (cll 118 (.ref a :: as) r)) Q := G_unf rfl rfl
set_option maxRecDepth 100000 in
theorem g291_637 : G d 291 637 ls st h Q ↔ GN d 291 637 ls h (ldR ls 2 fun a => nx 638 ls (.ref a :: st) h) Q := G_unf rfl rfl
set_option maxRecDepth 100000 in
theorem g291_638 : G d 291 638 ls st h Q ↔ GN d 291 638 ls h (ldR ls 0 fun a => nx 639 ls (.ref a :: st) h) Q := G_unf rfl rfl
set_option maxRecDepth 100000 in
theorem g291_639 : G d 291 639 ls st h Q ↔ GN d 291 639 ls h (ldI ls 3 fun x => nx 640 ls (.int x :: st) h) Q := G_unf rfl rfl
set_option maxRecDepth 100000 in
theorem g291_640 : G d 291 640 ls st h Q ↔ GN d 291 640 ls h (nx 641 ls (.int (nI 1) :: st) h) Q := G_unf rfl rfl
set_option maxRecDepth 100000 in
theorem g291_641 : G d 291 641 ls st h Q ↔ GN d 291 641 ls h (pII st fun x y r => nx 642 ls (.int (x + y) :: r) h) Q := G_unf rfl rfl
set_option maxRecDepth 100000 in
theorem g291_642 : G d 291 642 ls st h Q ↔ GN d 291 642 ls h (pRI st fun a i r => br (a = 1000003) (ck (inb i (hS h).1) (nx 643 ls (.int ((hS h).2 i.toNatClampNeg) :: r) h)) (ck (arr h a 10 ∧ inb i (hLn h a)) (nx 643 ls (.int (hI h a i.toNatClampNeg) :: r) h))) Q := G_unf rfl rfl
set_option maxRecDepth 100000 in
theorem g291_643 : G d 291 643 ls st h Q ↔ GN d 291 643 ls h (ldR ls 0 fun a => nx 644 ls (.ref a :: st) h) Q := G_unf rfl rfl
set_option maxRecDepth 100000 in
theorem g291_644 : G d 291 644 ls st h Q ↔ GN d 291 644 ls h (ldI ls 3 fun x => nx 645 ls (.int x :: st) h) Q := G_unf rfl rfl
set_option maxRecDepth 100000 in
theorem g291_645 : G d 291 645 ls st h Q ↔ GN d 291 645 ls h (nx 646 ls (.int (nI 2) :: st) h) Q := G_unf rfl rfl
set_option maxRecDepth 100000 in
theorem g291_646 : G d 291 646 ls st h Q ↔ GN d 291 646 ls h (pII st fun x y r => nx 647 ls (.int (x + y) :: r) h) Q := G_unf rfl rfl
set_option maxRecDepth 100000 in
theorem g291_647 : G d 291 647 ls st h Q ↔ GN d 291 647 ls h (pRI st fun a i r => br (a = 1000003) (ck (inb i (hS h).1) (nx 648 ls (.int ((hS h).2 i.toNatClampNeg) :: r) h)) (ck (arr h a 10 ∧ inb i (hLn h a)) (nx 648 ls (.int (hI h a i.toNatClampNeg) :: r) h))) Q := G_unf rfl rfl
set_option maxRecDepth 100000 in
theorem g291_648 : G d 291 648 ls st h Q ↔ GN d 291 648 ls h (pA 2 st fun as r => pR r fun a r => ck (r.length ≤ 4 ∧ arr h a 9) (cll 241 (.ref a :: as) r)) Q := G_unf rfl rfl
set_option maxRecDepth 100000 in
theorem g291_651 : G d 291 651 ls st h Q ↔ GN d 291 651 ls h (pII st fun x y r => br (x = y) (nx 1226 ls r h) (nx 654 ls r h)) Q := G_unf rfl rfl
set_option maxRecDepth 100000 in
theorem g291_654 : G d 291 654 ls st h Q ↔ GN d 291 654 ls h (nx 655 ls (.int (nI 0) :: st) h) Q := G_unf rfl rfl
set_option maxRecDepth 100000 in
theorem g291_655 : G d 291 655 ls st h Q ↔ GN d 291 655 ls h (pIe st fun x => ck (x = 0 ∨ x = 1) (rtn (some (.int x)))) Q := G_unf rfl rfl
set_option maxRecDepth 100000 in
theorem g291_656 : G d 291 656 ls st h Q ↔ GN d 291 656 ls h (ldR ls 1 fun a => nx 657 ls (.ref a :: st) h) Q := G_unf rfl rfl
set_option maxRecDepth 100000 in
theorem g291_657 : G d 291 657 ls st h Q ↔ GN d 291 657 ls h (ldR ls 0 fun a => nx 658 ls (.ref a :: st) h) Q := G_unf rfl rfl
set_option maxRecDepth 100000 in
theorem g291_658 : G d 291 658 ls st h Q ↔ GN d 291 658 ls h (ldI ls 3 fun x => nx 659 ls (.int x :: st) h) Q := G_unf rfl rfl
set_option maxRecDepth 100000 in
theorem g291_659 : G d 291 659 ls st h Q ↔ GN d 291 659 ls h (nx 660 ls (.int (nI 1) :: st) h) Q := G_unf rfl rfl
set_option maxRecDepth 100000 in
theorem g291_660 : G d 291 660 ls st h Q ↔ GN d 291 660 ls h (pII st fun x y r => nx 661 ls (.int (x + y) :: r) h) Q := G_unf rfl rfl
set_option maxRecDepth 100000 in
theorem g291_661 : G d 291 661 ls st h Q ↔ GN d 291 661 ls h (pRI st fun a i r => br (a = 1000003) (ck (inb i (hS h).1) (nx 662 ls (.int ((hS h).2 i.toNatClampNeg) :: r) h)) (ck (arr h a 10 ∧ inb i (hLn h a)) (nx 662 ls (.int (hI h a i.toNatClampNeg) :: r) h))) Q := G_unf rfl rfl
set_option maxRecDepth 100000 in
theorem g291_662 : G d 291 662 ls st h Q ↔ GN d 291 662 ls h (pA 1 st fun as r => pR r fun a r => ck (r.length ≤ 4 ∧ arr h a 8) (cll 119 (.ref a :: as) r)) Q := G_unf rfl rfl
set_option maxRecDepth 100000 in
theorem g291_665 : G d 291 665 ls st h Q ↔ GN d 291 665 ls h (ldR ls 2 fun a => nx 666 ls (.ref a :: st) h) Q := G_unf rfl rfl
set_option maxRecDepth 100000 in
theorem g291_666 : G d 291 666 ls st h Q ↔ GN d 291 666 ls h (ldR ls 0 fun a => nx 667 ls (.ref a :: st) h) Q := G_unf rfl rfl
set_option maxRecDepth 100000 in
theorem g291_667 : G d 291 667 ls st h Q ↔ GN d 291 667 ls h (ldI ls 3 fun x => nx 668 ls (.int x :: st) h) Q := G_unf rfl rfl
set_option maxRecDepth 100000 in
theorem g291_668 : G d 291 668 ls st h Q ↔ GN d 291 668 ls h (nx 669 ls (.int (nI 1) :: st) h) Q := G_unf rfl rfl
set_option maxRecDepth 100000 in
theorem g291_669 : G d 291 669 ls st h Q ↔ GN d 291 669 ls h (pII st fun x y r => nx 670 ls (.int (x + y) :: r) h) Q := G_unf rfl rfl
set_option maxRecDepth 100000 in
theorem g291_670 : G d 291 670 ls st h Q ↔ GN d 291 670 ls h (pRI st fun a i r => br (a = 1000003) (ck (inb i (hS h).1) (nx 671 ls (.int ((hS h).2 i.toNatClampNeg) :: r) h)) (ck (arr h a 10 ∧ inb i (hLn h a)) (nx 671 ls (.int (hI h a i.toNatClampNeg) :: r) h))) Q := G_unf rfl rfl
set_option maxRecDepth 100000 in
theorem g291_671 : G d 291 671 ls st h Q ↔ GN d 291 671 ls h (pA 1 st fun as r => pR r fun a r => ck (r.length ≤ 4 ∧ arr h a 9) (cll 242 (.ref a :: as) r)) Q := G_unf rfl rfl
set_option maxRecDepth 100000 in
theorem g291_674 : G d 291 674 ls st h Q ↔ GN d 291 674 ls h (pII st fun x y r => br (x = y) (nx 1226 ls r h) (nx 677 ls r h)) Q := G_unf rfl rfl
set_option maxRecDepth 100000 in
theorem g291_677 : G d 291 677 ls st h Q ↔ GN d 291 677 ls h (nx 678 ls (.int (nI 0) :: st) h) Q := G_unf rfl rfl
set_option maxRecDepth 100000 in
theorem g291_678 : G d 291 678 ls st h Q ↔ GN d 291 678 ls h (pIe st fun x => ck (x = 0 ∨ x = 1) (rtn (some (.int x)))) Q := G_unf rfl rfl
set_option maxRecDepth 100000 in
theorem g291_679 : G d 291 679 ls st h Q ↔ GN d 291 679 ls h (ldR ls 1 fun a => nx 680 ls (.ref a :: st) h) Q := G_unf rfl rfl
set_option maxRecDepth 100000 in
theorem g291_680 : G d 291 680 ls st h Q ↔ GN d 291 680 ls h (ldR ls 0 fun a => nx 681 ls (.ref a :: st) h) Q := G_unf rfl rfl
set_option maxRecDepth 100000 in
theorem g291_681 : G d 291 681 ls st h Q ↔ GN d 291 681 ls h (ldI ls 3 fun x => nx 682 ls (.int x :: st) h) Q := G_unf rfl rfl
set_option maxRecDepth 100000 in
theorem g291_682 : G d 291 682 ls st h Q ↔ GN d 291 682 ls h (nx 683 ls (.int (nI 1) :: st) h) Q := G_unf rfl rfl
set_option maxRecDepth 100000 in
theorem g291_683 : G d 291 683 ls st h Q ↔ GN d 291 683 ls h (pII st fun x y r => nx 684 ls (.int (x + y) :: r) h) Q := G_unf rfl rfl
set_option maxRecDepth 100000 in
theorem g291_684 : G d 291 684 ls st h Q ↔ GN d 291 684 ls h (pRI st fun a i r => br (a = 1000003) (ck (inb i (hS h).1) (nx 685 ls (.int ((hS h).2 i.toNatClampNeg) :: r) h)) (ck (arr h a 10 ∧ inb i (hLn h a)) (nx 685 ls (.int (hI h a i.toNatClampNeg) :: r) h))) Q := G_unf rfl rfl
set_option maxRecDepth 100000 in
theorem g291_685 : G d 291 685 ls st h Q ↔ GN d 291 685 ls h (pA 1 st fun as r => pR r fun a r => ck (r.length ≤ 4 ∧ arr h a 8) (cll 120 (.ref a :: as) r)) Q := G_unf rfl rfl
set_option maxRecDepth 100000 in
theorem g291_688 : G d 291 688 ls st h Q ↔ GN d 291 688 ls h (ldR ls 2 fun a => nx 689 ls (.ref a :: st) h) Q := G_unf rfl rfl
set_option maxRecDepth 100000 in
theorem g291_689 : G d 291 689 ls st h Q ↔ GN d 291 689 ls h (ldR ls 0 fun a => nx 690 ls (.ref a :: st) h) Q := G_unf rfl rfl
set_option maxRecDepth 100000 in
theorem g291_690 : G d 291 690 ls st h Q ↔ GN d 291 690 ls h (ldI ls 3 fun x => nx 691 ls (.int x :: st) h) Q := G_unf rfl rfl
set_option maxRecDepth 100000 in
theorem g291_691 : G d 291 691 ls st h Q ↔ GN d 291 691 ls h (nx 692 ls (.int (nI 1) :: st) h) Q := G_unf rfl rfl
set_option maxRecDepth 100000 in
theorem g291_692 : G d 291 692 ls st h Q ↔ GN d 291 692 ls h (pII st fun x y r => nx 693 ls (.int (x + y) :: r) h) Q := G_unf rfl rfl
set_option maxRecDepth 100000 in
theorem g291_693 : G d 291 693 ls st h Q ↔ GN d 291 693 ls h (pRI st fun a i r => br (a = 1000003) (ck (inb i (hS h).1) (nx 694 ls (.int ((hS h).2 i.toNatClampNeg) :: r) h)) (ck (arr h a 10 ∧ inb i (hLn h a)) (nx 694 ls (.int (hI h a i.toNatClampNeg) :: r) h))) Q := G_unf rfl rfl
set_option maxRecDepth 100000 in
theorem g291_694 : G d 291 694 ls st h Q ↔ GN d 291 694 ls h (pA 1 st fun as r => pR r fun a r => ck (r.length ≤ 4 ∧ arr h a 9) (cll 245 (.ref a :: as) r)) Q := G_unf rfl rfl
set_option maxRecDepth 100000 in
theorem g291_697 : G d 291 697 ls st h Q ↔ GN d 291 697 ls h (pII st fun x y r => br (x = y) (nx 1226 ls r h) (nx 700 ls r h)) Q := G_unf rfl rfl
set_option maxRecDepth 100000 in
theorem g291_700 : G d 291 700 ls st h Q ↔ GN d 291 700 ls h (nx 701 ls (.int (nI 0) :: st) h) Q := G_unf rfl rfl
set_option maxRecDepth 100000 in
theorem g291_701 : G d 291 701 ls st h Q ↔ GN d 291 701 ls h (pIe st fun x => ck (x = 0 ∨ x = 1) (rtn (some (.int x)))) Q := G_unf rfl rfl
set_option maxRecDepth 100000 in
theorem g291_702 : G d 291 702 ls st h Q ↔ GN d 291 702 ls h (ldR ls 1 fun a => nx 703 ls (.ref a :: st) h) Q := G_unf rfl rfl
set_option maxRecDepth 100000 in
theorem g291_703 : G d 291 703 ls st h Q ↔ GN d 291 703 ls h (pA 0 st fun as r => pR r fun a r => ck (r.length ≤ 4 ∧ arr h a 8) (cll 121 (.ref a :: as) r)) Q := G_unf rfl rfl
set_option maxRecDepth 100000 in
theorem g291_706 : G d 291 706 ls st h Q ↔ GN d 291 706 ls h (ldR ls 2 fun a => nx 707 ls (.ref a :: st) h) Q := G_unf rfl rfl
set_option maxRecDepth 100000 in
theorem g291_707 : G d 291 707 ls st h Q ↔ GN d 291 707 ls h (pA 0 st fun as r => pR r fun a r => ck (r.length ≤ 4 ∧ arr h a 9) (cll 211 (.ref a :: as) r)) Q := G_unf rfl rfl
set_option maxRecDepth 100000 in
theorem g291_710 : G d 291 710 ls st h Q ↔ GN d 291 710 ls h (pII st fun x y r => br (x = y) (nx 1226 ls r h) (nx 713 ls r h)) Q := G_unf rfl rfl
set_option maxRecDepth 100000 in
theorem g291_713 : G d 291 713 ls st h Q ↔ GN d 291 713 ls h (nx 714 ls (.int (nI 0) :: st) h) Q := G_unf rfl rfl
set_option maxRecDepth 100000 in
theorem g291_714 : G d 291 714 ls st h Q ↔ GN d 291 714 ls h (pIe st fun x => ck (x = 0 ∨ x = 1) (rtn (some (.int x)))) Q := G_unf rfl rfl
set_option maxRecDepth 100000 in
theorem g291_715 : G d 291 715 ls st h Q ↔ GN d 291 715 ls h (ldR ls 1 fun a => nx 716 ls (.ref a :: st) h) Q := G_unf rfl rfl
set_option maxRecDepth 100000 in
theorem g291_716 : G d 291 716 ls st h Q ↔ GN d 291 716 ls h (ldR ls 0 fun a => nx 717 ls (.ref a :: st) h) Q := G_unf rfl rfl
set_option maxRecDepth 100000 in
theorem g291_717 : G d 291 717 ls st h Q ↔ GN d 291 717 ls h (ldI ls 3 fun x => nx 718 ls (.int x :: st) h) Q := G_unf rfl rfl
set_option maxRecDepth 100000 in
theorem g291_718 : G d 291 718 ls st h Q ↔ GN d 291 718 ls h (nx 719 ls (.int (nI 1) :: st) h) Q := G_unf rfl rfl
set_option maxRecDepth 100000 in
theorem g291_719 : G d 291 719 ls st h Q ↔ GN d 291 719 ls h (pII st fun x y r => nx 720 ls (.int (x + y) :: r) h) Q := G_unf rfl rfl
set_option maxRecDepth 100000 in
theorem g291_720 : G d 291 720 ls st h Q ↔ GN d 291 720 ls h (pRI st fun a i r => br (a = 1000003) (ck (inb i (hS h).1) (nx 721 ls (.int ((hS h).2 i.toNatClampNeg) :: r) h)) (ck (arr h a 10 ∧ inb i (hLn h a)) (nx 721 ls (.int (hI h a i.toNatClampNeg) :: r) h))) Q := G_unf rfl rfl
set_option maxRecDepth 100000 in
theorem g291_721 : G d 291 721 ls st h Q ↔ GN d 291 721 ls h (pA 1 st fun as r => pR r fun a r => ck (r.length ≤ 4 ∧ arr h a 8) (cll 122 (.ref a :: as) r)) Q := G_unf rfl rfl
set_option maxRecDepth 100000 in
theorem g291_724 : G d 291 724 ls st h Q ↔ GN d 291 724 ls h (ldR ls 2 fun a => nx 725 ls (.ref a :: st) h) Q := G_unf rfl rfl
set_option maxRecDepth 100000 in
theorem g291_725 : G d 291 725 ls st h Q ↔ GN d 291 725 ls h (ldR ls 0 fun a => nx 726 ls (.ref a :: st) h) Q := G_unf rfl rfl
set_option maxRecDepth 100000 in
theorem g291_726 : G d 291 726 ls st h Q ↔ GN d 291 726 ls h (ldI ls 3 fun x => nx 727 ls (.int x :: st) h) Q := G_unf rfl rfl
set_option maxRecDepth 100000 in
theorem g291_727 : G d 291 727 ls st h Q ↔ GN d 291 727 ls h (nx 728 ls (.int (nI 1) :: st) h) Q := G_unf rfl rfl
set_option maxRecDepth 100000 in
theorem g291_728 : G d 291 728 ls st h Q ↔ GN d 291 728 ls h (pII st fun x y r => nx 729 ls (.int (x + y) :: r) h) Q := G_unf rfl rfl
set_option maxRecDepth 100000 in
theorem g291_729 : G d 291 729 ls st h Q ↔ GN d 291 729 ls h (pRI st fun a i r => br (a = 1000003) (ck (inb i (hS h).1) (nx 730 ls (.int ((hS h).2 i.toNatClampNeg) :: r) h)) (ck (arr h a 10 ∧ inb i (hLn h a)) (nx 730 ls (.int (hI h a i.toNatClampNeg) :: r) h))) Q := G_unf rfl rfl
set_option maxRecDepth 100000 in
theorem g291_730 : G d 291 730 ls st h Q ↔ GN d 291 730 ls h (pA 1 st fun as r => pR r fun a r => ck (r.length ≤ 4 ∧ arr h a 9) (cll 246 (.ref a :: as) r)) Q := G_unf rfl rfl
set_option maxRecDepth 100000 in
theorem g291_733 : G d 291 733 ls st h Q ↔ GN d 291 733 ls h (pII st fun x y r => br (x = y) (nx 1226 ls r h) (nx 736 ls r h)) Q := G_unf rfl rfl
set_option maxRecDepth 100000 in
theorem g291_736 : G d 291 736 ls st h Q ↔ GN d 291 736 ls h (nx 737 ls (.int (nI 0) :: st) h) Q := G_unf rfl rfl
set_option maxRecDepth 100000 in
theorem g291_737 : G d 291 737 ls st h Q ↔ GN d 291 737 ls h (pIe st fun x => ck (x = 0 ∨ x = 1) (rtn (some (.int x)))) Q := G_unf rfl rfl
set_option maxRecDepth 100000 in
theorem g291_738 : G d 291 738 ls st h Q ↔ GN d 291 738 ls h (ldR ls 1 fun a => nx 739 ls (.ref a :: st) h) Q := G_unf rfl rfl
set_option maxRecDepth 100000 in
theorem g291_739 : G d 291 739 ls st h Q ↔ GN d 291 739 ls h (ldR ls 0 fun a => nx 740 ls (.ref a :: st) h) Q := G_unf rfl rfl
set_option maxRecDepth 100000 in
theorem g291_740 : G d 291 740 ls st h Q ↔ GN d 291 740 ls h (ldI ls 3 fun x => nx 741 ls (.int x :: st) h) Q := G_unf rfl rfl
set_option maxRecDepth 100000 in
theorem g291_741 : G d 291 741 ls st h Q ↔ GN d 291 741 ls h (nx 742 ls (.int (nI 1) :: st) h) Q := G_unf rfl rfl
set_option maxRecDepth 100000 in
theorem g291_742 : G d 291 742 ls st h Q ↔ GN d 291 742 ls h (pII st fun x y r => nx 743 ls (.int (x + y) :: r) h) Q := G_unf rfl rfl
set_option maxRecDepth 100000 in
theorem g291_743 : G d 291 743 ls st h Q ↔ GN d 291 743 ls h (pRI st fun a i r => br (a = 1000003) (ck (inb i (hS h).1) (nx 744 ls (.int ((hS h).2 i.toNatClampNeg) :: r) h)) (ck (arr h a 10 ∧ inb i (hLn h a)) (nx 744 ls (.int (hI h a i.toNatClampNeg) :: r) h))) Q := G_unf rfl rfl
set_option maxRecDepth 100000 in
theorem g291_744 : G d 291 744 ls st h Q ↔ GN d 291 744 ls h (ldR ls 0 fun a => nx 745 ls (.ref a :: st) h) Q := G_unf rfl rfl
set_option maxRecDepth 100000 in
theorem g291_745 : G d 291 745 ls st h Q ↔ GN d 291 745 ls h (ldI ls 3 fun x => nx 746 ls (.int x :: st) h) Q := G_unf rfl rfl
set_option maxRecDepth 100000 in
theorem g291_746 : G d 291 746 ls st h Q ↔ GN d 291 746 ls h (nx 747 ls (.int (nI 2) :: st) h) Q := G_unf rfl rfl
set_option maxRecDepth 100000 in
theorem g291_747 : G d 291 747 ls st h Q ↔ GN d 291 747 ls h (pII st fun x y r => nx 748 ls (.int (x + y) :: r) h) Q := G_unf rfl rfl
set_option maxRecDepth 100000 in
theorem g291_748 : G d 291 748 ls st h Q ↔ GN d 291 748 ls h (pRI st fun a i r => br (a = 1000003) (ck (inb i (hS h).1) (nx 749 ls (.int ((hS h).2 i.toNatClampNeg) :: r) h)) (ck (arr h a 10 ∧ inb i (hLn h a)) (nx 749 ls (.int (hI h a i.toNatClampNeg) :: r) h))) Q := G_unf rfl rfl
set_option maxRecDepth 100000 in
theorem g291_749 : G d 291 749 ls st h Q ↔ GN d 291 749 ls h (pA 2 st fun as r => pR r fun a r => ck (r.length ≤ 4 ∧ arr h a 8) (cll 123 (.ref a :: as) r)) Q := G_unf rfl rfl
set_option maxRecDepth 100000 in
theorem g291_752 : G d 291 752 ls st h Q ↔ GN d 291 752 ls h (ldR ls 2 fun a => nx 753 ls (.ref a :: st) h) Q := G_unf rfl rfl
set_option maxRecDepth 100000 in
theorem g291_753 : G d 291 753 ls st h Q ↔ GN d 291 753 ls h (ldR ls 0 fun a => nx 754 ls (.ref a :: st) h) Q := G_unf rfl rfl
set_option maxRecDepth 100000 in
theorem g291_754 : G d 291 754 ls st h Q ↔ GN d 291 754 ls h (ldI ls 3 fun x => nx 755 ls (.int x :: st) h) Q := G_unf rfl rfl
set_option maxRecDepth 100000 in
theorem g291_755 : G d 291 755 ls st h Q ↔ GN d 291 755 ls h (nx 756 ls (.int (nI 1) :: st) h) Q := G_unf rfl rfl
set_option maxRecDepth 100000 in
theorem g291_756 : G d 291 756 ls st h Q ↔ GN d 291 756 ls h (pII st fun x y r => nx 757 ls (.int (x + y) :: r) h) Q := G_unf rfl rfl
set_option maxRecDepth 100000 in
theorem g291_757 : G d 291 757 ls st h Q ↔ GN d 291 757 ls h (pRI st fun a i r => br (a = 1000003) (ck (inb i (hS h).1) (nx 758 ls (.int ((hS h).2 i.toNatClampNeg) :: r) h)) (ck (arr h a 10 ∧ inb i (hLn h a)) (nx 758 ls (.int (hI h a i.toNatClampNeg) :: r) h))) Q := G_unf rfl rfl
set_option maxRecDepth 100000 in
theorem g291_758 : G d 291 758 ls st h Q ↔ GN d 291 758 ls h (ldR ls 0 fun a => nx 759 ls (.ref a :: st) h) Q := G_unf rfl rfl
set_option maxRecDepth 100000 in
theorem g291_759 : G d 291 759 ls st h Q ↔ GN d 291 759 ls h (ldI ls 3 fun x => nx 760 ls (.int x :: st) h) Q := G_unf rfl rfl
set_option maxRecDepth 100000 in
theorem g291_760 : G d 291 760 ls st h Q ↔ GN d 291 760 ls h (nx 761 ls (.int (nI 2) :: st) h) Q := G_unf rfl rfl
set_option maxRecDepth 100000 in
theorem g291_761 : G d 291 761 ls st h Q ↔ GN d 291 761 ls h (pII st fun x y r => nx 762 ls (.int (x + y) :: r) h) Q := G_unf rfl rfl
set_option maxRecDepth 100000 in
theorem g291_762 : G d 291 762 ls st h Q ↔ GN d 291 762 ls h (pRI st fun a i r => br (a = 1000003) (ck (inb i (hS h).1) (nx 763 ls (.int ((hS h).2 i.toNatClampNeg) :: r) h)) (ck (arr h a 10 ∧ inb i (hLn h a)) (nx 763 ls (.int (hI h a i.toNatClampNeg) :: r) h))) Q := G_unf rfl rfl
set_option maxRecDepth 100000 in
theorem g291_763 : G d 291 763 ls st h Q ↔ GN d 291 763 ls h (pA 2 st fun as r => pR r fun a r => ck (r.length ≤ 4 ∧ arr h a 9) (cll 247 (.ref a :: as) r)) Q := G_unf rfl rfl
set_option maxRecDepth 100000 in
theorem g291_766 : G d 291 766 ls st h Q ↔ GN d 291 766 ls h (pII st fun x y r => br (x = y) (nx 1226 ls r h) (nx 769 ls r h)) Q := G_unf rfl rfl
set_option maxRecDepth 100000 in
theorem g291_769 : G d 291 769 ls st h Q ↔ GN d 291 769 ls h (nx 770 ls (.int (nI 0) :: st) h) Q := G_unf rfl rfl
set_option maxRecDepth 100000 in
theorem g291_770 : G d 291 770 ls st h Q ↔ GN d 291 770 ls h (pIe st fun x => ck (x = 0 ∨ x = 1) (rtn (some (.int x)))) Q := G_unf rfl rfl
set_option maxRecDepth 100000 in
theorem g291_771 : G d 291 771 ls st h Q ↔ GN d 291 771 ls h (ldR ls 1 fun a => nx 772 ls (.ref a :: st) h) Q := G_unf rfl rfl
set_option maxRecDepth 100000 in
theorem g291_772 : G d 291 772 ls st h Q ↔ GN d 291 772 ls h (ldR ls 0 fun a => nx 773 ls (.ref a :: st) h) Q := G_unf rfl rfl
set_option maxRecDepth 100000 in
theorem g291_773 : G d 291 773 ls st h Q ↔ GN d 291 773 ls h (ldI ls 3 fun x => nx 774 ls (.int x :: st) h) Q := G_unf rfl rfl
set_option maxRecDepth 100000 in
theorem g291_774 : G d 291 774 ls st h Q ↔ GN d 291 774 ls h (nx 775 ls (.int (nI 1) :: st) h) Q := G_unf rfl rfl
set_option maxRecDepth 100000 in
theorem g291_775 : G d 291 775 ls st h Q ↔ GN d 291 775 ls h (pII st fun x y r => nx 776 ls (.int (x + y) :: r) h) Q := G_unf rfl rfl
set_option maxRecDepth 100000 in
theorem g291_776 : G d 291 776 ls st h Q ↔ GN d 291 776 ls h (pRI st fun a i r => br (a = 1000003) (ck (inb i (hS h).1) (nx 777 ls (.int ((hS h).2 i.toNatClampNeg) :: r) h)) (ck (arr h a 10 ∧ inb i (hLn h a)) (nx 777 ls (.int (hI h a i.toNatClampNeg) :: r) h))) Q := G_unf rfl rfl
set_option maxRecDepth 100000 in
theorem g291_777 : G d 291 777 ls st h Q ↔ GN d 291 777 ls h (ldR ls 0 fun a => nx 778 ls (.ref a :: st) h) Q := G_unf rfl rfl
set_option maxRecDepth 100000 in
theorem g291_778 : G d 291 778 ls st h Q ↔ GN d 291 778 ls h (ldI ls 3 fun x => nx 779 ls (.int x :: st) h) Q := G_unf rfl rfl
set_option maxRecDepth 100000 in
theorem g291_779 : G d 291 779 ls st h Q ↔ GN d 291 779 ls h (nx 780 ls (.int (nI 2) :: st) h) Q := G_unf rfl rfl
set_option maxRecDepth 100000 in
theorem g291_780 : G d 291 780 ls st h Q ↔ GN d 291 780 ls h (pII st fun x y r => nx 781 ls (.int (x + y) :: r) h) Q := G_unf rfl rfl
set_option maxRecDepth 100000 in
theorem g291_781 : G d 291 781 ls st h Q ↔ GN d 291 781 ls h (pRI st fun a i r => br (a = 1000003) (ck (inb i (hS h).1) (nx 782 ls (.int ((hS h).2 i.toNatClampNeg) :: r) h)) (ck (arr h a 10 ∧ inb i (hLn h a)) (nx 782 ls (.int (hI h a i.toNatClampNeg) :: r) h))) Q := G_unf rfl rfl
set_option maxRecDepth 100000 in
theorem g291_782 : G d 291 782 ls st h Q ↔ GN d 291 782 ls h (pA 2 st fun as r => pR r fun a r => ck (r.length ≤ 4 ∧ arr h a 8) (cll 124 (.ref a :: as) r)) Q := G_unf rfl rfl
set_option maxRecDepth 100000 in
theorem g291_785 : G d 291 785 ls st h Q ↔ GN d 291 785 ls h (ldR ls 2 fun a => nx 786 ls (.ref a :: st) h) Q := G_unf rfl rfl
set_option maxRecDepth 100000 in
theorem g291_786 : G d 291 786 ls st h Q ↔ GN d 291 786 ls h (ldR ls 0 fun a => nx 787 ls (.ref a :: st) h) Q := G_unf rfl rfl
set_option maxRecDepth 100000 in
theorem g291_787 : G d 291 787 ls st h Q ↔ GN d 291 787 ls h (ldI ls 3 fun x => nx 788 ls (.int x :: st) h) Q := G_unf rfl rfl
set_option maxRecDepth 100000 in
theorem g291_788 : G d 291 788 ls st h Q ↔ GN d 291 788 ls h (nx 789 ls (.int (nI 1) :: st) h) Q := G_unf rfl rfl
set_option maxRecDepth 100000 in
theorem g291_789 : G d 291 789 ls st h Q ↔ GN d 291 789 ls h (pII st fun x y r => nx 790 ls (.int (x + y) :: r) h) Q := G_unf rfl rfl
set_option maxRecDepth 100000 in
theorem g291_790 : G d 291 790 ls st h Q ↔ GN d 291 790 ls h (pRI st fun a i r => br (a = 1000003) (ck (inb i (hS h).1) (nx 791 ls (.int ((hS h).2 i.toNatClampNeg) :: r) h)) (ck (arr h a 10 ∧ inb i (hLn h a)) (nx 791 ls (.int (hI h a i.toNatClampNeg) :: r) h))) Q := G_unf rfl rfl
set_option maxRecDepth 100000 in
theorem g291_791 : G d 291 791 ls st h Q ↔ GN d 291 791 ls h (ldR ls 0 fun a => nx 792 ls (.ref a :: st) h) Q := G_unf rfl rfl
set_option maxRecDepth 100000 in
theorem g291_792 : G d 291 792 ls st h Q ↔ GN d 291 792 ls h (ldI ls 3 fun x => nx 793 ls (.int x :: st) h) Q := G_unf rfl rfl
set_option maxRecDepth 100000 in
theorem g291_793 : G d 291 793 ls st h Q ↔ GN d 291 793 ls h (nx 794 ls (.int (nI 2) :: st) h) Q := G_unf rfl rfl
set_option maxRecDepth 100000 in
theorem g291_794 : G d 291 794 ls st h Q ↔ GN d 291 794 ls h (pII st fun x y r => nx 795 ls (.int (x + y) :: r) h) Q := G_unf rfl rfl
set_option maxRecDepth 100000 in
theorem g291_795 : G d 291 795 ls st h Q ↔ GN d 291 795 ls h (pRI st fun a i r => br (a = 1000003) (ck (inb i (hS h).1) (nx 796 ls (.int ((hS h).2 i.toNatClampNeg) :: r) h)) (ck (arr h a 10 ∧ inb i (hLn h a)) (nx 796 ls (.int (hI h a i.toNatClampNeg) :: r) h))) Q := G_unf rfl rfl
set_option maxRecDepth 100000 in
theorem g291_796 : G d 291 796 ls st h Q ↔ GN d 291 796 ls h (pA 2 st fun as r => pR r fun a r => ck (r.length ≤ 4 ∧ arr h a 9) (cll 251 (.ref a :: as) r)) Q := G_unf rfl rfl
set_option maxRecDepth 100000 in
theorem g291_799 : G d 291 799 ls st h Q ↔ GN d 291 799 ls h (pII st fun x y r => br (x = y) (nx 1226 ls r h) (nx 802 ls r h)) Q := G_unf rfl rfl
set_option maxRecDepth 100000 in
theorem g291_802 : G d 291 802 ls st h Q ↔ GN d 291 802 ls h (nx 803 ls (.int (nI 0) :: st) h) Q := G_unf rfl rfl
set_option maxRecDepth 100000 in
theorem g291_803 : G d 291 803 ls st h Q ↔ GN d 291 803 ls h (pIe st fun x => ck (x = 0 ∨ x = 1) (rtn (some (.int x)))) Q := G_unf rfl rfl
set_option maxRecDepth 100000 in
theorem g291_804 : G d 291 804 ls st h Q ↔ GN d 291 804 ls h (ldR ls 1 fun a => nx 805 ls (.ref a :: st) h) Q := G_unf rfl rfl
set_option maxRecDepth 100000 in
theorem g291_805 : G d 291 805 ls st h Q ↔ GN d 291 805 ls h (ldR ls 0 fun a => nx 806 ls (.ref a :: st) h) Q := G_unf rfl rfl
set_option maxRecDepth 100000 in
theorem g291_806 : G d 291 806 ls st h Q ↔ GN d 291 806 ls h (ldI ls 3 fun x => nx 807 ls (.int x :: st) h) Q := G_unf rfl rfl
set_option maxRecDepth 100000 in
theorem g291_807 : G d 291 807 ls st h Q ↔ GN d 291 807 ls h (nx 808 ls (.int (nI 1) :: st) h) Q := G_unf rfl rfl
set_option maxRecDepth 100000 in
theorem g291_808 : G d 291 808 ls st h Q ↔ GN d 291 808 ls h (pII st fun x y r => nx 809 ls (.int (x + y) :: r) h) Q := G_unf rfl rfl
set_option maxRecDepth 100000 in
theorem g291_809 : G d 291 809 ls st h Q ↔ GN d 291 809 ls h (pRI st fun a i r => br (a = 1000003) (ck (inb i (hS h).1) (nx 810 ls (.int ((hS h).2 i.toNatClampNeg) :: r) h)) (ck (arr h a 10 ∧ inb i (hLn h a)) (nx 810 ls (.int (hI h a i.toNatClampNeg) :: r) h))) Q := G_unf rfl rfl
set_option maxRecDepth 100000 in
theorem g291_810 : G d 291 810 ls st h Q ↔ GN d 291 810 ls h (pA 1 st fun as r => pR r fun a r => ck (r.length ≤ 4 ∧ arr h a 8) (cll 125 (.ref a :: as) r)) Q := G_unf rfl rfl
set_option maxRecDepth 100000 in
theorem g291_813 : G d 291 813 ls st h Q ↔ GN d 291 813 ls h (ldR ls 2 fun a => nx 814 ls (.ref a :: st) h) Q := G_unf rfl rfl
set_option maxRecDepth 100000 in
theorem g291_814 : G d 291 814 ls st h Q ↔ GN d 291 814 ls h (ldR ls 0 fun a => nx 815 ls (.ref a :: st) h) Q := G_unf rfl rfl
set_option maxRecDepth 100000 in
theorem g291_815 : G d 291 815 ls st h Q ↔ GN d 291 815 ls h (ldI ls 3 fun x => nx 816 ls (.int x :: st) h) Q := G_unf rfl rfl
set_option maxRecDepth 100000 in
theorem g291_816 : G d 291 816 ls st h Q ↔ GN d 291 816 ls h (nx 817 ls (.int (nI 1) :: st) h) Q := G_unf rfl rfl
set_option maxRecDepth 100000 in
theorem g291_817 : G d 291 817 ls st h Q ↔ GN d 291 817 ls h (pII st fun x y r => nx 818 ls (.int (x + y) :: r) h) Q := G_unf rfl rfl
set_option maxRecDepth 100000 in
theorem g291_818 : G d 291 818 ls st h Q ↔ GN d 291 818 ls h (pRI st fun a i r => br (a = 1000003) (ck (inb i (hS h).1) (nx 819 ls (.int ((hS h).2 i.toNatClampNeg) :: r) h)) (ck (arr h a 10 ∧ inb i (hLn h a)) (nx 819 ls (.int (hI h a i.toNatClampNeg) :: r) h))) Q := G_unf rfl rfl
set_option maxRecDepth 100000 in
theorem g291_819 : G d 291 819 ls st h Q ↔ GN d 291 819 ls h (pA 1 st fun as r => pR r fun a r => ck (r.length ≤ 4 ∧ arr h a 9) (cll 252 (.ref a :: as) r)) Q := G_unf rfl rfl
set_option maxRecDepth 100000 in
theorem g291_822 : G d 291 822 ls st h Q ↔ GN d 291 822 ls h (pII st fun x y r => br (x = y) (nx 1226 ls r h) (nx 825 ls r h)) Q := G_unf rfl rfl
set_option maxRecDepth 100000 in
theorem g291_825 : G d 291 825 ls st h Q ↔ GN d 291 825 ls h (nx 826 ls (.int (nI 0) :: st) h) Q := G_unf rfl rfl
set_option maxRecDepth 100000 in
theorem g291_826 : G d 291 826 ls st h Q ↔ GN d 291 826 ls h (pIe st fun x => ck (x = 0 ∨ x = 1) (rtn (some (.int x)))) Q := G_unf rfl rfl
set_option maxRecDepth 100000 in
theorem g291_827 : G d 291 827 ls st h Q ↔ GN d 291 827 ls h (ldR ls 1 fun a => nx 828 ls (.ref a :: st) h) Q := G_unf rfl rfl
set_option maxRecDepth 100000 in
theorem g291_828 : G d 291 828 ls st h Q ↔ GN d 291 828 ls h (ldR ls 0 fun a => nx 829 ls (.ref a :: st) h) Q := G_unf rfl rfl
set_option maxRecDepth 100000 in
theorem g291_829 : G d 291 829 ls st h Q ↔ GN d 291 829 ls h (ldI ls 3 fun x => nx 830 ls (.int x :: st) h) Q := G_unf rfl rfl
set_option maxRecDepth 100000 in
theorem g291_830 : G d 291 830 ls st h Q ↔ GN d 291 830 ls h (nx 831 ls (.int (nI 1) :: st) h) Q := G_unf rfl rfl
set_option maxRecDepth 100000 in
theorem g291_831 : G d 291 831 ls st h Q ↔ GN d 291 831 ls h (pII st fun x y r => nx 832 ls (.int (x + y) :: r) h) Q := G_unf rfl rfl
set_option maxRecDepth 100000 in
theorem g291_832 : G d 291 832 ls st h Q ↔ GN d 291 832 ls h (pRI st fun a i r => br (a = 1000003) (ck (inb i (hS h).1) (nx 833 ls (.int ((hS h).2 i.toNatClampNeg) :: r) h)) (ck (arr h a 10 ∧ inb i (hLn h a)) (nx 833 ls (.int (hI h a i.toNatClampNeg) :: r) h))) Q := G_unf rfl rfl
set_option maxRecDepth 100000 in
theorem g291_833 : G d 291 833 ls st h Q ↔ GN d 291 833 ls h (ldR ls 0 fun a => nx 834 ls (.ref a :: st) h) Q := G_unf rfl rfl
set_option maxRecDepth 100000 in
theorem g291_834 : G d 291 834 ls st h Q ↔ GN d 291 834 ls h (ldI ls 3 fun x => nx 835 ls (.int x :: st) h) Q := G_unf rfl rfl
set_option maxRecDepth 100000 in
theorem g291_835 : G d 291 835 ls st h Q ↔ GN d 291 835 ls h (nx 836 ls (.int (nI 2) :: st) h) Q := G_unf rfl rfl
set_option maxRecDepth 100000 in
theorem g291_836 : G d 291 836 ls st h Q ↔ GN d 291 836 ls h (pII st fun x y r => nx 837 ls (.int (x + y) :: r) h) Q := G_unf rfl rfl
set_option maxRecDepth 100000 in
theorem g291_837 : G d 291 837 ls st h Q ↔ GN d 291 837 ls h (pRI st fun a i r => br (a = 1000003) (ck (inb i (hS h).1) (nx 838 ls (.int ((hS h).2 i.toNatClampNeg) :: r) h)) (ck (arr h a 10 ∧ inb i (hLn h a)) (nx 838 ls (.int (hI h a i.toNatClampNeg) :: r) h))) Q := G_unf rfl rfl
set_option maxRecDepth 100000 in
theorem g291_838 : G d 291 838 ls st h Q ↔ GN d 291 838 ls h (pA 2 st fun as r => pR r fun a r => ck (r.length ≤ 4 ∧ arr h a 8) (cll 126 (.ref a :: as) r)) Q := G_unf rfl rfl
set_option maxRecDepth 100000 in
theorem g291_841 : G d 291 841 ls st h Q ↔ GN d 291 841 ls h (ldR ls 2 fun a => nx 842 ls (.ref a :: st) h) Q := G_unf rfl rfl
set_option maxRecDepth 100000 in
theorem g291_842 : G d 291 842 ls st h Q ↔ GN d 291 842 ls h (ldR ls 0 fun a => nx 843 ls (.ref a :: st) h) Q := G_unf rfl rfl
set_option maxRecDepth 100000 in
theorem g291_843 : G d 291 843 ls st h Q ↔ GN d 291 843 ls h (ldI ls 3 fun x => nx 844 ls (.int x :: st) h) Q := G_unf rfl rfl
set_option maxRecDepth 100000 in
theorem g291_844 : G d 291 844 ls st h Q ↔ GN d 291 844 ls h (nx 845 ls (.int (nI 1) :: st) h) Q := G_unf rfl rfl
set_option maxRecDepth 100000 in
theorem g291_845 : G d 291 845 ls st h Q ↔ GN d 291 845 ls h (pII st fun x y r => nx 846 ls (.int (x + y) :: r) h) Q := G_unf rfl rfl
set_option maxRecDepth 100000 in
theorem g291_846 : G d 291 846 ls st h Q ↔ GN d 291 846 ls h (pRI st fun a i r => br (a = 1000003) (ck (inb i (hS h).1) (nx 847 ls (.int ((hS h).2 i.toNatClampNeg) :: r) h)) (ck (arr h a 10 ∧ inb i (hLn h a)) (nx 847 ls (.int (hI h a i.toNatClampNeg) :: r) h))) Q := G_unf rfl rfl
set_option maxRecDepth 100000 in
theorem g291_847 : G d 291 847 ls st h Q ↔ GN d 291 847 ls h (ldR ls 0 fun a => nx 848 ls (.ref a :: st) h) Q := G_unf rfl rfl
set_option maxRecDepth 100000 in
theorem g291_848 : G d 291 848 ls st h Q ↔ GN d 291 848 ls h (ldI ls 3 fun x => nx 849 ls (.int x :: st) h) Q := G_unf rfl rfl
set_option maxRecDepth 100000 in
theorem g291_849 : G d 291 849 ls st h Q ↔ GN d 291 849 ls h (nx 850 ls (.int (nI 2) :: st) h) Q := G_unf rfl rfl
set_option maxRecDepth 100000 in
theorem g291_850 : G d 291 850 ls st h Q ↔ GN d 291 850 ls h (pII st fun x y r => nx 851 ls (.int (x + y) :: r) h) Q := G_unf rfl rfl
set_option maxRecDepth 100000 in
theorem g291_851 : G d 291 851 ls st h Q ↔ GN d 291 851 ls h (pRI st fun a i r => br (a = 1000003) (ck (inb i (hS h).1) (nx 852 ls (.int ((hS h).2 i.toNatClampNeg) :: r) h)) (ck (arr h a 10 ∧ inb i (hLn h a)) (nx 852 ls (.int (hI h a i.toNatClampNeg) :: r) h))) Q := G_unf rfl rfl
set_option maxRecDepth 100000 in
theorem g291_852 : G d 291 852 ls st h Q ↔ GN d 291 852 ls h (pA 2 st fun as r => pR r fun a r => ck (r.length ≤ 4 ∧ arr h a 9) (cll 253 (.ref a :: as) r)) Q := G_unf rfl rfl
set_option maxRecDepth 100000 in
theorem g291_855 : G d 291 855 ls st h Q ↔ GN d 291 855 ls h (pII st fun x y r => br (x = y) (nx 1226 ls r h) (nx 858 ls r h)) Q := G_unf rfl rfl
set_option maxRecDepth 100000 in
theorem g291_858 : G d 291 858 ls st h Q ↔ GN d 291 858 ls h (nx 859 ls (.int (nI 0) :: st) h) Q := G_unf rfl rfl
set_option maxRecDepth 100000 in
theorem g291_859 : G d 291 859 ls st h Q ↔ GN d 291 859 ls h (pIe st fun x => ck (x = 0 ∨ x = 1) (rtn (some (.int x)))) Q := G_unf rfl rfl
set_option maxRecDepth 100000 in
theorem g291_860 : G d 291 860 ls st h Q ↔ GN d 291 860 ls h (ldR ls 1 fun a => nx 861 ls (.ref a :: st) h) Q := G_unf rfl rfl
set_option maxRecDepth 100000 in
theorem g291_861 : G d 291 861 ls st h Q ↔ GN d 291 861 ls h (ldR ls 0 fun a => nx 862 ls (.ref a :: st) h) Q := G_unf rfl rfl
set_option maxRecDepth 100000 in
theorem g291_862 : G d 291 862 ls st h Q ↔ GN d 291 862 ls h (ldI ls 3 fun x => nx 863 ls (.int x :: st) h) Q := G_unf rfl rfl
set_option maxRecDepth 100000 in
theorem g291_863 : G d 291 863 ls st h Q ↔ GN d 291 863 ls h (nx 864 ls (.int (nI 1) :: st) h) Q := G_unf rfl rfl
set_option maxRecDepth 100000 in
theorem g291_864 : G d 291 864 ls st h Q ↔ GN d 291 864 ls h (pII st fun x y r => nx 865 ls (.int (x + y) :: r) h) Q := G_unf rfl rfl
set_option maxRecDepth 100000 in
theorem g291_865 : G d 291 865 ls st h Q ↔ GN d 291 865 ls h (pRI st fun a i r => br (a = 1000003) (ck (inb i (hS h).1) (nx 866 ls (.int ((hS h).2 i.toNatClampNeg) :: r) h)) (ck (arr h a 10 ∧ inb i (hLn h a)) (nx 866 ls (.int (hI h a i.toNatClampNeg) :: r) h))) Q := G_unf rfl rfl
set_option maxRecDepth 100000 in
theorem g291_866 : G d 291 866 ls st h Q ↔ GN d 291 866 ls h (ldR ls 0 fun a => nx 867 ls (.ref a :: st) h) Q := G_unf rfl rfl
set_option maxRecDepth 100000 in
theorem g291_867 : G d 291 867 ls st h Q ↔ GN d 291 867 ls h (ldI ls 3 fun x => nx 868 ls (.int x :: st) h) Q := G_unf rfl rfl
set_option maxRecDepth 100000 in
theorem g291_868 : G d 291 868 ls st h Q ↔ GN d 291 868 ls h (nx 869 ls (.int (nI 2) :: st) h) Q := G_unf rfl rfl
set_option maxRecDepth 100000 in
theorem g291_869 : G d 291 869 ls st h Q ↔ GN d 291 869 ls h (pII st fun x y r => nx 870 ls (.int (x + y) :: r) h) Q := G_unf rfl rfl
set_option maxRecDepth 100000 in
theorem g291_870 : G d 291 870 ls st h Q ↔ GN d 291 870 ls h (pRI st fun a i r => br (a = 1000003) (ck (inb i (hS h).1) (nx 871 ls (.int ((hS h).2 i.toNatClampNeg) :: r) h)) (ck (arr h a 10 ∧ inb i (hLn h a)) (nx 871 ls (.int (hI h a i.toNatClampNeg) :: r) h))) Q := G_unf rfl rfl
set_option maxRecDepth 100000 in
theorem g291_871 : G d 291 871 ls st h Q ↔ GN d 291 871 ls h (ldR ls 0 fun a => nx 872 ls (.ref a :: st) h) Q := G_unf rfl rfl
set_option maxRecDepth 100000 in
theorem g291_872 : G d 291 872 ls st h Q ↔ GN d 291 872 ls h (ldI ls 3 fun x => nx 873 ls (.int x :: st) h) Q := G_unf rfl rfl
set_option maxRecDepth 100000 in
theorem g291_873 : G d 291 873 ls st h Q ↔ GN d 291 873 ls h (nx 874 ls (.int (nI 3) :: st) h) Q := G_unf rfl rfl
set_option maxRecDepth 100000 in
theorem g291_874 : G d 291 874 ls st h Q ↔ GN d 291 874 ls h (pII st fun x y r => nx 875 ls (.int (x + y) :: r) h) Q := G_unf rfl rfl
set_option maxRecDepth 100000 in
theorem g291_875 : G d 291 875 ls st h Q ↔ GN d 291 875 ls h (pRI st fun a i r => br (a = 1000003) (ck (inb i (hS h).1) (nx 876 ls (.int ((hS h).2 i.toNatClampNeg) :: r) h)) (ck (arr h a 10 ∧ inb i (hLn h a)) (nx 876 ls (.int (hI h a i.toNatClampNeg) :: r) h))) Q := G_unf rfl rfl
set_option maxRecDepth 100000 in
theorem g291_876 : G d 291 876 ls st h Q ↔ GN d 291 876 ls h (pA 3 st fun as r => pR r fun a r => ck (r.length ≤ 4 ∧ arr h a 8) (cll 127 (.ref a :: as) r)) Q := G_unf rfl rfl
set_option maxRecDepth 100000 in
theorem g291_879 : G d 291 879 ls st h Q ↔ GN d 291 879 ls h (ldR ls 2 fun a => nx 880 ls (.ref a :: st) h) Q := G_unf rfl rfl
set_option maxRecDepth 100000 in
theorem g291_880 : G d 291 880 ls st h Q ↔ GN d 291 880 ls h (ldR ls 0 fun a => nx 881 ls (.ref a :: st) h) Q := G_unf rfl rfl
set_option maxRecDepth 100000 in
theorem g291_881 : G d 291 881 ls st h Q ↔ GN d 291 881 ls h (ldI ls 3 fun x => nx 882 ls (.int x :: st) h) Q := G_unf rfl rfl
set_option maxRecDepth 100000 in
theorem g291_882 : G d 291 882 ls st h Q ↔ GN d 291 882 ls h (nx 883 ls (.int (nI 1) :: st) h) Q := G_unf rfl rfl
set_option maxRecDepth 100000 in
theorem g291_883 : G d 291 883 ls st h Q ↔ GN d 291 883 ls h (pII st fun x y r => nx 884 ls (.int (x + y) :: r) h) Q := G_unf rfl rfl
set_option maxRecDepth 100000 in
theorem g291_884 : G d 291 884 ls st h Q ↔ GN d 291 884 ls h (pRI st fun a i r => br (a = 1000003) (ck (inb i (hS h).1) (nx 885 ls (.int ((hS h).2 i.toNatClampNeg) :: r) h)) (ck (arr h a 10 ∧ inb i (hLn h a)) (nx 885 ls (.int (hI h a i.toNatClampNeg) :: r) h))) Q := G_unf rfl rfl
set_option maxRecDepth 100000 in
theorem g291_885 : G d 291 885 ls st h Q ↔ GN d 291 885 ls h (ldR ls 0 fun a => nx 886 ls (.ref a :: st) h) Q := G_unf rfl rfl
set_option maxRecDepth 100000 in
theorem g291_886 : G d 291 886 ls st h Q ↔ GN d 291 886 ls h (ldI ls 3 fun x => nx 887 ls (.int x :: st) h) Q := G_unf rfl rfl
set_option maxRecDepth 100000 in
theorem g291_887 : G d 291 887 ls st h Q ↔ GN d 291 887 ls h (nx 888 ls (.int (nI 2) :: st) h) Q := G_unf rfl rfl
set_option maxRecDepth 100000 in
theorem g291_888 : G d 291 888 ls st h Q ↔ GN d 291 888 ls h (pII st fun x y r => nx 889 ls (.int (x + y) :: r) h) Q := G_unf rfl rfl
set_option maxRecDepth 100000 in
theorem g291_889 : G d 291 889 ls st h Q ↔ GN d 291 889 ls h (pRI st fun a i r => br (a = 1000003) (ck (inb i (hS h).1) (nx 890 ls (.int ((hS h).2 i.toNatClampNeg) :: r) h)) (ck (arr h a 10 ∧ inb i (hLn h a)) (nx 890 ls (.int (hI h a i.toNatClampNeg) :: r) h))) Q := G_unf rfl rfl
set_option maxRecDepth 100000 in
theorem g291_890 : G d 291 890 ls st h Q ↔ GN d 291 890 ls h (ldR ls 0 fun a => nx 891 ls (.ref a :: st) h) Q := G_unf rfl rfl
set_option maxRecDepth 100000 in
theorem g291_891 : G d 291 891 ls st h Q ↔ GN d 291 891 ls h (ldI ls 3 fun x => nx 892 ls (.int x :: st) h) Q := G_unf rfl rfl
set_option maxRecDepth 100000 in
theorem g291_892 : G d 291 892 ls st h Q ↔ GN d 291 892 ls h (nx 893 ls (.int (nI 3) :: st) h) Q := G_unf rfl rfl
set_option maxRecDepth 100000 in
theorem g291_893 : G d 291 893 ls st h Q ↔ GN d 291 893 ls h (pII st fun x y r => nx 894 ls (.int (x + y) :: r) h) Q := G_unf rfl rfl
set_option maxRecDepth 100000 in
theorem g291_894 : G d 291 894 ls st h Q ↔ GN d 291 894 ls h (pRI st fun a i r => br (a = 1000003) (ck (inb i (hS h).1) (nx 895 ls (.int ((hS h).2 i.toNatClampNeg) :: r) h)) (ck (arr h a 10 ∧ inb i (hLn h a)) (nx 895 ls (.int (hI h a i.toNatClampNeg) :: r) h))) Q := G_unf rfl rfl
set_option maxRecDepth 100000 in
theorem g291_895 : G d 291 895 ls st h Q ↔ GN d 291 895 ls h (pA 3 st fun as r => pR r fun a r => ck (r.length ≤ 4 ∧ arr h a 9) (cll 254 (.ref a :: as) r)) Q := G_unf rfl rfl
set_option maxRecDepth 100000 in
theorem g291_898 : G d 291 898 ls st h Q ↔ GN d 291 898 ls h (pII st fun x y r => br (x = y) (nx 1226 ls r h) (nx 901 ls r h)) Q := G_unf rfl rfl
set_option maxRecDepth 100000 in
theorem g291_901 : G d 291 901 ls st h Q ↔ GN d 291 901 ls h (nx 902 ls (.int (nI 0) :: st) h) Q := G_unf rfl rfl
set_option maxRecDepth 100000 in
theorem g291_902 : G d 291 902 ls st h Q ↔ GN d 291 902 ls h (pIe st fun x => ck (x = 0 ∨ x = 1) (rtn (some (.int x)))) Q := G_unf rfl rfl
set_option maxRecDepth 100000 in
theorem g291_903 : G d 291 903 ls st h Q ↔ GN d 291 903 ls h (ldR ls 1 fun a => nx 904 ls (.ref a :: st) h) Q := G_unf rfl rfl
set_option maxRecDepth 100000 in
theorem g291_904 : G d 291 904 ls st h Q ↔ GN d 291 904 ls h (ldR ls 0 fun a => nx 905 ls (.ref a :: st) h) Q := G_unf rfl rfl
set_option maxRecDepth 100000 in
theorem g291_905 : G d 291 905 ls st h Q ↔ GN d 291 905 ls h (ldI ls 3 fun x => nx 906 ls (.int x :: st) h) Q := G_unf rfl rfl
set_option maxRecDepth 100000 in
theorem g291_906 : G d 291 906 ls st h Q ↔ GN d 291 906 ls h (nx 907 ls (.int (nI 1) :: st) h) Q := G_unf rfl rfl
set_option maxRecDepth 100000 in
theorem g291_907 : G d 291 907 ls st h Q ↔ GN d 291 907 ls h (pII st fun x y r => nx 908 ls (.int (x + y) :: r) h) Q := G_unf rfl rfl
set_option maxRecDepth 100000 in
theorem g291_908 : G d 291 908 ls st h Q ↔ GN d 291 908 ls h (pRI st fun a i r => br (a = 1000003) (ck (inb i (hS h).1) (nx 909 ls (.int ((hS h).2 i.toNatClampNeg) :: r) h)) (ck (arr h a 10 ∧ inb i (hLn h a)) (nx 909 ls (.int (hI h a i.toNatClampNeg) :: r) h))) Q := G_unf rfl rfl
set_option maxRecDepth 100000 in
theorem g291_909 : G d 291 909 ls st h Q ↔ GN d 291 909 ls h (pA 1 st fun as r => pR r fun a r => ck (r.length ≤ 4 ∧ arr h a 8) (cll 128 (.ref a :: as) r)) Q := G_unf rfl rfl
set_option maxRecDepth 100000 in
theorem g291_912 : G d 291 912 ls st h Q ↔ GN d 291 912 ls h (ldR ls 2 fun a => nx 913 ls (.ref a :: st) h) Q := G_unf rfl rfl
set_option maxRecDepth 100000 in
theorem g291_913 : G d 291 913 ls st h Q ↔ GN d 291 913 ls h (ldR ls 0 fun a => nx 914 ls (.ref a :: st) h) Q := G_unf rfl rfl
set_option maxRecDepth 100000 in
theorem g291_914 : G d 291 914 ls st h Q ↔ GN d 291 914 ls h (ldI ls 3 fun x => nx 915 ls (.int x :: st) h) Q := G_unf rfl rfl
set_option maxRecDepth 100000 in
theorem g291_915 : G d 291 915 ls st h Q ↔ GN d 291 915 ls h (nx 916 ls (.int (nI 1) :: st) h) Q := G_unf rfl rfl
set_option maxRecDepth 100000 in
theorem g291_916 : G d 291 916 ls st h Q ↔ GN d 291 916 ls h (pII st fun x y r => nx 917 ls (.int (x + y) :: r) h) Q := G_unf rfl rfl
set_option maxRecDepth 100000 in
theorem g291_917 : G d 291 917 ls st h Q ↔ GN d 291 917 ls h (pRI st fun a i r => br (a = 1000003) (ck (inb i (hS h).1) (nx 918 ls (.int ((hS h).2 i.toNatClampNeg) :: r) h)) (ck (arr h a 10 ∧ inb i (hLn h a)) (nx 918 ls (.int (hI h a i.toNatClampNeg) :: r) h))) Q := G_unf rfl rfl
set_option maxRecDepth 100000 in
theorem g291_918 : G d 291 918 ls st h Q ↔ GN d 291 918 ls h (pA 1 st fun as r => pR r fun a r => ck (r.length ≤ 4 ∧ arr h a 9) (cll 256 (.ref a :: as) r)) Q := G_unf rfl rfl
set_option maxRecDepth 100000 in
theorem g291_921 : G d 291 921 ls st h Q ↔ GN d 291 921 ls h (pII st fun x y r => br (x = y) (nx 1226 ls r h) (nx 924 ls r h)) Q := G_unf rfl rfl
set_option maxRecDepth 100000 in
theorem g291_924 : G d 291 924 ls st h Q ↔ GN d 291 924 ls h (nx 925 ls (.int (nI 0) :: st) h) Q := G_unf rfl rfl
set_option maxRecDepth 100000 in
theorem g291_925 : G d 291 925 ls st h Q ↔ GN d 291 925 ls h (pIe st fun x => ck (x = 0 ∨ x = 1) (rtn (some (.int x)))) Q := G_unf rfl rfl
set_option maxRecDepth 100000 in
theorem g291_926 : G d 291 926 ls st h Q ↔ GN d 291 926 ls h (ldR ls 1 fun a => nx 927 ls (.ref a :: st) h) Q := G_unf rfl rfl
set_option maxRecDepth 100000 in
theorem g291_927 : G d 291 927 ls st h Q ↔ GN d 291 927 ls h (ldR ls 0 fun a => nx 928 ls (.ref a :: st) h) Q := G_unf rfl rfl
set_option maxRecDepth 100000 in
theorem g291_928 : G d 291 928 ls st h Q ↔ GN d 291 928 ls h (ldI ls 3 fun x => nx 929 ls (.int x :: st) h) Q := G_unf rfl rfl
set_option maxRecDepth 100000 in
theorem g291_929 : G d 291 929 ls st h Q ↔ GN d 291 929 ls h (nx 930 ls (.int (nI 1) :: st) h) Q := G_unf rfl rfl
set_option maxRecDepth 100000 in
theorem g291_930 : G d 291 930 ls st h Q ↔ GN d 291 930 ls h (pII st fun x y r => nx 931 ls (.int (x + y) :: r) h) Q := G_unf rfl rfl
set_option maxRecDepth 100000 in
theorem g291_931 : G d 291 931 ls st h Q ↔ GN d 291 931 ls h (pRI st fun a i r => br (a = 1000003) (ck (inb i (hS h).1) (nx 932 ls (.int ((hS h).2 i.toNatClampNeg) :: r) h)) (ck (arr h a 10 ∧ inb i (hLn h a)) (nx 932 ls (.int (hI h a i.toNatClampNeg) :: r) h))) Q := G_unf rfl rfl
set_option maxRecDepth 100000 in
theorem g291_932 : G d 291 932 ls st h Q ↔ GN d 291 932 ls h (ldR ls 0 fun a => nx 933 ls (.ref a :: st) h) Q := G_unf rfl rfl
set_option maxRecDepth 100000 in
theorem g291_933 : G d 291 933 ls st h Q ↔ GN d 291 933 ls h (ldI ls 3 fun x => nx 934 ls (.int x :: st) h) Q := G_unf rfl rfl
set_option maxRecDepth 100000 in
theorem g291_934 : G d 291 934 ls st h Q ↔ GN d 291 934 ls h (nx 935 ls (.int (nI 2) :: st) h) Q := G_unf rfl rfl
set_option maxRecDepth 100000 in
theorem g291_935 : G d 291 935 ls st h Q ↔ GN d 291 935 ls h (pII st fun x y r => nx 936 ls (.int (x + y) :: r) h) Q := G_unf rfl rfl
set_option maxRecDepth 100000 in
theorem g291_936 : G d 291 936 ls st h Q ↔ GN d 291 936 ls h (pRI st fun a i r => br (a = 1000003) (ck (inb i (hS h).1) (nx 937 ls (.int ((hS h).2 i.toNatClampNeg) :: r) h)) (ck (arr h a 10 ∧ inb i (hLn h a)) (nx 937 ls (.int (hI h a i.toNatClampNeg) :: r) h))) Q := G_unf rfl rfl
set_option maxRecDepth 100000 in
theorem g291_937 : G d 291 937 ls st h Q ↔ GN d 291 937 ls h (ldR ls 0 fun a => nx 938 ls (.ref a :: st) h) Q := G_unf rfl rfl
set_option maxRecDepth 100000 in
theorem g291_938 : G d 291 938 ls st h Q ↔ GN d 291 938 ls h (ldI ls 3 fun x => nx 939 ls (.int x :: st) h) Q := G_unf rfl rfl
set_option maxRecDepth 100000 in
theorem g291_939 : G d 291 939 ls st h Q ↔ GN d 291 939 ls h (nx 940 ls (.int (nI 3) :: st) h) Q := G_unf rfl rfl
set_option maxRecDepth 100000 in
theorem g291_940 : G d 291 940 ls st h Q ↔ GN d 291 940 ls h (pII st fun x y r => nx 941 ls (.int (x + y) :: r) h) Q := G_unf rfl rfl
set_option maxRecDepth 100000 in
theorem g291_941 : G d 291 941 ls st h Q ↔ GN d 291 941 ls h (pRI st fun a i r => br (a = 1000003) (ck (inb i (hS h).1) (nx 942 ls (.int ((hS h).2 i.toNatClampNeg) :: r) h)) (ck (arr h a 10 ∧ inb i (hLn h a)) (nx 942 ls (.int (hI h a i.toNatClampNeg) :: r) h))) Q := G_unf rfl rfl
set_option maxRecDepth 100000 in
theorem g291_942 : G d 291 942 ls st h Q ↔ GN d 291 942 ls h (pA 3 st fun as r => pR r fun a r => ck (r.length ≤ 4 ∧ arr h a 8) (cll 129 (.ref a :: as) r)) Q := G_unf rfl rfl
set_option maxRecDepth 100000 in
theorem g291_945 : G d 291 945 ls st h Q ↔ GN d 291 945 ls h (ldR ls 2 fun a => nx 946 ls (.ref a :: st) h) Q := G_unf rfl rfl
set_option maxRecDepth 100000 in
theorem g291_946 : G d 291 946 ls st h Q ↔ GN d 291 946 ls h (ldR ls 0 fun a => nx 947 ls (.ref a :: st) h) Q := G_unf rfl rfl
set_option maxRecDepth 100000 in
theorem g291_947 : G d 291 947 ls st h Q ↔ GN d 291 947 ls h (ldI ls 3 fun x => nx 948 ls (.int x :: st) h) Q := G_unf rfl rfl
set_option maxRecDepth 100000 in
theorem g291_948 : G d 291 948 ls st h Q ↔ GN d 291 948 ls h (nx 949 ls (.int (nI 1) :: st) h) Q := G_unf rfl rfl
set_option maxRecDepth 100000 in
theorem g291_949 : G d 291 949 ls st h Q ↔ GN d 291 949 ls h (pII st fun x y r => nx 950 ls (.int (x + y) :: r) h) Q := G_unf rfl rfl
set_option maxRecDepth 100000 in
theorem g291_950 : G d 291 950 ls st h Q ↔ GN d 291 950 ls h (pRI st fun a i r => br (a = 1000003) (ck (inb i (hS h).1) (nx 951 ls (.int ((hS h).2 i.toNatClampNeg) :: r) h)) (ck (arr h a 10 ∧ inb i (hLn h a)) (nx 951 ls (.int (hI h a i.toNatClampNeg) :: r) h))) Q := G_unf rfl rfl
set_option maxRecDepth 100000 in
theorem g291_951 : G d 291 951 ls st h Q ↔ GN d 291 951 ls h (ldR ls 0 fun a => nx 952 ls (.ref a :: st) h) Q := G_unf rfl rfl
set_option maxRecDepth 100000 in
theorem g291_952 : G d 291 952 ls st h Q ↔ GN d 291 952 ls h (ldI ls 3 fun x => nx 953 ls (.int x :: st) h) Q := G_unf rfl rfl
set_option maxRecDepth 100000 in
theorem g291_953 : G d 291 953 ls st h Q ↔ GN d 291 953 ls h (nx 954 ls (.int (nI 2) :: st) h) Q := G_unf rfl rfl
set_option maxRecDepth 100000 in
theorem g291_954 : G d 291 954 ls st h Q ↔ GN d 291 954 ls h (pII st fun x y r => nx 955 ls (.int (x + y) :: r) h) Q := G_unf rfl rfl
set_option maxRecDepth 100000 in
theorem g291_955 : G d 291 955 ls st h Q ↔ GN d 291 955 ls h (pRI st fun a i r => br (a = 1000003) (ck (inb i (hS h).1) (nx 956 ls (.int ((hS h).2 i.toNatClampNeg) :: r) h)) (ck (arr h a 10 ∧ inb i (hLn h a)) (nx 956 ls (.int (hI h a i.toNatClampNeg) :: r) h))) Q := G_unf rfl rfl
set_option maxRecDepth 100000 in
theorem g291_956 : G d 291 956 ls st h Q ↔ GN d 291 956 ls h (ldR ls 0 fun a => nx 957 ls (.ref a :: st) h) Q := G_unf rfl rfl
set_option maxRecDepth 100000 in
theorem g291_957 : G d 291 957 ls st h Q ↔ GN d 291 957 ls h (ldI ls 3 fun x => nx 958 ls (.int x :: st) h) Q := G_unf rfl rfl
set_option maxRecDepth 100000 in
theorem g291_958 : G d 291 958 ls st h Q ↔ GN d 291 958 ls h (nx 959 ls (.int (nI 3) :: st) h) Q := G_unf rfl rfl
set_option maxRecDepth 100000 in
theorem g291_959 : G d 291 959 ls st h Q ↔ GN d 291 959 ls h (pII st fun x y r => nx 960 ls (.int (x + y) :: r) h) Q := G_unf rfl rfl
set_option maxRecDepth 100000 in
theorem g291_960 : G d 291 960 ls st h Q ↔ GN d 291 960 ls h (pRI st fun a i r => br (a = 1000003) (ck (inb i (hS h).1) (nx 961 ls (.int ((hS h).2 i.toNatClampNeg) :: r) h)) (ck (arr h a 10 ∧ inb i (hLn h a)) (nx 961 ls (.int (hI h a i.toNatClampNeg) :: r) h))) Q := G_unf rfl rfl
set_option maxRecDepth 100000 in
theorem g291_961 : G d 291 961 ls st h Q ↔ GN d 291 961 ls h (pA 3 st fun as r => pR r fun a r => ck (r.length ≤ 4 ∧ arr h a 9) (cll 257 (.ref a :: as) r)) Q := G_unf rfl rfl
set_option maxRecDepth 100000 in
theorem g291_964 : G d 291 964 ls st h Q ↔ GN d 291 964 ls h (pII st fun x y r => br (x = y) (nx 1226 ls r h) (nx 967 ls r h)) Q := G_unf rfl rfl
set_option maxRecDepth 100000 in
theorem g291_967 : G d 291 967 ls st h Q ↔ GN d 291 967 ls h (nx 968 ls (.int (nI 0) :: st) h) Q := G_unf rfl rfl
set_option maxRecDepth 100000 in
theorem g291_968 : G d 291 968 ls st h Q ↔ GN d 291 968 ls h (pIe st fun x => ck (x = 0 ∨ x = 1) (rtn (some (.int x)))) Q := G_unf rfl rfl
set_option maxRecDepth 100000 in
theorem g291_969 : G d 291 969 ls st h Q ↔ GN d 291 969 ls h (ldR ls 1 fun a => nx 970 ls (.ref a :: st) h) Q := G_unf rfl rfl
set_option maxRecDepth 100000 in
theorem g291_970 : G d 291 970 ls st h Q ↔ GN d 291 970 ls h (ldR ls 0 fun a => nx 971 ls (.ref a :: st) h) Q := G_unf rfl rfl
set_option maxRecDepth 100000 in
theorem g291_971 : G d 291 971 ls st h Q ↔ GN d 291 971 ls h (ldI ls 3 fun x => nx 972 ls (.int x :: st) h) Q := G_unf rfl rfl
set_option maxRecDepth 100000 in
theorem g291_972 : G d 291 972 ls st h Q ↔ GN d 291 972 ls h (nx 973 ls (.int (nI 1) :: st) h) Q := G_unf rfl rfl
set_option maxRecDepth 100000 in
theorem g291_973 : G d 291 973 ls st h Q ↔ GN d 291 973 ls h (pII st fun x y r => nx 974 ls (.int (x + y) :: r) h) Q := G_unf rfl rfl
set_option maxRecDepth 100000 in
theorem g291_974 : G d 291 974 ls st h Q ↔ GN d 291 974 ls h (pRI st fun a i r => br (a = 1000003) (ck (inb i (hS h).1) (nx 975 ls (.int ((hS h).2 i.toNatClampNeg) :: r) h)) (ck (arr h a 10 ∧ inb i (hLn h a)) (nx 975 ls (.int (hI h a i.toNatClampNeg) :: r) h))) Q := G_unf rfl rfl
set_option maxRecDepth 100000 in
theorem g291_975 : G d 291 975 ls st h Q ↔ GN d 291 975 ls h (ldR ls 0 fun a => nx 976 ls (.ref a :: st) h) Q := G_unf rfl rfl
set_option maxRecDepth 100000 in
theorem g291_976 : G d 291 976 ls st h Q ↔ GN d 291 976 ls h (ldI ls 3 fun x => nx 977 ls (.int x :: st) h) Q := G_unf rfl rfl
set_option maxRecDepth 100000 in
theorem g291_977 : G d 291 977 ls st h Q ↔ GN d 291 977 ls h (nx 978 ls (.int (nI 2) :: st) h) Q := G_unf rfl rfl
set_option maxRecDepth 100000 in
theorem g291_978 : G d 291 978 ls st h Q ↔ GN d 291 978 ls h (pII st fun x y r => nx 979 ls (.int (x + y) :: r) h) Q := G_unf rfl rfl
set_option maxRecDepth 100000 in
theorem g291_979 : G d 291 979 ls st h Q ↔ GN d 291 979 ls h (pRI st fun a i r => br (a = 1000003) (ck (inb i (hS h).1) (nx 980 ls (.int ((hS h).2 i.toNatClampNeg) :: r) h)) (ck (arr h a 10 ∧ inb i (hLn h a)) (nx 980 ls (.int (hI h a i.toNatClampNeg) :: r) h))) Q := G_unf rfl rfl
set_option maxRecDepth 100000 in
theorem g291_980 : G d 291 980 ls st h Q ↔ GN d 291 980 ls h (ldR ls 0 fun a => nx 981 ls (.ref a :: st) h) Q := G_unf rfl rfl
set_option maxRecDepth 100000 in
theorem g291_981 : G d 291 981 ls st h Q ↔ GN d 291 981 ls h (ldI ls 3 fun x => nx 982 ls (.int x :: st) h) Q := G_unf rfl rfl
set_option maxRecDepth 100000 in
theorem g291_982 : G d 291 982 ls st h Q ↔ GN d 291 982 ls h (nx 983 ls (.int (nI 3) :: st) h) Q := G_unf rfl rfl
set_option maxRecDepth 100000 in
theorem g291_983 : G d 291 983 ls st h Q ↔ GN d 291 983 ls h (pII st fun x y r => nx 984 ls (.int (x + y) :: r) h) Q := G_unf rfl rfl
set_option maxRecDepth 100000 in
theorem g291_984 : G d 291 984 ls st h Q ↔ GN d 291 984 ls h (pRI st fun a i r => br (a = 1000003) (ck (inb i (hS h).1) (nx 985 ls (.int ((hS h).2 i.toNatClampNeg) :: r) h)) (ck (arr h a 10 ∧ inb i (hLn h a)) (nx 985 ls (.int (hI h a i.toNatClampNeg) :: r) h))) Q := G_unf rfl rfl
set_option maxRecDepth 100000 in
theorem g291_985 : G d 291 985 ls st h Q ↔ GN d 291 985 ls h (pA 3 st fun as r => pR r fun a r => ck (r.length ≤ 4 ∧ arr h a 8) (cll 130 (.ref a :: as) r)) Q := G_unf rfl rfl
set_option maxRecDepth 100000 in
theorem g291_988 : G d 291 988 ls st h Q ↔ GN d 291 988 ls h (ldR ls 2 fun a => nx 989 ls (.ref a :: st) h) Q := G_unf rfl rfl
set_option maxRecDepth 100000 in
theorem g291_989 : G d 291 989 ls st h Q ↔ GN d 291 989 ls h (ldR ls 0 fun a => nx 990 ls (.ref a :: st) h) Q := G_unf rfl rfl
set_option maxRecDepth 100000 in
theorem g291_990 : G d 291 990 ls st h Q ↔ GN d 291 990 ls h (ldI ls 3 fun x => nx 991 ls (.int x :: st) h) Q := G_unf rfl rfl
set_option maxRecDepth 100000 in
theorem g291_991 : G d 291 991 ls st h Q ↔ GN d 291 991 ls h (nx 992 ls (.int (nI 1) :: st) h) Q := G_unf rfl rfl
set_option maxRecDepth 100000 in
theorem g291_992 : G d 291 992 ls st h Q ↔ GN d 291 992 ls h (pII st fun x y r => nx 993 ls (.int (x + y) :: r) h) Q := G_unf rfl rfl
set_option maxRecDepth 100000 in
theorem g291_993 : G d 291 993 ls st h Q ↔ GN d 291 993 ls h (pRI st fun a i r => br (a = 1000003) (ck (inb i (hS h).1) (nx 994 ls (.int ((hS h).2 i.toNatClampNeg) :: r) h)) (ck (arr h a 10 ∧ inb i (hLn h a)) (nx 994 ls (.int (hI h a i.toNatClampNeg) :: r) h))) Q := G_unf rfl rfl
set_option maxRecDepth 100000 in
theorem g291_994 : G d 291 994 ls st h Q ↔ GN d 291 994 ls h (ldR ls 0 fun a => nx 995 ls (.ref a :: st) h) Q := G_unf rfl rfl
set_option maxRecDepth 100000 in
theorem g291_995 : G d 291 995 ls st h Q ↔ GN d 291 995 ls h (ldI ls 3 fun x => nx 996 ls (.int x :: st) h) Q := G_unf rfl rfl
set_option maxRecDepth 100000 in
theorem g291_996 : G d 291 996 ls st h Q ↔ GN d 291 996 ls h (nx 997 ls (.int (nI 2) :: st) h) Q := G_unf rfl rfl
set_option maxRecDepth 100000 in
theorem g291_997 : G d 291 997 ls st h Q ↔ GN d 291 997 ls h (pII st fun x y r => nx 998 ls (.int (x + y) :: r) h) Q := G_unf rfl rfl
set_option maxRecDepth 100000 in
theorem g291_998 : G d 291 998 ls st h Q ↔ GN d 291 998 ls h (pRI st fun a i r => br (a = 1000003) (ck (inb i (hS h).1) (nx 999 ls (.int ((hS h).2 i.toNatClampNeg) :: r) h)) (ck (arr h a 10 ∧ inb i (hLn h a)) (nx 999 ls (.int (hI h a i.toNatClampNeg) :: r) h))) Q := G_unf rfl rfl
set_option maxRecDepth 100000 in
theorem g291_999 : G d 291 999 ls st h Q ↔ GN d 291 999 ls h (ldR ls 0 fun a => nx 1000 ls (.ref a :: st) h) Q := G_unf rfl rfl
set_option maxRecDepth 100000 in
theorem g291_1000 : G d 291 1000 ls st h Q ↔ GN d 291 1000 ls h (ldI ls 3 fun x => nx 1001 ls (.int x :: st) h) Q := G_unf rfl rfl
set_option maxRecDepth 100000 in
theorem g291_1001 : G d 291 1001 ls st h Q ↔ GN d 291 1001 ls h (nx 1002 ls (.int (nI 3) :: st) h) Q := G_unf rfl rfl
set_option maxRecDepth 100000 in
theorem g291_1002 : G d 291 1002 ls st h Q ↔ GN d 291 1002 ls h (pII st fun x y r => nx 1003 ls (.int (x + y) :: r) h) Q := G_unf rfl rfl
set_option maxRecDepth 100000 in
theorem g291_1003 : G d 291 1003 ls st h Q ↔ GN d 291 1003 ls h (pRI st fun a i r => br (a = 1000003) (ck (inb i (hS h).1) (nx 1004 ls (.int ((hS h).2 i.toNatClampNeg) :: r) h)) (ck (arr h a 10 ∧ inb i (hLn h a)) (nx 1004 ls (.int (hI h a i.toNatClampNeg) :: r) h))) Q := G_unf rfl rfl
set_option maxRecDepth 100000 in
theorem g291_1004 : G d 291 1004 ls st h Q ↔ GN d 291 1004 ls h (pA 3 st fun as r => pR r fun a r => ck (r.length ≤ 4 ∧ arr h a 9) (cll 258 (.ref a :: as) r)) Q := G_unf rfl rfl
set_option maxRecDepth 100000 in
theorem g291_1007 : G d 291 1007 ls st h Q ↔ GN d 291 1007 ls h (pII st fun x y r => br (x = y) (nx 1226 ls r h) (nx 1010 ls r h)) Q := G_unf rfl rfl
set_option maxRecDepth 100000 in
theorem g291_1010 : G d 291 1010 ls st h Q ↔ GN d 291 1010 ls h (nx 1011 ls (.int (nI 0) :: st) h) Q := G_unf rfl rfl
set_option maxRecDepth 100000 in
theorem g291_1011 : G d 291 1011 ls st h Q ↔ GN d 291 1011 ls h (pIe st fun x => ck (x = 0 ∨ x = 1) (rtn (some (.int x)))) Q := G_unf rfl rfl
set_option maxRecDepth 100000 in
theorem g291_1012 : G d 291 1012 ls st h Q ↔ GN d 291 1012 ls h (ldR ls 1 fun a => nx 1013 ls (.ref a :: st) h) Q := G_unf rfl rfl
set_option maxRecDepth 100000 in
theorem g291_1013 : G d 291 1013 ls st h Q ↔ GN d 291 1013 ls h (ldR ls 0 fun a => nx 1014 ls (.ref a :: st) h) Q := G_unf rfl rfl
set_option maxRecDepth 100000 in
theorem g291_1014 : G d 291 1014 ls st h Q ↔ GN d 291 1014 ls h (ldI ls 3 fun x => nx 1015 ls (.int x :: st) h) Q := G_unf rfl rfl
set_option maxRecDepth 100000 in
theorem g291_1015 : G d 291 1015 ls st h Q ↔ GN d 291 1015 ls h (nx 1016 ls (.int (nI 1) :: st) h) Q := G_unf rfl rfl
set_option maxRecDepth 100000 in
theorem g291_1016 : G d 291 1016 ls st h Q ↔ GN d 291 1016 ls h (pII st fun x y r => nx 1017 ls (.int (x + y) :: r) h) Q := G_unf rfl rfl
set_option maxRecDepth 100000 in
theorem g291_1017 : G d 291 1017 ls st h Q ↔ GN d 291 1017 ls h (pRI st fun a i r => br (a = 1000003) (ck (inb i (hS h).1) (nx 1018 ls (.int ((hS h).2 i.toNatClampNeg) :: r) h)) (ck (arr h a 10 ∧ inb i (hLn h a)) (nx 1018 ls (.int (hI h a i.toNatClampNeg) :: r) h))) Q := G_unf rfl rfl
set_option maxRecDepth 100000 in
theorem g291_1018 : G d 291 1018 ls st h Q ↔ GN d 291 1018 ls h (ldR ls 0 fun a => nx 1019 ls (.ref a :: st) h) Q := G_unf rfl rfl
set_option maxRecDepth 100000 in
theorem g291_1019 : G d 291 1019 ls st h Q ↔ GN d 291 1019 ls h (ldI ls 3 fun x => nx 1020 ls (.int x :: st) h) Q := G_unf rfl rfl
set_option maxRecDepth 100000 in
theorem g291_1020 : G d 291 1020 ls st h Q ↔ GN d 291 1020 ls h (nx 1021 ls (.int (nI 2) :: st) h) Q := G_unf rfl rfl
set_option maxRecDepth 100000 in
theorem g291_1021 : G d 291 1021 ls st h Q ↔ GN d 291 1021 ls h (pII st fun x y r => nx 1022 ls (.int (x + y) :: r) h) Q := G_unf rfl rfl
set_option maxRecDepth 100000 in
theorem g291_1022 : G d 291 1022 ls st h Q ↔ GN d 291 1022 ls h (pRI st fun a i r => br (a = 1000003) (ck (inb i (hS h).1) (nx 1023 ls (.int ((hS h).2 i.toNatClampNeg) :: r) h)) (ck (arr h a 10 ∧ inb i (hLn h a)) (nx 1023 ls (.int (hI h a i.toNatClampNeg) :: r) h))) Q := G_unf rfl rfl
set_option maxRecDepth 100000 in
theorem g291_1023 : G d 291 1023 ls st h Q ↔ GN d 291 1023 ls h (ldR ls 0 fun a => nx 1024 ls (.ref a :: st) h) Q := G_unf rfl rfl
set_option maxRecDepth 100000 in
theorem g291_1024 : G d 291 1024 ls st h Q ↔ GN d 291 1024 ls h (ldI ls 3 fun x => nx 1025 ls (.int x :: st) h) Q := G_unf rfl rfl
set_option maxRecDepth 100000 in
theorem g291_1025 : G d 291 1025 ls st h Q ↔ GN d 291 1025 ls h (nx 1026 ls (.int (nI 3) :: st) h) Q := G_unf rfl rfl
set_option maxRecDepth 100000 in
theorem g291_1026 : G d 291 1026 ls st h Q ↔ GN d 291 1026 ls h (pII st fun x y r => nx 1027 ls (.int (x + y) :: r) h) Q := G_unf rfl rfl
set_option maxRecDepth 100000 in
theorem g291_1027 : G d 291 1027 ls st h Q ↔ GN d 291 1027 ls h (pRI st fun a i r => br (a = 1000003) (ck (inb i (hS h).1) (nx 1028 ls (.int ((hS h).2 i.toNatClampNeg) :: r) h)) (ck (arr h a 10 ∧ inb i (hLn h a)) (nx 1028 ls (.int (hI h a i.toNatClampNeg) :: r) h))) Q := G_unf rfl rfl
set_option maxRecDepth 100000 in
theorem g291_1028 : G d 291 1028 ls st h Q ↔ GN d 291 1028 ls h (ldR ls 0 fun a => nx 1029 ls (.ref a :: st) h) Q := G_unf rfl rfl
set_option maxRecDepth 100000 in
theorem g291_1029 : G d 291 1029 ls st h Q ↔ GN d 291 1029 ls h (ldI ls 3 fun x => nx 1030 ls (.int x :: st) h) Q := G_unf rfl rfl
set_option maxRecDepth 100000 in
theorem g291_1030 : G d 291 1030 ls st h Q ↔ GN d 291 1030 ls h (nx 1031 ls (.int (nI 4) :: st) h) Q := G_unf rfl rfl
set_option maxRecDepth 100000 in
theorem g291_1031 : G d 291 1031 ls st h Q ↔ GN d 291 1031 ls h (pII st fun x y r => nx 1032 ls (.int (x + y) :: r) h) Q := G_unf rfl rfl
set_option maxRecDepth 100000 in
theorem g291_1032 : G d 291 1032 ls st h Q ↔ GN d 291 1032 ls h (pRI st fun a i r => br (a = 1000003) (ck (inb i (hS h).1) (nx 1033 ls (.int ((hS h).2 i.toNatClampNeg) :: r) h)) (ck (arr h a 10 ∧ inb i (hLn h a)) (nx 1033 ls (.int (hI h a i.toNatClampNeg) :: r) h))) Q := G_unf rfl rfl
set_option maxRecDepth 100000 in
theorem g291_1033 : G d 291 1033 ls st h Q ↔ GN d 291 1033 ls h (pA 4 st fun as r => pR r fun a r => ck (r.length ≤ 4 ∧ arr h a 8) (cll 131 (.ref a :: as) r)) Q := G_unf rfl rfl
set_option maxRecDepth 100000 in
theorem g291_1036 : G d 291 1036 ls st h Q ↔ GN d 291 1036 ls h (ldR ls 2 fun a => nx 1037 ls (.ref a :: st) h) Q := G_unf rfl rfl
set_option maxRecDepth 100000 in
theorem g291_1037 : G d 291 1037 ls st h Q ↔ GN d 291 1037 ls h (ldR ls 0 fun a => nx 1038 ls (.ref a :: st) h) Q := G_unf rfl rfl
set_option maxRecDepth 100000 in
theorem g291_1038 : G d 291 1038 ls st h Q ↔ GN d 291 1038 ls h (ldI ls 3 fun x => nx 1039 ls (.int x :: st) h) Q := G_unf rfl rfl
set_option maxRecDepth 100000 in
theorem g291_1039 : G d 291 1039 ls st h Q ↔ GN d 291 1039 ls h (nx 1040 ls (.int (nI 1) :: st) h) Q := G_unf rfl rfl
set_option maxRecDepth 100000 in
theorem g291_1040 : G d 291 1040 ls st h Q ↔ GN d 291 1040 ls h (pII st fun x y r => nx 1041 ls (.int (x + y) :: r) h) Q := G_unf rfl rfl
set_option maxRecDepth 100000 in
theorem g291_1041 : G d 291 1041 ls st h Q ↔ GN d 291 1041 ls h (pRI st fun a i r => br (a = 1000003) (ck (inb i (hS h).1) (nx 1042 ls (.int ((hS h).2 i.toNatClampNeg) :: r) h)) (ck (arr h a 10 ∧ inb i (hLn h a)) (nx 1042 ls (.int (hI h a i.toNatClampNeg) :: r) h))) Q := G_unf rfl rfl
set_option maxRecDepth 100000 in
theorem g291_1042 : G d 291 1042 ls st h Q ↔ GN d 291 1042 ls h (ldR ls 0 fun a => nx 1043 ls (.ref a :: st) h) Q := G_unf rfl rfl
set_option maxRecDepth 100000 in
theorem g291_1043 : G d 291 1043 ls st h Q ↔ GN d 291 1043 ls h (ldI ls 3 fun x => nx 1044 ls (.int x :: st) h) Q := G_unf rfl rfl
set_option maxRecDepth 100000 in
theorem g291_1044 : G d 291 1044 ls st h Q ↔ GN d 291 1044 ls h (nx 1045 ls (.int (nI 2) :: st) h) Q := G_unf rfl rfl
set_option maxRecDepth 100000 in
theorem g291_1045 : G d 291 1045 ls st h Q ↔ GN d 291 1045 ls h (pII st fun x y r => nx 1046 ls (.int (x + y) :: r) h) Q := G_unf rfl rfl
set_option maxRecDepth 100000 in
theorem g291_1046 : G d 291 1046 ls st h Q ↔ GN d 291 1046 ls h (pRI st fun a i r => br (a = 1000003) (ck (inb i (hS h).1) (nx 1047 ls (.int ((hS h).2 i.toNatClampNeg) :: r) h)) (ck (arr h a 10 ∧ inb i (hLn h a)) (nx 1047 ls (.int (hI h a i.toNatClampNeg) :: r) h))) Q := G_unf rfl rfl
set_option maxRecDepth 100000 in
theorem g291_1047 : G d 291 1047 ls st h Q ↔ GN d 291 1047 ls h (ldR ls 0 fun a => nx 1048 ls (.ref a :: st) h) Q := G_unf rfl rfl
set_option maxRecDepth 100000 in
theorem g291_1048 : G d 291 1048 ls st h Q ↔ GN d 291 1048 ls h (ldI ls 3 fun x => nx 1049 ls (.int x :: st) h) Q := G_unf rfl rfl
set_option maxRecDepth 100000 in
theorem g291_1049 : G d 291 1049 ls st h Q ↔ GN d 291 1049 ls h (nx 1050 ls (.int (nI 3) :: st) h) Q := G_unf rfl rfl
set_option maxRecDepth 100000 in
theorem g291_1050 : G d 291 1050 ls st h Q ↔ GN d 291 1050 ls h (pII st fun x y r => nx 1051 ls (.int (x + y) :: r) h) Q := G_unf rfl rfl
set_option maxRecDepth 100000 in
theorem g291_1051 : G d 291 1051 ls st h Q ↔ GN d 291 1051 ls h (pRI st fun a i r => br (a = 1000003) (ck (inb i (hS h).1) (nx 1052 ls (.int ((hS h).2 i.toNatClampNeg) :: r) h)) (ck (arr h a 10 ∧ inb i (hLn h a)) (nx 1052 ls (.int (hI h a i.toNatClampNeg) :: r) h))) Q := G_unf rfl rfl
set_option maxRecDepth 100000 in
theorem g291_1052 : G d 291 1052 ls st h Q ↔ GN d 291 1052 ls h (ldR ls 0 fun a => nx 1053 ls (.ref a :: st) h) Q := G_unf rfl rfl
set_option maxRecDepth 100000 in
theorem g291_1053 : G d 291 1053 ls st h Q ↔ GN d 291 1053 ls h (ldI ls 3 fun x => nx 1054 ls (.int x :: st) h) Q := G_unf rfl rfl
set_option maxRecDepth 100000 in
theorem g291_1054 : G d 291 1054 ls st h Q ↔ GN d 291 1054 ls h (nx 1055 ls (.int (nI 4) :: st) h) Q := G_unf rfl rfl
set_option maxRecDepth 100000 in
theorem g291_1055 : G d 291 1055 ls st h Q ↔ GN d 291 1055 ls h (pII st fun x y r => nx 1056 ls (.int (x + y) :: r) h) Q := G_unf rfl rfl
set_option maxRecDepth 100000 in
theorem g291_1056 : G d 291 1056 ls st h Q ↔ GN d 291 1056 ls h (pRI st fun a i r => br (a = 1000003) (ck (inb i (hS h).1) (nx 1057 ls (.int ((hS h).2 i.toNatClampNeg) :: r) h)) (ck (arr h a 10 ∧ inb i (hLn h a)) (nx 1057 ls (.int (hI h a i.toNatClampNeg) :: r) h))) Q := G_unf rfl rfl
set_option maxRecDepth 100000 in
theorem g291_1057 : G d 291 1057 ls st h Q ↔ GN d 291 1057 ls h (pA 4 st fun as r => pR r fun a r => ck (r.length ≤ 4 ∧ arr h a 9) (cll 259 (.ref a :: as) r)) Q := G_unf rfl rfl
set_option maxRecDepth 100000 in
theorem g291_1060 : G d 291 1060 ls st h Q ↔ GN d 291 1060 ls h (pII st fun x y r => br (x = y) (nx 1226 ls r h) (nx 1063 ls r h)) Q := G_unf rfl rfl
set_option maxRecDepth 100000 in
theorem g291_1063 : G d 291 1063 ls st h Q ↔ GN d 291 1063 ls h (nx 1064 ls (.int (nI 0) :: st) h) Q := G_unf rfl rfl
set_option maxRecDepth 100000 in
theorem g291_1064 : G d 291 1064 ls st h Q ↔ GN d 291 1064 ls h (pIe st fun x => ck (x = 0 ∨ x = 1) (rtn (some (.int x)))) Q := G_unf rfl rfl
set_option maxRecDepth 100000 in
theorem g291_1065 : G d 291 1065 ls st h Q ↔ GN d 291 1065 ls h (ldR ls 1 fun a => nx 1066 ls (.ref a :: st) h) Q := G_unf rfl rfl
set_option maxRecDepth 100000 in
theorem g291_1066 : G d 291 1066 ls st h Q ↔ GN d 291 1066 ls h (ldR ls 0 fun a => nx 1067 ls (.ref a :: st) h) Q := G_unf rfl rfl
set_option maxRecDepth 100000 in
theorem g291_1067 : G d 291 1067 ls st h Q ↔ GN d 291 1067 ls h (ldI ls 3 fun x => nx 1068 ls (.int x :: st) h) Q := G_unf rfl rfl
set_option maxRecDepth 100000 in
theorem g291_1068 : G d 291 1068 ls st h Q ↔ GN d 291 1068 ls h (nx 1069 ls (.int (nI 1) :: st) h) Q := G_unf rfl rfl
set_option maxRecDepth 100000 in
theorem g291_1069 : G d 291 1069 ls st h Q ↔ GN d 291 1069 ls h (pII st fun x y r => nx 1070 ls (.int (x + y) :: r) h) Q := G_unf rfl rfl
set_option maxRecDepth 100000 in
theorem g291_1070 : G d 291 1070 ls st h Q ↔ GN d 291 1070 ls h (pRI st fun a i r => br (a = 1000003) (ck (inb i (hS h).1) (nx 1071 ls (.int ((hS h).2 i.toNatClampNeg) :: r) h)) (ck (arr h a 10 ∧ inb i (hLn h a)) (nx 1071 ls (.int (hI h a i.toNatClampNeg) :: r) h))) Q := G_unf rfl rfl
set_option maxRecDepth 100000 in
theorem g291_1071 : G d 291 1071 ls st h Q ↔ GN d 291 1071 ls h (ldR ls 0 fun a => nx 1072 ls (.ref a :: st) h) Q := G_unf rfl rfl
set_option maxRecDepth 100000 in
theorem g291_1072 : G d 291 1072 ls st h Q ↔ GN d 291 1072 ls h (ldI ls 3 fun x => nx 1073 ls (.int x :: st) h) Q := G_unf rfl rfl
set_option maxRecDepth 100000 in
theorem g291_1073 : G d 291 1073 ls st h Q ↔ GN d 291 1073 ls h (nx 1074 ls (.int (nI 2) :: st) h) Q := G_unf rfl rfl
set_option maxRecDepth 100000 in
theorem g291_1074 : G d 291 1074 ls st h Q ↔ GN d 291 1074 ls h (pII st fun x y r => nx 1075 ls (.int (x + y) :: r) h) Q := G_unf rfl rfl
set_option maxRecDepth 100000 in
theorem g291_1075 : G d 291 1075 ls st h Q ↔ GN d 291 1075 ls h (pRI st fun a i r => br (a = 1000003) (ck (inb i (hS h).1) (nx 1076 ls (.int ((hS h).2 i.toNatClampNeg) :: r) h)) (ck (arr h a 10 ∧ inb i (hLn h a)) (nx 1076 ls (.int (hI h a i.toNatClampNeg) :: r) h))) Q := G_unf rfl rfl
set_option maxRecDepth 100000 in
theorem g291_1076 : G d 291 1076 ls st h Q ↔ GN d 291 1076 ls h (pA 2 st fun as r => pR r fun a r => ck (r.length ≤ 4 ∧ arr h a 8) (cll 132 (.ref a :: as) r)) Q := G_unf rfl rfl
set_option maxRecDepth 100000 in
theorem g291_1079 : G d 291 1079 ls st h Q ↔ GN d 291 1079 ls h (ldR ls 2 fun a => nx 1080 ls (.ref a :: st) h) Q := G_unf rfl rfl
set_option maxRecDepth 100000 in
theorem g291_1080 : G d 291 1080 ls st h Q ↔ GN d 291 1080 ls h (ldR ls 0 fun a => nx 1081 ls (.ref a :: st) h) Q := G_unf rfl rfl
set_option maxRecDepth 100000 in
theorem g291_1081 : G d 291 1081 ls st h Q ↔ GN d 291 1081 ls h (ldI ls 3 fun x => nx 1082 ls (.int x :: st) h) Q := G_unf rfl rfl
set_option maxRecDepth 100000 in
theorem g291_1082 : G d 291 1082 ls st h Q ↔ GN d 291 1082 ls h (nx 1083 ls (.int (nI 1) :: st) h) Q := G_unf rfl rfl
set_option maxRecDepth 100000 in
theorem g291_1083 : G d 291 1083 ls st h Q ↔ GN d 291 1083 ls h (pII st fun x y r => nx 1084 ls (.int (x + y) :: r) h) Q := G_unf rfl rfl
set_option maxRecDepth 100000 in
theorem g291_1084 : G d 291 1084 ls st h Q ↔ GN d 291 1084 ls h (pRI st fun a i r => br (a = 1000003) (ck (inb i (hS h).1) (nx 1085 ls (.int ((hS h).2 i.toNatClampNeg) :: r) h)) (ck (arr h a 10 ∧ inb i (hLn h a)) (nx 1085 ls (.int (hI h a i.toNatClampNeg) :: r) h))) Q := G_unf rfl rfl
set_option maxRecDepth 100000 in
theorem g291_1085 : G d 291 1085 ls st h Q ↔ GN d 291 1085 ls h (ldR ls 0 fun a => nx 1086 ls (.ref a :: st) h) Q := G_unf rfl rfl
set_option maxRecDepth 100000 in
theorem g291_1086 : G d 291 1086 ls st h Q ↔ GN d 291 1086 ls h (ldI ls 3 fun x => nx 1087 ls (.int x :: st) h) Q := G_unf rfl rfl
set_option maxRecDepth 100000 in
theorem g291_1087 : G d 291 1087 ls st h Q ↔ GN d 291 1087 ls h (nx 1088 ls (.int (nI 2) :: st) h) Q := G_unf rfl rfl
set_option maxRecDepth 100000 in
theorem g291_1088 : G d 291 1088 ls st h Q ↔ GN d 291 1088 ls h (pII st fun x y r => nx 1089 ls (.int (x + y) :: r) h) Q := G_unf rfl rfl
set_option maxRecDepth 100000 in
theorem g291_1089 : G d 291 1089 ls st h Q ↔ GN d 291 1089 ls h (pRI st fun a i r => br (a = 1000003) (ck (inb i (hS h).1) (nx 1090 ls (.int ((hS h).2 i.toNatClampNeg) :: r) h)) (ck (arr h a 10 ∧ inb i (hLn h a)) (nx 1090 ls (.int (hI h a i.toNatClampNeg) :: r) h))) Q := G_unf rfl rfl
set_option maxRecDepth 100000 in
theorem g291_1090 : G d 291 1090 ls st h Q ↔ GN d 291 1090 ls h (pA 2 st fun as r => pR r fun a r => ck (r.length ≤ 4 ∧ arr h a 9) (cll 262 (.ref a :: as) r)) Q := G_unf rfl rfl
set_option maxRecDepth 100000 in
theorem g291_1093 : G d 291 1093 ls st h Q ↔ GN d 291 1093 ls h (pII st fun x y r => br (x = y) (nx 1226 ls r h) (nx 1096 ls r h)) Q := G_unf rfl rfl
set_option maxRecDepth 100000 in
theorem g291_1096 : G d 291 1096 ls st h Q ↔ GN d 291 1096 ls h (nx 1097 ls (.int (nI 0) :: st) h) Q := G_unf rfl rfl
set_option maxRecDepth 100000 in
theorem g291_1097 : G d 291 1097 ls st h Q ↔ GN d 291 1097 ls h (pIe st fun x => ck (x = 0 ∨ x = 1) (rtn (some (.int x)))) Q := G_unf rfl rfl
set_option maxRecDepth 100000 in
theorem g291_1098 : G d 291 1098 ls st h Q ↔ GN d 291 1098 ls h (ldR ls 1 fun a => nx 1099 ls (.ref a :: st) h) Q := G_unf rfl rfl
set_option maxRecDepth 100000 in
theorem g291_1099 : G d 291 1099 ls st h Q ↔ GN d 291 1099 ls h (ldR ls 0 fun a => nx 1100 ls (.ref a :: st) h) Q := G_unf rfl rfl
set_option maxRecDepth 100000 in
theorem g291_1100 : G d 291 1100 ls st h Q ↔ GN d 291 1100 ls h (ldI ls 3 fun x => nx 1101 ls (.int x :: st) h) Q := G_unf rfl rfl
set_option maxRecDepth 100000 in
theorem g291_1101 : G d 291 1101 ls st h Q ↔ GN d 291 1101 ls h (nx 1102 ls (.int (nI 1) :: st) h) Q := G_unf rfl rfl
set_option maxRecDepth 100000 in
theorem g291_1102 : G d 291 1102 ls st h Q ↔ GN d 291 1102 ls h (pII st fun x y r => nx 1103 ls (.int (x + y) :: r) h) Q := G_unf rfl rfl
set_option maxRecDepth 100000 in
theorem g291_1103 : G d 291 1103 ls st h Q ↔ GN d 291 1103 ls h (pRI st fun a i r => br (a = 1000003) (ck (inb i (hS h).1) (nx 1104 ls (.int ((hS h).2 i.toNatClampNeg) :: r) h)) (ck (arr h a 10 ∧ inb i (hLn h a)) (nx 1104 ls (.int (hI h a i.toNatClampNeg) :: r) h))) Q := G_unf rfl rfl
set_option maxRecDepth 100000 in
theorem g291_1104 : G d 291 1104 ls st h Q ↔ GN d 291 1104 ls h (ldR ls 0 fun a => nx 1105 ls (.ref a :: st) h) Q := G_unf rfl rfl
set_option maxRecDepth 100000 in
theorem g291_1105 : G d 291 1105 ls st h Q ↔ GN d 291 1105 ls h (ldI ls 3 fun x => nx 1106 ls (.int x :: st) h) Q := G_unf rfl rfl
set_option maxRecDepth 100000 in
theorem g291_1106 : G d 291 1106 ls st h Q ↔ GN d 291 1106 ls h (nx 1107 ls (.int (nI 2) :: st) h) Q := G_unf rfl rfl
set_option maxRecDepth 100000 in
theorem g291_1107 : G d 291 1107 ls st h Q ↔ GN d 291 1107 ls h (pII st fun x y r => nx 1108 ls (.int (x + y) :: r) h) Q := G_unf rfl rfl
set_option maxRecDepth 100000 in
theorem g291_1108 : G d 291 1108 ls st h Q ↔ GN d 291 1108 ls h (pRI st fun a i r => br (a = 1000003) (ck (inb i (hS h).1) (nx 1109 ls (.int ((hS h).2 i.toNatClampNeg) :: r) h)) (ck (arr h a 10 ∧ inb i (hLn h a)) (nx 1109 ls (.int (hI h a i.toNatClampNeg) :: r) h))) Q := G_unf rfl rfl
set_option maxRecDepth 100000 in
theorem g291_1109 : G d 291 1109 ls st h Q ↔ GN d 291 1109 ls h (pA 2 st fun as r => pR r fun a r => ck (r.length ≤ 4 ∧ arr h a 8) (cll 133 (.ref a :: as) r)) Q := G_unf rfl rfl
set_option maxRecDepth 100000 in
theorem g291_1112 : G d 291 1112 ls st h Q ↔ GN d 291 1112 ls h (ldR ls 2 fun a => nx 1113 ls (.ref a :: st) h) Q := G_unf rfl rfl
set_option maxRecDepth 100000 in
theorem g291_1113 : G d 291 1113 ls st h Q ↔ GN d 291 1113 ls h (ldR ls 0 fun a => nx 1114 ls (.ref a :: st) h) Q := G_unf rfl rfl
set_option maxRecDepth 100000 in
theorem g291_1114 : G d 291 1114 ls st h Q ↔ GN d 291 1114 ls h (ldI ls 3 fun x => nx 1115 ls (.int x :: st) h) Q := G_unf rfl rfl
set_option maxRecDepth 100000 in
theorem g291_1115 : G d 291 1115 ls st h Q ↔ GN d 291 1115 ls h (nx 1116 ls (.int (nI 1) :: st) h) Q := G_unf rfl rfl
set_option maxRecDepth 100000 in
theorem g291_1116 : G d 291 1116 ls st h Q ↔ GN d 291 1116 ls h (pII st fun x y r => nx 1117 ls (.int (x + y) :: r) h) Q := G_unf rfl rfl
set_option maxRecDepth 100000 in
theorem g291_1117 : G d 291 1117 ls st h Q ↔ GN d 291 1117 ls h (pRI st fun a i r => br (a = 1000003) (ck (inb i (hS h).1) (nx 1118 ls (.int ((hS h).2 i.toNatClampNeg) :: r) h)) (ck (arr h a 10 ∧ inb i (hLn h a)) (nx 1118 ls (.int (hI h a i.toNatClampNeg) :: r) h))) Q := G_unf rfl rfl
set_option maxRecDepth 100000 in
theorem g291_1118 : G d 291 1118 ls st h Q ↔ GN d 291 1118 ls h (ldR ls 0 fun a => nx 1119 ls (.ref a :: st) h) Q := G_unf rfl rfl
set_option maxRecDepth 100000 in
theorem g291_1119 : G d 291 1119 ls st h Q ↔ GN d 291 1119 ls h (ldI ls 3 fun x => nx 1120 ls (.int x :: st) h) Q := G_unf rfl rfl
set_option maxRecDepth 100000 in
theorem g291_1120 : G d 291 1120 ls st h Q ↔ GN d 291 1120 ls h (nx 1121 ls (.int (nI 2) :: st) h) Q := G_unf rfl rfl
set_option maxRecDepth 100000 in
theorem g291_1121 : G d 291 1121 ls st h Q ↔ GN d 291 1121 ls h (pII st fun x y r => nx 1122 ls (.int (x + y) :: r) h) Q := G_unf rfl rfl
set_option maxRecDepth 100000 in
theorem g291_1122 : G d 291 1122 ls st h Q ↔ GN d 291 1122 ls h (pRI st fun a i r => br (a = 1000003) (ck (inb i (hS h).1) (nx 1123 ls (.int ((hS h).2 i.toNatClampNeg) :: r) h)) (ck (arr h a 10 ∧ inb i (hLn h a)) (nx 1123 ls (.int (hI h a i.toNatClampNeg) :: r) h))) Q := G_unf rfl rfl
set_option maxRecDepth 100000 in
theorem g291_1123 : G d 291 1123 ls st h Q ↔ GN d 291 1123 ls h (pA 2 st fun as r => pR r fun a r => ck (r.length ≤ 4 ∧ arr h a 9) (cll 263 (.ref a :: as) r)) Q := G_unf rfl rfl
set_option maxRecDepth 100000 in
theorem g291_1126 : G d 291 1126 ls st h Q ↔ GN d 291 1126 ls h (pII st fun x y r => br (x = y) (nx 1226 ls r h) (nx 1129 ls r h)) Q := G_unf rfl rfl
set_option maxRecDepth 100000 in
theorem g291_1129 : G d 291 1129 ls st h Q ↔ GN d 291 1129 ls h (nx 1130 ls (.int (nI 0) :: st) h) Q := G_unf rfl rfl
set_option maxRecDepth 100000 in
theorem g291_1130 : G d 291 1130 ls st h Q ↔ GN d 291 1130 ls h (pIe st fun x => ck (x = 0 ∨ x = 1) (rtn (some (.int x)))) Q := G_unf rfl rfl
set_option maxRecDepth 100000 in
theorem g291_1131 : G d 291 1131 ls st h Q ↔ GN d 291 1131 ls h (ldR ls 1 fun a => nx 1132 ls (.ref a :: st) h) Q := G_unf rfl rfl
set_option maxRecDepth 100000 in
theorem g291_1132 : G d 291 1132 ls st h Q ↔ GN d 291 1132 ls h (ldR ls 0 fun a => nx 1133 ls (.ref a :: st) h) Q := G_unf rfl rfl
set_option maxRecDepth 100000 in
theorem g291_1133 : G d 291 1133 ls st h Q ↔ GN d 291 1133 ls h (ldI ls 3 fun x => nx 1134 ls (.int x :: st) h) Q := G_unf rfl rfl
set_option maxRecDepth 100000 in
theorem g291_1134 : G d 291 1134 ls st h Q ↔ GN d 291 1134 ls h (nx 1135 ls (.int (nI 1) :: st) h) Q := G_unf rfl rfl
set_option maxRecDepth 100000 in
theorem g291_1135 : G d 291 1135 ls st h Q ↔ GN d 291 1135 ls h (pII st fun x y r => nx 1136 ls (.int (x + y) :: r) h) Q := G_unf rfl rfl
set_option maxRecDepth 100000 in
theorem g291_1136 : G d 291 1136 ls st h Q ↔ GN d 291 1136 ls h (pRI st fun a i r => br (a = 1000003) (ck (inb i (hS h).1) (nx 1137 ls (.int ((hS h).2 i.toNatClampNeg) :: r) h)) (ck (arr h a 10 ∧ inb i (hLn h a)) (nx 1137 ls (.int (hI h a i.toNatClampNeg) :: r) h))) Q := G_unf rfl rfl
set_option maxRecDepth 100000 in
theorem g291_1137 : G d 291 1137 ls st h Q ↔ GN d 291 1137 ls h (pA 1 st fun as r => pR r fun a r => ck (r.length ≤ 4 ∧ arr h a 8) (cll 134 (.ref a :: as) r)) Q := G_unf rfl rfl
set_option maxRecDepth 100000 in
theorem g291_1140 : G d 291 1140 ls st h Q ↔ GN d 291 1140 ls h (ldR ls 2 fun a => nx 1141 ls (.ref a :: st) h) Q := G_unf rfl rfl
set_option maxRecDepth 100000 in
theorem g291_1141 : G d 291 1141 ls st h Q ↔ GN d 291 1141 ls h (ldR ls 0 fun a => nx 1142 ls (.ref a :: st) h) Q := G_unf rfl rfl
set_option maxRecDepth 100000 in
theorem g291_1142 : G d 291 1142 ls st h Q ↔ GN d 291 1142 ls h (ldI ls 3 fun x => nx 1143 ls (.int x :: st) h) Q := G_unf rfl rfl
set_option maxRecDepth 100000 in
theorem g291_1143 : G d 291 1143 ls st h Q ↔ GN d 291 1143 ls h (nx 1144 ls (.int (nI 1) :: st) h) Q := G_unf rfl rfl
set_option maxRecDepth 100000 in
theorem g291_1144 : G d 291 1144 ls st h Q ↔ GN d 291 1144 ls h (pII st fun x y r => nx 1145 ls (.int (x + y) :: r) h) Q := G_unf rfl rfl
set_option maxRecDepth 100000 in
theorem g291_1145 : G d 291 1145 ls st h Q ↔ GN d 291 1145 ls h (pRI st fun a i r => br (a = 1000003) (ck (inb i (hS h).1) (nx 1146 ls (.int ((hS h).2 i.toNatClampNeg) :: r) h)) (ck (arr h a 10 ∧ inb i (hLn h a)) (nx 1146 ls (.int (hI h a i.toNatClampNeg) :: r) h))) Q := G_unf rfl rfl
set_option maxRecDepth 100000 in
theorem g291_1146 : G d 291 1146 ls st h Q ↔ GN d 291 1146 ls h (pA 1 st fun as r => pR r fun a r => ck (r.length ≤ 4 ∧ arr h a 9) (cll 265 (.ref a :: as) r)) Q := G_unf rfl rfl
set_option maxRecDepth 100000 in
theorem g291_1149 : G d 291 1149 ls st h Q ↔ GN d 291 1149 ls h (pII st fun x y r => br (x = y) (nx 1226 ls r h) (nx 1152 ls r h)) Q := G_unf rfl rfl
set_option maxRecDepth 100000 in
theorem g291_1152 : G d 291 1152 ls st h Q ↔ GN d 291 1152 ls h (nx 1153 ls (.int (nI 0) :: st) h) Q := G_unf rfl rfl
set_option maxRecDepth 100000 in
theorem g291_1153 : G d 291 1153 ls st h Q ↔ GN d 291 1153 ls h (pIe st fun x => ck (x = 0 ∨ x = 1) (rtn (some (.int x)))) Q := G_unf rfl rfl
set_option maxRecDepth 100000 in
theorem g291_1154 : G d 291 1154 ls st h Q ↔ GN d 291 1154 ls h (ldR ls 1 fun a => nx 1155 ls (.ref a :: st) h) Q := G_unf rfl rfl
set_option maxRecDepth 100000 in
theorem g291_1155 : G d 291 1155 ls st h Q ↔ GN d 291 1155 ls h (pA 0 st fun as r => pR r fun a r => ck (r.length ≤ 4 ∧ arr h a 8) (cll 135 (.ref a :: as) r)) Q := G_unf rfl rfl
set_option maxRecDepth 100000 in
theorem g291_1158 : G d 291 1158 ls st h Q ↔ GN d 291 1158 ls h (ldR ls 2 fun a => nx 1159 ls (.ref a :: st) h) Q := G_unf rfl rfl
set_option maxRecDepth 100000 in
theorem g291_1159 : G d 291 1159 ls st h Q ↔ GN d 291 1159 ls h (pA 0 st fun as r => pR r fun a r => ck (r.length ≤ 4 ∧ arr h a 9) (cll 268 (.ref a :: as) r)) Q := G_unf rfl rfl
set_option maxRecDepth 100000 in
theorem g291_1162 : G d 291 1162 ls st h Q ↔ GN d 291 1162 ls h (pII st fun x y r => br (x = y) (nx 1226 ls r h) (nx 1165 ls r h)) Q := G_unf rfl rfl
set_option maxRecDepth 100000 in
theorem g291_1165 : G d 291 1165 ls st h Q ↔ GN d 291 1165 ls h (nx 1166 ls (.int (nI 0) :: st) h) Q := G_unf rfl rfl
set_option maxRecDepth 100000 in
theorem g291_1166 : G d 291 1166 ls st h Q ↔ GN d 291 1166 ls h (pIe st fun x => ck (x = 0 ∨ x = 1) (rtn (some (.int x)))) Q := G_unf rfl rfl
set_option maxRecDepth 100000 in
theorem g291_1167 : G d 291 1167 ls st h Q ↔ GN d 291 1167 ls h (ldR ls 1 fun a => nx 1168 ls (.ref a :: st) h) Q := G_unf rfl rfl
set_option maxRecDepth 100000 in
theorem g291_1168 : G d 291 1168 ls st h Q ↔ GN d 291 1168 ls h (ldR ls 0 fun a => nx 1169 ls (.ref a :: st) h) Q := G_unf rfl rfl
set_option maxRecDepth 100000 in
theorem g291_1169 : G d 291 1169 ls st h Q ↔ GN d 291 1169 ls h (ldI ls 3 fun x => nx 1170 ls (.int x :: st) h) Q := G_unf rfl rfl
set_option maxRecDepth 100000 in
theorem g291_1170 : G d 291 1170 ls st h Q ↔ GN d 291 1170 ls h (nx 1171 ls (.int (nI 1) :: st) h) Q := G_unf rfl rfl
set_option maxRecDepth 100000 in
theorem g291_1171 : G d 291 1171 ls st h Q ↔ GN d 291 1171 ls h (pII st fun x y r => nx 1172 ls (.int (x + y) :: r) h) Q := G_unf rfl rfl
set_option maxRecDepth 100000 in
theorem g291_1172 : G d 291 1172 ls st h Q ↔ GN d 291 1172 ls h (pRI st fun a i r => br (a = 1000003) (ck (inb i (hS h).1) (nx 1173 ls (.int ((hS h).2 i.toNatClampNeg) :: r) h)) (ck (arr h a 10 ∧ inb i (hLn h a)) (nx 1173 ls (.int (hI h a i.toNatClampNeg) :: r) h))) Q := G_unf rfl rfl
set_option maxRecDepth 100000 in
theorem g291_1173 : G d 291 1173 ls st h Q ↔ GN d 291 1173 ls h (pA 1 st fun as r => pR r fun a r => ck (r.length ≤ 4 ∧ arr h a 8) (cll 136 (.ref a :: as) r)) Q := G_unf rfl rfl
set_option maxRecDepth 100000 in
theorem g291_1176 : G d 291 1176 ls st h Q ↔ GN d 291 1176 ls h (ldR ls 2 fun a => nx 1177 ls (.ref a :: st) h) Q := G_unf rfl rfl
set_option maxRecDepth 100000 in
theorem g291_1177 : G d 291 1177 ls st h Q ↔ GN d 291 1177 ls h (ldR ls 0 fun a => nx 1178 ls (.ref a :: st) h) Q := G_unf rfl rfl
set_option maxRecDepth 100000 in
theorem g291_1178 : G d 291 1178 ls st h Q ↔ GN d 291 1178 ls h (ldI ls 3 fun x => nx 1179 ls (.int x :: st) h) Q := G_unf rfl rfl
set_option maxRecDepth 100000 in
theorem g291_1179 : G d 291 1179 ls st h Q ↔ GN d 291 1179 ls h (nx 1180 ls (.int (nI 1) :: st) h) Q := G_unf rfl rfl
set_option maxRecDepth 100000 in
theorem g291_1180 : G d 291 1180 ls st h Q ↔ GN d 291 1180 ls h (pII st fun x y r => nx 1181 ls (.int (x + y) :: r) h) Q := G_unf rfl rfl
set_option maxRecDepth 100000 in
theorem g291_1181 : G d 291 1181 ls st h Q ↔ GN d 291 1181 ls h (pRI st fun a i r => br (a = 1000003) (ck (inb i (hS h).1) (nx 1182 ls (.int ((hS h).2 i.toNatClampNeg) :: r) h)) (ck (arr h a 10 ∧ inb i (hLn h a)) (nx 1182 ls (.int (hI h a i.toNatClampNeg) :: r) h))) Q := G_unf rfl rfl
set_option maxRecDepth 100000 in
theorem g291_1182 : G d 291 1182 ls st h Q ↔ GN d 291 1182 ls h (pA 1 st fun as r => pR r fun a r => ck (r.length ≤ 4 ∧ arr h a 9) (cll 269 (.ref a :: as) r)) Q := G_unf rfl rfl
set_option maxRecDepth 100000 in
theorem g291_1185 : G d 291 1185 ls st h Q ↔ GN d 291 1185 ls h (pII st fun x y r => br (x = y) (nx 1226 ls r h) (nx 1188 ls r h)) Q := G_unf rfl rfl
set_option maxRecDepth 100000 in
theorem g291_1188 : G d 291 1188 ls st h Q ↔ GN d 291 1188 ls h (nx 1189 ls (.int (nI 0) :: st) h) Q := G_unf rfl rfl
set_option maxRecDepth 100000 in
theorem g291_1189 : G d 291 1189 ls st h Q ↔ GN d 291 1189 ls h (pIe st fun x => ck (x = 0 ∨ x = 1) (rtn (some (.int x)))) Q := G_unf rfl rfl
set_option maxRecDepth 100000 in
theorem g291_1190 : G d 291 1190 ls st h Q ↔ GN d 291 1190 ls h (ldR ls 1 fun a => nx 1191 ls (.ref a :: st) h) Q := G_unf rfl rfl
set_option maxRecDepth 100000 in
theorem g291_1191 : G d 291 1191 ls st h Q ↔ GN d 291 1191 ls h (pA 0 st fun as r => pR r fun a r => ck (r.length ≤ 4 ∧ arr h a 8) (cll 137 (.ref a :: as) r)) Q := G_unf rfl rfl
set_option maxRecDepth 100000 in
theorem g291_1194 : G d 291 1194 ls st h Q ↔ GN d 291 1194 ls h (ldR ls 2 fun a => nx 1195 ls (.ref a :: st) h) Q := G_unf rfl rfl
set_option maxRecDepth 100000 in
theorem g291_1195 : G d 291 1195 ls st h Q ↔ GN d 291 1195 ls h (pA 0 st fun as r => pR r fun a r => ck (r.length ≤ 4 ∧ arr h a 9) (cll 272 (.ref a :: as) r)) Q := G_unf rfl rfl
set_option maxRecDepth 100000 in
theorem g291_1198 : G d 291 1198 ls st h Q ↔ GN d 291 1198 ls h (pII st fun x y r => br (x = y) (nx 1226 ls r h) (nx 1201 ls r h)) Q := G_unf rfl rfl
set_option maxRecDepth 100000 in
theorem g291_1201 : G d 291 1201 ls st h Q ↔ GN d 291 1201 ls h (nx 1202 ls (.int (nI 0) :: st) h) Q := G_unf rfl rfl
set_option maxRecDepth 100000 in
theorem g291_1202 : G d 291 1202 ls st h Q ↔ GN d 291 1202 ls h (pIe st fun x => ck (x = 0 ∨ x = 1) (rtn (some (.int x)))) Q := G_unf rfl rfl
set_option maxRecDepth 100000 in
theorem g291_1203 : G d 291 1203 ls st h Q ↔ GN d 291 1203 ls h (ldR ls 1 fun a => nx 1204 ls (.ref a :: st) h) Q := G_unf rfl rfl
set_option maxRecDepth 100000 in
theorem g291_1204 : G d 291 1204 ls st h Q ↔ GN d 291 1204 ls h (ldR ls 0 fun a => nx 1205 ls (.ref a :: st) h) Q := G_unf rfl rfl
set_option maxRecDepth 100000 in
theorem g291_1205 : G d 291 1205 ls st h Q ↔ GN d 291 1205 ls h (ldI ls 3 fun x => nx 1206 ls (.int x :: st) h) Q := G_unf rfl rfl
set_option maxRecDepth 100000 in
theorem g291_1206 : G d 291 1206 ls st h Q ↔ GN d 291 1206 ls h (nx 1207 ls (.int (nI 1) :: st) h) Q := G_unf rfl rfl
set_option maxRecDepth 100000 in
theorem g291_1207 : G d 291 1207 ls st h Q ↔ GN d 291 1207 ls h (pII st fun x y r => nx 1208 ls (.int (x + y) :: r) h) Q := G_unf rfl rfl
set_option maxRecDepth 100000 in
theorem g291_1208 : G d 291 1208 ls st h Q ↔ GN d 291 1208 ls h (pRI st fun a i r => br (a = 1000003) (ck (inb i (hS h).1) (nx 1209 ls (.int ((hS h).2 i.toNatClampNeg) :: r) h)) (ck (arr h a 10 ∧ inb i (hLn h a)) (nx 1209 ls (.int (hI h a i.toNatClampNeg) :: r) h))) Q := G_unf rfl rfl
set_option maxRecDepth 100000 in
theorem g291_1209 : G d 291 1209 ls st h Q ↔ GN d 291 1209 ls h (pA 1 st fun as r => pR r fun a r => ck (r.length ≤ 4 ∧ arr h a 8) (cll 138 (.ref a :: as) r)) Q := G_unf rfl rfl
set_option maxRecDepth 100000 in
theorem g291_1212 : G d 291 1212 ls st h Q ↔ GN d 291 1212 ls h (ldR ls 2 fun a => nx 1213 ls (.ref a :: st) h) Q := G_unf rfl rfl
set_option maxRecDepth 100000 in
theorem g291_1213 : G d 291 1213 ls st h Q ↔ GN d 291 1213 ls h (ldR ls 0 fun a => nx 1214 ls (.ref a :: st) h) Q := G_unf rfl rfl
set_option maxRecDepth 100000 in
theorem g291_1214 : G d 291 1214 ls st h Q ↔ GN d 291 1214 ls h (ldI ls 3 fun x => nx 1215 ls (.int x :: st) h) Q := G_unf rfl rfl
set_option maxRecDepth 100000 in
theorem g291_1215 : G d 291 1215 ls st h Q ↔ GN d 291 1215 ls h (nx 1216 ls (.int (nI 1) :: st) h) Q := G_unf rfl rfl
set_option maxRecDepth 100000 in
theorem g291_1216 : G d 291 1216 ls st h Q ↔ GN d 291 1216 ls h (pII st fun x y r => nx 1217 ls (.int (x + y) :: r) h) Q := G_unf rfl rfl
set_option maxRecDepth 100000 in
theorem g291_1217 : G d 291 1217 ls st h Q ↔ GN d 291 1217 ls h (pRI st fun a i r => br (a = 1000003) (ck (inb i (hS h).1) (nx 1218 ls (.int ((hS h).2 i.toNatClampNeg) :: r) h)) (ck (arr h a 10 ∧ inb i (hLn h a)) (nx 1218 ls (.int (hI h a i.toNatClampNeg) :: r) h))) Q := G_unf rfl rfl
set_option maxRecDepth 100000 in
theorem g291_1218 : G d 291 1218 ls st h Q ↔ GN d 291 1218 ls h (pA 1 st fun as r => pR r fun a r => ck (r.length ≤ 4 ∧ arr h a 9) (cll 201 (.ref a :: as) r)) Q := G_unf rfl rfl
set_option maxRecDepth 100000 in
theorem g291_1221 : G d 291 1221 ls st h Q ↔ GN d 291 1221 ls h (pII st fun x y r => br (x = y) (nx 1226 ls r h) (nx 1224 ls r h)) Q := G_unf rfl rfl
set_option maxRecDepth 100000 in
theorem g291_1224 : G d 291 1224 ls st h Q ↔ GN d 291 1224 ls h (nx 1225 ls (.int (nI 0) :: st) h) Q := G_unf rfl rfl
set_option maxRecDepth 100000 in
theorem g291_1225 : G d 291 1225 ls st h Q ↔ GN d 291 1225 ls h (pIe st fun x => ck (x = 0 ∨ x = 1) (rtn (some (.int x)))) Q := G_unf rfl rfl
set_option maxRecDepth 100000 in
theorem g291_1226 : G d 291 1226 ls st h Q ↔ GN d 291 1226 ls h (ldI ls 3 fun x => nx 1229 (st1 ls 3 (.int (x + (nI 6)))) st h) Q := G_unf rfl rfl
set_option maxRecDepth 100000 in
theorem g291_1229 : G d 291 1229 ls st h Q ↔ GN d 291 1229 ls h (nx 18 ls st h) Q := G_unf rfl rfl
set_option maxRecDepth 100000 in
theorem g291_1232 : G d 291 1232 ls st h Q ↔ GN d 291 1232 ls h (nx 1233 ls (.int (nI 1) :: st) h) Q := G_unf rfl rfl
set_option maxRecDepth 100000 in
theorem g291_1233 : G d 291 1233 ls st h Q ↔ GN d 291 1233 ls h (pIe st fun x => ck (x = 0 ∨ x = 1) (rtn (some (.int x)))) Q := G_unf rfl rfl
end GI
